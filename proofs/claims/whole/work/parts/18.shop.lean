def wSh (σ : AH) (x : Nat) (pss : Nat → Nat → Int64) (pps : Nat → Nat → Int64) (phv : Nat → Nat → Int64) (poo : Nat → Nat → Int64) (pcu : Nat → Int64) (pmm : Nat → Int32) (psk : Nat → Int32) (ppk : Nat → Int32) (pkw : Nat → Int64) (psc : Nat → Int32) (ppn : Nat → Int32) (asm : Nat → Int64) (sur : Int64) (bud : Int32) (wan : Int32) (tri : Int32) (fou : Int32) (en : Int32) (eh : Int32) (cho : Nat → Int64) (at' : Nat → Int32) (pa : Nat → Int32) (mo : Nat → Int32) (le : Nat → Int32) (hd : Nat → Int32) (nt : Nat → Int32) (ct : Int32) (sts6 : Nat → Int64) (blo : Nat → Nat → Int32) (bhi : Nat → Nat → Int32) (bem : Nat → Int32) (glo : Nat → Int32) (ghi : Nat → Int32) (gem : Int32) (rlo : Nat → Int32) (rhi : Nat → Int32) (rem : Int32) (rom : Nat → Int32) (fnd : Nat → Int32) (fc : Int32) (prt : Int32) (lim : Int32) (su : Int64) (op : Int64) : AH := wL σ x ([.inr (5, [.ref (x + 1), .ref (x + 1 + 31), .ref (x + 1 + 32), .ref (x + 35), .long su, .long op])] ++ (cSe (x + 1) pss pps phv poo pcu pmm psk ppk pkw psc ppn asm sur bud wan tri fou en eh cho ++ cUn (x + 35) at' pa mo le hd nt ct sts6 blo bhi bem glo ghi gem rlo rhi rem rom fnd fc prt lim))
theorem sh_se_s {σ : AH} {x : Nat} {pss : Nat → Nat → Int64} {pps : Nat → Nat → Int64} {phv : Nat → Nat → Int64} {poo : Nat → Nat → Int64} {pcu : Nat → Int64} {pmm : Nat → Int32} {psk : Nat → Int32} {ppk : Nat → Int32} {pkw : Nat → Int64} {psc : Nat → Int32} {ppn : Nat → Int32} {asm : Nat → Int64} {sur : Int64} {bud : Int32} {wan : Int32} {tri : Int32} {fou : Int32} {en : Int32} {eh : Int32} {cho : Nat → Int64} {at' : Nat → Int32} {pa : Nat → Int32} {mo : Nat → Int32} {le : Nat → Int32} {hd : Nat → Int32} {nt : Nat → Int32} {ct : Int32} {sts6 : Nat → Int64} {blo : Nat → Nat → Int32} {bhi : Nat → Nat → Int32} {bem : Nat → Int32} {glo : Nat → Int32} {ghi : Nat → Int32} {gem : Int32} {rlo : Nat → Int32} {rhi : Nat → Int32} {rem : Int32} {rom : Nat → Int32} {fnd : Nat → Int32} {fc : Int32} {prt : Int32} {lim : Int32} {su : Int64} {op : Int64} : wSh σ x pss pps phv poo pcu pmm psk ppk pkw psc ppn asm sur bud wan tri fou en eh cho at' pa mo le hd nt ct sts6 blo bhi bem glo ghi gem rlo rhi rem rom fnd fc prt lim su op = wSe (wSh σ x pss pps phv poo pcu pmm psk ppk pkw psc ppn asm sur bud wan tri fou en eh cho at' pa mo le hd nt ct sts6 blo bhi bem glo ghi gem rlo rhi rem rom fnd fc prt lim su op) (x + 1) pss pps phv poo pcu pmm psk ppk pkw psc ppn asm sur bud wan tri fou en eh cho := wL_mids [.inr (5, [.ref (x + 1), .ref (x + 1 + 31), .ref (x + 1 + 32), .ref (x + 35), .long su, .long op])] (cSe (x + 1) pss pps phv poo pcu pmm psk ppk pkw psc ppn asm sur bud wan tri fou en eh cho) (cUn (x + 35) at' pa mo le hd nt ct sts6 blo bhi bem glo ghi gem rlo rhi rem rom fnd fc prt lim) 1 rfl
theorem sh_se_r {σ : AH} {x : Nat} {pss : Nat → Nat → Int64} {pps : Nat → Nat → Int64} {phv : Nat → Nat → Int64} {poo : Nat → Nat → Int64} {pcu : Nat → Int64} {pmm : Nat → Int32} {psk : Nat → Int32} {ppk : Nat → Int32} {pkw : Nat → Int64} {psc : Nat → Int32} {ppn : Nat → Int32} {asm : Nat → Int64} {sur : Int64} {bud : Int32} {wan : Int32} {tri : Int32} {fou : Int32} {en : Int32} {eh : Int32} {cho : Nat → Int64} {at' : Nat → Int32} {pa : Nat → Int32} {mo : Nat → Int32} {le : Nat → Int32} {hd : Nat → Int32} {nt : Nat → Int32} {ct : Int32} {sts6 : Nat → Int64} {blo : Nat → Nat → Int32} {bhi : Nat → Nat → Int32} {bem : Nat → Int32} {glo : Nat → Int32} {ghi : Nat → Int32} {gem : Int32} {rlo : Nat → Int32} {rhi : Nat → Int32} {rem : Int32} {rom : Nat → Int32} {fnd : Nat → Int32} {fc : Int32} {prt : Int32} {lim : Int32} {su : Int64} {op : Int64} {pss2 : Nat → Nat → Int64} {pps2 : Nat → Nat → Int64} {phv2 : Nat → Nat → Int64} {poo2 : Nat → Nat → Int64} {pcu2 : Nat → Int64} {pmm2 : Nat → Int32} {psk2 : Nat → Int32} {ppk2 : Nat → Int32} {pkw2 : Nat → Int64} {psc2 : Nat → Int32} {ppn2 : Nat → Int32} {asm2 : Nat → Int64} {sur2 : Int64} {bud2 : Int32} {wan2 : Int32} {tri2 : Int32} {fou2 : Int32} {en2 : Int32} {eh2 : Int32} {cho2 : Nat → Int64} : wSe (wSh σ x pss pps phv poo pcu pmm psk ppk pkw psc ppn asm sur bud wan tri fou en eh cho at' pa mo le hd nt ct sts6 blo bhi bem glo ghi gem rlo rhi rem rom fnd fc prt lim su op) (x + 1) pss2 pps2 phv2 poo2 pcu2 pmm2 psk2 ppk2 pkw2 psc2 ppn2 asm2 sur2 bud2 wan2 tri2 fou2 en2 eh2 cho2 = wSh σ x pss2 pps2 phv2 poo2 pcu2 pmm2 psk2 ppk2 pkw2 psc2 ppn2 asm2 sur2 bud2 wan2 tri2 fou2 en2 eh2 cho2 at' pa mo le hd nt ct sts6 blo bhi bem glo ghi gem rlo rhi rem rom fnd fc prt lim su op := wL_mid [.inr (5, [.ref (x + 1), .ref (x + 1 + 31), .ref (x + 1 + 32), .ref (x + 35), .long su, .long op])] (cSe (x + 1) pss pps phv poo pcu pmm psk ppk pkw psc ppn asm sur bud wan tri fou en eh cho) (cUn (x + 35) at' pa mo le hd nt ct sts6 blo bhi bem glo ghi gem rlo rhi rem rom fnd fc prt lim) (cSe (x + 1) pss2 pps2 phv2 poo2 pcu2 pmm2 psk2 ppk2 pkw2 psc2 ppn2 asm2 sur2 bud2 wan2 tri2 fou2 en2 eh2 cho2) 1 rfl rfl
theorem wL_end {σ : AH} {a : Nat} (pr B B' : List CE) (k : Nat) (hl : B.length = B'.length) (hk : pr.length = k) : wL (wL σ a (pr ++ B)) (a + k) B' = wL σ a (pr ++ B') := by
  have h := wL_mid (σ := σ) (a := a) pr B [] B' k hl hk
  rw [List.append_nil, List.append_nil] at h
  exact h
theorem sh_un_r {σ : AH} {x : Nat} {pss : Nat → Nat → Int64} {pps : Nat → Nat → Int64} {phv : Nat → Nat → Int64} {poo : Nat → Nat → Int64} {pcu : Nat → Int64} {pmm : Nat → Int32} {psk : Nat → Int32} {ppk : Nat → Int32} {pkw : Nat → Int64} {psc : Nat → Int32} {ppn : Nat → Int32} {asm : Nat → Int64} {sur : Int64} {bud : Int32} {wan : Int32} {tri : Int32} {fou : Int32} {en : Int32} {eh : Int32} {cho : Nat → Int64} {at' : Nat → Int32} {pa : Nat → Int32} {mo : Nat → Int32} {le : Nat → Int32} {hd : Nat → Int32} {nt : Nat → Int32} {ct : Int32} {sts6 : Nat → Int64} {blo : Nat → Nat → Int32} {bhi : Nat → Nat → Int32} {bem : Nat → Int32} {glo : Nat → Int32} {ghi : Nat → Int32} {gem : Int32} {rlo : Nat → Int32} {rhi : Nat → Int32} {rem : Int32} {rom : Nat → Int32} {fnd : Nat → Int32} {fc : Int32} {prt : Int32} {lim : Int32} {su : Int64} {op : Int64} {at2 : Nat → Int32} {pa2 : Nat → Int32} {mo2 : Nat → Int32} {le2 : Nat → Int32} {hd2 : Nat → Int32} {nt2 : Nat → Int32} {ct2 : Int32} {sts62 : Nat → Int64} {blo2 : Nat → Nat → Int32} {bhi2 : Nat → Nat → Int32} {bem2 : Nat → Int32} {glo2 : Nat → Int32} {ghi2 : Nat → Int32} {gem2 : Int32} {rlo2 : Nat → Int32} {rhi2 : Nat → Int32} {rem2 : Int32} {rom2 : Nat → Int32} {fnd2 : Nat → Int32} {fc2 : Int32} {prt2 : Int32} {lim2 : Int32} : wUn (wSh σ x pss pps phv poo pcu pmm psk ppk pkw psc ppn asm sur bud wan tri fou en eh cho at' pa mo le hd nt ct sts6 blo bhi bem glo ghi gem rlo rhi rem rom fnd fc prt lim su op) (x + 35) at2 pa2 mo2 le2 hd2 nt2 ct2 sts62 blo2 bhi2 bem2 glo2 ghi2 gem2 rlo2 rhi2 rem2 rom2 fnd2 fc2 prt2 lim2 = wSh σ x pss pps phv poo pcu pmm psk ppk pkw psc ppn asm sur bud wan tri fou en eh cho at2 pa2 mo2 le2 hd2 nt2 ct2 sts62 blo2 bhi2 bem2 glo2 ghi2 gem2 rlo2 rhi2 rem2 rom2 fnd2 fc2 prt2 lim2 su op := by
  show wL (wL σ x (([.inr (5, [.ref (x + 1), .ref (x + 1 + 31), .ref (x + 1 + 32), .ref (x + 35), .long su, .long op])] ++ (cSe (x + 1) pss pps phv poo pcu pmm psk ppk pkw psc ppn asm sur bud wan tri fou en eh cho)) ++ (cUn (x + 35) at' pa mo le hd nt ct sts6 blo bhi bem glo ghi gem rlo rhi rem rom fnd fc prt lim))) (x + 35) (cUn (x + 35) at2 pa2 mo2 le2 hd2 nt2 ct2 sts62 blo2 bhi2 bem2 glo2 ghi2 gem2 rlo2 rhi2 rem2 rom2 fnd2 fc2 prt2 lim2) = wL σ x (([.inr (5, [.ref (x + 1), .ref (x + 1 + 31), .ref (x + 1 + 32), .ref (x + 35), .long su, .long op])] ++ (cSe (x + 1) pss pps phv poo pcu pmm psk ppk pkw psc ppn asm sur bud wan tri fou en eh cho)) ++ (cUn (x + 35) at2 pa2 mo2 le2 hd2 nt2 ct2 sts62 blo2 bhi2 bem2 glo2 ghi2 gem2 rlo2 rhi2 rem2 rom2 fnd2 fc2 prt2 lim2))
  exact wL_end _ _ _ 35 rfl rfl
theorem sh_un_s {σ : AH} {x : Nat} {pss : Nat → Nat → Int64} {pps : Nat → Nat → Int64} {phv : Nat → Nat → Int64} {poo : Nat → Nat → Int64} {pcu : Nat → Int64} {pmm : Nat → Int32} {psk : Nat → Int32} {ppk : Nat → Int32} {pkw : Nat → Int64} {psc : Nat → Int32} {ppn : Nat → Int32} {asm : Nat → Int64} {sur : Int64} {bud : Int32} {wan : Int32} {tri : Int32} {fou : Int32} {en : Int32} {eh : Int32} {cho : Nat → Int64} {at' : Nat → Int32} {pa : Nat → Int32} {mo : Nat → Int32} {le : Nat → Int32} {hd : Nat → Int32} {nt : Nat → Int32} {ct : Int32} {sts6 : Nat → Int64} {blo : Nat → Nat → Int32} {bhi : Nat → Nat → Int32} {bem : Nat → Int32} {glo : Nat → Int32} {ghi : Nat → Int32} {gem : Int32} {rlo : Nat → Int32} {rhi : Nat → Int32} {rem : Int32} {rom : Nat → Int32} {fnd : Nat → Int32} {fc : Int32} {prt : Int32} {lim : Int32} {su : Int64} {op : Int64} : wSh σ x pss pps phv poo pcu pmm psk ppk pkw psc ppn asm sur bud wan tri fou en eh cho at' pa mo le hd nt ct sts6 blo bhi bem glo ghi gem rlo rhi rem rom fnd fc prt lim su op = wUn (wSh σ x pss pps phv poo pcu pmm psk ppk pkw psc ppn asm sur bud wan tri fou en eh cho at' pa mo le hd nt ct sts6 blo bhi bem glo ghi gem rlo rhi rem rom fnd fc prt lim su op) (x + 35) at' pa mo le hd nt ct sts6 blo bhi bem glo ghi gem rlo rhi rem rom fnd fc prt lim := sh_un_r.symm
theorem sh_pc_s {σ : AH} {x : Nat} {pss : Nat → Nat → Int64} {pps : Nat → Nat → Int64} {phv : Nat → Nat → Int64} {poo : Nat → Nat → Int64} {pcu : Nat → Int64} {pmm : Nat → Int32} {psk : Nat → Int32} {ppk : Nat → Int32} {pkw : Nat → Int64} {psc : Nat → Int32} {ppn : Nat → Int32} {asm : Nat → Int64} {sur : Int64} {bud : Int32} {wan : Int32} {tri : Int32} {fou : Int32} {en : Int32} {eh : Int32} {cho : Nat → Int64} {at' : Nat → Int32} {pa : Nat → Int32} {mo : Nat → Int32} {le : Nat → Int32} {hd : Nat → Int32} {nt : Nat → Int32} {ct : Int32} {sts6 : Nat → Int64} {blo : Nat → Nat → Int32} {bhi : Nat → Nat → Int32} {bem : Nat → Int32} {glo : Nat → Int32} {ghi : Nat → Int32} {gem : Int32} {rlo : Nat → Int32} {rhi : Nat → Int32} {rem : Int32} {rom : Nat → Int32} {fnd : Nat → Int32} {fc : Int32} {prt : Int32} {lim : Int32} {su : Int64} {op : Int64} (p : Nat) (hp : p < 6) : wSh σ x pss pps phv poo pcu pmm psk ppk pkw psc ppn asm sur bud wan tri fou en eh cho at' pa mo le hd nt ct sts6 blo bhi bem glo ghi gem rlo rhi rem rom fnd fc prt lim su op = wPc (wSh σ x pss pps phv poo pcu pmm psk ppk pkw psc ppn asm sur bud wan tri fou en eh cho at' pa mo le hd nt ct sts6 blo bhi bem glo ghi gem rlo rhi rem rom fnd fc prt lim su op) (x + 1 + (1 + 5 * p)) (pss p) (pps p) (phv p) (poo p) (pcu p) (pmm p) (psk p) (ppk p) (pkw p) (psc p) (ppn p) := sh_se_s.trans ((se_pc_s p hp).trans (congrArg (fun z => wPc z (x + 1 + (1 + 5 * p)) (pss p) (pps p) (phv p) (poo p) (pcu p) (pmm p) (psk p) (ppk p) (pkw p) (psc p) (ppn p)) sh_se_s.symm))
theorem sh_pc_r {σ : AH} {x : Nat} {pss : Nat → Nat → Int64} {pps : Nat → Nat → Int64} {phv : Nat → Nat → Int64} {poo : Nat → Nat → Int64} {pcu : Nat → Int64} {pmm : Nat → Int32} {psk : Nat → Int32} {ppk : Nat → Int32} {pkw : Nat → Int64} {psc : Nat → Int32} {ppn : Nat → Int32} {asm : Nat → Int64} {sur : Int64} {bud : Int32} {wan : Int32} {tri : Int32} {fou : Int32} {en : Int32} {eh : Int32} {cho : Nat → Int64} {at' : Nat → Int32} {pa : Nat → Int32} {mo : Nat → Int32} {le : Nat → Int32} {hd : Nat → Int32} {nt : Nat → Int32} {ct : Int32} {sts6 : Nat → Int64} {blo : Nat → Nat → Int32} {bhi : Nat → Nat → Int32} {bem : Nat → Int32} {glo : Nat → Int32} {ghi : Nat → Int32} {gem : Int32} {rlo : Nat → Int32} {rhi : Nat → Int32} {rem : Int32} {rom : Nat → Int32} {fnd : Nat → Int32} {fc : Int32} {prt : Int32} {lim : Int32} {su : Int64} {op : Int64} {ss2 : Nat → Int64} {ps2 : Nat → Int64} {hv2 : Nat → Int64} {oo2 : Nat → Int64} {cu2 : Int64} {mm2 : Int32} {sk2 : Int32} {pk2 : Int32} {kw2 : Int64} {sc2 : Int32} {pn2 : Int32} (p : Nat) (hp : p < 6) : wPc (wSh σ x pss pps phv poo pcu pmm psk ppk pkw psc ppn asm sur bud wan tri fou en eh cho at' pa mo le hd nt ct sts6 blo bhi bem glo ghi gem rlo rhi rem rom fnd fc prt lim su op) (x + 1 + (1 + 5 * p)) ss2 ps2 hv2 oo2 cu2 mm2 sk2 pk2 kw2 sc2 pn2 = wSh σ x (va_up pss p ss2) (va_up pps p ps2) (va_up phv p hv2) (va_up poo p oo2) (va_up pcu p cu2) (va_up pmm p mm2) (va_up psk p sk2) (va_up ppk p pk2) (va_up pkw p kw2) (va_up psc p sc2) (va_up ppn p pn2) asm sur bud wan tri fou en eh cho at' pa mo le hd nt ct sts6 blo bhi bem glo ghi gem rlo rhi rem rom fnd fc prt lim su op := (congrArg (fun z => wPc z (x + 1 + (1 + 5 * p)) ss2 ps2 hv2 oo2 cu2 mm2 sk2 pk2 kw2 sc2 pn2) sh_se_s).trans ((se_pc_r p hp).trans sh_se_r)
theorem sh_lk_s {σ : AH} {x : Nat} {pss : Nat → Nat → Int64} {pps : Nat → Nat → Int64} {phv : Nat → Nat → Int64} {poo : Nat → Nat → Int64} {pcu : Nat → Int64} {pmm : Nat → Int32} {psk : Nat → Int32} {ppk : Nat → Int32} {pkw : Nat → Int64} {psc : Nat → Int32} {ppn : Nat → Int32} {asm : Nat → Int64} {sur : Int64} {bud : Int32} {wan : Int32} {tri : Int32} {fou : Int32} {en : Int32} {eh : Int32} {cho : Nat → Int64} {at' : Nat → Int32} {pa : Nat → Int32} {mo : Nat → Int32} {le : Nat → Int32} {hd : Nat → Int32} {nt : Nat → Int32} {ct : Int32} {sts6 : Nat → Int64} {blo : Nat → Nat → Int32} {bhi : Nat → Nat → Int32} {bem : Nat → Int32} {glo : Nat → Int32} {ghi : Nat → Int32} {gem : Int32} {rlo : Nat → Int32} {rhi : Nat → Int32} {rem : Int32} {rom : Nat → Int32} {fnd : Nat → Int32} {fc : Int32} {prt : Int32} {lim : Int32} {su : Int64} {op : Int64} : wSh σ x pss pps phv poo pcu pmm psk ppk pkw psc ppn asm sur bud wan tri fou en eh cho at' pa mo le hd nt ct sts6 blo bhi bem glo ghi gem rlo rhi rem rom fnd fc prt lim su op = wUn (wA (wSh σ x pss pps phv poo pcu pmm psk ppk pkw psc ppn asm sur bud wan tri fou en eh cho at' pa mo le hd nt ct sts6 blo bhi bem glo ghi gem rlo rhi rem rom fnd fc prt lim su op) (x + 1 + 31) 6 asm) (x + 35) at' pa mo le hd nt ct sts6 blo bhi bem glo ghi gem rlo rhi rem rom fnd fc prt lim := sh_un_s.trans (congrArg (fun z => wUn z (x + 35) at' pa mo le hd nt ct sts6 blo bhi bem glo ghi gem rlo rhi rem rom fnd fc prt lim) (wA_self (wL_at 32 rfl)))
theorem sh_lk_r {σ : AH} {x : Nat} {pss : Nat → Nat → Int64} {pps : Nat → Nat → Int64} {phv : Nat → Nat → Int64} {poo : Nat → Nat → Int64} {pcu : Nat → Int64} {pmm : Nat → Int32} {psk : Nat → Int32} {ppk : Nat → Int32} {pkw : Nat → Int64} {psc : Nat → Int32} {ppn : Nat → Int32} {asm : Nat → Int64} {sur : Int64} {bud : Int32} {wan : Int32} {tri : Int32} {fou : Int32} {en : Int32} {eh : Int32} {cho : Nat → Int64} {at' : Nat → Int32} {pa : Nat → Int32} {mo : Nat → Int32} {le : Nat → Int32} {hd : Nat → Int32} {nt : Nat → Int32} {ct : Int32} {sts6 : Nat → Int64} {blo : Nat → Nat → Int32} {bhi : Nat → Nat → Int32} {bem : Nat → Int32} {glo : Nat → Int32} {ghi : Nat → Int32} {gem : Int32} {rlo : Nat → Int32} {rhi : Nat → Int32} {rem : Int32} {rom : Nat → Int32} {fnd : Nat → Int32} {fc : Int32} {prt : Int32} {lim : Int32} {su : Int64} {op : Int64} {at2 : Nat → Int32} {pa2 : Nat → Int32} {mo2 : Nat → Int32} {le2 : Nat → Int32} {hd2 : Nat → Int32} {nt2 : Nat → Int32} {ct2 : Int32} {sts62 : Nat → Int64} {blo2 : Nat → Nat → Int32} {bhi2 : Nat → Nat → Int32} {bem2 : Nat → Int32} {glo2 : Nat → Int32} {ghi2 : Nat → Int32} {gem2 : Int32} {rlo2 : Nat → Int32} {rhi2 : Nat → Int32} {rem2 : Int32} {rom2 : Nat → Int32} {fnd2 : Nat → Int32} {fc2 : Int32} {prt2 : Int32} {lim2 : Int32} : wUn (wA (wSh σ x pss pps phv poo pcu pmm psk ppk pkw psc ppn asm sur bud wan tri fou en eh cho at' pa mo le hd nt ct sts6 blo bhi bem glo ghi gem rlo rhi rem rom fnd fc prt lim su op) (x + 1 + 31) 6 asm) (x + 35) at2 pa2 mo2 le2 hd2 nt2 ct2 sts62 blo2 bhi2 bem2 glo2 ghi2 gem2 rlo2 rhi2 rem2 rom2 fnd2 fc2 prt2 lim2 = wSh σ x pss pps phv poo pcu pmm psk ppk pkw psc ppn asm sur bud wan tri fou en eh cho at2 pa2 mo2 le2 hd2 nt2 ct2 sts62 blo2 bhi2 bem2 glo2 ghi2 gem2 rlo2 rhi2 rem2 rom2 fnd2 fc2 prt2 lim2 su op := (congrArg (fun z => wUn z (x + 35) at2 pa2 mo2 le2 hd2 nt2 ct2 sts62 blo2 bhi2 bem2 glo2 ghi2 gem2 rlo2 rhi2 rem2 rom2 fnd2 fc2 prt2 lim2) (wA_self (wL_at 32 rfl)).symm).trans sh_un_r
def xBd {A C : Type} (x : Option (String ⊕ A)) (e : String → Option C) (k : A → Option C) : Option C := x.bind (fun q => match q with
  | .inl t => e t
  | .inr t => k t)
theorem xbd {A C : Type} {x : Option (String ⊕ A)} {e : String → Option C} {k : A → Option C} {r : C} (h : xBd x e k = some r) : ∃ q, x = some q ∧ (∀ t, q = .inl t → e t = some r) ∧ (∀ t, q = .inr t → k t = some r) := by
  obtain ⟨q, h1, h2⟩ := bd h
  refine ⟨q, h1, fun t ht => ?_, fun t ht => ?_⟩
  · subst ht; exact h2
  · subst ht; exact h2
def xrI (q : String ⊕ Int32) : String ⊕ Option Value := match q with
  | .inl e => .inl e
  | .inr v => .inr (some (.int v))
def xrL (q : String ⊕ Int64) : String ⊕ Option Value := match q with
  | .inl e => .inl e
  | .inr v => .inr (some (.long v))
def xrV (q : String ⊕ Unit) : String ⊕ Option Value := match q with
  | .inl e => .inl e
  | .inr _ => .inr none
theorem wl_RX6_79 : Cond.classLink RX6 79 x_IAE ∈ TT := tt_mem 271 (by decide +kernel) (by decide +kernel)
theorem wi_x_IAE : Cond.initialized x_IAE ∈ TT := tt_mem 44 (by decide +kernel) (by decide +kernel)
theorem wc_RX6_173 : Cond.constant RX6 173 (200000) ∈ TT := tt_mem 537 (by decide +kernel) (by decide +kernel)
theorem wf_RX6_16 : Cond.fieldLink RX6 16 (TX6 1).1 (TX6 1).2.1 (TX6 1).2.2.1 ∈ TT := tt_mem 221 (by decide +kernel) (by decide +kernel)
theorem wf_RX6_25 : Cond.fieldLink RX6 25 (TX6 2).1 (TX6 2).2.1 (TX6 2).2.2.1 ∈ TT := tt_mem 222 (by decide +kernel) (by decide +kernel)
theorem wk_X2_countTried : Cond.code yX2_countTried cX2_countTried 1 (some .int) ∈ TT := tt_mem 246 (by decide +kernel) (by decide +kernel)
theorem wm_RX6_114 : Cond.methodLink RX6 114 yX2_countTried ∈ TT := tt_mem 243 (by decide +kernel) (by decide +kernel)
theorem wn_X2_countTried : Cond.instanceMethod yX2_countTried ∈ TT := tt_mem 244 (by decide +kernel) (by decide +kernel)
theorem wv_X2_countTried : Cond.selects yX2_countTried.cls yX2_countTried yX2_countTried ∈ TT := tt_mem 245 (by decide +kernel) (by decide +kernel)
theorem wf_RX6_32 : Cond.fieldLink RX6 32 (TX6 3).1 (TX6 3).2.1 (TX6 3).2.2.1 ∈ TT := tt_mem 223 (by decide +kernel) (by decide +kernel)
theorem wk_X5_countKept : Cond.code yX5_countKept cX5_countKept 1 (some .int) ∈ TT := tt_mem 254 (by decide +kernel) (by decide +kernel)
theorem wm_RX6_158 : Cond.methodLink RX6 158 yX5_countKept ∈ TT := tt_mem 251 (by decide +kernel) (by decide +kernel)
theorem wn_X5_countKept : Cond.instanceMethod yX5_countKept ∈ TT := tt_mem 252 (by decide +kernel) (by decide +kernel)
theorem wv_X5_countKept : Cond.selects yX5_countKept.cls yX5_countKept yX5_countKept ∈ TT := tt_mem 253 (by decide +kernel) (by decide +kernel)
theorem wf_RX6_11 : Cond.fieldLink RX6 11 (TX6 0).1 (TX6 0).2.1 (TX6 0).2.2.1 ∈ TT := tt_mem 220 (by decide +kernel) (by decide +kernel)
theorem wk_X1_cubeCount : Cond.code yX1_cubeCount cX1_cubeCount 1 (some .int) ∈ TT := tt_mem 366 (by decide +kernel) (by decide +kernel)
theorem wm_RX6_54 : Cond.methodLink RX6 54 yX1_cubeCount ∈ TT := tt_mem 363 (by decide +kernel) (by decide +kernel)
theorem wn_X1_cubeCount : Cond.instanceMethod yX1_cubeCount ∈ TT := tt_mem 364 (by decide +kernel) (by decide +kernel)
theorem wv_X1_cubeCount : Cond.selects yX1_cubeCount.cls yX1_cubeCount yX1_cubeCount ∈ TT := tt_mem 365 (by decide +kernel) (by decide +kernel)
theorem wk_X1_flipCube : Cond.code yX1_flipCube cX1_flipCube 2 none ∈ TT := tt_mem 377 (by decide +kernel) (by decide +kernel)
theorem wm_RX6_60 : Cond.methodLink RX6 60 yX1_flipCube ∈ TT := tt_mem 374 (by decide +kernel) (by decide +kernel)
theorem wn_X1_flipCube : Cond.instanceMethod yX1_flipCube ∈ TT := tt_mem 375 (by decide +kernel) (by decide +kernel)
theorem wv_X1_flipCube : Cond.selects yX1_flipCube.cls yX1_flipCube yX1_flipCube ∈ TT := tt_mem 376 (by decide +kernel) (by decide +kernel)
theorem wl_RX6_47 : Cond.classLink RX6 47 x_ISE ∈ TT := tt_mem 347 (by decide +kernel) (by decide +kernel)
theorem wi_x_ISE : Cond.initialized x_ISE ∈ TT := tt_mem 45 (by decide +kernel) (by decide +kernel)
theorem wk_X1_hasCube : Cond.code yX1_hasCube cX1_hasCube 2 (some .boolean) ∈ TT := tt_mem 346 (by decide +kernel) (by decide +kernel)
theorem wm_RX6_43 : Cond.methodLink RX6 43 yX1_hasCube ∈ TT := tt_mem 343 (by decide +kernel) (by decide +kernel)
theorem wn_X1_hasCube : Cond.instanceMethod yX1_hasCube ∈ TT := tt_mem 344 (by decide +kernel) (by decide +kernel)
theorem wv_X1_hasCube : Cond.selects yX1_hasCube.cls yX1_hasCube yX1_hasCube ∈ TT := tt_mem 345 (by decide +kernel) (by decide +kernel)
theorem ws_X6_checkCell : Cond.static yX6_checkCell ∈ TT := tt_mem 340 (by decide +kernel) (by decide +kernel)
theorem wm_RX6_40 : Cond.methodLink RX6 40 yX6_checkCell ∈ TT := tt_mem 339 (by decide +kernel) (by decide +kernel)
theorem wk_X6_checkCell : Cond.code yX6_checkCell cX6_checkCell 1 none ∈ TT := tt_mem 341 (by decide +kernel) (by decide +kernel)
theorem ws_X6_checkPiece : Cond.static yX6_checkPiece ∈ TT := tt_mem 269 (by decide +kernel) (by decide +kernel)
theorem wm_RX6_36 : Cond.methodLink RX6 36 yX6_checkPiece ∈ TT := tt_mem 268 (by decide +kernel) (by decide +kernel)
theorem wk_X6_checkPiece : Cond.code yX6_checkPiece cX6_checkPiece 1 none ∈ TT := tt_mem 270 (by decide +kernel) (by decide +kernel)
theorem wk_X1_allowMirror : Cond.code yX1_allowMirror cX1_allowMirror 2 none ∈ TT := tt_mem 392 (by decide +kernel) (by decide +kernel)
theorem wm_RX6_63 : Cond.methodLink RX6 63 yX1_allowMirror ∈ TT := tt_mem 389 (by decide +kernel) (by decide +kernel)
theorem wn_X1_allowMirror : Cond.instanceMethod yX1_allowMirror ∈ TT := tt_mem 390 (by decide +kernel) (by decide +kernel)
theorem wv_X1_allowMirror : Cond.selects yX1_allowMirror.cls yX1_allowMirror yX1_allowMirror ∈ TT := tt_mem 391 (by decide +kernel) (by decide +kernel)
theorem wm_RX6_67 : Cond.methodLink RX6 67 yX1_countShapes ∈ TT := tt_mem 400 (by decide +kernel) (by decide +kernel)
theorem wl_RX6_70 : Cond.classLink RX6 70 x_IOB ∈ TT := tt_mem 463 (by decide +kernel) (by decide +kernel)
theorem wi_x_IOB : Cond.initialized x_IOB ∈ TT := tt_mem 49 (by decide +kernel) (by decide +kernel)
theorem wk_X1_shapeAt : Cond.code yX1_shapeAt cX1_shapeAt 2 (some .long) ∈ TT := tt_mem 482 (by decide +kernel) (by decide +kernel)
theorem wm_RX6_75 : Cond.methodLink RX6 75 yX1_shapeAt ∈ TT := tt_mem 479 (by decide +kernel) (by decide +kernel)
theorem wn_X1_shapeAt : Cond.instanceMethod yX1_shapeAt ∈ TT := tt_mem 480 (by decide +kernel) (by decide +kernel)
theorem wv_X1_shapeAt : Cond.selects yX1_shapeAt.cls yX1_shapeAt yX1_shapeAt ∈ TT := tt_mem 481 (by decide +kernel) (by decide +kernel)
theorem wf_RX6_84 : Cond.fieldLink RX6 84 (TX6 4).1 (TX6 4).2.1 (TX6 4).2.2.1 ∈ TT := tt_mem 224 (by decide +kernel) (by decide +kernel)
theorem wc_RX6_88 : Cond.constantLong RX6 88 (-1) ∈ TT := tt_mem 491 (by decide +kernel) (by decide +kernel)
theorem wf_RX6_90 : Cond.fieldLink RX6 90 (TX6 5).1 (TX6 5).2.1 (TX6 5).2.2.1 ∈ TT := tt_mem 225 (by decide +kernel) (by decide +kernel)
theorem wk_X1_countPlaces : Cond.code yX1_countPlaces cX1_countPlaces 1 (some .int) ∈ TT := tt_mem 526 (by decide +kernel) (by decide +kernel)
theorem wm_RX6_97 : Cond.methodLink RX6 97 yX1_countPlaces ∈ TT := tt_mem 523 (by decide +kernel) (by decide +kernel)
theorem wn_X1_countPlaces : Cond.instanceMethod yX1_countPlaces ∈ TT := tt_mem 524 (by decide +kernel) (by decide +kernel)
theorem wv_X1_countPlaces : Cond.selects yX1_countPlaces.cls yX1_countPlaces yX1_countPlaces ∈ TT := tt_mem 525 (by decide +kernel) (by decide +kernel)
theorem wm_RX6_93 : Cond.methodLink RX6 93 yX1_learnPlaces ∈ TT := tt_mem 499 (by decide +kernel) (by decide +kernel)
theorem wk_X2_countFound : Cond.code yX2_countFound cX2_countFound 1 (some .int) ∈ TT := tt_mem 582 (by decide +kernel) (by decide +kernel)
theorem wm_RX6_111 : Cond.methodLink RX6 111 yX2_countFound ∈ TT := tt_mem 579 (by decide +kernel) (by decide +kernel)
theorem wn_X2_countFound : Cond.instanceMethod yX2_countFound ∈ TT := tt_mem 580 (by decide +kernel) (by decide +kernel)
theorem wv_X2_countFound : Cond.selects yX2_countFound.cls yX2_countFound yX2_countFound ∈ TT := tt_mem 581 (by decide +kernel) (by decide +kernel)
theorem wk_X2_wasEnough : Cond.code yX2_wasEnough cX2_wasEnough 1 (some .boolean) ∈ TT := tt_mem 578 (by decide +kernel) (by decide +kernel)
theorem wm_RX6_107 : Cond.methodLink RX6 107 yX2_wasEnough ∈ TT := tt_mem 575 (by decide +kernel) (by decide +kernel)
theorem wn_X2_wasEnough : Cond.instanceMethod yX2_wasEnough ∈ TT := tt_mem 576 (by decide +kernel) (by decide +kernel)
theorem wv_X2_wasEnough : Cond.selects yX2_wasEnough.cls yX2_wasEnough yX2_wasEnough ∈ TT := tt_mem 577 (by decide +kernel) (by decide +kernel)
theorem wk_X2_run : Cond.code yX2_run cX2_run 9 none ∈ TT := tt_mem 542 (by decide +kernel) (by decide +kernel)
theorem wm_RX6_103 : Cond.methodLink RX6 103 yX2_run ∈ TT := tt_mem 539 (by decide +kernel) (by decide +kernel)
theorem wn_X2_run : Cond.instanceMethod yX2_run ∈ TT := tt_mem 540 (by decide +kernel) (by decide +kernel)
theorem wv_X2_run : Cond.selects yX2_run.cls yX2_run yX2_run ∈ TT := tt_mem 541 (by decide +kernel) (by decide +kernel)
theorem ws_X6_checkBudget : Cond.static yX6_checkBudget ∈ TT := tt_mem 535 (by decide +kernel) (by decide +kernel)
theorem wm_RX6_100 : Cond.methodLink RX6 100 yX6_checkBudget ∈ TT := tt_mem 534 (by decide +kernel) (by decide +kernel)
theorem wk_X6_checkBudget : Cond.code yX6_checkBudget cX6_checkBudget 1 none ∈ TT := tt_mem 536 (by decide +kernel) (by decide +kernel)
theorem wk_X2_chosenFor : Cond.code yX2_chosenFor cX2_chosenFor 2 (some .long) ∈ TT := tt_mem 598 (by decide +kernel) (by decide +kernel)
theorem wm_RX6_122 : Cond.methodLink RX6 122 yX2_chosenFor ∈ TT := tt_mem 595 (by decide +kernel) (by decide +kernel)
theorem wn_X2_chosenFor : Cond.instanceMethod yX2_chosenFor ∈ TT := tt_mem 596 (by decide +kernel) (by decide +kernel)
theorem wv_X2_chosenFor : Cond.selects yX2_chosenFor.cls yX2_chosenFor yX2_chosenFor ∈ TT := tt_mem 597 (by decide +kernel) (by decide +kernel)
theorem wk_X2_hasWanted : Cond.code yX2_hasWanted cX2_hasWanted 1 (some .boolean) ∈ TT := tt_mem 594 (by decide +kernel) (by decide +kernel)
theorem wm_RX6_119 : Cond.methodLink RX6 119 yX2_hasWanted ∈ TT := tt_mem 591 (by decide +kernel) (by decide +kernel)
theorem wn_X2_hasWanted : Cond.instanceMethod yX2_hasWanted ∈ TT := tt_mem 592 (by decide +kernel) (by decide +kernel)
theorem wv_X2_hasWanted : Cond.selects yX2_hasWanted.cls yX2_hasWanted yX2_hasWanted ∈ TT := tt_mem 593 (by decide +kernel) (by decide +kernel)
theorem wk_X1_hasShape : Cond.code yX1_hasShape cX1_hasShape 5 (some .boolean) ∈ TT := tt_mem 610 (by decide +kernel) (by decide +kernel)
theorem wm_RX6_131 : Cond.methodLink RX6 131 yX1_hasShape ∈ TT := tt_mem 607 (by decide +kernel) (by decide +kernel)
theorem wn_X1_hasShape : Cond.instanceMethod yX1_hasShape ∈ TT := tt_mem 608 (by decide +kernel) (by decide +kernel)
theorem wv_X1_hasShape : Cond.selects yX1_hasShape.cls yX1_hasShape yX1_hasShape ∈ TT := tt_mem 609 (by decide +kernel) (by decide +kernel)
theorem wm_RX6_125 : Cond.methodLink RX6 125 yX0_settled ∈ TT := tt_mem 606 (by decide +kernel) (by decide +kernel)
theorem wk_X5_look : Cond.code yX5_look cX5_look 6 (some .int) ∈ TT := tt_mem 645 (by decide +kernel) (by decide +kernel)
theorem wm_RX6_154 : Cond.methodLink RX6 154 yX5_look ∈ TT := tt_mem 642 (by decide +kernel) (by decide +kernel)
theorem wn_X5_look : Cond.instanceMethod yX5_look ∈ TT := tt_mem 643 (by decide +kernel) (by decide +kernel)
theorem wv_X5_look : Cond.selects yX5_look.cls yX5_look yX5_look ∈ TT := tt_mem 644 (by decide +kernel) (by decide +kernel)
theorem wk_X6_assembledPieces : Cond.code yX6_assembledPieces cX6_assembledPieces 3 (some .int) ∈ TT := tt_mem 639 (by decide +kernel) (by decide +kernel)
theorem wm_RX6_141 : Cond.methodLink RX6 141 yX6_assembledPieces ∈ TT := tt_mem 636 (by decide +kernel) (by decide +kernel)
theorem wn_X6_assembledPieces : Cond.instanceMethod yX6_assembledPieces ∈ TT := tt_mem 638 (by decide +kernel) (by decide +kernel)
theorem wv_X6_assembledPieces : Cond.selects yX6_assembledPieces.cls yX6_assembledPieces yX6_assembledPieces ∈ TT := tt_mem 10 (by decide +kernel) (by decide +kernel)
theorem wk_X5_moveAt : Cond.code yX5_moveAt cX5_moveAt 2 (some .int) ∈ TT := tt_mem 776 (by decide +kernel) (by decide +kernel)
theorem wm_RX6_166 : Cond.methodLink RX6 166 yX5_moveAt ∈ TT := tt_mem 773 (by decide +kernel) (by decide +kernel)
theorem wn_X5_moveAt : Cond.instanceMethod yX5_moveAt ∈ TT := tt_mem 774 (by decide +kernel) (by decide +kernel)
theorem wv_X5_moveAt : Cond.selects yX5_moveAt.cls yX5_moveAt yX5_moveAt ∈ TT := tt_mem 775 (by decide +kernel) (by decide +kernel)
theorem wk_X5_countMoves : Cond.code yX5_countMoves cX5_countMoves 1 (some .int) ∈ TT := tt_mem 771 (by decide +kernel) (by decide +kernel)
theorem wm_RX6_161 : Cond.methodLink RX6 161 yX5_countMoves ∈ TT := tt_mem 768 (by decide +kernel) (by decide +kernel)
theorem wn_X5_countMoves : Cond.instanceMethod yX5_countMoves ∈ TT := tt_mem 769 (by decide +kernel) (by decide +kernel)
theorem wv_X5_countMoves : Cond.selects yX5_countMoves.cls yX5_countMoves yX5_countMoves ∈ TT := tt_mem 770 (by decide +kernel) (by decide +kernel)
def f_X6_checkPiece (piece : Int32) : Option (String ⊕ Unit) := (if piece < 0 then some (Sum.inl x_IAE) else (if piece < (6 : Int32) then some (Sum.inr ()) else some (Sum.inl x_IAE)))
set_option maxHeartbeats 2000000 in
set_option maxRecDepth 20000 in
theorem c_X6_checkPiece {l : Launch} {E : Ex} {n : Nat} {σ : AH}   {piece : Int32} (hl0 : l.stackTraces = false) (res : (String ⊕ Unit)) (hf : f_X6_checkPiece piece = some res) : ConX l E yX6_checkPiece (.code yX6_checkPiece cX6_checkPiece 1 none :: TT) ({ frames := 6, cells := 1, slots := 6, locals := 100 } : Room) 1 6 [.int piece] σ n (xrV res) σ := by
  refine conX_intro (by decide +kernel) (Nat.le_of_ble_eq_true rfl) ?_
  intro K C hT hKR hKL hKE hKN hKQ
  subst hKL
  subst hKE
  have C : Cx K RX6 "checkPiece" cX6_checkPiece none := C
  show G K 0 0 0 [(0, .int piece)] [] σ n
  unfold f_X6_checkPiece at hf
  refine g_iload_n C rfl (q := 0) rfl dX6_checkPiece_0 rfl ?_
  refine g_if_lt (tgt := 10) C dX6_checkPiece_1 (by decide) rfl (fun c1 => ?_) (fun c1 => ?_)
  · replace hf := ift c1 hf
    obtain rfl := Option.some.inj hf
    exact g_throw (X := x_IAE) (ik := 79) (is := 169) (ic := 83) (text := "no such piece") C hT hl0 (Or.inl rfl) wl_RX6_79 wi_x_IAE (by decide +kernel) (by decide +kernel) (by decide +kernel) (by decide +kernel) (by decide +kernel) dX6_checkPiece_10 dX6_checkPiece_13 dX6_checkPiece_14 dX6_checkPiece_16 dX6_checkPiece_19 (by rw [hKR]; decide) (by rw [hKR]; simp [Value.category]) (by rw [hKR]; decide) (by rw [hKR]; decide) hKQ (by decide) (by decide)
  · replace hf := iff' c1 hf
    refine g_iload_n C rfl (q := 0) rfl dX6_checkPiece_4 rfl ?_
    refine g_bipush (v := 6) C (by decide) dX6_checkPiece_5 rfl ?_
    refine g_icmp_lt (tgt := 20) C dX6_checkPiece_7 (by decide) rfl (fun c2 => ?_) (fun c2 => ?_)
    · replace hf := ift c2 hf
      obtain rfl := Option.some.inj hf
      exact g_xvret C hKQ (by decide) (by decide) dX6_checkPiece_20
    · replace hf := iff' c2 hf
      obtain rfl := Option.some.inj hf
      exact g_throw (X := x_IAE) (ik := 79) (is := 169) (ic := 83) (text := "no such piece") C hT hl0 (Or.inl rfl) wl_RX6_79 wi_x_IAE (by decide +kernel) (by decide +kernel) (by decide +kernel) (by decide +kernel) (by decide +kernel) dX6_checkPiece_10 dX6_checkPiece_13 dX6_checkPiece_14 dX6_checkPiece_16 dX6_checkPiece_19 (by rw [hKR]; decide) (by rw [hKR]; simp [Value.category]) (by rw [hKR]; decide) (by rw [hKR]; decide) hKQ (by decide) (by decide)
def f_X6_checkCell (cell : Int32) : Option (String ⊕ Unit) := (if cell < 0 then some (Sum.inl x_IAE) else (if cell < (64 : Int32) then some (Sum.inr ()) else some (Sum.inl x_IAE)))
set_option maxHeartbeats 2000000 in
set_option maxRecDepth 20000 in
theorem c_X6_checkCell {l : Launch} {E : Ex} {n : Nat} {σ : AH}   {cell : Int32} (hl0 : l.stackTraces = false) (res : (String ⊕ Unit)) (hf : f_X6_checkCell cell = some res) : ConX l E yX6_checkCell (.code yX6_checkCell cX6_checkCell 1 none :: TT) ({ frames := 6, cells := 1, slots := 6, locals := 100 } : Room) 1 6 [.int cell] σ n (xrV res) σ := by
  refine conX_intro (by decide +kernel) (Nat.le_of_ble_eq_true rfl) ?_
  intro K C hT hKR hKL hKE hKN hKQ
  subst hKL
  subst hKE
  have C : Cx K RX6 "checkCell" cX6_checkCell none := C
  show G K 0 0 0 [(0, .int cell)] [] σ n
  unfold f_X6_checkCell at hf
  refine g_iload_n C rfl (q := 0) rfl dX6_checkCell_0 rfl ?_
  refine g_if_lt (tgt := 10) C dX6_checkCell_1 (by decide) rfl (fun c1 => ?_) (fun c1 => ?_)
  · replace hf := ift c1 hf
    obtain rfl := Option.some.inj hf
    exact g_throw (X := x_IAE) (ik := 79) (is := 171) (ic := 83) (text := "no such cell") C hT hl0 (Or.inl rfl) wl_RX6_79 wi_x_IAE (by decide +kernel) (by decide +kernel) (by decide +kernel) (by decide +kernel) (by decide +kernel) dX6_checkCell_10 dX6_checkCell_13 dX6_checkCell_14 dX6_checkCell_16 dX6_checkCell_19 (by rw [hKR]; decide) (by rw [hKR]; simp [Value.category]) (by rw [hKR]; decide) (by rw [hKR]; decide) hKQ (by decide) (by decide)
  · replace hf := iff' c1 hf
    refine g_iload_n C rfl (q := 0) rfl dX6_checkCell_4 rfl ?_
    refine g_bipush (v := 64) C (by decide) dX6_checkCell_5 rfl ?_
    refine g_icmp_lt (tgt := 20) C dX6_checkCell_7 (by decide) rfl (fun c2 => ?_) (fun c2 => ?_)
    · replace hf := ift c2 hf
      obtain rfl := Option.some.inj hf
      exact g_xvret C hKQ (by decide) (by decide) dX6_checkCell_20
    · replace hf := iff' c2 hf
      obtain rfl := Option.some.inj hf
      exact g_throw (X := x_IAE) (ik := 79) (is := 171) (ic := 83) (text := "no such cell") C hT hl0 (Or.inl rfl) wl_RX6_79 wi_x_IAE (by decide +kernel) (by decide +kernel) (by decide +kernel) (by decide +kernel) (by decide +kernel) dX6_checkCell_10 dX6_checkCell_13 dX6_checkCell_14 dX6_checkCell_16 dX6_checkCell_19 (by rw [hKR]; decide) (by rw [hKR]; simp [Value.category]) (by rw [hKR]; decide) (by rw [hKR]; decide) hKQ (by decide) (by decide)
def f_X6_checkBudget (budget : Int32) : Option (String ⊕ Unit) := (if budget < (1 : Int32) then some (Sum.inl x_IAE) else (if budget ≤ (200000 : Int32) then some (Sum.inr ()) else some (Sum.inl x_IAE)))
set_option maxHeartbeats 2000000 in
set_option maxRecDepth 20000 in
theorem c_X6_checkBudget {l : Launch} {E : Ex} {n : Nat} {σ : AH}   {budget : Int32} (hl0 : l.stackTraces = false) (res : (String ⊕ Unit)) (hf : f_X6_checkBudget budget = some res) : ConX l E yX6_checkBudget (.code yX6_checkBudget cX6_checkBudget 1 none :: TT) ({ frames := 6, cells := 1, slots := 6, locals := 100 } : Room) 1 6 [.int budget] σ n (xrV res) σ := by
  refine conX_intro (by decide +kernel) (Nat.le_of_ble_eq_true rfl) ?_
  intro K C hT hKR hKL hKE hKN hKQ
  subst hKL
  subst hKE
  have C : Cx K RX6 "checkBudget" cX6_checkBudget none := C
  show G K 0 0 0 [(0, .int budget)] [] σ n
  unfold f_X6_checkBudget at hf
  refine g_iload_n C rfl (q := 0) rfl dX6_checkBudget_0 rfl ?_
  refine g_iconst (v := 1) C (by decide) dX6_checkBudget_1 rfl ?_
  refine g_icmp_lt (tgt := 11) C dX6_checkBudget_2 (by decide) rfl (fun c1 => ?_) (fun c1 => ?_)
  · replace hf := ift c1 hf
    obtain rfl := Option.some.inj hf
    exact g_throw (X := x_IAE) (ik := 79) (is := 174) (ic := 83) (text := "no such budget") C hT hl0 (Or.inl rfl) wl_RX6_79 wi_x_IAE (by decide +kernel) (by decide +kernel) (by decide +kernel) (by decide +kernel) (by decide +kernel) dX6_checkBudget_11 dX6_checkBudget_14 dX6_checkBudget_15 dX6_checkBudget_17 dX6_checkBudget_20 (by rw [hKR]; decide) (by rw [hKR]; simp [Value.category]) (by rw [hKR]; decide) (by rw [hKR]; decide) hKQ (by decide) (by decide)
  · replace hf := iff' c1 hf
    refine g_iload_n C rfl (q := 0) rfl dX6_checkBudget_5 rfl ?_
    refine g_ldc C wc_RX6_173 dX6_checkBudget_6 rfl ?_
    refine g_icmp_le (tgt := 21) C dX6_checkBudget_8 (by decide) rfl (fun c2 => ?_) (fun c2 => ?_)
    · replace hf := ift c2 hf
      obtain rfl := Option.some.inj hf
      exact g_xvret C hKQ (by decide) (by decide) dX6_checkBudget_21
    · replace hf := iff' c2 hf
      obtain rfl := Option.some.inj hf
      exact g_throw (X := x_IAE) (ik := 79) (is := 174) (ic := 83) (text := "no such budget") C hT hl0 (Or.inl rfl) wl_RX6_79 wi_x_IAE (by decide +kernel) (by decide +kernel) (by decide +kernel) (by decide +kernel) (by decide +kernel) dX6_checkBudget_11 dX6_checkBudget_14 dX6_checkBudget_15 dX6_checkBudget_17 dX6_checkBudget_20 (by rw [hKR]; decide) (by rw [hKR]; simp [Value.category]) (by rw [hKR]; decide) (by rw [hKR]; decide) hKQ (by decide) (by decide)
def f_X6_assembledPieces_4  (asm : Nat → Int64) : Nat → Int32 → Int32 → Option Int32
  | 0, _, _ => none
  | fu + 1, l1, l2 => (if (6 : Int32) ≤ l2 then some l1 else (if inB l2 6 = true then (if (asm l2.toNatClampNeg) = (0 : Int64) then f_X6_assembledPieces_4 asm fu l1 (l2 + (1 : Int32)) else f_X6_assembledPieces_4 asm fu (l1 ||| ((1 : Int32) <<< (l2 &&& 31))) (l2 + (1 : Int32))) else none))
def f_X6_assembledPieces (fu : Nat) (asm : Nat → Int64) : Option Int32 := ((f_X6_assembledPieces_4 asm fu (0 : Int32) (0 : Int32)).bind fun q10 => some q10)
set_option maxHeartbeats 2000000 in
set_option maxRecDepth 20000 in
theorem g_X6_assembledPieces_4 {K : KX} {n : Nat} {σ : AH} {x : Nat}  {pss : Nat → Nat → Int64} {pps : Nat → Nat → Int64} {phv : Nat → Nat → Int64} {poo : Nat → Nat → Int64} {pcu : Nat → Int64} {pmm : Nat → Int32} {psk : Nat → Int32} {ppk : Nat → Int32} {pkw : Nat → Int64} {psc : Nat → Int32} {ppn : Nat → Int32} {asm : Nat → Int64} {sur : Int64} {bud : Int32} {wan : Int32} {tri : Int32} {fou : Int32} {en : Int32} {eh : Int32} {cho : Nat → Int64} {at' : Nat → Int32} {pa : Nat → Int32} {mo : Nat → Int32} {le : Nat → Int32} {hd : Nat → Int32} {nt : Nat → Int32} {ct : Int32} {sts6 : Nat → Int64} {blo : Nat → Nat → Int32} {bhi : Nat → Nat → Int32} {bem : Nat → Int32} {glo : Nat → Int32} {ghi : Nat → Int32} {gem : Int32} {rlo : Nat → Int32} {rhi : Nat → Int32} {rem : Int32} {rom : Nat → Int32} {fnd : Nat → Int32} {fc : Int32} {prt : Int32} {lim : Int32} {su : Int64} {op : Int64} (C : Cx K RX6 "assembledPieces" cX6_assembledPieces (some .int)) (hKR : kR K = ({ frames := 0, cells := 0, slots := 0, locals := 0 } : Room)) (hKN : kN K = 3) : ∀ (fu : Nat) (l1 : Int32) (l2 : Int32) (res : Int32), f_X6_assembledPieces_4 asm fu l1 l2 = some res → G K 0 0 33 [(1, .int res)] [] (wSh σ x pss pps phv poo pcu pmm psk ppk pkw psc ppn asm sur bud wan tri fou en eh cho at' pa mo le hd nt ct sts6 blo bhi bem glo ghi gem rlo rhi rem rom fnd fc prt lim su op) n → G K 0 0 4 [(0, .ref x), (1, .int l1), (2, .int l2)] [] (wSh σ x pss pps phv poo pcu pmm psk ppk pkw psc ppn asm sur bud wan tri fou en eh cho at' pa mo le hd nt ct sts6 blo bhi bem glo ghi gem rlo rhi rem rom fnd fc prt lim su op) n := by
  intro fu
  induction fu with
  | zero =>
    intro l1 l2 res hf
    exact absurd hf (by simp [f_X6_assembledPieces_4])
  | succ fu ih =>
    intro l1 l2 res hf hx
    rw [f_X6_assembledPieces_4] at hf
    refine g_iload_n C rfl (q := 2) rfl dX6_assembledPieces_4 rfl ?_
    refine g_bipush (v := 6) C (by decide) dX6_assembledPieces_5 rfl ?_
    refine g_icmp_ge (tgt := 33) C dX6_assembledPieces_7 (by decide) rfl (fun c7 => ?_) (fun c7 => ?_)
    · replace hf := ift c7 hf
      obtain rfl := Option.some.inj hf
      refine g_sub (lv' := [(1, .int l1)]) [1] rfl ?_
      exact hx
    · replace hf := iff' c7 hf
      refine g_aload_n C rfl (q := 0) rfl dX6_assembledPieces_10 rfl ?_
      refine g_get C fc_X6 1 (by decide) wf_RX6_16 (wL_at0 rfl) rfl dX6_assembledPieces_11 rfl ?_
      refine g_iload_n C rfl (q := 2) rfl dX6_assembledPieces_14 rfl ?_
      obtain ⟨g8, hf⟩ := gd hf
      refine g_lald C (wL_at 32 rfl) (inB_in g8) dX6_assembledPieces_15 rfl ?_
      refine g_lconst (v := 0) C (by decide) dX6_assembledPieces_16 rfl ?_
      refine g_lif_eq (tgt := 27) C dX6_assembledPieces_17 rfl dX6_assembledPieces_18 (by decide) rfl (fun c9 => ?_) (fun c9 => ?_)
      · replace hf := ift c9 hf
        refine g_iinc (v := l2 + (1 : Int32)) (lv' := [(2, .int (l2 + (1 : Int32))), (0, .ref x), (1, .int l1)]) (q := 2) C dX6_assembledPieces_27 rfl rfl rfl (by rw [hKN]; decide) rfl ?_
        refine g_goto (pc' := 4) C dX6_assembledPieces_30 (by decide) ?_
        refine g_sub (lv' := [(0, .ref x), (1, .int l1), (2, .int (l2 + (1 : Int32)))]) [1, 2, 0] rfl ?_
        exact ih _ _ _ hf hx
      · replace hf := iff' c9 hf
        refine g_iload_n C rfl (q := 1) rfl dX6_assembledPieces_21 rfl ?_
        refine g_iconst (v := 1) C (by decide) dX6_assembledPieces_22 rfl ?_
        refine g_iload_n C rfl (q := 2) rfl dX6_assembledPieces_23 rfl ?_
        refine g_ishl C dX6_assembledPieces_24 rfl ?_
        refine g_ior C dX6_assembledPieces_25 rfl ?_
        refine g_istore_n (i := 1) (lv' := [(1, .int (l1 ||| ((1 : Int32) <<< (l2 &&& 31)))), (0, .ref x), (2, .int l2)]) C dX6_assembledPieces_26 rfl rfl (by rw [hKN]; decide) rfl ?_
        refine g_iinc (v := l2 + (1 : Int32)) (lv' := [(2, .int (l2 + (1 : Int32))), (1, .int (l1 ||| ((1 : Int32) <<< (l2 &&& 31)))), (0, .ref x)]) (q := 2) C dX6_assembledPieces_27 rfl rfl rfl (by rw [hKN]; decide) rfl ?_
        refine g_goto (pc' := 4) C dX6_assembledPieces_30 (by decide) ?_
        refine g_sub (lv' := [(0, .ref x), (1, .int (l1 ||| ((1 : Int32) <<< (l2 &&& 31)))), (2, .int (l2 + (1 : Int32)))]) [2, 1, 0] rfl ?_
        exact ih _ _ _ hf hx
set_option maxHeartbeats 2000000 in
set_option maxRecDepth 20000 in
theorem c_X6_assembledPieces {l : Launch} {E : Ex} {n : Nat} {σ : AH} {x : Nat}  {pss : Nat → Nat → Int64} {pps : Nat → Nat → Int64} {phv : Nat → Nat → Int64} {poo : Nat → Nat → Int64} {pcu : Nat → Int64} {pmm : Nat → Int32} {psk : Nat → Int32} {ppk : Nat → Int32} {pkw : Nat → Int64} {psc : Nat → Int32} {ppn : Nat → Int32} {asm : Nat → Int64} {sur : Int64} {bud : Int32} {wan : Int32} {tri : Int32} {fou : Int32} {en : Int32} {eh : Int32} {cho : Nat → Int64} {at' : Nat → Int32} {pa : Nat → Int32} {mo : Nat → Int32} {le : Nat → Int32} {hd : Nat → Int32} {nt : Nat → Int32} {ct : Int32} {sts6 : Nat → Int64} {blo : Nat → Nat → Int32} {bhi : Nat → Nat → Int32} {bem : Nat → Int32} {glo : Nat → Int32} {ghi : Nat → Int32} {gem : Int32} {rlo : Nat → Int32} {rhi : Nat → Int32} {rem : Int32} {rom : Nat → Int32} {fnd : Nat → Int32} {fc : Int32} {prt : Int32} {lim : Int32} {su : Int64} {op : Int64}  {fu : Nat} (res : Int32) (hf : f_X6_assembledPieces fu asm = some res) : Con l E yX6_assembledPieces (.code yX6_assembledPieces cX6_assembledPieces 3 (some .int) :: TT) ({ frames := 0, cells := 0, slots := 0, locals := 0 } : Room) 0 0 [.ref x] (wSh σ x pss pps phv poo pcu pmm psk ppk pkw psc ppn asm sur bud wan tri fou en eh cho at' pa mo le hd nt ct sts6 blo bhi bem glo ghi gem rlo rhi rem rom fnd fc prt lim su op) n (some (.int res)) (wSh σ x pss pps phv poo pcu pmm psk ppk pkw psc ppn asm sur bud wan tri fou en eh cho at' pa mo le hd nt ct sts6 blo bhi bem glo ghi gem rlo rhi rem rom fnd fc prt lim su op) n := by
  refine con_intro (by decide +kernel) (Nat.le_of_ble_eq_true rfl) ?_
  intro K C hKR hKL hKE hKN hKQ
  subst hKL
  subst hKE
  have C : Cx K RX6 "assembledPieces" cX6_assembledPieces (some .int) := C
  show G K 0 0 0 [(0, .ref x)] [] (wSh σ x pss pps phv poo pcu pmm psk ppk pkw psc ppn asm sur bud wan tri fou en eh cho at' pa mo le hd nt ct sts6 blo bhi bem glo ghi gem rlo rhi rem rom fnd fc prt lim su op) n
  unfold f_X6_assembledPieces at hf
  refine g_iconst (v := 0) C (by decide) dX6_assembledPieces_0 rfl ?_
  refine g_istore_n (i := 1) (lv' := [(1, .int (0 : Int32)), (0, .ref x)]) C dX6_assembledPieces_1 rfl rfl (by rw [hKN]; decide) rfl ?_
  refine g_iconst (v := 0) C (by decide) dX6_assembledPieces_2 rfl ?_
  refine g_istore_n (i := 2) (lv' := [(2, .int (0 : Int32)), (1, .int (0 : Int32)), (0, .ref x)]) C dX6_assembledPieces_3 rfl rfl (by rw [hKN]; decide) rfl ?_
  refine g_sub (lv' := [(0, .ref x), (1, .int (0 : Int32)), (2, .int (0 : Int32))]) [2, 1, 0] rfl ?_
  obtain ⟨q10, hq10, hf⟩ := bd hf
  refine g_X6_assembledPieces_4 (pss := pss) (pps := pps) (phv := phv) (poo := poo) (pcu := pcu) (pmm := pmm) (psk := psk) (ppk := ppk) (pkw := pkw) (psc := psc) (ppn := ppn) (asm := asm) (sur := sur) (bud := bud) (wan := wan) (tri := tri) (fou := fou) (en := en) (eh := eh) (cho := cho) (at' := at') (pa := pa) (mo := mo) (le := le) (hd := hd) (nt := nt) (ct := ct) (sts6 := sts6) (blo := blo) (bhi := bhi) (bem := bem) (glo := glo) (ghi := ghi) (gem := gem) (rlo := rlo) (rhi := rhi) (rem := rem) (rom := rom) (fnd := fnd) (fc := fc) (prt := prt) (lim := lim) (su := su) (op := op) C hKR hKN _ _ _ _ hq10 ?_
  refine g_iload_n C rfl (q := 0) rfl dX6_assembledPieces_33 rfl ?_
  obtain rfl := Option.some.inj hf
  exact g_iret C hKQ dX6_assembledPieces_34
def f_X6_tries (tri : Int32) : Option Int32 := ((f_X2_countTried tri).bind fun q1 => some q1)
set_option maxHeartbeats 2000000 in
set_option maxRecDepth 20000 in
theorem c_X6_tries {l : Launch} {E : Ex} {n : Nat} {σ : AH} {x : Nat}  {pss : Nat → Nat → Int64} {pps : Nat → Nat → Int64} {phv : Nat → Nat → Int64} {poo : Nat → Nat → Int64} {pcu : Nat → Int64} {pmm : Nat → Int32} {psk : Nat → Int32} {ppk : Nat → Int32} {pkw : Nat → Int64} {psc : Nat → Int32} {ppn : Nat → Int32} {asm : Nat → Int64} {sur : Int64} {bud : Int32} {wan : Int32} {tri : Int32} {fou : Int32} {en : Int32} {eh : Int32} {cho : Nat → Int64} {at' : Nat → Int32} {pa : Nat → Int32} {mo : Nat → Int32} {le : Nat → Int32} {hd : Nat → Int32} {nt : Nat → Int32} {ct : Int32} {sts6 : Nat → Int64} {blo : Nat → Nat → Int32} {bhi : Nat → Nat → Int32} {bem : Nat → Int32} {glo : Nat → Int32} {ghi : Nat → Int32} {gem : Int32} {rlo : Nat → Int32} {rhi : Nat → Int32} {rem : Int32} {rom : Nat → Int32} {fnd : Nat → Int32} {fc : Int32} {prt : Int32} {lim : Int32} {su : Int64} {op : Int64}  (res : Int32) (hf : f_X6_tries tri = some res) : Con l E yX6_tries (.code yX6_tries cX6_tries 1 (some .int) :: TT) ({ frames := 1, cells := 0, slots := 0, locals := 20 } : Room) 0 0 [.ref x] (wSh σ x pss pps phv poo pcu pmm psk ppk pkw psc ppn asm sur bud wan tri fou en eh cho at' pa mo le hd nt ct sts6 blo bhi bem glo ghi gem rlo rhi rem rom fnd fc prt lim su op) n (some (.int res)) (wSh σ x pss pps phv poo pcu pmm psk ppk pkw psc ppn asm sur bud wan tri fou en eh cho at' pa mo le hd nt ct sts6 blo bhi bem glo ghi gem rlo rhi rem rom fnd fc prt lim su op) n := by
  refine con_intro (by decide +kernel) (Nat.le_of_ble_eq_true rfl) ?_
  intro K C hKR hKL hKE hKN hKQ
  subst hKL
  subst hKE
  have C : Cx K RX6 "tries" cX6_tries (some .int) := C
  show G K 0 0 0 [(0, .ref x)] [] (wSh σ x pss pps phv poo pcu pmm psk ppk pkw psc ppn asm sur bud wan tri fou en eh cho at' pa mo le hd nt ct sts6 blo bhi bem glo ghi gem rlo rhi rem rom fnd fc prt lim su op) n
  unfold f_X6_tries at hf
  refine g_aload_n C rfl (q := 0) rfl dX6_tries_0 rfl ?_
  refine g_get C fc_X6 2 (by decide) wf_RX6_25 (wL_at0 rfl) rfl dX6_tries_1 rfl ?_
  obtain ⟨q1, hq1, hf⟩ := bd hf
  refine g_heap sh_se_s ?_
  refine g_callV0 (st' := []) (as := []) (st2 := [.int q1]) (k := 0) C ⟨wm_RX6_114, wn_X2_countTried, wv_X2_countTried, wi_RX2, wk_X2_countTried, by decide +kernel⟩ rfl (wL_at 32 rfl) (c_X2_countTried (l := kL K) (E := kE K) (σ := (wSh σ x pss pps phv poo pcu pmm psk ppk pkw psc ppn asm sur bud wan tri fou en eh cho at' pa mo le hd nt ct sts6 blo bhi bem glo ghi gem rlo rhi rem rom fnd fc prt lim su op)) (k := x + 1) _ hq1) (by rw [hKR]; exact ⟨rfl, rfl, ⟨by decide, by decide⟩, Nat.le_refl _, Nat.le_refl _⟩) rfl rfl (by simp) rfl dX6_tries_4 rfl ?_
  refine g_heap (h' := (wSh σ x pss pps phv poo pcu pmm psk ppk pkw psc ppn asm sur bud wan tri fou en eh cho at' pa mo le hd nt ct sts6 blo bhi bem glo ghi gem rlo rhi rem rom fnd fc prt lim su op)) sh_se_r ?_
  obtain rfl := Option.some.inj hf
  exact g_iret C hKQ dX6_tries_7
def f_X6_states (ct : Int32) : Option Int32 := ((f_X5_countKept ct).bind fun q1 => some q1)
set_option maxHeartbeats 2000000 in
set_option maxRecDepth 20000 in
theorem c_X6_states {l : Launch} {E : Ex} {n : Nat} {σ : AH} {x : Nat}  {pss : Nat → Nat → Int64} {pps : Nat → Nat → Int64} {phv : Nat → Nat → Int64} {poo : Nat → Nat → Int64} {pcu : Nat → Int64} {pmm : Nat → Int32} {psk : Nat → Int32} {ppk : Nat → Int32} {pkw : Nat → Int64} {psc : Nat → Int32} {ppn : Nat → Int32} {asm : Nat → Int64} {sur : Int64} {bud : Int32} {wan : Int32} {tri : Int32} {fou : Int32} {en : Int32} {eh : Int32} {cho : Nat → Int64} {at' : Nat → Int32} {pa : Nat → Int32} {mo : Nat → Int32} {le : Nat → Int32} {hd : Nat → Int32} {nt : Nat → Int32} {ct : Int32} {sts6 : Nat → Int64} {blo : Nat → Nat → Int32} {bhi : Nat → Nat → Int32} {bem : Nat → Int32} {glo : Nat → Int32} {ghi : Nat → Int32} {gem : Int32} {rlo : Nat → Int32} {rhi : Nat → Int32} {rem : Int32} {rom : Nat → Int32} {fnd : Nat → Int32} {fc : Int32} {prt : Int32} {lim : Int32} {su : Int64} {op : Int64}  (res : Int32) (hf : f_X6_states ct = some res) : Con l E yX6_states (.code yX6_states cX6_states 1 (some .int) :: TT) ({ frames := 2, cells := 0, slots := 0, locals := 40 } : Room) 0 0 [.ref x] (wSh σ x pss pps phv poo pcu pmm psk ppk pkw psc ppn asm sur bud wan tri fou en eh cho at' pa mo le hd nt ct sts6 blo bhi bem glo ghi gem rlo rhi rem rom fnd fc prt lim su op) n (some (.int res)) (wSh σ x pss pps phv poo pcu pmm psk ppk pkw psc ppn asm sur bud wan tri fou en eh cho at' pa mo le hd nt ct sts6 blo bhi bem glo ghi gem rlo rhi rem rom fnd fc prt lim su op) n := by
  refine con_intro (by decide +kernel) (Nat.le_of_ble_eq_true rfl) ?_
  intro K C hKR hKL hKE hKN hKQ
  subst hKL
  subst hKE
  have C : Cx K RX6 "states" cX6_states (some .int) := C
  show G K 0 0 0 [(0, .ref x)] [] (wSh σ x pss pps phv poo pcu pmm psk ppk pkw psc ppn asm sur bud wan tri fou en eh cho at' pa mo le hd nt ct sts6 blo bhi bem glo ghi gem rlo rhi rem rom fnd fc prt lim su op) n
  unfold f_X6_states at hf
  refine g_aload_n C rfl (q := 0) rfl dX6_states_0 rfl ?_
  refine g_get C fc_X6 3 (by decide) wf_RX6_32 (wL_at0 rfl) rfl dX6_states_1 rfl ?_
  obtain ⟨q1, hq1, hf⟩ := bd hf
  refine g_heap sh_un_s ?_
  refine g_callV0 (st' := []) (as := []) (st2 := [.int q1]) (k := 0) C ⟨wm_RX6_158, wn_X5_countKept, wv_X5_countKept, wi_RX5, wk_X5_countKept, by decide +kernel⟩ rfl (wL_at0 rfl) (c_X5_countKept (l := kL K) (E := kE K) (σ := (wSh σ x pss pps phv poo pcu pmm psk ppk pkw psc ppn asm sur bud wan tri fou en eh cho at' pa mo le hd nt ct sts6 blo bhi bem glo ghi gem rlo rhi rem rom fnd fc prt lim su op)) (u := x + 35) _ hq1) (by rw [hKR]; exact ⟨rfl, rfl, ⟨by decide, by decide⟩, Nat.le_refl _, Nat.le_refl _⟩) rfl rfl (by simp) rfl dX6_states_4 rfl ?_
  refine g_heap (h' := (wSh σ x pss pps phv poo pcu pmm psk ppk pkw psc ppn asm sur bud wan tri fou en eh cho at' pa mo le hd nt ct sts6 blo bhi bem glo ghi gem rlo rhi rem rom fnd fc prt lim su op)) sh_un_r ?_
  obtain rfl := Option.some.inj hf
  exact g_iret C hKQ dX6_states_7
def f_X6_cube (pcu : Nat → Int64) (psk : Nat → Int32) (ppk : Nat → Int32) (asm : Nat → Int64) (l1 : Int32) (l2 : Int32) (l3 : Int32) : Option ((String ⊕ Int32) × (Nat → Int64) × (Nat → Int32) × (Nat → Int32) × (Nat → Int64)) := (xBd (f_X6_checkPiece l1) (fun e9 => some (Sum.inl e9, pcu, psk, ppk, asm)) (fun _ => (xBd (f_X6_checkCell l2) (fun e9 => some (Sum.inl e9, pcu, psk, ppk, asm)) (fun _ => (if inB l1 6 = true then (if inB l1 6 = true then ((f_X1_hasCube (pcu l1.toNatClampNeg) l2).bind fun q5 => (if q5 = l3 then some (Sum.inl x_ISE, pcu, psk, ppk, asm) else (if l3 = 0 then (if inB l1 6 = true then ((f_X1_flipCube (pcu l1.toNatClampNeg) l2).bind fun q9 => (if inB l1 6 = true then (if inB l1 6 = true then ((f_X1_cubeCount ((va_up pcu l1.toNatClampNeg q9.1) l1.toNatClampNeg)).bind fun q12 => some (Sum.inr q12, va_up pcu l1.toNatClampNeg q9.1, va_up psk l1.toNatClampNeg q9.2.1, va_up ppk l1.toNatClampNeg q9.2.2, va_up asm l1.toNatClampNeg (0 : Int64))) else none) else none)) else none) else (if inB l1 6 = true then ((f_X1_cubeCount (pcu l1.toNatClampNeg)).bind fun q14 => (if q14 < (10 : Int32) then (if inB l1 6 = true then ((f_X1_flipCube (pcu l1.toNatClampNeg) l2).bind fun q17 => (if inB l1 6 = true then (if inB l1 6 = true then ((f_X1_cubeCount ((va_up pcu l1.toNatClampNeg q17.1) l1.toNatClampNeg)).bind fun q20 => some (Sum.inr q20, va_up pcu l1.toNatClampNeg q17.1, va_up psk l1.toNatClampNeg q17.2.1, va_up ppk l1.toNatClampNeg q17.2.2, va_up asm l1.toNatClampNeg (0 : Int64))) else none) else none)) else none) else some (Sum.inl x_ISE, pcu, psk, ppk, asm))) else none)))) else none) else none)))))
set_option maxHeartbeats 2000000 in
set_option maxRecDepth 20000 in
theorem c_X6_cube {l : Launch} {E : Ex} {n : Nat} {σ : AH} {x : Nat}  {pss : Nat → Nat → Int64} {pps : Nat → Nat → Int64} {phv : Nat → Nat → Int64} {poo : Nat → Nat → Int64} {pcu : Nat → Int64} {pmm : Nat → Int32} {psk : Nat → Int32} {ppk : Nat → Int32} {pkw : Nat → Int64} {psc : Nat → Int32} {ppn : Nat → Int32} {asm : Nat → Int64} {sur : Int64} {bud : Int32} {wan : Int32} {tri : Int32} {fou : Int32} {en : Int32} {eh : Int32} {cho : Nat → Int64} {at' : Nat → Int32} {pa : Nat → Int32} {mo : Nat → Int32} {le : Nat → Int32} {hd : Nat → Int32} {nt : Nat → Int32} {ct : Int32} {sts6 : Nat → Int64} {blo : Nat → Nat → Int32} {bhi : Nat → Nat → Int32} {bem : Nat → Int32} {glo : Nat → Int32} {ghi : Nat → Int32} {gem : Int32} {rlo : Nat → Int32} {rhi : Nat → Int32} {rem : Int32} {rom : Nat → Int32} {fnd : Nat → Int32} {fc : Int32} {prt : Int32} {lim : Int32} {su : Int64} {op : Int64} {l1 : Int32} {l2 : Int32} {l3 : Int32} (hl0 : l.stackTraces = false) (res : ((String ⊕ Int32) × (Nat → Int64) × (Nat → Int32) × (Nat → Int32) × (Nat → Int64))) (hf : f_X6_cube pcu psk ppk asm l1 l2 l3 = some res) : ConX l E yX6_cube (.code yX6_cube cX6_cube 5 (some .int) :: TT) ({ frames := 7, cells := 3, slots := 18, locals := 120 } : Room) 3 18 [.ref x, .int l1, .int l2, .int l3] (wSh σ x pss pps phv poo pcu pmm psk ppk pkw psc ppn asm sur bud wan tri fou en eh cho at' pa mo le hd nt ct sts6 blo bhi bem glo ghi gem rlo rhi rem rom fnd fc prt lim su op) n (xrI res.1) (wSh σ x pss pps phv poo res.2.1 pmm res.2.2.1 res.2.2.2.1 pkw psc ppn res.2.2.2.2 sur bud wan tri fou en eh cho at' pa mo le hd nt ct sts6 blo bhi bem glo ghi gem rlo rhi rem rom fnd fc prt lim su op) := by
  refine conX_intro (by decide +kernel) (Nat.le_of_ble_eq_true rfl) ?_
  intro K C hT hKR hKL hKE hKN hKQ
  subst hKL
  subst hKE
  have C : Cx K RX6 "cube" cX6_cube (some .int) := C
  show G K 0 0 0 [(0, .ref x), (1, .int l1), (2, .int l2), (3, .int l3)] [] (wSh σ x pss pps phv poo pcu pmm psk ppk pkw psc ppn asm sur bud wan tri fou en eh cho at' pa mo le hd nt ct sts6 blo bhi bem glo ghi gem rlo rhi rem rom fnd fc prt lim su op) n
  unfold f_X6_cube at hf
  refine g_iload_n C rfl (q := 1) rfl dX6_cube_0 rfl ?_
  obtain ⟨q1, hq1, hfa, hfb⟩ := xbd hf
  rcases q1 with e9 | t9
  · obtain rfl := Option.some.inj (hfa _ rfl)
    exact g_callXS (st' := []) (as := [.int l1]) (k := 1) (mc2 := 3) (ms2 := 18) (pc' := 4) C hT ⟨wm_RX6_36, ws_X6_checkPiece, wi_RX6, wk_X6_checkPiece, by decide +kernel⟩ (c_X6_checkPiece (l := kL K) (E := kE K) hl0 _ hq1) (by rw [hKR]; exact ⟨rfl, rfl, ⟨by decide, by decide⟩, by decide, by decide⟩) rfl rfl (by simp) dX6_cube_1 rfl (fun v e => by cases e) (fun X e => by cases e; exact hKQ) (by decide) (by decide)
  · have hf := hfb _ rfl
    refine g_callXS (st' := []) (as := [.int l1]) (k := 1) (mc2 := 3) (ms2 := 18) (pc' := 4) C hT ⟨wm_RX6_36, ws_X6_checkPiece, wi_RX6, wk_X6_checkPiece, by decide +kernel⟩ (c_X6_checkPiece (l := kL K) (E := kE K) hl0 _ hq1) (by rw [hKR]; exact ⟨rfl, rfl, ⟨by decide, by decide⟩, by decide, by decide⟩) rfl rfl (by simp) dX6_cube_1 rfl (fun v e => ?_) (fun X e => by cases e) (by decide) (by decide)
    cases e
    show G K 1 6 4 [(0, .ref x), (1, .int l1), (2, .int l2), (3, .int l3)] [] (wSh σ x pss pps phv poo pcu pmm psk ppk pkw psc ppn asm sur bud wan tri fou en eh cho at' pa mo le hd nt ct sts6 blo bhi bem glo ghi gem rlo rhi rem rom fnd fc prt lim su op) n
    refine g_iload_n C rfl (q := 2) rfl dX6_cube_4 rfl ?_
    obtain ⟨q2, hq2, hfa, hfb⟩ := xbd hf
    rcases q2 with e9 | t9
    · obtain rfl := Option.some.inj (hfa _ rfl)
      exact g_callXS (st' := []) (as := [.int l2]) (k := 1) (mc2 := 3) (ms2 := 18) (pc' := 8) C hT ⟨wm_RX6_40, ws_X6_checkCell, wi_RX6, wk_X6_checkCell, by decide +kernel⟩ (c_X6_checkCell (l := kL K) (E := kE K) hl0 _ hq2) (by rw [hKR]; exact ⟨rfl, rfl, ⟨by decide, by decide⟩, by decide, by decide⟩) rfl rfl (by simp) dX6_cube_5 rfl (fun v e => by cases e) (fun X e => by cases e; exact hKQ) (by decide) (by decide)
    · have hf := hfb _ rfl
      refine g_callXS (st' := []) (as := [.int l2]) (k := 1) (mc2 := 3) (ms2 := 18) (pc' := 8) C hT ⟨wm_RX6_40, ws_X6_checkCell, wi_RX6, wk_X6_checkCell, by decide +kernel⟩ (c_X6_checkCell (l := kL K) (E := kE K) hl0 _ hq2) (by rw [hKR]; exact ⟨rfl, rfl, ⟨by decide, by decide⟩, by decide, by decide⟩) rfl rfl (by simp) dX6_cube_5 rfl (fun v e => ?_) (fun X e => by cases e) (by decide) (by decide)
      cases e
      show G K 2 12 8 [(0, .ref x), (1, .int l1), (2, .int l2), (3, .int l3)] [] (wSh σ x pss pps phv poo pcu pmm psk ppk pkw psc ppn asm sur bud wan tri fou en eh cho at' pa mo le hd nt ct sts6 blo bhi bem glo ghi gem rlo rhi rem rom fnd fc prt lim su op) n
      refine g_aload_n C rfl (q := 0) rfl dX6_cube_8 rfl ?_
      refine g_get C fc_X6 0 (by decide) wf_RX6_11 (wL_at0 rfl) rfl dX6_cube_9 rfl ?_
      refine g_iload_n C rfl (q := 1) rfl dX6_cube_12 rfl ?_
      obtain ⟨g3, hf⟩ := gd hf
      refine g_aald C (by decide) (wL_at 1 rfl) (inB_in g3) rfl dX6_cube_13 rfl ?_
      refine g_astore (i := 4) (lv' := [(4, .ref (x + 1 + (1 + 5 * l1.toNatClampNeg))), (0, .ref x), (1, .int l1), (2, .int l2), (3, .int l3)]) C dX6_cube_14 rfl (by rw [hKN]; decide) rfl ?_
      refine g_aload C (q := 0) rfl dX6_cube_16 rfl ?_
      refine g_iload_n C rfl (q := 3) rfl dX6_cube_18 rfl ?_
      obtain ⟨g4, hf⟩ := gd hf
      obtain ⟨q5, hq5, hf⟩ := bd hf
      refine g_heap (sh_pc_s l1.toNatClampNeg (vp_lt g4)) ?_
      refine g_callV0 (st' := []) (as := [.int l2]) (st2 := [.int q5]) (k := 1) C ⟨wm_RX6_43, wn_X1_hasCube, wv_X1_hasCube, wi_RX1, wk_X1_hasCube, by decide +kernel⟩ rfl (wL_at0 rfl) (c_X1_hasCube (l := kL K) (E := kE K) (σ := (wSh σ x pss pps phv poo pcu pmm psk ppk pkw psc ppn asm sur bud wan tri fou en eh cho at' pa mo le hd nt ct sts6 blo bhi bem glo ghi gem rlo rhi rem rom fnd fc prt lim su op)) (a := x + 1 + (1 + 5 * l1.toNatClampNeg)) _ hq5) (by rw [hKR]; exact ⟨rfl, rfl, ⟨by decide, by decide⟩, by decide, by decide⟩) rfl rfl (by simp) rfl dX6_cube_19 rfl ?_
      refine g_heap (h' := (wSh σ x pss pps phv poo pcu pmm psk ppk pkw psc ppn asm sur bud wan tri fou en eh cho at' pa mo le hd nt ct sts6 blo bhi bem glo ghi gem rlo rhi rem rom fnd fc prt lim su op)) (by rw [sh_pc_r l1.toNatClampNeg (vp_lt g4)]; simp only [va_up_id]) ?_
      refine g_iload_n C rfl (q := 4) rfl dX6_cube_22 rfl ?_
      refine g_icmp_ne (tgt := 36) C dX6_cube_23 (by decide) rfl (fun c6 => ?_) (fun c6 => ?_)
      · replace hf := iff' c6 hf
        refine g_iload_n C rfl (q := 4) rfl dX6_cube_36 rfl ?_
        refine g_if_eq (tgt := 60) C dX6_cube_37 (by decide) rfl (fun c7 => ?_) (fun c7 => ?_)
        · replace hf := ift c7 hf
          refine g_aload C (q := 0) rfl dX6_cube_60 rfl ?_
          refine g_iload_n C rfl (q := 3) rfl dX6_cube_62 rfl ?_
          obtain ⟨g8, hf⟩ := gd hf
          obtain ⟨q9, hq9, hf⟩ := bd hf
          refine g_heap (sh_pc_s l1.toNatClampNeg (vp_lt g8)) ?_
          refine g_callV0 (st' := []) (as := [.int l2]) (st2 := []) (k := 1) C ⟨wm_RX6_60, wn_X1_flipCube, wv_X1_flipCube, wi_RX1, wk_X1_flipCube, by decide +kernel⟩ rfl (wL_at0 rfl) (c_X1_flipCube (l := kL K) (E := kE K) (σ := (wSh σ x pss pps phv poo pcu pmm psk ppk pkw psc ppn asm sur bud wan tri fou en eh cho at' pa mo le hd nt ct sts6 blo bhi bem glo ghi gem rlo rhi rem rom fnd fc prt lim su op)) (a := x + 1 + (1 + 5 * l1.toNatClampNeg)) _ hq9) (by rw [hKR]; exact ⟨rfl, rfl, ⟨by decide, by decide⟩, by decide, by decide⟩) rfl rfl (by simp) rfl dX6_cube_63 rfl ?_
          refine g_heap (h' := (wSh σ x pss pps phv poo (va_up pcu l1.toNatClampNeg q9.1) pmm (va_up psk l1.toNatClampNeg q9.2.1) (va_up ppk l1.toNatClampNeg q9.2.2) pkw psc ppn asm sur bud wan tri fou en eh cho at' pa mo le hd nt ct sts6 blo bhi bem glo ghi gem rlo rhi rem rom fnd fc prt lim su op)) (by rw [sh_pc_r l1.toNatClampNeg (vp_lt g8)]; simp only [va_up_id]) ?_
          refine g_aload_n C rfl (q := 1) rfl dX6_cube_66 rfl ?_
          refine g_get C fc_X6 1 (by decide) wf_RX6_16 (wL_at0 rfl) rfl dX6_cube_67 rfl ?_
          refine g_iload_n C rfl (q := 2) rfl dX6_cube_70 rfl ?_
          refine g_lconst (v := 0) C (by decide) dX6_cube_71 rfl ?_
          obtain ⟨g10, hf⟩ := gd hf
          refine g_last (h' := (wSh σ x pss pps phv poo (va_up pcu l1.toNatClampNeg q9.1) pmm (va_up psk l1.toNatClampNeg q9.2.1) (va_up ppk l1.toNatClampNeg q9.2.2) pkw psc ppn (va_up asm l1.toNatClampNeg (0 : Int64)) sur bud wan tri fou en eh cho at' pa mo le hd nt ct sts6 blo bhi bem glo ghi gem rlo rhi rem rom fnd fc prt lim su op)) C (wL_at 32 rfl) (inB_in g10) (wL_up 32 (Nat.le_of_ble_eq_true rfl) rfl) dX6_cube_72 rfl ?_
          refine g_aload C (q := 0) rfl dX6_cube_73 rfl ?_
          obtain ⟨g11, hf⟩ := gd hf
          obtain ⟨q12, hq12, hf⟩ := bd hf
          refine g_heap (sh_pc_s l1.toNatClampNeg (vp_lt g11)) ?_
          refine g_callV0 (st' := []) (as := []) (st2 := [.int q12]) (k := 0) C ⟨wm_RX6_54, wn_X1_cubeCount, wv_X1_cubeCount, wi_RX1, wk_X1_cubeCount, by decide +kernel⟩ rfl (wL_at0 rfl) (c_X1_cubeCount (l := kL K) (E := kE K) (σ := (wSh σ x pss pps phv poo (va_up pcu l1.toNatClampNeg q9.1) pmm (va_up psk l1.toNatClampNeg q9.2.1) (va_up ppk l1.toNatClampNeg q9.2.2) pkw psc ppn (va_up asm l1.toNatClampNeg (0 : Int64)) sur bud wan tri fou en eh cho at' pa mo le hd nt ct sts6 blo bhi bem glo ghi gem rlo rhi rem rom fnd fc prt lim su op)) (a := x + 1 + (1 + 5 * l1.toNatClampNeg)) _ hq12) (by rw [hKR]; exact ⟨rfl, rfl, ⟨by decide, by decide⟩, by decide, by decide⟩) rfl rfl (by simp) rfl dX6_cube_75 rfl ?_
          refine g_heap (h' := (wSh σ x pss pps phv poo (va_up pcu l1.toNatClampNeg q9.1) pmm (va_up psk l1.toNatClampNeg q9.2.1) (va_up ppk l1.toNatClampNeg q9.2.2) pkw psc ppn (va_up asm l1.toNatClampNeg (0 : Int64)) sur bud wan tri fou en eh cho at' pa mo le hd nt ct sts6 blo bhi bem glo ghi gem rlo rhi rem rom fnd fc prt lim su op)) (by rw [sh_pc_r l1.toNatClampNeg (vp_lt g11)]; simp only [va_up_id]) ?_
          obtain rfl := Option.some.inj hf
          exact g_xiret C hKQ (by decide) (by decide) dX6_cube_78
        · replace hf := iff' c7 hf
          refine g_aload C (q := 0) rfl dX6_cube_40 rfl ?_
          obtain ⟨g13, hf⟩ := gd hf
          obtain ⟨q14, hq14, hf⟩ := bd hf
          refine g_heap (sh_pc_s l1.toNatClampNeg (vp_lt g13)) ?_
          refine g_callV0 (st' := []) (as := []) (st2 := [.int q14]) (k := 0) C ⟨wm_RX6_54, wn_X1_cubeCount, wv_X1_cubeCount, wi_RX1, wk_X1_cubeCount, by decide +kernel⟩ rfl (wL_at0 rfl) (c_X1_cubeCount (l := kL K) (E := kE K) (σ := (wSh σ x pss pps phv poo pcu pmm psk ppk pkw psc ppn asm sur bud wan tri fou en eh cho at' pa mo le hd nt ct sts6 blo bhi bem glo ghi gem rlo rhi rem rom fnd fc prt lim su op)) (a := x + 1 + (1 + 5 * l1.toNatClampNeg)) _ hq14) (by rw [hKR]; exact ⟨rfl, rfl, ⟨by decide, by decide⟩, by decide, by decide⟩) rfl rfl (by simp) rfl dX6_cube_42 rfl ?_
          refine g_heap (h' := (wSh σ x pss pps phv poo pcu pmm psk ppk pkw psc ppn asm sur bud wan tri fou en eh cho at' pa mo le hd nt ct sts6 blo bhi bem glo ghi gem rlo rhi rem rom fnd fc prt lim su op)) (by rw [sh_pc_r l1.toNatClampNeg (vp_lt g13)]; simp only [va_up_id]) ?_
          refine g_bipush (v := 10) C (by decide) dX6_cube_45 rfl ?_
          refine g_icmp_lt (tgt := 60) C dX6_cube_47 (by decide) rfl (fun c15 => ?_) (fun c15 => ?_)
          · replace hf := ift c15 hf
            refine g_aload C (q := 0) rfl dX6_cube_60 rfl ?_
            refine g_iload_n C rfl (q := 3) rfl dX6_cube_62 rfl ?_
            obtain ⟨g16, hf⟩ := gd hf
            obtain ⟨q17, hq17, hf⟩ := bd hf
            refine g_heap (sh_pc_s l1.toNatClampNeg (vp_lt g16)) ?_
            refine g_callV0 (st' := []) (as := [.int l2]) (st2 := []) (k := 1) C ⟨wm_RX6_60, wn_X1_flipCube, wv_X1_flipCube, wi_RX1, wk_X1_flipCube, by decide +kernel⟩ rfl (wL_at0 rfl) (c_X1_flipCube (l := kL K) (E := kE K) (σ := (wSh σ x pss pps phv poo pcu pmm psk ppk pkw psc ppn asm sur bud wan tri fou en eh cho at' pa mo le hd nt ct sts6 blo bhi bem glo ghi gem rlo rhi rem rom fnd fc prt lim su op)) (a := x + 1 + (1 + 5 * l1.toNatClampNeg)) _ hq17) (by rw [hKR]; exact ⟨rfl, rfl, ⟨by decide, by decide⟩, by decide, by decide⟩) rfl rfl (by simp) rfl dX6_cube_63 rfl ?_
            refine g_heap (h' := (wSh σ x pss pps phv poo (va_up pcu l1.toNatClampNeg q17.1) pmm (va_up psk l1.toNatClampNeg q17.2.1) (va_up ppk l1.toNatClampNeg q17.2.2) pkw psc ppn asm sur bud wan tri fou en eh cho at' pa mo le hd nt ct sts6 blo bhi bem glo ghi gem rlo rhi rem rom fnd fc prt lim su op)) (by rw [sh_pc_r l1.toNatClampNeg (vp_lt g16)]; simp only [va_up_id]) ?_
            refine g_aload_n C rfl (q := 1) rfl dX6_cube_66 rfl ?_
            refine g_get C fc_X6 1 (by decide) wf_RX6_16 (wL_at0 rfl) rfl dX6_cube_67 rfl ?_
            refine g_iload_n C rfl (q := 2) rfl dX6_cube_70 rfl ?_
            refine g_lconst (v := 0) C (by decide) dX6_cube_71 rfl ?_
            obtain ⟨g18, hf⟩ := gd hf
            refine g_last (h' := (wSh σ x pss pps phv poo (va_up pcu l1.toNatClampNeg q17.1) pmm (va_up psk l1.toNatClampNeg q17.2.1) (va_up ppk l1.toNatClampNeg q17.2.2) pkw psc ppn (va_up asm l1.toNatClampNeg (0 : Int64)) sur bud wan tri fou en eh cho at' pa mo le hd nt ct sts6 blo bhi bem glo ghi gem rlo rhi rem rom fnd fc prt lim su op)) C (wL_at 32 rfl) (inB_in g18) (wL_up 32 (Nat.le_of_ble_eq_true rfl) rfl) dX6_cube_72 rfl ?_
            refine g_aload C (q := 0) rfl dX6_cube_73 rfl ?_
            obtain ⟨g19, hf⟩ := gd hf
            obtain ⟨q20, hq20, hf⟩ := bd hf
            refine g_heap (sh_pc_s l1.toNatClampNeg (vp_lt g19)) ?_
            refine g_callV0 (st' := []) (as := []) (st2 := [.int q20]) (k := 0) C ⟨wm_RX6_54, wn_X1_cubeCount, wv_X1_cubeCount, wi_RX1, wk_X1_cubeCount, by decide +kernel⟩ rfl (wL_at0 rfl) (c_X1_cubeCount (l := kL K) (E := kE K) (σ := (wSh σ x pss pps phv poo (va_up pcu l1.toNatClampNeg q17.1) pmm (va_up psk l1.toNatClampNeg q17.2.1) (va_up ppk l1.toNatClampNeg q17.2.2) pkw psc ppn (va_up asm l1.toNatClampNeg (0 : Int64)) sur bud wan tri fou en eh cho at' pa mo le hd nt ct sts6 blo bhi bem glo ghi gem rlo rhi rem rom fnd fc prt lim su op)) (a := x + 1 + (1 + 5 * l1.toNatClampNeg)) _ hq20) (by rw [hKR]; exact ⟨rfl, rfl, ⟨by decide, by decide⟩, by decide, by decide⟩) rfl rfl (by simp) rfl dX6_cube_75 rfl ?_
            refine g_heap (h' := (wSh σ x pss pps phv poo (va_up pcu l1.toNatClampNeg q17.1) pmm (va_up psk l1.toNatClampNeg q17.2.1) (va_up ppk l1.toNatClampNeg q17.2.2) pkw psc ppn (va_up asm l1.toNatClampNeg (0 : Int64)) sur bud wan tri fou en eh cho at' pa mo le hd nt ct sts6 blo bhi bem glo ghi gem rlo rhi rem rom fnd fc prt lim su op)) (by rw [sh_pc_r l1.toNatClampNeg (vp_lt g19)]; simp only [va_up_id]) ?_
            obtain rfl := Option.some.inj hf
            exact g_xiret C hKQ (by decide) (by decide) dX6_cube_78
          · replace hf := iff' c15 hf
            obtain rfl := Option.some.inj hf
            exact g_throw (X := x_ISE) (ik := 47) (is := 58) (ic := 51) (text := "a piece has 10 cubes at the most") C hT hl0 (Or.inr (Or.inl rfl)) wl_RX6_47 wi_x_ISE (by decide +kernel) (by decide +kernel) (by decide +kernel) (by decide +kernel) (by decide +kernel) dX6_cube_50 dX6_cube_53 dX6_cube_54 dX6_cube_56 dX6_cube_59 (by rw [hKR]; decide) (by rw [hKR]; simp [Value.category]) (by rw [hKR]; decide) (by rw [hKR]; decide) hKQ (by decide) (by decide)
      · replace hf := ift c6 hf
        obtain rfl := Option.some.inj hf
        exact g_throw (X := x_ISE) (ik := 47) (is := 49) (ic := 51) (text := "the cube is so already") C hT hl0 (Or.inr (Or.inl rfl)) wl_RX6_47 wi_x_ISE (by decide +kernel) (by decide +kernel) (by decide +kernel) (by decide +kernel) (by decide +kernel) dX6_cube_26 dX6_cube_29 dX6_cube_30 dX6_cube_32 dX6_cube_35 (by rw [hKR]; decide) (by rw [hKR]; simp [Value.category]) (by rw [hKR]; decide) (by rw [hKR]; decide) hKQ (by decide) (by decide)
def f_X6_mirror (pmm : Nat → Int32) (psk : Nat → Int32) (ppk : Nat → Int32) (l1 : Int32) (l2 : Int32) : Option ((String ⊕ Unit) × (Nat → Int32) × (Nat → Int32) × (Nat → Int32)) := (xBd (f_X6_checkPiece l1) (fun e9 => some (Sum.inl e9, pmm, psk, ppk)) (fun _ => (if inB l1 6 = true then (if inB l1 6 = true then ((f_X1_allowMirror l2).bind fun q4 => some (Sum.inr (), va_up pmm l1.toNatClampNeg q4.1, va_up psk l1.toNatClampNeg q4.2.1, va_up ppk l1.toNatClampNeg q4.2.2)) else none) else none)))
set_option maxHeartbeats 2000000 in
set_option maxRecDepth 20000 in
theorem c_X6_mirror {l : Launch} {E : Ex} {n : Nat} {σ : AH} {x : Nat}  {pss : Nat → Nat → Int64} {pps : Nat → Nat → Int64} {phv : Nat → Nat → Int64} {poo : Nat → Nat → Int64} {pcu : Nat → Int64} {pmm : Nat → Int32} {psk : Nat → Int32} {ppk : Nat → Int32} {pkw : Nat → Int64} {psc : Nat → Int32} {ppn : Nat → Int32} {asm : Nat → Int64} {sur : Int64} {bud : Int32} {wan : Int32} {tri : Int32} {fou : Int32} {en : Int32} {eh : Int32} {cho : Nat → Int64} {at' : Nat → Int32} {pa : Nat → Int32} {mo : Nat → Int32} {le : Nat → Int32} {hd : Nat → Int32} {nt : Nat → Int32} {ct : Int32} {sts6 : Nat → Int64} {blo : Nat → Nat → Int32} {bhi : Nat → Nat → Int32} {bem : Nat → Int32} {glo : Nat → Int32} {ghi : Nat → Int32} {gem : Int32} {rlo : Nat → Int32} {rhi : Nat → Int32} {rem : Int32} {rom : Nat → Int32} {fnd : Nat → Int32} {fc : Int32} {prt : Int32} {lim : Int32} {su : Int64} {op : Int64} {l1 : Int32} {l2 : Int32} (hl0 : l.stackTraces = false) (res : ((String ⊕ Unit) × (Nat → Int32) × (Nat → Int32) × (Nat → Int32))) (hf : f_X6_mirror pmm psk ppk l1 l2 = some res) : ConX l E yX6_mirror (.code yX6_mirror cX6_mirror 3 none :: TT) ({ frames := 7, cells := 2, slots := 12, locals := 120 } : Room) 2 12 [.ref x, .int l1, .int l2] (wSh σ x pss pps phv poo pcu pmm psk ppk pkw psc ppn asm sur bud wan tri fou en eh cho at' pa mo le hd nt ct sts6 blo bhi bem glo ghi gem rlo rhi rem rom fnd fc prt lim su op) n (xrV res.1) (wSh σ x pss pps phv poo pcu res.2.1 res.2.2.1 res.2.2.2 pkw psc ppn asm sur bud wan tri fou en eh cho at' pa mo le hd nt ct sts6 blo bhi bem glo ghi gem rlo rhi rem rom fnd fc prt lim su op) := by
  refine conX_intro (by decide +kernel) (Nat.le_of_ble_eq_true rfl) ?_
  intro K C hT hKR hKL hKE hKN hKQ
  subst hKL
  subst hKE
  have C : Cx K RX6 "mirror" cX6_mirror none := C
  show G K 0 0 0 [(0, .ref x), (1, .int l1), (2, .int l2)] [] (wSh σ x pss pps phv poo pcu pmm psk ppk pkw psc ppn asm sur bud wan tri fou en eh cho at' pa mo le hd nt ct sts6 blo bhi bem glo ghi gem rlo rhi rem rom fnd fc prt lim su op) n
  unfold f_X6_mirror at hf
  refine g_iload_n C rfl (q := 1) rfl dX6_mirror_0 rfl ?_
  obtain ⟨q1, hq1, hfa, hfb⟩ := xbd hf
  rcases q1 with e9 | t9
  · obtain rfl := Option.some.inj (hfa _ rfl)
    exact g_callXS (st' := []) (as := [.int l1]) (k := 1) (mc2 := 2) (ms2 := 12) (pc' := 4) C hT ⟨wm_RX6_36, ws_X6_checkPiece, wi_RX6, wk_X6_checkPiece, by decide +kernel⟩ (c_X6_checkPiece (l := kL K) (E := kE K) hl0 _ hq1) (by rw [hKR]; exact ⟨rfl, rfl, ⟨by decide, by decide⟩, by decide, by decide⟩) rfl rfl (by simp) dX6_mirror_1 rfl (fun v e => by cases e) (fun X e => by cases e; exact hKQ) (by decide) (by decide)
  · have hf := hfb _ rfl
    refine g_callXS (st' := []) (as := [.int l1]) (k := 1) (mc2 := 2) (ms2 := 12) (pc' := 4) C hT ⟨wm_RX6_36, ws_X6_checkPiece, wi_RX6, wk_X6_checkPiece, by decide +kernel⟩ (c_X6_checkPiece (l := kL K) (E := kE K) hl0 _ hq1) (by rw [hKR]; exact ⟨rfl, rfl, ⟨by decide, by decide⟩, by decide, by decide⟩) rfl rfl (by simp) dX6_mirror_1 rfl (fun v e => ?_) (fun X e => by cases e) (by decide) (by decide)
    cases e
    show G K 1 6 4 [(0, .ref x), (1, .int l1), (2, .int l2)] [] (wSh σ x pss pps phv poo pcu pmm psk ppk pkw psc ppn asm sur bud wan tri fou en eh cho at' pa mo le hd nt ct sts6 blo bhi bem glo ghi gem rlo rhi rem rom fnd fc prt lim su op) n
    refine g_aload_n C rfl (q := 0) rfl dX6_mirror_4 rfl ?_
    refine g_get C fc_X6 0 (by decide) wf_RX6_11 (wL_at0 rfl) rfl dX6_mirror_5 rfl ?_
    refine g_iload_n C rfl (q := 1) rfl dX6_mirror_8 rfl ?_
    obtain ⟨g2, hf⟩ := gd hf
    refine g_aald C (by decide) (wL_at 1 rfl) (inB_in g2) rfl dX6_mirror_9 rfl ?_
    refine g_iload_n C rfl (q := 2) rfl dX6_mirror_10 rfl ?_
    obtain ⟨g3, hf⟩ := gd hf
    obtain ⟨q4, hq4, hf⟩ := bd hf
    refine g_heap (sh_pc_s l1.toNatClampNeg (vp_lt g3)) ?_
    refine g_callV0 (st' := []) (as := [.int l2]) (st2 := []) (k := 1) C ⟨wm_RX6_63, wn_X1_allowMirror, wv_X1_allowMirror, wi_RX1, wk_X1_allowMirror, by decide +kernel⟩ rfl (wL_at0 rfl) (c_X1_allowMirror (l := kL K) (E := kE K) (σ := (wSh σ x pss pps phv poo pcu pmm psk ppk pkw psc ppn asm sur bud wan tri fou en eh cho at' pa mo le hd nt ct sts6 blo bhi bem glo ghi gem rlo rhi rem rom fnd fc prt lim su op)) (a := x + 1 + (1 + 5 * l1.toNatClampNeg)) _ hq4) (by rw [hKR]; exact ⟨rfl, rfl, ⟨by decide, by decide⟩, by decide, by decide⟩) rfl rfl (by simp) rfl dX6_mirror_11 rfl ?_
    refine g_heap (h' := (wSh σ x pss pps phv poo pcu (va_up pmm l1.toNatClampNeg q4.1) (va_up psk l1.toNatClampNeg q4.2.1) (va_up ppk l1.toNatClampNeg q4.2.2) pkw psc ppn asm sur bud wan tri fou en eh cho at' pa mo le hd nt ct sts6 blo bhi bem glo ghi gem rlo rhi rem rom fnd fc prt lim su op)) (by rw [sh_pc_r l1.toNatClampNeg (vp_lt g3)]; simp only [va_up_id]) ?_
    obtain rfl := Option.some.inj hf
    exact g_xvret C hKQ (by decide) (by decide) dX6_mirror_14
def f_X6_shapes (fu : Nat) (pss : Nat → Nat → Int64) (pcu : Nat → Int64) (pmm : Nat → Int32) (psk : Nat → Int32) (psc : Nat → Int32) (l1 : Int32) : Option ((String ⊕ Int32) × (Nat → Nat → Int64) × (Nat → Int32) × (Nat → Int32)) := (xBd (f_X6_checkPiece l1) (fun e9 => some (Sum.inl e9, pss, psk, psc)) (fun _ => (if inB l1 6 = true then (if inB l1 6 = true then ((f_X1_countShapes fu (pss l1.toNatClampNeg) (pcu l1.toNatClampNeg) (pmm l1.toNatClampNeg) (psk l1.toNatClampNeg) (psc l1.toNatClampNeg)).bind fun q4 => some (Sum.inr q4.1, va_up pss l1.toNatClampNeg q4.2.1, va_up psk l1.toNatClampNeg q4.2.2.1, va_up psc l1.toNatClampNeg q4.2.2.2)) else none) else none)))
set_option maxHeartbeats 2000000 in
set_option maxRecDepth 20000 in
theorem c_X6_shapes {l : Launch} {E : Ex} {n : Nat} {σ : AH} {x : Nat}  {pss : Nat → Nat → Int64} {pps : Nat → Nat → Int64} {phv : Nat → Nat → Int64} {poo : Nat → Nat → Int64} {pcu : Nat → Int64} {pmm : Nat → Int32} {psk : Nat → Int32} {ppk : Nat → Int32} {pkw : Nat → Int64} {psc : Nat → Int32} {ppn : Nat → Int32} {asm : Nat → Int64} {sur : Int64} {bud : Int32} {wan : Int32} {tri : Int32} {fou : Int32} {en : Int32} {eh : Int32} {cho : Nat → Int64} {at' : Nat → Int32} {pa : Nat → Int32} {mo : Nat → Int32} {le : Nat → Int32} {hd : Nat → Int32} {nt : Nat → Int32} {ct : Int32} {sts6 : Nat → Int64} {blo : Nat → Nat → Int32} {bhi : Nat → Nat → Int32} {bem : Nat → Int32} {glo : Nat → Int32} {ghi : Nat → Int32} {gem : Int32} {rlo : Nat → Int32} {rhi : Nat → Int32} {rem : Int32} {rom : Nat → Int32} {fnd : Nat → Int32} {fc : Int32} {prt : Int32} {lim : Int32} {su : Int64} {op : Int64} {l1 : Int32} {fu : Nat} (hl0 : l.stackTraces = false) (res : ((String ⊕ Int32) × (Nat → Nat → Int64) × (Nat → Int32) × (Nat → Int32))) (hf : f_X6_shapes fu pss pcu pmm psk psc l1 = some res) : ConX l E yX6_shapes (.code yX6_shapes cX6_shapes 2 (some .int) :: TT) ({ frames := 7, cells := 2, slots := 12, locals := 120 } : Room) 2 12 [.ref x, .int l1] (wSh σ x pss pps phv poo pcu pmm psk ppk pkw psc ppn asm sur bud wan tri fou en eh cho at' pa mo le hd nt ct sts6 blo bhi bem glo ghi gem rlo rhi rem rom fnd fc prt lim su op) n (xrI res.1) (wSh σ x res.2.1 pps phv poo pcu pmm res.2.2.1 ppk pkw res.2.2.2 ppn asm sur bud wan tri fou en eh cho at' pa mo le hd nt ct sts6 blo bhi bem glo ghi gem rlo rhi rem rom fnd fc prt lim su op) := by
  refine conX_intro (by decide +kernel) (Nat.le_of_ble_eq_true rfl) ?_
  intro K C hT hKR hKL hKE hKN hKQ
  subst hKL
  subst hKE
  have C : Cx K RX6 "shapes" cX6_shapes (some .int) := C
  show G K 0 0 0 [(0, .ref x), (1, .int l1)] [] (wSh σ x pss pps phv poo pcu pmm psk ppk pkw psc ppn asm sur bud wan tri fou en eh cho at' pa mo le hd nt ct sts6 blo bhi bem glo ghi gem rlo rhi rem rom fnd fc prt lim su op) n
  unfold f_X6_shapes at hf
  refine g_iload_n C rfl (q := 1) rfl dX6_shapes_0 rfl ?_
  obtain ⟨q1, hq1, hfa, hfb⟩ := xbd hf
  rcases q1 with e9 | t9
  · obtain rfl := Option.some.inj (hfa _ rfl)
    exact g_callXS (st' := []) (as := [.int l1]) (k := 1) (mc2 := 2) (ms2 := 12) (pc' := 4) C hT ⟨wm_RX6_36, ws_X6_checkPiece, wi_RX6, wk_X6_checkPiece, by decide +kernel⟩ (c_X6_checkPiece (l := kL K) (E := kE K) hl0 _ hq1) (by rw [hKR]; exact ⟨rfl, rfl, ⟨by decide, by decide⟩, by decide, by decide⟩) rfl rfl (by simp) dX6_shapes_1 rfl (fun v e => by cases e) (fun X e => by cases e; exact hKQ) (by decide) (by decide)
  · have hf := hfb _ rfl
    refine g_callXS (st' := []) (as := [.int l1]) (k := 1) (mc2 := 2) (ms2 := 12) (pc' := 4) C hT ⟨wm_RX6_36, ws_X6_checkPiece, wi_RX6, wk_X6_checkPiece, by decide +kernel⟩ (c_X6_checkPiece (l := kL K) (E := kE K) hl0 _ hq1) (by rw [hKR]; exact ⟨rfl, rfl, ⟨by decide, by decide⟩, by decide, by decide⟩) rfl rfl (by simp) dX6_shapes_1 rfl (fun v e => ?_) (fun X e => by cases e) (by decide) (by decide)
    cases e
    show G K 1 6 4 [(0, .ref x), (1, .int l1)] [] (wSh σ x pss pps phv poo pcu pmm psk ppk pkw psc ppn asm sur bud wan tri fou en eh cho at' pa mo le hd nt ct sts6 blo bhi bem glo ghi gem rlo rhi rem rom fnd fc prt lim su op) n
    refine g_aload_n C rfl (q := 0) rfl dX6_shapes_4 rfl ?_
    refine g_get C fc_X6 0 (by decide) wf_RX6_11 (wL_at0 rfl) rfl dX6_shapes_5 rfl ?_
    refine g_iload_n C rfl (q := 1) rfl dX6_shapes_8 rfl ?_
    obtain ⟨g2, hf⟩ := gd hf
    refine g_aald C (by decide) (wL_at 1 rfl) (inB_in g2) rfl dX6_shapes_9 rfl ?_
    obtain ⟨g3, hf⟩ := gd hf
    obtain ⟨q4, hq4, hf⟩ := bd hf
    refine g_heap (sh_pc_s l1.toNatClampNeg (vp_lt g3)) ?_
    refine g_callV0 (st' := []) (as := []) (st2 := [.int q4.1]) (k := 0) C ⟨wm_RX6_67, wn_X1_countShapes, wv_X1_countShapes, wi_RX1, wk_X1_countShapes, by decide +kernel⟩ rfl (wL_at0 rfl) (c_X1_countShapes (l := kL K) (E := kE K) (σ := (wSh σ x pss pps phv poo pcu pmm psk ppk pkw psc ppn asm sur bud wan tri fou en eh cho at' pa mo le hd nt ct sts6 blo bhi bem glo ghi gem rlo rhi rem rom fnd fc prt lim su op)) (a := x + 1 + (1 + 5 * l1.toNatClampNeg)) _ hq4) (by rw [hKR]; exact ⟨rfl, rfl, ⟨by decide, by decide⟩, by decide, by decide⟩) rfl rfl (by simp) rfl dX6_shapes_10 rfl ?_
    refine g_heap (h' := (wSh σ x (va_up pss l1.toNatClampNeg q4.2.1) pps phv poo pcu pmm (va_up psk l1.toNatClampNeg q4.2.2.1) ppk pkw (va_up psc l1.toNatClampNeg q4.2.2.2) ppn asm sur bud wan tri fou en eh cho at' pa mo le hd nt ct sts6 blo bhi bem glo ghi gem rlo rhi rem rom fnd fc prt lim su op)) (by rw [sh_pc_r l1.toNatClampNeg (vp_lt g3)]; simp only [va_up_id]) ?_
    obtain rfl := Option.some.inj hf
    exact g_xiret C hKQ (by decide) (by decide) dX6_shapes_13
def f_X6_shape (fu : Nat) (pss : Nat → Nat → Int64) (pcu : Nat → Int64) (pmm : Nat → Int32) (psk : Nat → Int32) (psc : Nat → Int32) (l1 : Int32) (l2 : Int32) : Option ((String ⊕ Int64) × (Nat → Nat → Int64) × (Nat → Int32) × (Nat → Int32)) := (xBd (f_X6_checkPiece l1) (fun e9 => some (Sum.inl e9, pss, psk, psc)) (fun _ => (if l2 < 0 then some (Sum.inl x_IOB, pss, psk, psc) else (if inB l1 6 = true then (if inB l1 6 = true then ((f_X1_countShapes fu (pss l1.toNatClampNeg) (pcu l1.toNatClampNeg) (pmm l1.toNatClampNeg) (psk l1.toNatClampNeg) (psc l1.toNatClampNeg)).bind fun q5 => (if l2 < q5.1 then (if inB l1 6 = true then (if inB l1 6 = true then ((f_X1_shapeAt ((va_up pss l1.toNatClampNeg q5.2.1) l1.toNatClampNeg) l2).bind fun q9 => some (Sum.inr q9, va_up pss l1.toNatClampNeg q5.2.1, va_up psk l1.toNatClampNeg q5.2.2.1, va_up psc l1.toNatClampNeg q5.2.2.2)) else none) else none) else some (Sum.inl x_IOB, va_up pss l1.toNatClampNeg q5.2.1, va_up psk l1.toNatClampNeg q5.2.2.1, va_up psc l1.toNatClampNeg q5.2.2.2))) else none) else none))))
set_option maxHeartbeats 2000000 in
set_option maxRecDepth 20000 in
theorem c_X6_shape {l : Launch} {E : Ex} {n : Nat} {σ : AH} {x : Nat}  {pss : Nat → Nat → Int64} {pps : Nat → Nat → Int64} {phv : Nat → Nat → Int64} {poo : Nat → Nat → Int64} {pcu : Nat → Int64} {pmm : Nat → Int32} {psk : Nat → Int32} {ppk : Nat → Int32} {pkw : Nat → Int64} {psc : Nat → Int32} {ppn : Nat → Int32} {asm : Nat → Int64} {sur : Int64} {bud : Int32} {wan : Int32} {tri : Int32} {fou : Int32} {en : Int32} {eh : Int32} {cho : Nat → Int64} {at' : Nat → Int32} {pa : Nat → Int32} {mo : Nat → Int32} {le : Nat → Int32} {hd : Nat → Int32} {nt : Nat → Int32} {ct : Int32} {sts6 : Nat → Int64} {blo : Nat → Nat → Int32} {bhi : Nat → Nat → Int32} {bem : Nat → Int32} {glo : Nat → Int32} {ghi : Nat → Int32} {gem : Int32} {rlo : Nat → Int32} {rhi : Nat → Int32} {rem : Int32} {rom : Nat → Int32} {fnd : Nat → Int32} {fc : Int32} {prt : Int32} {lim : Int32} {su : Int64} {op : Int64} {l1 : Int32} {l2 : Int32} {fu : Nat} (hl0 : l.stackTraces = false) (res : ((String ⊕ Int64) × (Nat → Nat → Int64) × (Nat → Int32) × (Nat → Int32))) (hf : f_X6_shape fu pss pcu pmm psk psc l1 l2 = some res) : ConX l E yX6_shape (.code yX6_shape cX6_shape 3 (some .long) :: TT) ({ frames := 7, cells := 2, slots := 12, locals := 120 } : Room) 2 12 [.ref x, .int l1, .int l2] (wSh σ x pss pps phv poo pcu pmm psk ppk pkw psc ppn asm sur bud wan tri fou en eh cho at' pa mo le hd nt ct sts6 blo bhi bem glo ghi gem rlo rhi rem rom fnd fc prt lim su op) n (xrL res.1) (wSh σ x res.2.1 pps phv poo pcu pmm res.2.2.1 ppk pkw res.2.2.2 ppn asm sur bud wan tri fou en eh cho at' pa mo le hd nt ct sts6 blo bhi bem glo ghi gem rlo rhi rem rom fnd fc prt lim su op) := by
  refine conX_intro (by decide +kernel) (Nat.le_of_ble_eq_true rfl) ?_
  intro K C hT hKR hKL hKE hKN hKQ
  subst hKL
  subst hKE
  have C : Cx K RX6 "shape" cX6_shape (some .long) := C
  show G K 0 0 0 [(0, .ref x), (1, .int l1), (2, .int l2)] [] (wSh σ x pss pps phv poo pcu pmm psk ppk pkw psc ppn asm sur bud wan tri fou en eh cho at' pa mo le hd nt ct sts6 blo bhi bem glo ghi gem rlo rhi rem rom fnd fc prt lim su op) n
  unfold f_X6_shape at hf
  refine g_iload_n C rfl (q := 1) rfl dX6_shape_0 rfl ?_
  obtain ⟨q1, hq1, hfa, hfb⟩ := xbd hf
  rcases q1 with e9 | t9
  · obtain rfl := Option.some.inj (hfa _ rfl)
    exact g_callXS (st' := []) (as := [.int l1]) (k := 1) (mc2 := 2) (ms2 := 12) (pc' := 4) C hT ⟨wm_RX6_36, ws_X6_checkPiece, wi_RX6, wk_X6_checkPiece, by decide +kernel⟩ (c_X6_checkPiece (l := kL K) (E := kE K) hl0 _ hq1) (by rw [hKR]; exact ⟨rfl, rfl, ⟨by decide, by decide⟩, by decide, by decide⟩) rfl rfl (by simp) dX6_shape_1 rfl (fun v e => by cases e) (fun X e => by cases e; exact hKQ) (by decide) (by decide)
  · have hf := hfb _ rfl
    refine g_callXS (st' := []) (as := [.int l1]) (k := 1) (mc2 := 2) (ms2 := 12) (pc' := 4) C hT ⟨wm_RX6_36, ws_X6_checkPiece, wi_RX6, wk_X6_checkPiece, by decide +kernel⟩ (c_X6_checkPiece (l := kL K) (E := kE K) hl0 _ hq1) (by rw [hKR]; exact ⟨rfl, rfl, ⟨by decide, by decide⟩, by decide, by decide⟩) rfl rfl (by simp) dX6_shape_1 rfl (fun v e => ?_) (fun X e => by cases e) (by decide) (by decide)
    cases e
    show G K 1 6 4 [(0, .ref x), (1, .int l1), (2, .int l2)] [] (wSh σ x pss pps phv poo pcu pmm psk ppk pkw psc ppn asm sur bud wan tri fou en eh cho at' pa mo le hd nt ct sts6 blo bhi bem glo ghi gem rlo rhi rem rom fnd fc prt lim su op) n
    refine g_iload_n C rfl (q := 2) rfl dX6_shape_4 rfl ?_
    refine g_if_lt (tgt := 21) C dX6_shape_5 (by decide) rfl (fun c2 => ?_) (fun c2 => ?_)
    · replace hf := ift c2 hf
      obtain rfl := Option.some.inj hf
      exact g_throw (X := x_IOB) (ik := 70) (is := 72) (ic := 74) (text := "no such shape") C hT hl0 (Or.inr (Or.inr rfl)) wl_RX6_70 wi_x_IOB (by decide +kernel) (by decide +kernel) (by decide +kernel) (by decide +kernel) (by decide +kernel) dX6_shape_21 dX6_shape_24 dX6_shape_25 dX6_shape_27 dX6_shape_30 (by rw [hKR]; decide) (by rw [hKR]; simp [Value.category]) (by rw [hKR]; decide) (by rw [hKR]; decide) hKQ (by decide) (by decide)
    · replace hf := iff' c2 hf
      refine g_iload_n C rfl (q := 2) rfl dX6_shape_8 rfl ?_
      refine g_aload_n C rfl (q := 0) rfl dX6_shape_9 rfl ?_
      refine g_get C fc_X6 0 (by decide) wf_RX6_11 (wL_at0 rfl) rfl dX6_shape_10 rfl ?_
      refine g_iload_n C rfl (q := 1) rfl dX6_shape_13 rfl ?_
      obtain ⟨g3, hf⟩ := gd hf
      refine g_aald C (by decide) (wL_at 1 rfl) (inB_in g3) rfl dX6_shape_14 rfl ?_
      obtain ⟨g4, hf⟩ := gd hf
      obtain ⟨q5, hq5, hf⟩ := bd hf
      refine g_heap (sh_pc_s l1.toNatClampNeg (vp_lt g4)) ?_
      refine g_callV0 (st' := [.int l2]) (as := []) (st2 := [.int q5.1, .int l2]) (k := 0) C ⟨wm_RX6_67, wn_X1_countShapes, wv_X1_countShapes, wi_RX1, wk_X1_countShapes, by decide +kernel⟩ rfl (wL_at0 rfl) (c_X1_countShapes (l := kL K) (E := kE K) (σ := (wSh σ x pss pps phv poo pcu pmm psk ppk pkw psc ppn asm sur bud wan tri fou en eh cho at' pa mo le hd nt ct sts6 blo bhi bem glo ghi gem rlo rhi rem rom fnd fc prt lim su op)) (a := x + 1 + (1 + 5 * l1.toNatClampNeg)) _ hq5) (by rw [hKR]; exact ⟨rfl, rfl, ⟨by decide, by decide⟩, by decide, by decide⟩) rfl rfl (by simp [Value.category]) rfl dX6_shape_15 rfl ?_
      refine g_heap (h' := (wSh σ x (va_up pss l1.toNatClampNeg q5.2.1) pps phv poo pcu pmm (va_up psk l1.toNatClampNeg q5.2.2.1) ppk pkw (va_up psc l1.toNatClampNeg q5.2.2.2) ppn asm sur bud wan tri fou en eh cho at' pa mo le hd nt ct sts6 blo bhi bem glo ghi gem rlo rhi rem rom fnd fc prt lim su op)) (by rw [sh_pc_r l1.toNatClampNeg (vp_lt g4)]; simp only [va_up_id]) ?_
      refine g_icmp_lt (tgt := 31) C dX6_shape_18 (by decide) rfl (fun c6 => ?_) (fun c6 => ?_)
      · replace hf := ift c6 hf
        refine g_aload_n C rfl (q := 0) rfl dX6_shape_31 rfl ?_
        refine g_get C fc_X6 0 (by decide) wf_RX6_11 (wL_at0 rfl) rfl dX6_shape_32 rfl ?_
        refine g_iload_n C rfl (q := 1) rfl dX6_shape_35 rfl ?_
        obtain ⟨g7, hf⟩ := gd hf
        refine g_aald C (by decide) (wL_at 1 rfl) (inB_in g7) rfl dX6_shape_36 rfl ?_
        refine g_iload_n C rfl (q := 2) rfl dX6_shape_37 rfl ?_
        obtain ⟨g8, hf⟩ := gd hf
        obtain ⟨q9, hq9, hf⟩ := bd hf
        refine g_heap (sh_pc_s l1.toNatClampNeg (vp_lt g8)) ?_
        refine g_callV0 (st' := []) (as := [.int l2]) (st2 := [.long q9]) (k := 1) C ⟨wm_RX6_75, wn_X1_shapeAt, wv_X1_shapeAt, wi_RX1, wk_X1_shapeAt, by decide +kernel⟩ rfl (wL_at0 rfl) (c_X1_shapeAt (l := kL K) (E := kE K) (σ := (wSh σ x (va_up pss l1.toNatClampNeg q5.2.1) pps phv poo pcu pmm (va_up psk l1.toNatClampNeg q5.2.2.1) ppk pkw (va_up psc l1.toNatClampNeg q5.2.2.2) ppn asm sur bud wan tri fou en eh cho at' pa mo le hd nt ct sts6 blo bhi bem glo ghi gem rlo rhi rem rom fnd fc prt lim su op)) (a := x + 1 + (1 + 5 * l1.toNatClampNeg)) _ hq9) (by rw [hKR]; exact ⟨rfl, rfl, ⟨by decide, by decide⟩, by decide, by decide⟩) rfl rfl (by simp) rfl dX6_shape_38 rfl ?_
        refine g_heap (h' := (wSh σ x (va_up pss l1.toNatClampNeg q5.2.1) pps phv poo pcu pmm (va_up psk l1.toNatClampNeg q5.2.2.1) ppk pkw (va_up psc l1.toNatClampNeg q5.2.2.2) ppn asm sur bud wan tri fou en eh cho at' pa mo le hd nt ct sts6 blo bhi bem glo ghi gem rlo rhi rem rom fnd fc prt lim su op)) (by rw [sh_pc_r l1.toNatClampNeg (vp_lt g8)]; simp only [va_up_id]) ?_
        obtain rfl := Option.some.inj hf
        exact g_xlret C hKQ (by decide) (by decide) dX6_shape_41
      · replace hf := iff' c6 hf
        obtain rfl := Option.some.inj hf
        exact g_throw (X := x_IOB) (ik := 70) (is := 72) (ic := 74) (text := "no such shape") C hT hl0 (Or.inr (Or.inr rfl)) wl_RX6_70 wi_x_IOB (by decide +kernel) (by decide +kernel) (by decide +kernel) (by decide +kernel) (by decide +kernel) dX6_shape_21 dX6_shape_24 dX6_shape_25 dX6_shape_27 dX6_shape_30 (by rw [hKR]; decide) (by rw [hKR]; simp [Value.category]) (by rw [hKR]; decide) (by rw [hKR]; decide) hKQ (by decide) (by decide)
def f_X6_target (su : Int64) (op : Int64) (l1 : Int32) (l2 : Int32) : Option ((String ⊕ Unit) × Int64 × Int64) := (xBd (f_X6_checkCell l1) (fun e9 => some (Sum.inl e9, su, op)) (fun _ => (if l2 < 0 then some (Sum.inl x_IAE, su, op) else (if l2 ≤ (2 : Int32) then (if l2 = (1 : Int32) then (if l2 = (2 : Int32) then some (Sum.inr (), su ||| ((1 : Int64) <<< (l1.toInt64 &&& 63)), op ||| ((1 : Int64) <<< (l1.toInt64 &&& 63))) else some (Sum.inr (), su ||| ((1 : Int64) <<< (l1.toInt64 &&& 63)), op &&& (((1 : Int64) <<< (l1.toInt64 &&& 63)) ^^^ (-1 : Int64)))) else (if l2 = (2 : Int32) then some (Sum.inr (), su &&& (((1 : Int64) <<< (l1.toInt64 &&& 63)) ^^^ (-1 : Int64)), op ||| ((1 : Int64) <<< (l1.toInt64 &&& 63))) else some (Sum.inr (), su &&& (((1 : Int64) <<< (l1.toInt64 &&& 63)) ^^^ (-1 : Int64)), op &&& (((1 : Int64) <<< (l1.toInt64 &&& 63)) ^^^ (-1 : Int64))))) else some (Sum.inl x_IAE, su, op)))))
set_option maxHeartbeats 2000000 in
set_option maxRecDepth 20000 in
theorem c_X6_target {l : Launch} {E : Ex} {n : Nat} {σ : AH} {x : Nat}  {pss : Nat → Nat → Int64} {pps : Nat → Nat → Int64} {phv : Nat → Nat → Int64} {poo : Nat → Nat → Int64} {pcu : Nat → Int64} {pmm : Nat → Int32} {psk : Nat → Int32} {ppk : Nat → Int32} {pkw : Nat → Int64} {psc : Nat → Int32} {ppn : Nat → Int32} {asm : Nat → Int64} {sur : Int64} {bud : Int32} {wan : Int32} {tri : Int32} {fou : Int32} {en : Int32} {eh : Int32} {cho : Nat → Int64} {at' : Nat → Int32} {pa : Nat → Int32} {mo : Nat → Int32} {le : Nat → Int32} {hd : Nat → Int32} {nt : Nat → Int32} {ct : Int32} {sts6 : Nat → Int64} {blo : Nat → Nat → Int32} {bhi : Nat → Nat → Int32} {bem : Nat → Int32} {glo : Nat → Int32} {ghi : Nat → Int32} {gem : Int32} {rlo : Nat → Int32} {rhi : Nat → Int32} {rem : Int32} {rom : Nat → Int32} {fnd : Nat → Int32} {fc : Int32} {prt : Int32} {lim : Int32} {su : Int64} {op : Int64} {l1 : Int32} {l2 : Int32} (hl0 : l.stackTraces = false) (res : ((String ⊕ Unit) × Int64 × Int64)) (hf : f_X6_target su op l1 l2 = some res) : ConX l E yX6_target (.code yX6_target cX6_target 5 none :: TT) ({ frames := 7, cells := 2, slots := 12, locals := 120 } : Room) 2 12 [.ref x, .int l1, .int l2] (wSh σ x pss pps phv poo pcu pmm psk ppk pkw psc ppn asm sur bud wan tri fou en eh cho at' pa mo le hd nt ct sts6 blo bhi bem glo ghi gem rlo rhi rem rom fnd fc prt lim su op) n (xrV res.1) (wSh σ x pss pps phv poo pcu pmm psk ppk pkw psc ppn asm sur bud wan tri fou en eh cho at' pa mo le hd nt ct sts6 blo bhi bem glo ghi gem rlo rhi rem rom fnd fc prt lim res.2.1 res.2.2) := by
  refine conX_intro (by decide +kernel) (Nat.le_of_ble_eq_true rfl) ?_
  intro K C hT hKR hKL hKE hKN hKQ
  subst hKL
  subst hKE
  have C : Cx K RX6 "target" cX6_target none := C
  show G K 0 0 0 [(0, .ref x), (1, .int l1), (2, .int l2)] [] (wSh σ x pss pps phv poo pcu pmm psk ppk pkw psc ppn asm sur bud wan tri fou en eh cho at' pa mo le hd nt ct sts6 blo bhi bem glo ghi gem rlo rhi rem rom fnd fc prt lim su op) n
  unfold f_X6_target at hf
  refine g_iload_n C rfl (q := 1) rfl dX6_target_0 rfl ?_
  obtain ⟨q1, hq1, hfa, hfb⟩ := xbd hf
  rcases q1 with e9 | t9
  · obtain rfl := Option.some.inj (hfa _ rfl)
    exact g_callXS (st' := []) (as := [.int l1]) (k := 1) (mc2 := 2) (ms2 := 12) (pc' := 4) C hT ⟨wm_RX6_40, ws_X6_checkCell, wi_RX6, wk_X6_checkCell, by decide +kernel⟩ (c_X6_checkCell (l := kL K) (E := kE K) hl0 _ hq1) (by rw [hKR]; exact ⟨rfl, rfl, ⟨by decide, by decide⟩, by decide, by decide⟩) rfl rfl (by simp) dX6_target_1 rfl (fun v e => by cases e) (fun X e => by cases e; exact hKQ) (by decide) (by decide)
  · have hf := hfb _ rfl
    refine g_callXS (st' := []) (as := [.int l1]) (k := 1) (mc2 := 2) (ms2 := 12) (pc' := 4) C hT ⟨wm_RX6_40, ws_X6_checkCell, wi_RX6, wk_X6_checkCell, by decide +kernel⟩ (c_X6_checkCell (l := kL K) (E := kE K) hl0 _ hq1) (by rw [hKR]; exact ⟨rfl, rfl, ⟨by decide, by decide⟩, by decide, by decide⟩) rfl rfl (by simp) dX6_target_1 rfl (fun v e => ?_) (fun X e => by cases e) (by decide) (by decide)
    cases e
    show G K 1 6 4 [(0, .ref x), (1, .int l1), (2, .int l2)] [] (wSh σ x pss pps phv poo pcu pmm psk ppk pkw psc ppn asm sur bud wan tri fou en eh cho at' pa mo le hd nt ct sts6 blo bhi bem glo ghi gem rlo rhi rem rom fnd fc prt lim su op) n
    refine g_iload_n C rfl (q := 2) rfl dX6_target_4 rfl ?_
    refine g_if_lt (tgt := 13) C dX6_target_5 (by decide) rfl (fun c2 => ?_) (fun c2 => ?_)
    · replace hf := ift c2 hf
      obtain rfl := Option.some.inj hf
      exact g_throw (X := x_IAE) (ik := 79) (is := 81) (ic := 83) (text := "no such kind") C hT hl0 (Or.inl rfl) wl_RX6_79 wi_x_IAE (by decide +kernel) (by decide +kernel) (by decide +kernel) (by decide +kernel) (by decide +kernel) dX6_target_13 dX6_target_16 dX6_target_17 dX6_target_19 dX6_target_22 (by rw [hKR]; decide) (by rw [hKR]; simp [Value.category]) (by rw [hKR]; decide) (by rw [hKR]; decide) hKQ (by decide) (by decide)
    · replace hf := iff' c2 hf
      refine g_iload_n C rfl (q := 2) rfl dX6_target_8 rfl ?_
      refine g_iconst (v := 2) C (by decide) dX6_target_9 rfl ?_
      refine g_icmp_le (tgt := 23) C dX6_target_10 (by decide) rfl (fun c3 => ?_) (fun c3 => ?_)
      · replace hf := ift c3 hf
        refine g_lconst (v := 1) C (by decide) dX6_target_23 rfl ?_
        refine g_iload_n C rfl (q := 1) rfl dX6_target_24 rfl ?_
        refine g_lshl C dX6_target_25 rfl ?_
        refine g_lstore_n (i := 3) (lv' := [(3, .long ((1 : Int64) <<< (l1.toInt64 &&& 63))), (0, .ref x), (1, .int l1), (2, .int l2)]) C dX6_target_26 rfl rfl (by rw [hKN]; decide) rfl ?_
        refine g_aload_n C rfl (q := 1) rfl dX6_target_27 rfl ?_
        refine g_iload_n C rfl (q := 3) rfl dX6_target_28 rfl ?_
        refine g_iconst (v := 1) C (by decide) dX6_target_29 rfl ?_
        refine g_icmp_ne (tgt := 42) C dX6_target_30 (by decide) rfl (fun c4 => ?_) (fun c4 => ?_)
        · replace hf := iff' c4 hf
          refine g_aload_n C rfl (q := 1) rfl dX6_target_42 rfl ?_
          refine g_get C fc_X6 4 (by decide) wf_RX6_84 (wL_at0 rfl) rfl dX6_target_43 rfl ?_
          refine g_lload_n C rfl (q := 0) rfl dX6_target_46 rfl ?_
          refine g_ldc2 C wc_RX6_88 dX6_target_47 rfl ?_
          refine g_lxor C dX6_target_50 rfl ?_
          refine g_land C dX6_target_51 rfl ?_
          refine g_put (h' := (wSh σ x pss pps phv poo pcu pmm psk ppk pkw psc ppn asm sur bud wan tri fou en eh cho at' pa mo le hd nt ct sts6 blo bhi bem glo ghi gem rlo rhi rem rom fnd fc prt lim (su &&& (((1 : Int64) <<< (l1.toInt64 &&& 63)) ^^^ (-1 : Int64))) op)) C fc_X6 4 (by decide) wf_RX6_84 rfl rfl rfl (Nat.le_of_ble_eq_true rfl) (wL_at0 rfl) (wL_up0 (Nat.le_of_ble_eq_true rfl) rfl) dX6_target_52 rfl ?_
          refine g_aload_n C rfl (q := 1) rfl dX6_target_55 rfl ?_
          refine g_iload_n C rfl (q := 3) rfl dX6_target_56 rfl ?_
          refine g_iconst (v := 2) C (by decide) dX6_target_57 rfl ?_
          refine g_icmp_ne (tgt := 70) C dX6_target_58 (by decide) rfl (fun c5 => ?_) (fun c5 => ?_)
          · replace hf := iff' c5 hf
            refine g_aload_n C rfl (q := 1) rfl dX6_target_70 rfl ?_
            refine g_get C fc_X6 5 (by decide) wf_RX6_90 (wL_at0 rfl) rfl dX6_target_71 rfl ?_
            refine g_lload_n C rfl (q := 0) rfl dX6_target_74 rfl ?_
            refine g_ldc2 C wc_RX6_88 dX6_target_75 rfl ?_
            refine g_lxor C dX6_target_78 rfl ?_
            refine g_land C dX6_target_79 rfl ?_
            refine g_put (h' := (wSh σ x pss pps phv poo pcu pmm psk ppk pkw psc ppn asm sur bud wan tri fou en eh cho at' pa mo le hd nt ct sts6 blo bhi bem glo ghi gem rlo rhi rem rom fnd fc prt lim (su &&& (((1 : Int64) <<< (l1.toInt64 &&& 63)) ^^^ (-1 : Int64))) (op &&& (((1 : Int64) <<< (l1.toInt64 &&& 63)) ^^^ (-1 : Int64))))) C fc_X6 5 (by decide) wf_RX6_90 rfl rfl rfl (Nat.le_of_ble_eq_true rfl) (wL_at0 rfl) (wL_up0 (Nat.le_of_ble_eq_true rfl) rfl) dX6_target_80 rfl ?_
            obtain rfl := Option.some.inj hf
            exact g_xvret C hKQ (by decide) (by decide) dX6_target_83
          · replace hf := ift c5 hf
            refine g_aload_n C rfl (q := 1) rfl dX6_target_61 rfl ?_
            refine g_get C fc_X6 5 (by decide) wf_RX6_90 (wL_at0 rfl) rfl dX6_target_62 rfl ?_
            refine g_lload_n C rfl (q := 0) rfl dX6_target_65 rfl ?_
            refine g_lor C dX6_target_66 rfl ?_
            refine g_goto (pc' := 80) C dX6_target_67 (by decide) ?_
            refine g_put (h' := (wSh σ x pss pps phv poo pcu pmm psk ppk pkw psc ppn asm sur bud wan tri fou en eh cho at' pa mo le hd nt ct sts6 blo bhi bem glo ghi gem rlo rhi rem rom fnd fc prt lim (su &&& (((1 : Int64) <<< (l1.toInt64 &&& 63)) ^^^ (-1 : Int64))) (op ||| ((1 : Int64) <<< (l1.toInt64 &&& 63))))) C fc_X6 5 (by decide) wf_RX6_90 rfl rfl rfl (Nat.le_of_ble_eq_true rfl) (wL_at0 rfl) (wL_up0 (Nat.le_of_ble_eq_true rfl) rfl) dX6_target_80 rfl ?_
            obtain rfl := Option.some.inj hf
            exact g_xvret C hKQ (by decide) (by decide) dX6_target_83
        · replace hf := ift c4 hf
          refine g_aload_n C rfl (q := 1) rfl dX6_target_33 rfl ?_
          refine g_get C fc_X6 4 (by decide) wf_RX6_84 (wL_at0 rfl) rfl dX6_target_34 rfl ?_
          refine g_lload_n C rfl (q := 0) rfl dX6_target_37 rfl ?_
          refine g_lor C dX6_target_38 rfl ?_
          refine g_goto (pc' := 52) C dX6_target_39 (by decide) ?_
          refine g_put (h' := (wSh σ x pss pps phv poo pcu pmm psk ppk pkw psc ppn asm sur bud wan tri fou en eh cho at' pa mo le hd nt ct sts6 blo bhi bem glo ghi gem rlo rhi rem rom fnd fc prt lim (su ||| ((1 : Int64) <<< (l1.toInt64 &&& 63))) op)) C fc_X6 4 (by decide) wf_RX6_84 rfl rfl rfl (Nat.le_of_ble_eq_true rfl) (wL_at0 rfl) (wL_up0 (Nat.le_of_ble_eq_true rfl) rfl) dX6_target_52 rfl ?_
          refine g_aload_n C rfl (q := 1) rfl dX6_target_55 rfl ?_
          refine g_iload_n C rfl (q := 3) rfl dX6_target_56 rfl ?_
          refine g_iconst (v := 2) C (by decide) dX6_target_57 rfl ?_
          refine g_icmp_ne (tgt := 70) C dX6_target_58 (by decide) rfl (fun c6 => ?_) (fun c6 => ?_)
          · replace hf := iff' c6 hf
            refine g_aload_n C rfl (q := 1) rfl dX6_target_70 rfl ?_
            refine g_get C fc_X6 5 (by decide) wf_RX6_90 (wL_at0 rfl) rfl dX6_target_71 rfl ?_
            refine g_lload_n C rfl (q := 0) rfl dX6_target_74 rfl ?_
            refine g_ldc2 C wc_RX6_88 dX6_target_75 rfl ?_
            refine g_lxor C dX6_target_78 rfl ?_
            refine g_land C dX6_target_79 rfl ?_
            refine g_put (h' := (wSh σ x pss pps phv poo pcu pmm psk ppk pkw psc ppn asm sur bud wan tri fou en eh cho at' pa mo le hd nt ct sts6 blo bhi bem glo ghi gem rlo rhi rem rom fnd fc prt lim (su ||| ((1 : Int64) <<< (l1.toInt64 &&& 63))) (op &&& (((1 : Int64) <<< (l1.toInt64 &&& 63)) ^^^ (-1 : Int64))))) C fc_X6 5 (by decide) wf_RX6_90 rfl rfl rfl (Nat.le_of_ble_eq_true rfl) (wL_at0 rfl) (wL_up0 (Nat.le_of_ble_eq_true rfl) rfl) dX6_target_80 rfl ?_
            obtain rfl := Option.some.inj hf
            exact g_xvret C hKQ (by decide) (by decide) dX6_target_83
          · replace hf := ift c6 hf
            refine g_aload_n C rfl (q := 1) rfl dX6_target_61 rfl ?_
            refine g_get C fc_X6 5 (by decide) wf_RX6_90 (wL_at0 rfl) rfl dX6_target_62 rfl ?_
            refine g_lload_n C rfl (q := 0) rfl dX6_target_65 rfl ?_
            refine g_lor C dX6_target_66 rfl ?_
            refine g_goto (pc' := 80) C dX6_target_67 (by decide) ?_
            refine g_put (h' := (wSh σ x pss pps phv poo pcu pmm psk ppk pkw psc ppn asm sur bud wan tri fou en eh cho at' pa mo le hd nt ct sts6 blo bhi bem glo ghi gem rlo rhi rem rom fnd fc prt lim (su ||| ((1 : Int64) <<< (l1.toInt64 &&& 63))) (op ||| ((1 : Int64) <<< (l1.toInt64 &&& 63))))) C fc_X6 5 (by decide) wf_RX6_90 rfl rfl rfl (Nat.le_of_ble_eq_true rfl) (wL_at0 rfl) (wL_up0 (Nat.le_of_ble_eq_true rfl) rfl) dX6_target_80 rfl ?_
            obtain rfl := Option.some.inj hf
            exact g_xvret C hKQ (by decide) (by decide) dX6_target_83
      · replace hf := iff' c3 hf
        obtain rfl := Option.some.inj hf
        exact g_throw (X := x_IAE) (ik := 79) (is := 81) (ic := 83) (text := "no such kind") C hT hl0 (Or.inl rfl) wl_RX6_79 wi_x_IAE (by decide +kernel) (by decide +kernel) (by decide +kernel) (by decide +kernel) (by decide +kernel) dX6_target_13 dX6_target_16 dX6_target_17 dX6_target_19 dX6_target_22 (by rw [hKR]; decide) (by rw [hKR]; simp [Value.category]) (by rw [hKR]; decide) (by rw [hKR]; decide) hKQ (by decide) (by decide)
def f_X6_places (fu : Nat) (pss : Nat → Nat → Int64) (pps : Nat → Nat → Int64) (phv : Nat → Nat → Int64) (poo : Nat → Nat → Int64) (pcu : Nat → Int64) (pmm : Nat → Int32) (psk : Nat → Int32) (ppk : Nat → Int32) (pkw : Nat → Int64) (psc : Nat → Int32) (ppn : Nat → Int32) (su : Int64) (op : Int64) (l1 : Int32) : Option ((String ⊕ Int32) × (Nat → Nat → Int64) × (Nat → Nat → Int64) × (Nat → Nat → Int64) × (Nat → Nat → Int64) × (Nat → Int32) × (Nat → Int32) × (Nat → Int64) × (Nat → Int32) × (Nat → Int32)) := (xBd (f_X6_checkPiece l1) (fun e9 => some (Sum.inl e9, pss, pps, phv, poo, psk, ppk, pkw, psc, ppn)) (fun _ => (if inB l1 6 = true then (if inB l1 6 = true then ((f_X1_learnPlaces fu (pss l1.toNatClampNeg) (pps l1.toNatClampNeg) (phv l1.toNatClampNeg) (poo l1.toNatClampNeg) (pcu l1.toNatClampNeg) (pmm l1.toNatClampNeg) (psk l1.toNatClampNeg) (ppk l1.toNatClampNeg) (pkw l1.toNatClampNeg) (psc l1.toNatClampNeg) (ppn l1.toNatClampNeg) (su ||| op)).bind fun q4 => (if inB l1 6 = true then (if inB l1 6 = true then ((f_X1_countPlaces ((va_up ppn l1.toNatClampNeg q4.2.2.2.2.2.2.2.2) l1.toNatClampNeg)).bind fun q7 => some (Sum.inr q7, va_up pss l1.toNatClampNeg q4.1, va_up pps l1.toNatClampNeg q4.2.1, va_up phv l1.toNatClampNeg q4.2.2.1, va_up poo l1.toNatClampNeg q4.2.2.2.1, va_up psk l1.toNatClampNeg q4.2.2.2.2.1, va_up ppk l1.toNatClampNeg q4.2.2.2.2.2.1, va_up pkw l1.toNatClampNeg q4.2.2.2.2.2.2.1, va_up psc l1.toNatClampNeg q4.2.2.2.2.2.2.2.1, va_up ppn l1.toNatClampNeg q4.2.2.2.2.2.2.2.2)) else none) else none)) else none) else none)))
set_option maxHeartbeats 2000000 in
set_option maxRecDepth 20000 in
theorem c_X6_places {l : Launch} {E : Ex} {n : Nat} {σ : AH} {x : Nat}  {pss : Nat → Nat → Int64} {pps : Nat → Nat → Int64} {phv : Nat → Nat → Int64} {poo : Nat → Nat → Int64} {pcu : Nat → Int64} {pmm : Nat → Int32} {psk : Nat → Int32} {ppk : Nat → Int32} {pkw : Nat → Int64} {psc : Nat → Int32} {ppn : Nat → Int32} {asm : Nat → Int64} {sur : Int64} {bud : Int32} {wan : Int32} {tri : Int32} {fou : Int32} {en : Int32} {eh : Int32} {cho : Nat → Int64} {at' : Nat → Int32} {pa : Nat → Int32} {mo : Nat → Int32} {le : Nat → Int32} {hd : Nat → Int32} {nt : Nat → Int32} {ct : Int32} {sts6 : Nat → Int64} {blo : Nat → Nat → Int32} {bhi : Nat → Nat → Int32} {bem : Nat → Int32} {glo : Nat → Int32} {ghi : Nat → Int32} {gem : Int32} {rlo : Nat → Int32} {rhi : Nat → Int32} {rem : Int32} {rom : Nat → Int32} {fnd : Nat → Int32} {fc : Int32} {prt : Int32} {lim : Int32} {su : Int64} {op : Int64} {l1 : Int32} {fu : Nat} (hl0 : l.stackTraces = false) (res : ((String ⊕ Int32) × (Nat → Nat → Int64) × (Nat → Nat → Int64) × (Nat → Nat → Int64) × (Nat → Nat → Int64) × (Nat → Int32) × (Nat → Int32) × (Nat → Int64) × (Nat → Int32) × (Nat → Int32))) (hf : f_X6_places fu pss pps phv poo pcu pmm psk ppk pkw psc ppn su op l1 = some res) : ConX l E yX6_places (.code yX6_places cX6_places 2 (some .int) :: TT) ({ frames := 7, cells := 2, slots := 12, locals := 120 } : Room) 2 12 [.ref x, .int l1] (wSh σ x pss pps phv poo pcu pmm psk ppk pkw psc ppn asm sur bud wan tri fou en eh cho at' pa mo le hd nt ct sts6 blo bhi bem glo ghi gem rlo rhi rem rom fnd fc prt lim su op) n (xrI res.1) (wSh σ x res.2.1 res.2.2.1 res.2.2.2.1 res.2.2.2.2.1 pcu pmm res.2.2.2.2.2.1 res.2.2.2.2.2.2.1 res.2.2.2.2.2.2.2.1 res.2.2.2.2.2.2.2.2.1 res.2.2.2.2.2.2.2.2.2 asm sur bud wan tri fou en eh cho at' pa mo le hd nt ct sts6 blo bhi bem glo ghi gem rlo rhi rem rom fnd fc prt lim su op) := by
  refine conX_intro (by decide +kernel) (Nat.le_of_ble_eq_true rfl) ?_
  intro K C hT hKR hKL hKE hKN hKQ
  subst hKL
  subst hKE
  have C : Cx K RX6 "places" cX6_places (some .int) := C
  show G K 0 0 0 [(0, .ref x), (1, .int l1)] [] (wSh σ x pss pps phv poo pcu pmm psk ppk pkw psc ppn asm sur bud wan tri fou en eh cho at' pa mo le hd nt ct sts6 blo bhi bem glo ghi gem rlo rhi rem rom fnd fc prt lim su op) n
  unfold f_X6_places at hf
  refine g_iload_n C rfl (q := 1) rfl dX6_places_0 rfl ?_
  obtain ⟨q1, hq1, hfa, hfb⟩ := xbd hf
  rcases q1 with e9 | t9
  · obtain rfl := Option.some.inj (hfa _ rfl)
    exact g_callXS (st' := []) (as := [.int l1]) (k := 1) (mc2 := 2) (ms2 := 12) (pc' := 4) C hT ⟨wm_RX6_36, ws_X6_checkPiece, wi_RX6, wk_X6_checkPiece, by decide +kernel⟩ (c_X6_checkPiece (l := kL K) (E := kE K) hl0 _ hq1) (by rw [hKR]; exact ⟨rfl, rfl, ⟨by decide, by decide⟩, by decide, by decide⟩) rfl rfl (by simp) dX6_places_1 rfl (fun v e => by cases e) (fun X e => by cases e; exact hKQ) (by decide) (by decide)
  · have hf := hfb _ rfl
    refine g_callXS (st' := []) (as := [.int l1]) (k := 1) (mc2 := 2) (ms2 := 12) (pc' := 4) C hT ⟨wm_RX6_36, ws_X6_checkPiece, wi_RX6, wk_X6_checkPiece, by decide +kernel⟩ (c_X6_checkPiece (l := kL K) (E := kE K) hl0 _ hq1) (by rw [hKR]; exact ⟨rfl, rfl, ⟨by decide, by decide⟩, by decide, by decide⟩) rfl rfl (by simp) dX6_places_1 rfl (fun v e => ?_) (fun X e => by cases e) (by decide) (by decide)
    cases e
    show G K 1 6 4 [(0, .ref x), (1, .int l1)] [] (wSh σ x pss pps phv poo pcu pmm psk ppk pkw psc ppn asm sur bud wan tri fou en eh cho at' pa mo le hd nt ct sts6 blo bhi bem glo ghi gem rlo rhi rem rom fnd fc prt lim su op) n
    refine g_aload_n C rfl (q := 0) rfl dX6_places_4 rfl ?_
    refine g_get C fc_X6 0 (by decide) wf_RX6_11 (wL_at0 rfl) rfl dX6_places_5 rfl ?_
    refine g_iload_n C rfl (q := 1) rfl dX6_places_8 rfl ?_
    obtain ⟨g2, hf⟩ := gd hf
    refine g_aald C (by decide) (wL_at 1 rfl) (inB_in g2) rfl dX6_places_9 rfl ?_
    refine g_aload_n C rfl (q := 0) rfl dX6_places_10 rfl ?_
    refine g_get C fc_X6 4 (by decide) wf_RX6_84 (wL_at0 rfl) rfl dX6_places_11 rfl ?_
    refine g_aload_n C rfl (q := 0) rfl dX6_places_14 rfl ?_
    refine g_get C fc_X6 5 (by decide) wf_RX6_90 (wL_at0 rfl) rfl dX6_places_15 rfl ?_
    refine g_lor C dX6_places_18 rfl ?_
    obtain ⟨g3, hf⟩ := gd hf
    obtain ⟨q4, hq4, hf⟩ := bd hf
    refine g_heap (sh_pc_s l1.toNatClampNeg (vp_lt g3)) ?_
    refine g_callV0 (st' := []) (as := [.long (su ||| op)]) (st2 := []) (k := 1) C ⟨wm_RX6_93, wn_X1_learnPlaces, wv_X1_learnPlaces, wi_RX1, wk_X1_learnPlaces, by decide +kernel⟩ rfl (wL_at0 rfl) (c_X1_learnPlaces (l := kL K) (E := kE K) (σ := (wSh σ x pss pps phv poo pcu pmm psk ppk pkw psc ppn asm sur bud wan tri fou en eh cho at' pa mo le hd nt ct sts6 blo bhi bem glo ghi gem rlo rhi rem rom fnd fc prt lim su op)) (a := x + 1 + (1 + 5 * l1.toNatClampNeg)) _ hq4) (by rw [hKR]; exact ⟨rfl, rfl, ⟨by decide, by decide⟩, by decide, by decide⟩) rfl rfl (by simp) rfl dX6_places_19 rfl ?_
    refine g_heap (h' := (wSh σ x (va_up pss l1.toNatClampNeg q4.1) (va_up pps l1.toNatClampNeg q4.2.1) (va_up phv l1.toNatClampNeg q4.2.2.1) (va_up poo l1.toNatClampNeg q4.2.2.2.1) pcu pmm (va_up psk l1.toNatClampNeg q4.2.2.2.2.1) (va_up ppk l1.toNatClampNeg q4.2.2.2.2.2.1) (va_up pkw l1.toNatClampNeg q4.2.2.2.2.2.2.1) (va_up psc l1.toNatClampNeg q4.2.2.2.2.2.2.2.1) (va_up ppn l1.toNatClampNeg q4.2.2.2.2.2.2.2.2) asm sur bud wan tri fou en eh cho at' pa mo le hd nt ct sts6 blo bhi bem glo ghi gem rlo rhi rem rom fnd fc prt lim su op)) (by rw [sh_pc_r l1.toNatClampNeg (vp_lt g3)]; simp only [va_up_id]) ?_
    refine g_aload_n C rfl (q := 0) rfl dX6_places_22 rfl ?_
    refine g_get C fc_X6 0 (by decide) wf_RX6_11 (wL_at0 rfl) rfl dX6_places_23 rfl ?_
    refine g_iload_n C rfl (q := 1) rfl dX6_places_26 rfl ?_
    obtain ⟨g5, hf⟩ := gd hf
    refine g_aald C (by decide) (wL_at 1 rfl) (inB_in g5) rfl dX6_places_27 rfl ?_
    obtain ⟨g6, hf⟩ := gd hf
    obtain ⟨q7, hq7, hf⟩ := bd hf
    refine g_heap (sh_pc_s l1.toNatClampNeg (vp_lt g6)) ?_
    refine g_callV0 (st' := []) (as := []) (st2 := [.int q7]) (k := 0) C ⟨wm_RX6_97, wn_X1_countPlaces, wv_X1_countPlaces, wi_RX1, wk_X1_countPlaces, by decide +kernel⟩ rfl (wL_at0 rfl) (c_X1_countPlaces (l := kL K) (E := kE K) (σ := (wSh σ x (va_up pss l1.toNatClampNeg q4.1) (va_up pps l1.toNatClampNeg q4.2.1) (va_up phv l1.toNatClampNeg q4.2.2.1) (va_up poo l1.toNatClampNeg q4.2.2.2.1) pcu pmm (va_up psk l1.toNatClampNeg q4.2.2.2.2.1) (va_up ppk l1.toNatClampNeg q4.2.2.2.2.2.1) (va_up pkw l1.toNatClampNeg q4.2.2.2.2.2.2.1) (va_up psc l1.toNatClampNeg q4.2.2.2.2.2.2.2.1) (va_up ppn l1.toNatClampNeg q4.2.2.2.2.2.2.2.2) asm sur bud wan tri fou en eh cho at' pa mo le hd nt ct sts6 blo bhi bem glo ghi gem rlo rhi rem rom fnd fc prt lim su op)) (a := x + 1 + (1 + 5 * l1.toNatClampNeg)) _ hq7) (by rw [hKR]; exact ⟨rfl, rfl, ⟨by decide, by decide⟩, by decide, by decide⟩) rfl rfl (by simp) rfl dX6_places_28 rfl ?_
    refine g_heap (h' := (wSh σ x (va_up pss l1.toNatClampNeg q4.1) (va_up pps l1.toNatClampNeg q4.2.1) (va_up phv l1.toNatClampNeg q4.2.2.1) (va_up poo l1.toNatClampNeg q4.2.2.2.1) pcu pmm (va_up psk l1.toNatClampNeg q4.2.2.2.2.1) (va_up ppk l1.toNatClampNeg q4.2.2.2.2.2.1) (va_up pkw l1.toNatClampNeg q4.2.2.2.2.2.2.1) (va_up psc l1.toNatClampNeg q4.2.2.2.2.2.2.2.1) (va_up ppn l1.toNatClampNeg q4.2.2.2.2.2.2.2.2) asm sur bud wan tri fou en eh cho at' pa mo le hd nt ct sts6 blo bhi bem glo ghi gem rlo rhi rem rom fnd fc prt lim su op)) (by rw [sh_pc_r l1.toNatClampNeg (vp_lt g6)]; simp only [va_up_id]) ?_
    obtain rfl := Option.some.inj hf
    exact g_xiret C hKQ (by decide) (by decide) dX6_places_31
def f_X6_pack (fu : Nat) (pss : Nat → Nat → Int64) (pps : Nat → Nat → Int64) (phv : Nat → Nat → Int64) (poo : Nat → Nat → Int64) (pcu : Nat → Int64) (pmm : Nat → Int32) (psk : Nat → Int32) (ppk : Nat → Int32) (pkw : Nat → Int64) (psc : Nat → Int32) (ppn : Nat → Int32) (sur : Int64) (bud : Int32) (wan : Int32) (tri : Int32) (fou : Int32) (en : Int32) (eh : Int32) (cho : Nat → Int64) (su : Int64) (op : Int64) (l1 : Int32) : Option ((String ⊕ Int32) × (Nat → Nat → Int64) × (Nat → Nat → Int64) × (Nat → Nat → Int64) × (Nat → Nat → Int64) × (Nat → Int32) × (Nat → Int32) × (Nat → Int64) × (Nat → Int32) × (Nat → Int32) × Int64 × Int32 × Int32 × Int32 × Int32 × Int32 × Int32 × (Nat → Int64)) := (xBd (f_X6_checkBudget l1) (fun e9 => some (Sum.inl e9, pss, pps, phv, poo, psk, ppk, pkw, psc, ppn, sur, bud, wan, tri, fou, en, eh, cho)) (fun _ => ((f_X2_run fu pss pps phv poo pcu pmm psk ppk pkw psc ppn cho su op l1 (-1 : Int32)).bind fun q2 => ((f_X2_wasEnough q2.2.2.2.2.2.2.2.2.2.2.2.2.2.2.2.1).bind fun q3 => (if q3 = 0 then ((f_X2_countFound q2.2.2.2.2.2.2.2.2.2.2.2.2.2.1).bind fun q5 => some (Sum.inr ((-1 : Int32) - q5), q2.1, q2.2.1, q2.2.2.1, q2.2.2.2.1, q2.2.2.2.2.1, q2.2.2.2.2.2.1, q2.2.2.2.2.2.2.1, q2.2.2.2.2.2.2.2.1, q2.2.2.2.2.2.2.2.2.1, q2.2.2.2.2.2.2.2.2.2.1, q2.2.2.2.2.2.2.2.2.2.2.1, q2.2.2.2.2.2.2.2.2.2.2.2.1, q2.2.2.2.2.2.2.2.2.2.2.2.2.1, q2.2.2.2.2.2.2.2.2.2.2.2.2.2.1, q2.2.2.2.2.2.2.2.2.2.2.2.2.2.2.1, q2.2.2.2.2.2.2.2.2.2.2.2.2.2.2.2.1, q2.2.2.2.2.2.2.2.2.2.2.2.2.2.2.2.2)) else ((f_X2_countFound q2.2.2.2.2.2.2.2.2.2.2.2.2.2.1).bind fun q6 => some (Sum.inr q6, q2.1, q2.2.1, q2.2.2.1, q2.2.2.2.1, q2.2.2.2.2.1, q2.2.2.2.2.2.1, q2.2.2.2.2.2.2.1, q2.2.2.2.2.2.2.2.1, q2.2.2.2.2.2.2.2.2.1, q2.2.2.2.2.2.2.2.2.2.1, q2.2.2.2.2.2.2.2.2.2.2.1, q2.2.2.2.2.2.2.2.2.2.2.2.1, q2.2.2.2.2.2.2.2.2.2.2.2.2.1, q2.2.2.2.2.2.2.2.2.2.2.2.2.2.1, q2.2.2.2.2.2.2.2.2.2.2.2.2.2.2.1, q2.2.2.2.2.2.2.2.2.2.2.2.2.2.2.2.1, q2.2.2.2.2.2.2.2.2.2.2.2.2.2.2.2.2)))))))
set_option maxHeartbeats 2000000 in
set_option maxRecDepth 20000 in
theorem c_X6_pack {l : Launch} {E : Ex} {n : Nat} {σ : AH} {x : Nat}  {pss : Nat → Nat → Int64} {pps : Nat → Nat → Int64} {phv : Nat → Nat → Int64} {poo : Nat → Nat → Int64} {pcu : Nat → Int64} {pmm : Nat → Int32} {psk : Nat → Int32} {ppk : Nat → Int32} {pkw : Nat → Int64} {psc : Nat → Int32} {ppn : Nat → Int32} {asm : Nat → Int64} {sur : Int64} {bud : Int32} {wan : Int32} {tri : Int32} {fou : Int32} {en : Int32} {eh : Int32} {cho : Nat → Int64} {at' : Nat → Int32} {pa : Nat → Int32} {mo : Nat → Int32} {le : Nat → Int32} {hd : Nat → Int32} {nt : Nat → Int32} {ct : Int32} {sts6 : Nat → Int64} {blo : Nat → Nat → Int32} {bhi : Nat → Nat → Int32} {bem : Nat → Int32} {glo : Nat → Int32} {ghi : Nat → Int32} {gem : Int32} {rlo : Nat → Int32} {rhi : Nat → Int32} {rem : Int32} {rom : Nat → Int32} {fnd : Nat → Int32} {fc : Int32} {prt : Int32} {lim : Int32} {su : Int64} {op : Int64} {l1 : Int32} {fu : Nat} (hl0 : l.stackTraces = false) (res : ((String ⊕ Int32) × (Nat → Nat → Int64) × (Nat → Nat → Int64) × (Nat → Nat → Int64) × (Nat → Nat → Int64) × (Nat → Int32) × (Nat → Int32) × (Nat → Int64) × (Nat → Int32) × (Nat → Int32) × Int64 × Int32 × Int32 × Int32 × Int32 × Int32 × Int32 × (Nat → Int64))) (hf : f_X6_pack fu pss pps phv poo pcu pmm psk ppk pkw psc ppn sur bud wan tri fou en eh cho su op l1 = some res) : ConX l E yX6_pack (.code yX6_pack cX6_pack 2 (some .int) :: TT) ({ frames := 37, cells := 2, slots := 12, locals := 1456 } : Room) 2 12 [.ref x, .int l1] (wSh σ x pss pps phv poo pcu pmm psk ppk pkw psc ppn asm sur bud wan tri fou en eh cho at' pa mo le hd nt ct sts6 blo bhi bem glo ghi gem rlo rhi rem rom fnd fc prt lim su op) n (xrI res.1) (wSh σ x res.2.1 res.2.2.1 res.2.2.2.1 res.2.2.2.2.1 pcu pmm res.2.2.2.2.2.1 res.2.2.2.2.2.2.1 res.2.2.2.2.2.2.2.1 res.2.2.2.2.2.2.2.2.1 res.2.2.2.2.2.2.2.2.2.1 asm res.2.2.2.2.2.2.2.2.2.2.1 res.2.2.2.2.2.2.2.2.2.2.2.1 res.2.2.2.2.2.2.2.2.2.2.2.2.1 res.2.2.2.2.2.2.2.2.2.2.2.2.2.1 res.2.2.2.2.2.2.2.2.2.2.2.2.2.2.1 res.2.2.2.2.2.2.2.2.2.2.2.2.2.2.2.1 res.2.2.2.2.2.2.2.2.2.2.2.2.2.2.2.2.1 res.2.2.2.2.2.2.2.2.2.2.2.2.2.2.2.2.2 at' pa mo le hd nt ct sts6 blo bhi bem glo ghi gem rlo rhi rem rom fnd fc prt lim su op) := by
  refine conX_intro (by decide +kernel) (Nat.le_of_ble_eq_true rfl) ?_
  intro K C hT hKR hKL hKE hKN hKQ
  subst hKL
  subst hKE
  have C : Cx K RX6 "pack" cX6_pack (some .int) := C
  show G K 0 0 0 [(0, .ref x), (1, .int l1)] [] (wSh σ x pss pps phv poo pcu pmm psk ppk pkw psc ppn asm sur bud wan tri fou en eh cho at' pa mo le hd nt ct sts6 blo bhi bem glo ghi gem rlo rhi rem rom fnd fc prt lim su op) n
  unfold f_X6_pack at hf
  refine g_iload_n C rfl (q := 1) rfl dX6_pack_0 rfl ?_
  obtain ⟨q1, hq1, hfa, hfb⟩ := xbd hf
  rcases q1 with e9 | t9
  · obtain rfl := Option.some.inj (hfa _ rfl)
    exact g_callXS (st' := []) (as := [.int l1]) (k := 1) (mc2 := 2) (ms2 := 12) (pc' := 4) C hT ⟨wm_RX6_100, ws_X6_checkBudget, wi_RX6, wk_X6_checkBudget, by decide +kernel⟩ (c_X6_checkBudget (l := kL K) (E := kE K) hl0 _ hq1) (by rw [hKR]; exact ⟨rfl, rfl, ⟨by decide, by decide⟩, by decide, by decide⟩) rfl rfl (by simp) dX6_pack_1 rfl (fun v e => by cases e) (fun X e => by cases e; exact hKQ) (by decide) (by decide)
  · have hf := hfb _ rfl
    refine g_callXS (st' := []) (as := [.int l1]) (k := 1) (mc2 := 2) (ms2 := 12) (pc' := 4) C hT ⟨wm_RX6_100, ws_X6_checkBudget, wi_RX6, wk_X6_checkBudget, by decide +kernel⟩ (c_X6_checkBudget (l := kL K) (E := kE K) hl0 _ hq1) (by rw [hKR]; exact ⟨rfl, rfl, ⟨by decide, by decide⟩, by decide, by decide⟩) rfl rfl (by simp) dX6_pack_1 rfl (fun v e => ?_) (fun X e => by cases e) (by decide) (by decide)
    cases e
    show G K 1 6 4 [(0, .ref x), (1, .int l1)] [] (wSh σ x pss pps phv poo pcu pmm psk ppk pkw psc ppn asm sur bud wan tri fou en eh cho at' pa mo le hd nt ct sts6 blo bhi bem glo ghi gem rlo rhi rem rom fnd fc prt lim su op) n
    refine g_aload_n C rfl (q := 0) rfl dX6_pack_4 rfl ?_
    refine g_get C fc_X6 2 (by decide) wf_RX6_25 (wL_at0 rfl) rfl dX6_pack_5 rfl ?_
    refine g_aload_n C rfl (q := 0) rfl dX6_pack_8 rfl ?_
    refine g_get C fc_X6 4 (by decide) wf_RX6_84 (wL_at0 rfl) rfl dX6_pack_9 rfl ?_
    refine g_aload_n C rfl (q := 0) rfl dX6_pack_12 rfl ?_
    refine g_get C fc_X6 5 (by decide) wf_RX6_90 (wL_at0 rfl) rfl dX6_pack_13 rfl ?_
    refine g_iload_n C rfl (q := 1) rfl dX6_pack_16 rfl ?_
    refine g_iconst (v := (-1)) C (by decide) dX6_pack_17 rfl ?_
    obtain ⟨q2, hq2, hf⟩ := bd hf
    refine g_heap sh_se_s ?_
    refine g_callV0 (st' := []) (as := [.long su, .long op, .int l1, .int (-1 : Int32)]) (st2 := []) (k := 4) C ⟨wm_RX6_103, wn_X2_run, wv_X2_run, wi_RX2, wk_X2_run, by decide +kernel⟩ rfl (wL_at 32 rfl) (c_X2_run (l := kL K) (E := kE K) (σ := (wSh σ x pss pps phv poo pcu pmm psk ppk pkw psc ppn asm sur bud wan tri fou en eh cho at' pa mo le hd nt ct sts6 blo bhi bem glo ghi gem rlo rhi rem rom fnd fc prt lim su op)) (k := x + 1) _ hq2) (by rw [hKR]; exact ⟨rfl, rfl, ⟨by decide, by decide⟩, by decide, by decide⟩) rfl rfl (by simp) rfl dX6_pack_18 rfl ?_
    refine g_heap (h' := (wSh σ x q2.1 q2.2.1 q2.2.2.1 q2.2.2.2.1 pcu pmm q2.2.2.2.2.1 q2.2.2.2.2.2.1 q2.2.2.2.2.2.2.1 q2.2.2.2.2.2.2.2.1 q2.2.2.2.2.2.2.2.2.1 asm q2.2.2.2.2.2.2.2.2.2.1 q2.2.2.2.2.2.2.2.2.2.2.1 q2.2.2.2.2.2.2.2.2.2.2.2.1 q2.2.2.2.2.2.2.2.2.2.2.2.2.1 q2.2.2.2.2.2.2.2.2.2.2.2.2.2.1 q2.2.2.2.2.2.2.2.2.2.2.2.2.2.2.1 q2.2.2.2.2.2.2.2.2.2.2.2.2.2.2.2.1 q2.2.2.2.2.2.2.2.2.2.2.2.2.2.2.2.2 at' pa mo le hd nt ct sts6 blo bhi bem glo ghi gem rlo rhi rem rom fnd fc prt lim su op)) sh_se_r ?_
    refine g_aload_n C rfl (q := 0) rfl dX6_pack_21 rfl ?_
    refine g_get C fc_X6 2 (by decide) wf_RX6_25 (wL_at0 rfl) rfl dX6_pack_22 rfl ?_
    obtain ⟨q3, hq3, hf⟩ := bd hf
    refine g_heap sh_se_s ?_
    refine g_callV0 (st' := []) (as := []) (st2 := [.int q3]) (k := 0) C ⟨wm_RX6_107, wn_X2_wasEnough, wv_X2_wasEnough, wi_RX2, wk_X2_wasEnough, by decide +kernel⟩ rfl (wL_at 32 rfl) (c_X2_wasEnough (l := kL K) (E := kE K) (σ := (wSh σ x q2.1 q2.2.1 q2.2.2.1 q2.2.2.2.1 pcu pmm q2.2.2.2.2.1 q2.2.2.2.2.2.1 q2.2.2.2.2.2.2.1 q2.2.2.2.2.2.2.2.1 q2.2.2.2.2.2.2.2.2.1 asm q2.2.2.2.2.2.2.2.2.2.1 q2.2.2.2.2.2.2.2.2.2.2.1 q2.2.2.2.2.2.2.2.2.2.2.2.1 q2.2.2.2.2.2.2.2.2.2.2.2.2.1 q2.2.2.2.2.2.2.2.2.2.2.2.2.2.1 q2.2.2.2.2.2.2.2.2.2.2.2.2.2.2.1 q2.2.2.2.2.2.2.2.2.2.2.2.2.2.2.2.1 q2.2.2.2.2.2.2.2.2.2.2.2.2.2.2.2.2 at' pa mo le hd nt ct sts6 blo bhi bem glo ghi gem rlo rhi rem rom fnd fc prt lim su op)) (k := x + 1) _ hq3) (by rw [hKR]; exact ⟨rfl, rfl, ⟨by decide, by decide⟩, by decide, by decide⟩) rfl rfl (by simp) rfl dX6_pack_25 rfl ?_
    refine g_heap (h' := (wSh σ x q2.1 q2.2.1 q2.2.2.1 q2.2.2.2.1 pcu pmm q2.2.2.2.2.1 q2.2.2.2.2.2.1 q2.2.2.2.2.2.2.1 q2.2.2.2.2.2.2.2.1 q2.2.2.2.2.2.2.2.2.1 asm q2.2.2.2.2.2.2.2.2.2.1 q2.2.2.2.2.2.2.2.2.2.2.1 q2.2.2.2.2.2.2.2.2.2.2.2.1 q2.2.2.2.2.2.2.2.2.2.2.2.2.1 q2.2.2.2.2.2.2.2.2.2.2.2.2.2.1 q2.2.2.2.2.2.2.2.2.2.2.2.2.2.2.1 q2.2.2.2.2.2.2.2.2.2.2.2.2.2.2.2.1 q2.2.2.2.2.2.2.2.2.2.2.2.2.2.2.2.2 at' pa mo le hd nt ct sts6 blo bhi bem glo ghi gem rlo rhi rem rom fnd fc prt lim su op)) sh_se_r ?_
    refine g_if_eq (tgt := 41) C dX6_pack_28 (by decide) rfl (fun c4 => ?_) (fun c4 => ?_)
    · replace hf := ift c4 hf
      refine g_iconst (v := (-1)) C (by decide) dX6_pack_41 rfl ?_
      refine g_aload_n C rfl (q := 0) rfl dX6_pack_42 rfl ?_
      refine g_get C fc_X6 2 (by decide) wf_RX6_25 (wL_at0 rfl) rfl dX6_pack_43 rfl ?_
      obtain ⟨q5, hq5, hf⟩ := bd hf
      refine g_heap sh_se_s ?_
      refine g_callV0 (st' := [.int (-1 : Int32)]) (as := []) (st2 := [.int q5, .int (-1 : Int32)]) (k := 0) C ⟨wm_RX6_111, wn_X2_countFound, wv_X2_countFound, wi_RX2, wk_X2_countFound, by decide +kernel⟩ rfl (wL_at 32 rfl) (c_X2_countFound (l := kL K) (E := kE K) (σ := (wSh σ x q2.1 q2.2.1 q2.2.2.1 q2.2.2.2.1 pcu pmm q2.2.2.2.2.1 q2.2.2.2.2.2.1 q2.2.2.2.2.2.2.1 q2.2.2.2.2.2.2.2.1 q2.2.2.2.2.2.2.2.2.1 asm q2.2.2.2.2.2.2.2.2.2.1 q2.2.2.2.2.2.2.2.2.2.2.1 q2.2.2.2.2.2.2.2.2.2.2.2.1 q2.2.2.2.2.2.2.2.2.2.2.2.2.1 q2.2.2.2.2.2.2.2.2.2.2.2.2.2.1 q2.2.2.2.2.2.2.2.2.2.2.2.2.2.2.1 q2.2.2.2.2.2.2.2.2.2.2.2.2.2.2.2.1 q2.2.2.2.2.2.2.2.2.2.2.2.2.2.2.2.2 at' pa mo le hd nt ct sts6 blo bhi bem glo ghi gem rlo rhi rem rom fnd fc prt lim su op)) (k := x + 1) _ hq5) (by rw [hKR]; exact ⟨rfl, rfl, ⟨by decide, by decide⟩, by decide, by decide⟩) rfl rfl (by simp [Value.category]) rfl dX6_pack_46 rfl ?_
      refine g_heap (h' := (wSh σ x q2.1 q2.2.1 q2.2.2.1 q2.2.2.2.1 pcu pmm q2.2.2.2.2.1 q2.2.2.2.2.2.1 q2.2.2.2.2.2.2.1 q2.2.2.2.2.2.2.2.1 q2.2.2.2.2.2.2.2.2.1 asm q2.2.2.2.2.2.2.2.2.2.1 q2.2.2.2.2.2.2.2.2.2.2.1 q2.2.2.2.2.2.2.2.2.2.2.2.1 q2.2.2.2.2.2.2.2.2.2.2.2.2.1 q2.2.2.2.2.2.2.2.2.2.2.2.2.2.1 q2.2.2.2.2.2.2.2.2.2.2.2.2.2.2.1 q2.2.2.2.2.2.2.2.2.2.2.2.2.2.2.2.1 q2.2.2.2.2.2.2.2.2.2.2.2.2.2.2.2.2 at' pa mo le hd nt ct sts6 blo bhi bem glo ghi gem rlo rhi rem rom fnd fc prt lim su op)) sh_se_r ?_
      refine g_isub C dX6_pack_49 rfl ?_
      obtain rfl := Option.some.inj hf
      exact g_xiret C hKQ (by decide) (by decide) dX6_pack_50
    · replace hf := iff' c4 hf
      refine g_aload_n C rfl (q := 0) rfl dX6_pack_31 rfl ?_
      refine g_get C fc_X6 2 (by decide) wf_RX6_25 (wL_at0 rfl) rfl dX6_pack_32 rfl ?_
      obtain ⟨q6, hq6, hf⟩ := bd hf
      refine g_heap sh_se_s ?_
      refine g_callV0 (st' := []) (as := []) (st2 := [.int q6]) (k := 0) C ⟨wm_RX6_111, wn_X2_countFound, wv_X2_countFound, wi_RX2, wk_X2_countFound, by decide +kernel⟩ rfl (wL_at 32 rfl) (c_X2_countFound (l := kL K) (E := kE K) (σ := (wSh σ x q2.1 q2.2.1 q2.2.2.1 q2.2.2.2.1 pcu pmm q2.2.2.2.2.1 q2.2.2.2.2.2.1 q2.2.2.2.2.2.2.1 q2.2.2.2.2.2.2.2.1 q2.2.2.2.2.2.2.2.2.1 asm q2.2.2.2.2.2.2.2.2.2.1 q2.2.2.2.2.2.2.2.2.2.2.1 q2.2.2.2.2.2.2.2.2.2.2.2.1 q2.2.2.2.2.2.2.2.2.2.2.2.2.1 q2.2.2.2.2.2.2.2.2.2.2.2.2.2.1 q2.2.2.2.2.2.2.2.2.2.2.2.2.2.2.1 q2.2.2.2.2.2.2.2.2.2.2.2.2.2.2.2.1 q2.2.2.2.2.2.2.2.2.2.2.2.2.2.2.2.2 at' pa mo le hd nt ct sts6 blo bhi bem glo ghi gem rlo rhi rem rom fnd fc prt lim su op)) (k := x + 1) _ hq6) (by rw [hKR]; exact ⟨rfl, rfl, ⟨by decide, by decide⟩, by decide, by decide⟩) rfl rfl (by simp) rfl dX6_pack_35 rfl ?_
      refine g_heap (h' := (wSh σ x q2.1 q2.2.1 q2.2.2.1 q2.2.2.2.1 pcu pmm q2.2.2.2.2.1 q2.2.2.2.2.2.1 q2.2.2.2.2.2.2.1 q2.2.2.2.2.2.2.2.1 q2.2.2.2.2.2.2.2.2.1 asm q2.2.2.2.2.2.2.2.2.2.1 q2.2.2.2.2.2.2.2.2.2.2.1 q2.2.2.2.2.2.2.2.2.2.2.2.1 q2.2.2.2.2.2.2.2.2.2.2.2.2.1 q2.2.2.2.2.2.2.2.2.2.2.2.2.2.1 q2.2.2.2.2.2.2.2.2.2.2.2.2.2.2.1 q2.2.2.2.2.2.2.2.2.2.2.2.2.2.2.2.1 q2.2.2.2.2.2.2.2.2.2.2.2.2.2.2.2.2 at' pa mo le hd nt ct sts6 blo bhi bem glo ghi gem rlo rhi rem rom fnd fc prt lim su op)) sh_se_r ?_
      refine g_goto (pc' := 50) C dX6_pack_38 (by decide) ?_
      obtain rfl := Option.some.inj hf
      exact g_xiret C hKQ (by decide) (by decide) dX6_pack_50
def f_X6_assemble_49  (cho : Nat → Int64) : Nat → Int32 → (Nat → Int64) → Option (Nat → Int64)
  | 0, _, _ => none
  | fu + 1, l3, asm => (if (6 : Int32) ≤ l3 then some asm else ((f_X2_chosenFor cho l3).bind fun q13 => (if inB l3 6 = true then f_X6_assemble_49 cho fu (l3 + (1 : Int32)) (va_up asm l3.toNatClampNeg q13) else none)))
def f_X6_assemble (fu : Nat) (pss : Nat → Nat → Int64) (pps : Nat → Nat → Int64) (phv : Nat → Nat → Int64) (poo : Nat → Nat → Int64) (pcu : Nat → Int64) (pmm : Nat → Int32) (psk : Nat → Int32) (ppk : Nat → Int32) (pkw : Nat → Int64) (psc : Nat → Int32) (ppn : Nat → Int32) (asm : Nat → Int64) (sur : Int64) (bud : Int32) (wan : Int32) (tri : Int32) (fou : Int32) (en : Int32) (eh : Int32) (cho : Nat → Int64) (su : Int64) (op : Int64) (l1 : Int32) (l2 : Int32) : Option ((String ⊕ Int32) × (Nat → Nat → Int64) × (Nat → Nat → Int64) × (Nat → Nat → Int64) × (Nat → Nat → Int64) × (Nat → Int32) × (Nat → Int32) × (Nat → Int64) × (Nat → Int32) × (Nat → Int32) × (Nat → Int64) × Int64 × Int32 × Int32 × Int32 × Int32 × Int32 × Int32 × (Nat → Int64)) := (if 0 ≤ l1 then (xBd (f_X6_checkBudget l2) (fun e9 => some (Sum.inl e9, pss, pps, phv, poo, psk, ppk, pkw, psc, ppn, asm, sur, bud, wan, tri, fou, en, eh, cho)) (fun _ => ((f_X2_run fu pss pps phv poo pcu pmm psk ppk pkw psc ppn cho su op l2 l1).bind fun q3 => ((f_X2_hasWanted q3.2.2.2.2.2.2.2.2.2.2.2.1 q3.2.2.2.2.2.2.2.2.2.2.2.2.2.1).bind fun q4 => (if q4 = 0 then some (Sum.inr (0 : Int32), q3.1, q3.2.1, q3.2.2.1, q3.2.2.2.1, q3.2.2.2.2.1, q3.2.2.2.2.2.1, q3.2.2.2.2.2.2.1, q3.2.2.2.2.2.2.2.1, q3.2.2.2.2.2.2.2.2.1, asm, q3.2.2.2.2.2.2.2.2.2.1, q3.2.2.2.2.2.2.2.2.2.2.1, q3.2.2.2.2.2.2.2.2.2.2.2.1, q3.2.2.2.2.2.2.2.2.2.2.2.2.1, q3.2.2.2.2.2.2.2.2.2.2.2.2.2.1, q3.2.2.2.2.2.2.2.2.2.2.2.2.2.2.1, q3.2.2.2.2.2.2.2.2.2.2.2.2.2.2.2.1, q3.2.2.2.2.2.2.2.2.2.2.2.2.2.2.2.2) else ((f_X6_assemble_49 q3.2.2.2.2.2.2.2.2.2.2.2.2.2.2.2.2 fu (0 : Int32) asm).bind fun q15 => some (Sum.inr (1 : Int32), q3.1, q3.2.1, q3.2.2.1, q3.2.2.2.1, q3.2.2.2.2.1, q3.2.2.2.2.2.1, q3.2.2.2.2.2.2.1, q3.2.2.2.2.2.2.2.1, q3.2.2.2.2.2.2.2.2.1, q15, q3.2.2.2.2.2.2.2.2.2.1, q3.2.2.2.2.2.2.2.2.2.2.1, q3.2.2.2.2.2.2.2.2.2.2.2.1, q3.2.2.2.2.2.2.2.2.2.2.2.2.1, q3.2.2.2.2.2.2.2.2.2.2.2.2.2.1, q3.2.2.2.2.2.2.2.2.2.2.2.2.2.2.1, q3.2.2.2.2.2.2.2.2.2.2.2.2.2.2.2.1, q3.2.2.2.2.2.2.2.2.2.2.2.2.2.2.2.2))))))) else some (Sum.inl x_IAE, pss, pps, phv, poo, psk, ppk, pkw, psc, ppn, asm, sur, bud, wan, tri, fou, en, eh, cho))
set_option maxHeartbeats 2000000 in
set_option maxRecDepth 20000 in
theorem g_X6_assemble_49 {K : KX} {n : Nat} {σ : AH} {x : Nat}  {pss : Nat → Nat → Int64} {pps : Nat → Nat → Int64} {phv : Nat → Nat → Int64} {poo : Nat → Nat → Int64} {pcu : Nat → Int64} {pmm : Nat → Int32} {psk : Nat → Int32} {ppk : Nat → Int32} {pkw : Nat → Int64} {psc : Nat → Int32} {ppn : Nat → Int32} {sur : Int64} {bud : Int32} {wan : Int32} {tri : Int32} {fou : Int32} {en : Int32} {eh : Int32} {cho : Nat → Int64} {at' : Nat → Int32} {pa : Nat → Int32} {mo : Nat → Int32} {le : Nat → Int32} {hd : Nat → Int32} {nt : Nat → Int32} {ct : Int32} {sts6 : Nat → Int64} {blo : Nat → Nat → Int32} {bhi : Nat → Nat → Int32} {bem : Nat → Int32} {glo : Nat → Int32} {ghi : Nat → Int32} {gem : Int32} {rlo : Nat → Int32} {rhi : Nat → Int32} {rem : Int32} {rom : Nat → Int32} {fnd : Nat → Int32} {fc : Int32} {prt : Int32} {lim : Int32} {su : Int64} {op : Int64} (C : Cx K RX6 "assemble" cX6_assemble (some .boolean)) (hT : kT K) (hl0 : (kL K).stackTraces = false) (hKR : kR K = ({ frames := 37, cells := 2, slots := 12, locals := 1456 } : Room)) (hKN : kN K = 4) : ∀ (fu : Nat) (l3 : Int32) (asm : Nat → Int64) (res : (Nat → Int64)), f_X6_assemble_49 cho fu l3 asm = some res → G K 1 6 75 [] [] (wSh σ x pss pps phv poo pcu pmm psk ppk pkw psc ppn res sur bud wan tri fou en eh cho at' pa mo le hd nt ct sts6 blo bhi bem glo ghi gem rlo rhi rem rom fnd fc prt lim su op) n → G K 1 6 49 [(0, .ref x), (3, .int l3)] [] (wSh σ x pss pps phv poo pcu pmm psk ppk pkw psc ppn asm sur bud wan tri fou en eh cho at' pa mo le hd nt ct sts6 blo bhi bem glo ghi gem rlo rhi rem rom fnd fc prt lim su op) n := by
  intro fu
  induction fu with
  | zero =>
    intro l3 asm res hf
    exact absurd hf (by simp [f_X6_assemble_49])
  | succ fu ih =>
    intro l3 asm res hf hx
    rw [f_X6_assemble_49] at hf
    refine g_iload_n C rfl (q := 1) rfl dX6_assemble_49 rfl ?_
    refine g_bipush (v := 6) C (by decide) dX6_assemble_50 rfl ?_
    refine g_icmp_ge (tgt := 75) C dX6_assemble_52 (by decide) rfl (fun c12 => ?_) (fun c12 => ?_)
    · replace hf := ift c12 hf
      obtain rfl := Option.some.inj hf
      refine g_sub (lv' := []) [] rfl ?_
      exact hx
    · replace hf := iff' c12 hf
      refine g_aload_n C rfl (q := 0) rfl dX6_assemble_55 rfl ?_
      refine g_get C fc_X6 1 (by decide) wf_RX6_16 (wL_at0 rfl) rfl dX6_assemble_56 rfl ?_
      refine g_iload_n C rfl (q := 1) rfl dX6_assemble_59 rfl ?_
      refine g_aload_n C rfl (q := 0) rfl dX6_assemble_60 rfl ?_
      refine g_get C fc_X6 2 (by decide) wf_RX6_25 (wL_at0 rfl) rfl dX6_assemble_61 rfl ?_
      refine g_iload_n C rfl (q := 1) rfl dX6_assemble_64 rfl ?_
      obtain ⟨q13, hq13, hf⟩ := bd hf
      refine g_heap sh_se_s ?_
      refine g_callV0 (st' := [.int l3, .ref (x + 1 + 31)]) (as := [.int l3]) (st2 := [.long q13, .int l3, .ref (x + 1 + 31)]) (k := 1) C ⟨wm_RX6_122, wn_X2_chosenFor, wv_X2_chosenFor, wi_RX2, wk_X2_chosenFor, by decide +kernel⟩ rfl (wL_at 32 rfl) (c_X2_chosenFor (l := kL K) (E := kE K) (σ := (wSh σ x pss pps phv poo pcu pmm psk ppk pkw psc ppn asm sur bud wan tri fou en eh cho at' pa mo le hd nt ct sts6 blo bhi bem glo ghi gem rlo rhi rem rom fnd fc prt lim su op)) (k := x + 1) _ hq13) (by rw [hKR]; exact ⟨rfl, rfl, ⟨by decide, by decide⟩, by decide, by decide⟩) rfl rfl (by simp [Value.category]) rfl dX6_assemble_65 rfl ?_
      refine g_heap (h' := (wSh σ x pss pps phv poo pcu pmm psk ppk pkw psc ppn asm sur bud wan tri fou en eh cho at' pa mo le hd nt ct sts6 blo bhi bem glo ghi gem rlo rhi rem rom fnd fc prt lim su op)) sh_se_r ?_
      obtain ⟨g14, hf⟩ := gd hf
      refine g_last (h' := (wSh σ x pss pps phv poo pcu pmm psk ppk pkw psc ppn (va_up asm l3.toNatClampNeg q13) sur bud wan tri fou en eh cho at' pa mo le hd nt ct sts6 blo bhi bem glo ghi gem rlo rhi rem rom fnd fc prt lim su op)) C (wL_at 32 rfl) (inB_in g14) (wL_up 32 (Nat.le_of_ble_eq_true rfl) rfl) dX6_assemble_68 rfl ?_
      refine g_iinc (v := l3 + (1 : Int32)) (lv' := [(3, .int (l3 + (1 : Int32))), (0, .ref x)]) (q := 1) C dX6_assemble_69 rfl rfl rfl (by rw [hKN]; decide) rfl ?_
      refine g_goto (pc' := 49) C dX6_assemble_72 (by decide) ?_
      refine g_sub (lv' := [(0, .ref x), (3, .int (l3 + (1 : Int32)))]) [1, 0] rfl ?_
      exact ih _ _ _ hf hx
set_option maxHeartbeats 2000000 in
set_option maxRecDepth 20000 in
theorem c_X6_assemble {l : Launch} {E : Ex} {n : Nat} {σ : AH} {x : Nat}  {pss : Nat → Nat → Int64} {pps : Nat → Nat → Int64} {phv : Nat → Nat → Int64} {poo : Nat → Nat → Int64} {pcu : Nat → Int64} {pmm : Nat → Int32} {psk : Nat → Int32} {ppk : Nat → Int32} {pkw : Nat → Int64} {psc : Nat → Int32} {ppn : Nat → Int32} {asm : Nat → Int64} {sur : Int64} {bud : Int32} {wan : Int32} {tri : Int32} {fou : Int32} {en : Int32} {eh : Int32} {cho : Nat → Int64} {at' : Nat → Int32} {pa : Nat → Int32} {mo : Nat → Int32} {le : Nat → Int32} {hd : Nat → Int32} {nt : Nat → Int32} {ct : Int32} {sts6 : Nat → Int64} {blo : Nat → Nat → Int32} {bhi : Nat → Nat → Int32} {bem : Nat → Int32} {glo : Nat → Int32} {ghi : Nat → Int32} {gem : Int32} {rlo : Nat → Int32} {rhi : Nat → Int32} {rem : Int32} {rom : Nat → Int32} {fnd : Nat → Int32} {fc : Int32} {prt : Int32} {lim : Int32} {su : Int64} {op : Int64} {l1 : Int32} {l2 : Int32} {fu : Nat} (hl0 : l.stackTraces = false) (res : ((String ⊕ Int32) × (Nat → Nat → Int64) × (Nat → Nat → Int64) × (Nat → Nat → Int64) × (Nat → Nat → Int64) × (Nat → Int32) × (Nat → Int32) × (Nat → Int64) × (Nat → Int32) × (Nat → Int32) × (Nat → Int64) × Int64 × Int32 × Int32 × Int32 × Int32 × Int32 × Int32 × (Nat → Int64))) (hf : f_X6_assemble fu pss pps phv poo pcu pmm psk ppk pkw psc ppn asm sur bud wan tri fou en eh cho su op l1 l2 = some res) : ConX l E yX6_assemble (.code yX6_assemble cX6_assemble 4 (some .boolean) :: TT) ({ frames := 37, cells := 2, slots := 12, locals := 1456 } : Room) 2 12 [.ref x, .int l1, .int l2] (wSh σ x pss pps phv poo pcu pmm psk ppk pkw psc ppn asm sur bud wan tri fou en eh cho at' pa mo le hd nt ct sts6 blo bhi bem glo ghi gem rlo rhi rem rom fnd fc prt lim su op) n (xrI res.1) (wSh σ x res.2.1 res.2.2.1 res.2.2.2.1 res.2.2.2.2.1 pcu pmm res.2.2.2.2.2.1 res.2.2.2.2.2.2.1 res.2.2.2.2.2.2.2.1 res.2.2.2.2.2.2.2.2.1 res.2.2.2.2.2.2.2.2.2.1 res.2.2.2.2.2.2.2.2.2.2.1 res.2.2.2.2.2.2.2.2.2.2.2.1 res.2.2.2.2.2.2.2.2.2.2.2.2.1 res.2.2.2.2.2.2.2.2.2.2.2.2.2.1 res.2.2.2.2.2.2.2.2.2.2.2.2.2.2.1 res.2.2.2.2.2.2.2.2.2.2.2.2.2.2.2.1 res.2.2.2.2.2.2.2.2.2.2.2.2.2.2.2.2.1 res.2.2.2.2.2.2.2.2.2.2.2.2.2.2.2.2.2.1 res.2.2.2.2.2.2.2.2.2.2.2.2.2.2.2.2.2.2 at' pa mo le hd nt ct sts6 blo bhi bem glo ghi gem rlo rhi rem rom fnd fc prt lim su op) := by
  refine conX_intro (by decide +kernel) (Nat.le_of_ble_eq_true rfl) ?_
  intro K C hT hKR hKL hKE hKN hKQ
  subst hKL
  subst hKE
  have C : Cx K RX6 "assemble" cX6_assemble (some .boolean) := C
  show G K 0 0 0 [(0, .ref x), (1, .int l1), (2, .int l2)] [] (wSh σ x pss pps phv poo pcu pmm psk ppk pkw psc ppn asm sur bud wan tri fou en eh cho at' pa mo le hd nt ct sts6 blo bhi bem glo ghi gem rlo rhi rem rom fnd fc prt lim su op) n
  unfold f_X6_assemble at hf
  refine g_iload_n C rfl (q := 1) rfl dX6_assemble_0 rfl ?_
  refine g_if_ge (tgt := 14) C dX6_assemble_1 (by decide) rfl (fun c1 => ?_) (fun c1 => ?_)
  · replace hf := ift c1 hf
    refine g_iload_n C rfl (q := 2) rfl dX6_assemble_14 rfl ?_
    obtain ⟨q2, hq2, hfa, hfb⟩ := xbd hf
    rcases q2 with e9 | t9
    · obtain rfl := Option.some.inj (hfa _ rfl)
      exact g_callXS (st' := []) (as := [.int l2]) (k := 1) (mc2 := 2) (ms2 := 12) (pc' := 18) C hT ⟨wm_RX6_100, ws_X6_checkBudget, wi_RX6, wk_X6_checkBudget, by decide +kernel⟩ (c_X6_checkBudget (l := kL K) (E := kE K) hl0 _ hq2) (by rw [hKR]; exact ⟨rfl, rfl, ⟨by decide, by decide⟩, by decide, by decide⟩) rfl rfl (by simp) dX6_assemble_15 rfl (fun v e => by cases e) (fun X e => by cases e; exact hKQ) (by decide) (by decide)
    · have hf := hfb _ rfl
      refine g_callXS (st' := []) (as := [.int l2]) (k := 1) (mc2 := 2) (ms2 := 12) (pc' := 18) C hT ⟨wm_RX6_100, ws_X6_checkBudget, wi_RX6, wk_X6_checkBudget, by decide +kernel⟩ (c_X6_checkBudget (l := kL K) (E := kE K) hl0 _ hq2) (by rw [hKR]; exact ⟨rfl, rfl, ⟨by decide, by decide⟩, by decide, by decide⟩) rfl rfl (by simp) dX6_assemble_15 rfl (fun v e => ?_) (fun X e => by cases e) (by decide) (by decide)
      cases e
      show G K 1 6 18 [(0, .ref x), (1, .int l1), (2, .int l2)] [] (wSh σ x pss pps phv poo pcu pmm psk ppk pkw psc ppn asm sur bud wan tri fou en eh cho at' pa mo le hd nt ct sts6 blo bhi bem glo ghi gem rlo rhi rem rom fnd fc prt lim su op) n
      refine g_aload_n C rfl (q := 0) rfl dX6_assemble_18 rfl ?_
      refine g_get C fc_X6 2 (by decide) wf_RX6_25 (wL_at0 rfl) rfl dX6_assemble_19 rfl ?_
      refine g_aload_n C rfl (q := 0) rfl dX6_assemble_22 rfl ?_
      refine g_get C fc_X6 4 (by decide) wf_RX6_84 (wL_at0 rfl) rfl dX6_assemble_23 rfl ?_
      refine g_aload_n C rfl (q := 0) rfl dX6_assemble_26 rfl ?_
      refine g_get C fc_X6 5 (by decide) wf_RX6_90 (wL_at0 rfl) rfl dX6_assemble_27 rfl ?_
      refine g_iload_n C rfl (q := 2) rfl dX6_assemble_30 rfl ?_
      refine g_iload_n C rfl (q := 1) rfl dX6_assemble_31 rfl ?_
      obtain ⟨q3, hq3, hf⟩ := bd hf
      refine g_heap sh_se_s ?_
      refine g_callV0 (st' := []) (as := [.long su, .long op, .int l2, .int l1]) (st2 := []) (k := 4) C ⟨wm_RX6_103, wn_X2_run, wv_X2_run, wi_RX2, wk_X2_run, by decide +kernel⟩ rfl (wL_at 32 rfl) (c_X2_run (l := kL K) (E := kE K) (σ := (wSh σ x pss pps phv poo pcu pmm psk ppk pkw psc ppn asm sur bud wan tri fou en eh cho at' pa mo le hd nt ct sts6 blo bhi bem glo ghi gem rlo rhi rem rom fnd fc prt lim su op)) (k := x + 1) _ hq3) (by rw [hKR]; exact ⟨rfl, rfl, ⟨by decide, by decide⟩, by decide, by decide⟩) rfl rfl (by simp) rfl dX6_assemble_32 rfl ?_
      refine g_heap (h' := (wSh σ x q3.1 q3.2.1 q3.2.2.1 q3.2.2.2.1 pcu pmm q3.2.2.2.2.1 q3.2.2.2.2.2.1 q3.2.2.2.2.2.2.1 q3.2.2.2.2.2.2.2.1 q3.2.2.2.2.2.2.2.2.1 asm q3.2.2.2.2.2.2.2.2.2.1 q3.2.2.2.2.2.2.2.2.2.2.1 q3.2.2.2.2.2.2.2.2.2.2.2.1 q3.2.2.2.2.2.2.2.2.2.2.2.2.1 q3.2.2.2.2.2.2.2.2.2.2.2.2.2.1 q3.2.2.2.2.2.2.2.2.2.2.2.2.2.2.1 q3.2.2.2.2.2.2.2.2.2.2.2.2.2.2.2.1 q3.2.2.2.2.2.2.2.2.2.2.2.2.2.2.2.2 at' pa mo le hd nt ct sts6 blo bhi bem glo ghi gem rlo rhi rem rom fnd fc prt lim su op)) sh_se_r ?_
      refine g_aload_n C rfl (q := 0) rfl dX6_assemble_35 rfl ?_
      refine g_get C fc_X6 2 (by decide) wf_RX6_25 (wL_at0 rfl) rfl dX6_assemble_36 rfl ?_
      obtain ⟨q4, hq4, hf⟩ := bd hf
      refine g_heap sh_se_s ?_
      refine g_callV0 (st' := []) (as := []) (st2 := [.int q4]) (k := 0) C ⟨wm_RX6_119, wn_X2_hasWanted, wv_X2_hasWanted, wi_RX2, wk_X2_hasWanted, by decide +kernel⟩ rfl (wL_at 32 rfl) (c_X2_hasWanted (l := kL K) (E := kE K) (σ := (wSh σ x q3.1 q3.2.1 q3.2.2.1 q3.2.2.2.1 pcu pmm q3.2.2.2.2.1 q3.2.2.2.2.2.1 q3.2.2.2.2.2.2.1 q3.2.2.2.2.2.2.2.1 q3.2.2.2.2.2.2.2.2.1 asm q3.2.2.2.2.2.2.2.2.2.1 q3.2.2.2.2.2.2.2.2.2.2.1 q3.2.2.2.2.2.2.2.2.2.2.2.1 q3.2.2.2.2.2.2.2.2.2.2.2.2.1 q3.2.2.2.2.2.2.2.2.2.2.2.2.2.1 q3.2.2.2.2.2.2.2.2.2.2.2.2.2.2.1 q3.2.2.2.2.2.2.2.2.2.2.2.2.2.2.2.1 q3.2.2.2.2.2.2.2.2.2.2.2.2.2.2.2.2 at' pa mo le hd nt ct sts6 blo bhi bem glo ghi gem rlo rhi rem rom fnd fc prt lim su op)) (k := x + 1) _ hq4) (by rw [hKR]; exact ⟨rfl, rfl, ⟨by decide, by decide⟩, by decide, by decide⟩) rfl rfl (by simp) rfl dX6_assemble_39 rfl ?_
      refine g_heap (h' := (wSh σ x q3.1 q3.2.1 q3.2.2.1 q3.2.2.2.1 pcu pmm q3.2.2.2.2.1 q3.2.2.2.2.2.1 q3.2.2.2.2.2.2.1 q3.2.2.2.2.2.2.2.1 q3.2.2.2.2.2.2.2.2.1 asm q3.2.2.2.2.2.2.2.2.2.1 q3.2.2.2.2.2.2.2.2.2.2.1 q3.2.2.2.2.2.2.2.2.2.2.2.1 q3.2.2.2.2.2.2.2.2.2.2.2.2.1 q3.2.2.2.2.2.2.2.2.2.2.2.2.2.1 q3.2.2.2.2.2.2.2.2.2.2.2.2.2.2.1 q3.2.2.2.2.2.2.2.2.2.2.2.2.2.2.2.1 q3.2.2.2.2.2.2.2.2.2.2.2.2.2.2.2.2 at' pa mo le hd nt ct sts6 blo bhi bem glo ghi gem rlo rhi rem rom fnd fc prt lim su op)) sh_se_r ?_
      refine g_if_ne (tgt := 47) C dX6_assemble_42 (by decide) rfl (fun c5 => ?_) (fun c5 => ?_)
      · replace hf := iff' c5 hf
        refine g_iconst (v := 0) C (by decide) dX6_assemble_47 rfl ?_
        refine g_istore_n (i := 3) (lv' := [(3, .int (0 : Int32)), (0, .ref x), (1, .int l1), (2, .int l2)]) C dX6_assemble_48 rfl rfl (by rw [hKN]; decide) rfl ?_
        refine g_sub (lv' := [(0, .ref x), (3, .int (0 : Int32))]) [1, 0] rfl ?_
        obtain ⟨q15, hq15, hf⟩ := bd hf
        refine g_X6_assemble_49 (pss := q3.1) (pps := q3.2.1) (phv := q3.2.2.1) (poo := q3.2.2.2.1) (pcu := pcu) (pmm := pmm) (psk := q3.2.2.2.2.1) (ppk := q3.2.2.2.2.2.1) (pkw := q3.2.2.2.2.2.2.1) (psc := q3.2.2.2.2.2.2.2.1) (ppn := q3.2.2.2.2.2.2.2.2.1) (sur := q3.2.2.2.2.2.2.2.2.2.1) (bud := q3.2.2.2.2.2.2.2.2.2.2.1) (wan := q3.2.2.2.2.2.2.2.2.2.2.2.1) (tri := q3.2.2.2.2.2.2.2.2.2.2.2.2.1) (fou := q3.2.2.2.2.2.2.2.2.2.2.2.2.2.1) (en := q3.2.2.2.2.2.2.2.2.2.2.2.2.2.2.1) (eh := q3.2.2.2.2.2.2.2.2.2.2.2.2.2.2.2.1) (cho := q3.2.2.2.2.2.2.2.2.2.2.2.2.2.2.2.2) (at' := at') (pa := pa) (mo := mo) (le := le) (hd := hd) (nt := nt) (ct := ct) (sts6 := sts6) (blo := blo) (bhi := bhi) (bem := bem) (glo := glo) (ghi := ghi) (gem := gem) (rlo := rlo) (rhi := rhi) (rem := rem) (rom := rom) (fnd := fnd) (fc := fc) (prt := prt) (lim := lim) (su := su) (op := op) C hT hl0 hKR hKN _ _ _ _ hq15 ?_
        refine g_iconst (v := 1) C (by decide) dX6_assemble_75 rfl ?_
        obtain rfl := Option.some.inj hf
        exact g_xzret C rfl hKQ (by decide) (by decide) dX6_assemble_76
      · replace hf := ift c5 hf
        refine g_iconst (v := 0) C (by decide) dX6_assemble_45 rfl ?_
        obtain rfl := Option.some.inj hf
        exact g_xzret C rfl hKQ (by decide) (by decide) dX6_assemble_46
  · replace hf := iff' c1 hf
    obtain rfl := Option.some.inj hf
    exact g_throw (X := x_IAE) (ik := 79) (is := 117) (ic := 83) (text := "no such packing") C hT hl0 (Or.inl rfl) wl_RX6_79 wi_x_IAE (by decide +kernel) (by decide +kernel) (by decide +kernel) (by decide +kernel) (by decide +kernel) dX6_assemble_4 dX6_assemble_7 dX6_assemble_8 dX6_assemble_10 dX6_assemble_13 (by rw [hKR]; decide) (by rw [hKR]; simp [Value.category]) (by rw [hKR]; decide) (by rw [hKR]; decide) hKQ (by decide) (by decide)
def f_X6_put_33  (l1 : Int32) (l2 : Int64) (pss : Nat → Nat → Int64) (psk : Nat → Int32) (psc : Nat → Int32) (asm : Nat → Int64) : Nat → Int32 → Option (((String ⊕ Unit) × (Nat → Nat → Int64) × (Nat → Int32) × (Nat → Int32) × (Nat → Int64)) ⊕ Unit)
  | 0, _ => none
  | fu + 1, l4 => (if (6 : Int32) ≤ l4 then some (.inr ()) else (if l4 = l1 then f_X6_put_33 l1 l2 pss psk psc asm fu (l4 + (1 : Int32)) else (if inB l4 6 = true then (if ((asm l4.toNatClampNeg) &&& l2) = (0 : Int64) then f_X6_put_33 l1 l2 pss psk psc asm fu (l4 + (1 : Int32)) else some (.inl (Sum.inl x_ISE, pss, psk, psc, asm))) else none)))
def f_X6_put (fu : Nat) (pss : Nat → Nat → Int64) (pcu : Nat → Int64) (pmm : Nat → Int32) (psk : Nat → Int32) (psc : Nat → Int32) (asm : Nat → Int64) (l1 : Int32) (l2 : Int64) : Option ((String ⊕ Unit) × (Nat → Nat → Int64) × (Nat → Int32) × (Nat → Int32) × (Nat → Int64)) := (xBd (f_X6_checkPiece l1) (fun e9 => some (Sum.inl e9, pss, psk, psc, asm)) (fun _ => (if inB l1 6 = true then ((f_X0_settled fu l2).bind fun q3 => (if inB l1 6 = true then ((f_X1_hasShape fu (pss l1.toNatClampNeg) (pcu l1.toNatClampNeg) (pmm l1.toNatClampNeg) (psk l1.toNatClampNeg) (psc l1.toNatClampNeg) q3).bind fun q5 => (if q5.1 = 0 then some (Sum.inl x_IAE, va_up pss l1.toNatClampNeg q5.2.1, va_up psk l1.toNatClampNeg q5.2.2.1, va_up psc l1.toNatClampNeg q5.2.2.2, asm) else (sumB (f_X6_put_33 l1 l2 (va_up pss l1.toNatClampNeg q5.2.1) (va_up psk l1.toNatClampNeg q5.2.2.1) (va_up psc l1.toNatClampNeg q5.2.2.2) asm fu (0 : Int32)) id fun t20 => (if inB l1 6 = true then some (Sum.inr (), va_up pss l1.toNatClampNeg q5.2.1, va_up psk l1.toNatClampNeg q5.2.2.1, va_up psc l1.toNatClampNeg q5.2.2.2, va_up asm l1.toNatClampNeg l2) else none)))) else none)) else none)))
set_option maxHeartbeats 2000000 in
set_option maxRecDepth 20000 in
theorem g_X6_put_33 {K : KX} {n : Nat} {σ : AH} {x : Nat}  {l1 : Int32} {l2 : Int64} {pss : Nat → Nat → Int64} {pps : Nat → Nat → Int64} {phv : Nat → Nat → Int64} {poo : Nat → Nat → Int64} {pcu : Nat → Int64} {pmm : Nat → Int32} {psk : Nat → Int32} {ppk : Nat → Int32} {pkw : Nat → Int64} {psc : Nat → Int32} {ppn : Nat → Int32} {asm : Nat → Int64} {sur : Int64} {bud : Int32} {wan : Int32} {tri : Int32} {fou : Int32} {en : Int32} {eh : Int32} {cho : Nat → Int64} {at' : Nat → Int32} {pa : Nat → Int32} {mo : Nat → Int32} {le : Nat → Int32} {hd : Nat → Int32} {nt : Nat → Int32} {ct : Int32} {sts6 : Nat → Int64} {blo : Nat → Nat → Int32} {bhi : Nat → Nat → Int32} {bem : Nat → Int32} {glo : Nat → Int32} {ghi : Nat → Int32} {gem : Int32} {rlo : Nat → Int32} {rhi : Nat → Int32} {rem : Int32} {rom : Nat → Int32} {fnd : Nat → Int32} {fc : Int32} {prt : Int32} {lim : Int32} {su : Int64} {op : Int64} (C : Cx K RX6 "put" cX6_put none) (hT : kT K) (hl0 : (kL K).stackTraces = false) (hKR : kR K = ({ frames := 7, cells := 2, slots := 12, locals := 140 } : Room)) (hKN : kN K = 5) : ∀ (fu : Nat) (l4 : Int32) (res : (((String ⊕ Unit) × (Nat → Nat → Int64) × (Nat → Int32) × (Nat → Int32) × (Nat → Int64)) ⊕ Unit)), f_X6_put_33 l1 l2 pss psk psc asm fu l4 = some res → (∀ t, res = .inl t → KQX K 2 12 (xrV t.1) (wSh σ x t.2.1 pps phv poo pcu pmm t.2.2.1 ppk pkw t.2.2.2.1 ppn t.2.2.2.2 sur bud wan tri fou en eh cho at' pa mo le hd nt ct sts6 blo bhi bem glo ghi gem rlo rhi rem rom fnd fc prt lim su op) n) → (∀ t, res = .inr t → G K 1 6 76 [(0, .ref x), (1, .int l1), (2, .long l2)] [] (wSh σ x pss pps phv poo pcu pmm psk ppk pkw psc ppn asm sur bud wan tri fou en eh cho at' pa mo le hd nt ct sts6 blo bhi bem glo ghi gem rlo rhi rem rom fnd fc prt lim su op) n) → G K 1 6 33 [(0, .ref x), (1, .int l1), (2, .long l2), (4, .int l4)] [] (wSh σ x pss pps phv poo pcu pmm psk ppk pkw psc ppn asm sur bud wan tri fou en eh cho at' pa mo le hd nt ct sts6 blo bhi bem glo ghi gem rlo rhi rem rom fnd fc prt lim su op) n := by
  intro fu
  induction fu with
  | zero =>
    intro l4 res hf
    exact absurd hf (by simp [f_X6_put_33])
  | succ fu ih =>
    intro l4 res hf hret hx
    rw [f_X6_put_33] at hf
    refine g_iload C (q := 3) rfl dX6_put_33 rfl ?_
    refine g_bipush (v := 6) C (by decide) dX6_put_35 rfl ?_
    refine g_icmp_ge (tgt := 76) C dX6_put_37 (by decide) rfl (fun c15 => ?_) (fun c15 => ?_)
    · replace hf := ift c15 hf
      obtain rfl := Option.some.inj hf
      refine g_sub (lv' := [(0, .ref x), (1, .int l1), (2, .long l2)]) [0, 1, 2] rfl ?_
      exact hx () rfl
    · replace hf := iff' c15 hf
      refine g_iload C (q := 3) rfl dX6_put_40 rfl ?_
      refine g_iload_n C rfl (q := 1) rfl dX6_put_42 rfl ?_
      refine g_icmp_eq (tgt := 70) C dX6_put_43 (by decide) rfl (fun c16 => ?_) (fun c16 => ?_)
      · replace hf := ift c16 hf
        refine g_iinc (v := l4 + (1 : Int32)) (lv' := [(4, .int (l4 + (1 : Int32))), (0, .ref x), (1, .int l1), (2, .long l2)]) (q := 3) C dX6_put_70 rfl rfl rfl (by rw [hKN]; decide) rfl ?_
        refine g_goto (pc' := 33) C dX6_put_73 (by decide) ?_
        refine g_sub (lv' := [(0, .ref x), (1, .int l1), (2, .long l2), (4, .int (l4 + (1 : Int32)))]) [1, 2, 3, 0] rfl ?_
        exact ih _ _ hf hret hx
      · replace hf := iff' c16 hf
        refine g_aload_n C rfl (q := 0) rfl dX6_put_46 rfl ?_
        refine g_get C fc_X6 1 (by decide) wf_RX6_16 (wL_at0 rfl) rfl dX6_put_47 rfl ?_
        refine g_iload C (q := 3) rfl dX6_put_50 rfl ?_
        obtain ⟨g17, hf⟩ := gd hf
        refine g_lald C (wL_at 32 rfl) (inB_in g17) dX6_put_52 rfl ?_
        refine g_lload_n C rfl (q := 2) rfl dX6_put_53 rfl ?_
        refine g_land C dX6_put_54 rfl ?_
        refine g_lconst (v := 0) C (by decide) dX6_put_55 rfl ?_
        refine g_lif_eq (tgt := 70) C dX6_put_56 rfl dX6_put_57 (by decide) rfl (fun c18 => ?_) (fun c18 => ?_)
        · replace hf := ift c18 hf
          refine g_iinc (v := l4 + (1 : Int32)) (lv' := [(4, .int (l4 + (1 : Int32))), (0, .ref x), (1, .int l1), (2, .long l2)]) (q := 3) C dX6_put_70 rfl rfl rfl (by rw [hKN]; decide) rfl ?_
          refine g_goto (pc' := 33) C dX6_put_73 (by decide) ?_
          refine g_sub (lv' := [(0, .ref x), (1, .int l1), (2, .long l2), (4, .int (l4 + (1 : Int32)))]) [1, 2, 3, 0] rfl ?_
          exact ih _ _ hf hret hx
        · replace hf := iff' c18 hf
          obtain rfl := Option.some.inj hf
          exact g_throw (X := x_ISE) (ik := 47) (is := 137) (ic := 51) (text := "another piece has one of the cells") C hT hl0 (Or.inr (Or.inl rfl)) wl_RX6_47 wi_x_ISE (by decide +kernel) (by decide +kernel) (by decide +kernel) (by decide +kernel) (by decide +kernel) dX6_put_60 dX6_put_63 dX6_put_64 dX6_put_66 dX6_put_69 (by rw [hKR]; decide) (by rw [hKR]; simp [Value.category]) (by rw [hKR]; decide) (by rw [hKR]; decide) (hret (Sum.inl x_ISE, pss, psk, psc, asm) rfl) (by decide) (by decide)
set_option maxHeartbeats 2000000 in
set_option maxRecDepth 20000 in
theorem c_X6_put {l : Launch} {E : Ex} {n : Nat} {σ : AH} {x : Nat}  {pss : Nat → Nat → Int64} {pps : Nat → Nat → Int64} {phv : Nat → Nat → Int64} {poo : Nat → Nat → Int64} {pcu : Nat → Int64} {pmm : Nat → Int32} {psk : Nat → Int32} {ppk : Nat → Int32} {pkw : Nat → Int64} {psc : Nat → Int32} {ppn : Nat → Int32} {asm : Nat → Int64} {sur : Int64} {bud : Int32} {wan : Int32} {tri : Int32} {fou : Int32} {en : Int32} {eh : Int32} {cho : Nat → Int64} {at' : Nat → Int32} {pa : Nat → Int32} {mo : Nat → Int32} {le : Nat → Int32} {hd : Nat → Int32} {nt : Nat → Int32} {ct : Int32} {sts6 : Nat → Int64} {blo : Nat → Nat → Int32} {bhi : Nat → Nat → Int32} {bem : Nat → Int32} {glo : Nat → Int32} {ghi : Nat → Int32} {gem : Int32} {rlo : Nat → Int32} {rhi : Nat → Int32} {rem : Int32} {rom : Nat → Int32} {fnd : Nat → Int32} {fc : Int32} {prt : Int32} {lim : Int32} {su : Int64} {op : Int64} {l1 : Int32} {l2 : Int64} {fu : Nat} (hl0 : l.stackTraces = false) (res : ((String ⊕ Unit) × (Nat → Nat → Int64) × (Nat → Int32) × (Nat → Int32) × (Nat → Int64))) (hf : f_X6_put fu pss pcu pmm psk psc asm l1 l2 = some res) : ConX l E yX6_put (.code yX6_put cX6_put 5 none :: TT) ({ frames := 7, cells := 2, slots := 12, locals := 140 } : Room) 2 12 [.ref x, .int l1, .long l2] (wSh σ x pss pps phv poo pcu pmm psk ppk pkw psc ppn asm sur bud wan tri fou en eh cho at' pa mo le hd nt ct sts6 blo bhi bem glo ghi gem rlo rhi rem rom fnd fc prt lim su op) n (xrV res.1) (wSh σ x res.2.1 pps phv poo pcu pmm res.2.2.1 ppk pkw res.2.2.2.1 ppn res.2.2.2.2 sur bud wan tri fou en eh cho at' pa mo le hd nt ct sts6 blo bhi bem glo ghi gem rlo rhi rem rom fnd fc prt lim su op) := by
  refine conX_intro (by decide +kernel) (Nat.le_of_ble_eq_true rfl) ?_
  intro K C hT hKR hKL hKE hKN hKQ
  subst hKL
  subst hKE
  have C : Cx K RX6 "put" cX6_put none := C
  show G K 0 0 0 [(0, .ref x), (1, .int l1), (2, .long l2)] [] (wSh σ x pss pps phv poo pcu pmm psk ppk pkw psc ppn asm sur bud wan tri fou en eh cho at' pa mo le hd nt ct sts6 blo bhi bem glo ghi gem rlo rhi rem rom fnd fc prt lim su op) n
  unfold f_X6_put at hf
  refine g_iload_n C rfl (q := 1) rfl dX6_put_0 rfl ?_
  obtain ⟨q1, hq1, hfa, hfb⟩ := xbd hf
  rcases q1 with e9 | t9
  · obtain rfl := Option.some.inj (hfa _ rfl)
    exact g_callXS (st' := []) (as := [.int l1]) (k := 1) (mc2 := 2) (ms2 := 12) (pc' := 4) C hT ⟨wm_RX6_36, ws_X6_checkPiece, wi_RX6, wk_X6_checkPiece, by decide +kernel⟩ (c_X6_checkPiece (l := kL K) (E := kE K) hl0 _ hq1) (by rw [hKR]; exact ⟨rfl, rfl, ⟨by decide, by decide⟩, by decide, by decide⟩) rfl rfl (by simp) dX6_put_1 rfl (fun v e => by cases e) (fun X e => by cases e; exact hKQ) (by decide) (by decide)
  · have hf := hfb _ rfl
    refine g_callXS (st' := []) (as := [.int l1]) (k := 1) (mc2 := 2) (ms2 := 12) (pc' := 4) C hT ⟨wm_RX6_36, ws_X6_checkPiece, wi_RX6, wk_X6_checkPiece, by decide +kernel⟩ (c_X6_checkPiece (l := kL K) (E := kE K) hl0 _ hq1) (by rw [hKR]; exact ⟨rfl, rfl, ⟨by decide, by decide⟩, by decide, by decide⟩) rfl rfl (by simp) dX6_put_1 rfl (fun v e => ?_) (fun X e => by cases e) (by decide) (by decide)
    cases e
    show G K 1 6 4 [(0, .ref x), (1, .int l1), (2, .long l2)] [] (wSh σ x pss pps phv poo pcu pmm psk ppk pkw psc ppn asm sur bud wan tri fou en eh cho at' pa mo le hd nt ct sts6 blo bhi bem glo ghi gem rlo rhi rem rom fnd fc prt lim su op) n
    refine g_aload_n C rfl (q := 0) rfl dX6_put_4 rfl ?_
    refine g_get C fc_X6 0 (by decide) wf_RX6_11 (wL_at0 rfl) rfl dX6_put_5 rfl ?_
    refine g_iload_n C rfl (q := 1) rfl dX6_put_8 rfl ?_
    obtain ⟨g2, hf⟩ := gd hf
    refine g_aald C (by decide) (wL_at 1 rfl) (inB_in g2) rfl dX6_put_9 rfl ?_
    refine g_lload_n C rfl (q := 2) rfl dX6_put_10 rfl ?_
    obtain ⟨q3, hq3, hf⟩ := bd hf
    refine g_callS0 (st' := [.ref (x + 1 + (1 + 5 * l1.toNatClampNeg))]) (as := [.long l2]) (st2 := [.long q3, .ref (x + 1 + (1 + 5 * l1.toNatClampNeg))]) (k := 1) C ⟨wm_RX6_125, ws_X0_settled, wi_RX0, wk_X0_settled, by decide +kernel⟩ (c_X0_settled (l := kL K) (E := kE K)  _ hq3) (by rw [hKR]; exact ⟨rfl, rfl, ⟨by decide, by decide⟩, by decide, by decide⟩) rfl rfl (by simp [Value.category]) rfl dX6_put_11 rfl ?_
    obtain ⟨g4, hf⟩ := gd hf
    obtain ⟨q5, hq5, hf⟩ := bd hf
    refine g_heap (sh_pc_s l1.toNatClampNeg (vp_lt g4)) ?_
    refine g_callV0 (st' := []) (as := [.long q3]) (st2 := [.int q5.1]) (k := 1) C ⟨wm_RX6_131, wn_X1_hasShape, wv_X1_hasShape, wi_RX1, wk_X1_hasShape, by decide +kernel⟩ rfl (wL_at0 rfl) (c_X1_hasShape (l := kL K) (E := kE K) (σ := (wSh σ x pss pps phv poo pcu pmm psk ppk pkw psc ppn asm sur bud wan tri fou en eh cho at' pa mo le hd nt ct sts6 blo bhi bem glo ghi gem rlo rhi rem rom fnd fc prt lim su op)) (a := x + 1 + (1 + 5 * l1.toNatClampNeg)) _ hq5) (by rw [hKR]; exact ⟨rfl, rfl, ⟨by decide, by decide⟩, by decide, by decide⟩) rfl rfl (by simp) rfl dX6_put_14 rfl ?_
    refine g_heap (h' := (wSh σ x (va_up pss l1.toNatClampNeg q5.2.1) pps phv poo pcu pmm (va_up psk l1.toNatClampNeg q5.2.2.1) ppk pkw (va_up psc l1.toNatClampNeg q5.2.2.2) ppn asm sur bud wan tri fou en eh cho at' pa mo le hd nt ct sts6 blo bhi bem glo ghi gem rlo rhi rem rom fnd fc prt lim su op)) (by rw [sh_pc_r l1.toNatClampNeg (vp_lt g4)]; simp only [va_up_id]) ?_
    refine g_if_ne (tgt := 30) C dX6_put_17 (by decide) rfl (fun c6 => ?_) (fun c6 => ?_)
    · replace hf := iff' c6 hf
      refine g_iconst (v := 0) C (by decide) dX6_put_30 rfl ?_
      refine g_istore (i := 4) (lv' := [(4, .int (0 : Int32)), (0, .ref x), (1, .int l1), (2, .long l2)]) C dX6_put_31 rfl (by rw [hKN]; decide) rfl ?_
      refine g_sub (lv' := [(0, .ref x), (1, .int l1), (2, .long l2), (4, .int (0 : Int32))]) [1, 2, 3, 0] rfl ?_
      obtain ⟨q19, hq19, hf1, hf2⟩ := sb hf
      refine g_X6_put_33 (l1 := l1) (l2 := l2) (pss := va_up pss l1.toNatClampNeg q5.2.1) (pps := pps) (phv := phv) (poo := poo) (pcu := pcu) (pmm := pmm) (psk := va_up psk l1.toNatClampNeg q5.2.2.1) (ppk := ppk) (pkw := pkw) (psc := va_up psc l1.toNatClampNeg q5.2.2.2) (ppn := ppn) (asm := asm) (sur := sur) (bud := bud) (wan := wan) (tri := tri) (fou := fou) (en := en) (eh := eh) (cho := cho) (at' := at') (pa := pa) (mo := mo) (le := le) (hd := hd) (nt := nt) (ct := ct) (sts6 := sts6) (blo := blo) (bhi := bhi) (bem := bem) (glo := glo) (ghi := ghi) (gem := gem) (rlo := rlo) (rhi := rhi) (rem := rem) (rom := rom) (fnd := fnd) (fc := fc) (prt := prt) (lim := lim) (su := su) (op := op) C hT hl0 hKR hKN _ _ q19 hq19 (fun t20 et20 => ?_) (fun t20 et20 => ?_)
      · obtain rfl := hf1 _ et20
        exact hKQ
      · have hf := hf2 _ et20
        refine g_aload_n C rfl (q := 0) rfl dX6_put_76 rfl ?_
        refine g_get C fc_X6 1 (by decide) wf_RX6_16 (wL_at0 rfl) rfl dX6_put_77 rfl ?_
        refine g_iload_n C rfl (q := 1) rfl dX6_put_80 rfl ?_
        refine g_lload_n C rfl (q := 2) rfl dX6_put_81 rfl ?_
        obtain ⟨g21, hf⟩ := gd hf
        refine g_last (h' := (wSh σ x (va_up pss l1.toNatClampNeg q5.2.1) pps phv poo pcu pmm (va_up psk l1.toNatClampNeg q5.2.2.1) ppk pkw (va_up psc l1.toNatClampNeg q5.2.2.2) ppn (va_up asm l1.toNatClampNeg l2) sur bud wan tri fou en eh cho at' pa mo le hd nt ct sts6 blo bhi bem glo ghi gem rlo rhi rem rom fnd fc prt lim su op)) C (wL_at 32 rfl) (inB_in g21) (wL_up 32 (Nat.le_of_ble_eq_true rfl) rfl) dX6_put_82 rfl ?_
        obtain rfl := Option.some.inj hf
        exact g_xvret C hKQ (by decide) (by decide) dX6_put_83
    · replace hf := ift c6 hf
      obtain rfl := Option.some.inj hf
      exact g_throw (X := x_IAE) (ik := 79) (is := 135) (ic := 83) (text := "the set is none of its shapes moved") C hT hl0 (Or.inl rfl) wl_RX6_79 wi_x_IAE (by decide +kernel) (by decide +kernel) (by decide +kernel) (by decide +kernel) (by decide +kernel) dX6_put_20 dX6_put_23 dX6_put_24 dX6_put_26 dX6_put_29 (by rw [hKR]; decide) (by rw [hKR]; simp [Value.category]) (by rw [hKR]; decide) (by rw [hKR]; decide) hKQ (by decide) (by decide)
def f_X6_take (asm : Nat → Int64) (l1 : Int32) : Option ((String ⊕ Unit) × (Nat → Int64)) := (xBd (f_X6_checkPiece l1) (fun e9 => some (Sum.inl e9, asm)) (fun _ => (if inB l1 6 = true then (if (asm l1.toNatClampNeg) = (0 : Int64) then some (Sum.inl x_ISE, asm) else (if inB l1 6 = true then some (Sum.inr (), va_up asm l1.toNatClampNeg (0 : Int64)) else none)) else none)))
set_option maxHeartbeats 2000000 in
set_option maxRecDepth 20000 in
theorem c_X6_take {l : Launch} {E : Ex} {n : Nat} {σ : AH} {x : Nat}  {pss : Nat → Nat → Int64} {pps : Nat → Nat → Int64} {phv : Nat → Nat → Int64} {poo : Nat → Nat → Int64} {pcu : Nat → Int64} {pmm : Nat → Int32} {psk : Nat → Int32} {ppk : Nat → Int32} {pkw : Nat → Int64} {psc : Nat → Int32} {ppn : Nat → Int32} {asm : Nat → Int64} {sur : Int64} {bud : Int32} {wan : Int32} {tri : Int32} {fou : Int32} {en : Int32} {eh : Int32} {cho : Nat → Int64} {at' : Nat → Int32} {pa : Nat → Int32} {mo : Nat → Int32} {le : Nat → Int32} {hd : Nat → Int32} {nt : Nat → Int32} {ct : Int32} {sts6 : Nat → Int64} {blo : Nat → Nat → Int32} {bhi : Nat → Nat → Int32} {bem : Nat → Int32} {glo : Nat → Int32} {ghi : Nat → Int32} {gem : Int32} {rlo : Nat → Int32} {rhi : Nat → Int32} {rem : Int32} {rom : Nat → Int32} {fnd : Nat → Int32} {fc : Int32} {prt : Int32} {lim : Int32} {su : Int64} {op : Int64} {l1 : Int32} (hl0 : l.stackTraces = false) (res : ((String ⊕ Unit) × (Nat → Int64))) (hf : f_X6_take asm l1 = some res) : ConX l E yX6_take (.code yX6_take cX6_take 2 none :: TT) ({ frames := 7, cells := 2, slots := 12, locals := 120 } : Room) 2 12 [.ref x, .int l1] (wSh σ x pss pps phv poo pcu pmm psk ppk pkw psc ppn asm sur bud wan tri fou en eh cho at' pa mo le hd nt ct sts6 blo bhi bem glo ghi gem rlo rhi rem rom fnd fc prt lim su op) n (xrV res.1) (wSh σ x pss pps phv poo pcu pmm psk ppk pkw psc ppn res.2 sur bud wan tri fou en eh cho at' pa mo le hd nt ct sts6 blo bhi bem glo ghi gem rlo rhi rem rom fnd fc prt lim su op) := by
  refine conX_intro (by decide +kernel) (Nat.le_of_ble_eq_true rfl) ?_
  intro K C hT hKR hKL hKE hKN hKQ
  subst hKL
  subst hKE
  have C : Cx K RX6 "take" cX6_take none := C
  show G K 0 0 0 [(0, .ref x), (1, .int l1)] [] (wSh σ x pss pps phv poo pcu pmm psk ppk pkw psc ppn asm sur bud wan tri fou en eh cho at' pa mo le hd nt ct sts6 blo bhi bem glo ghi gem rlo rhi rem rom fnd fc prt lim su op) n
  unfold f_X6_take at hf
  refine g_iload_n C rfl (q := 1) rfl dX6_take_0 rfl ?_
  obtain ⟨q1, hq1, hfa, hfb⟩ := xbd hf
  rcases q1 with e9 | t9
  · obtain rfl := Option.some.inj (hfa _ rfl)
    exact g_callXS (st' := []) (as := [.int l1]) (k := 1) (mc2 := 2) (ms2 := 12) (pc' := 4) C hT ⟨wm_RX6_36, ws_X6_checkPiece, wi_RX6, wk_X6_checkPiece, by decide +kernel⟩ (c_X6_checkPiece (l := kL K) (E := kE K) hl0 _ hq1) (by rw [hKR]; exact ⟨rfl, rfl, ⟨by decide, by decide⟩, by decide, by decide⟩) rfl rfl (by simp) dX6_take_1 rfl (fun v e => by cases e) (fun X e => by cases e; exact hKQ) (by decide) (by decide)
  · have hf := hfb _ rfl
    refine g_callXS (st' := []) (as := [.int l1]) (k := 1) (mc2 := 2) (ms2 := 12) (pc' := 4) C hT ⟨wm_RX6_36, ws_X6_checkPiece, wi_RX6, wk_X6_checkPiece, by decide +kernel⟩ (c_X6_checkPiece (l := kL K) (E := kE K) hl0 _ hq1) (by rw [hKR]; exact ⟨rfl, rfl, ⟨by decide, by decide⟩, by decide, by decide⟩) rfl rfl (by simp) dX6_take_1 rfl (fun v e => ?_) (fun X e => by cases e) (by decide) (by decide)
    cases e
    show G K 1 6 4 [(0, .ref x), (1, .int l1)] [] (wSh σ x pss pps phv poo pcu pmm psk ppk pkw psc ppn asm sur bud wan tri fou en eh cho at' pa mo le hd nt ct sts6 blo bhi bem glo ghi gem rlo rhi rem rom fnd fc prt lim su op) n
    refine g_aload_n C rfl (q := 0) rfl dX6_take_4 rfl ?_
    refine g_get C fc_X6 1 (by decide) wf_RX6_16 (wL_at0 rfl) rfl dX6_take_5 rfl ?_
    refine g_iload_n C rfl (q := 1) rfl dX6_take_8 rfl ?_
    obtain ⟨g2, hf⟩ := gd hf
    refine g_lald C (wL_at 32 rfl) (inB_in g2) dX6_take_9 rfl ?_
    refine g_lconst (v := 0) C (by decide) dX6_take_10 rfl ?_
    refine g_lif_ne (tgt := 25) C dX6_take_11 rfl dX6_take_12 (by decide) rfl (fun c3 => ?_) (fun c3 => ?_)
    · replace hf := iff' c3 hf
      refine g_aload_n C rfl (q := 0) rfl dX6_take_25 rfl ?_
      refine g_get C fc_X6 1 (by decide) wf_RX6_16 (wL_at0 rfl) rfl dX6_take_26 rfl ?_
      refine g_iload_n C rfl (q := 1) rfl dX6_take_29 rfl ?_
      refine g_lconst (v := 0) C (by decide) dX6_take_30 rfl ?_
      obtain ⟨g4, hf⟩ := gd hf
      refine g_last (h' := (wSh σ x pss pps phv poo pcu pmm psk ppk pkw psc ppn (va_up asm l1.toNatClampNeg (0 : Int64)) sur bud wan tri fou en eh cho at' pa mo le hd nt ct sts6 blo bhi bem glo ghi gem rlo rhi rem rom fnd fc prt lim su op)) C (wL_at 32 rfl) (inB_in g4) (wL_up 32 (Nat.le_of_ble_eq_true rfl) rfl) dX6_take_31 rfl ?_
      obtain rfl := Option.some.inj hf
      exact g_xvret C hKQ (by decide) (by decide) dX6_take_32
    · replace hf := ift c3 hf
      obtain rfl := Option.some.inj hf
      exact g_throw (X := x_ISE) (ik := 47) (is := 139) (ic := 51) (text := "the piece is not in the assembly") C hT hl0 (Or.inr (Or.inl rfl)) wl_RX6_47 wi_x_ISE (by decide +kernel) (by decide +kernel) (by decide +kernel) (by decide +kernel) (by decide +kernel) dX6_take_15 dX6_take_18 dX6_take_19 dX6_take_21 dX6_take_24 (by rw [hKR]; decide) (by rw [hKR]; simp [Value.category]) (by rw [hKR]; decide) (by rw [hKR]; decide) hKQ (by decide) (by decide)
def f_X6_cells (asm : Nat → Int64) (l1 : Int32) : Option (String ⊕ Int64) := (xBd (f_X6_checkPiece l1) (fun e9 => some (Sum.inl e9)) (fun _ => (if inB l1 6 = true then some (Sum.inr (asm l1.toNatClampNeg)) else none)))
set_option maxHeartbeats 2000000 in
set_option maxRecDepth 20000 in
theorem c_X6_cells {l : Launch} {E : Ex} {n : Nat} {σ : AH} {x : Nat}  {pss : Nat → Nat → Int64} {pps : Nat → Nat → Int64} {phv : Nat → Nat → Int64} {poo : Nat → Nat → Int64} {pcu : Nat → Int64} {pmm : Nat → Int32} {psk : Nat → Int32} {ppk : Nat → Int32} {pkw : Nat → Int64} {psc : Nat → Int32} {ppn : Nat → Int32} {asm : Nat → Int64} {sur : Int64} {bud : Int32} {wan : Int32} {tri : Int32} {fou : Int32} {en : Int32} {eh : Int32} {cho : Nat → Int64} {at' : Nat → Int32} {pa : Nat → Int32} {mo : Nat → Int32} {le : Nat → Int32} {hd : Nat → Int32} {nt : Nat → Int32} {ct : Int32} {sts6 : Nat → Int64} {blo : Nat → Nat → Int32} {bhi : Nat → Nat → Int32} {bem : Nat → Int32} {glo : Nat → Int32} {ghi : Nat → Int32} {gem : Int32} {rlo : Nat → Int32} {rhi : Nat → Int32} {rem : Int32} {rom : Nat → Int32} {fnd : Nat → Int32} {fc : Int32} {prt : Int32} {lim : Int32} {su : Int64} {op : Int64} {l1 : Int32} (hl0 : l.stackTraces = false) (res : (String ⊕ Int64)) (hf : f_X6_cells asm l1 = some res) : ConX l E yX6_cells (.code yX6_cells cX6_cells 2 (some .long) :: TT) ({ frames := 7, cells := 2, slots := 12, locals := 120 } : Room) 2 12 [.ref x, .int l1] (wSh σ x pss pps phv poo pcu pmm psk ppk pkw psc ppn asm sur bud wan tri fou en eh cho at' pa mo le hd nt ct sts6 blo bhi bem glo ghi gem rlo rhi rem rom fnd fc prt lim su op) n (xrL res) (wSh σ x pss pps phv poo pcu pmm psk ppk pkw psc ppn asm sur bud wan tri fou en eh cho at' pa mo le hd nt ct sts6 blo bhi bem glo ghi gem rlo rhi rem rom fnd fc prt lim su op) := by
  refine conX_intro (by decide +kernel) (Nat.le_of_ble_eq_true rfl) ?_
  intro K C hT hKR hKL hKE hKN hKQ
  subst hKL
  subst hKE
  have C : Cx K RX6 "cells" cX6_cells (some .long) := C
  show G K 0 0 0 [(0, .ref x), (1, .int l1)] [] (wSh σ x pss pps phv poo pcu pmm psk ppk pkw psc ppn asm sur bud wan tri fou en eh cho at' pa mo le hd nt ct sts6 blo bhi bem glo ghi gem rlo rhi rem rom fnd fc prt lim su op) n
  unfold f_X6_cells at hf
  refine g_iload_n C rfl (q := 1) rfl dX6_cells_0 rfl ?_
  obtain ⟨q1, hq1, hfa, hfb⟩ := xbd hf
  rcases q1 with e9 | t9
  · obtain rfl := Option.some.inj (hfa _ rfl)
    exact g_callXS (st' := []) (as := [.int l1]) (k := 1) (mc2 := 2) (ms2 := 12) (pc' := 4) C hT ⟨wm_RX6_36, ws_X6_checkPiece, wi_RX6, wk_X6_checkPiece, by decide +kernel⟩ (c_X6_checkPiece (l := kL K) (E := kE K) hl0 _ hq1) (by rw [hKR]; exact ⟨rfl, rfl, ⟨by decide, by decide⟩, by decide, by decide⟩) rfl rfl (by simp) dX6_cells_1 rfl (fun v e => by cases e) (fun X e => by cases e; exact hKQ) (by decide) (by decide)
  · have hf := hfb _ rfl
    refine g_callXS (st' := []) (as := [.int l1]) (k := 1) (mc2 := 2) (ms2 := 12) (pc' := 4) C hT ⟨wm_RX6_36, ws_X6_checkPiece, wi_RX6, wk_X6_checkPiece, by decide +kernel⟩ (c_X6_checkPiece (l := kL K) (E := kE K) hl0 _ hq1) (by rw [hKR]; exact ⟨rfl, rfl, ⟨by decide, by decide⟩, by decide, by decide⟩) rfl rfl (by simp) dX6_cells_1 rfl (fun v e => ?_) (fun X e => by cases e) (by decide) (by decide)
    cases e
    show G K 1 6 4 [(0, .ref x), (1, .int l1)] [] (wSh σ x pss pps phv poo pcu pmm psk ppk pkw psc ppn asm sur bud wan tri fou en eh cho at' pa mo le hd nt ct sts6 blo bhi bem glo ghi gem rlo rhi rem rom fnd fc prt lim su op) n
    refine g_aload_n C rfl (q := 0) rfl dX6_cells_4 rfl ?_
    refine g_get C fc_X6 1 (by decide) wf_RX6_16 (wL_at0 rfl) rfl dX6_cells_5 rfl ?_
    refine g_iload_n C rfl (q := 1) rfl dX6_cells_8 rfl ?_
    obtain ⟨g2, hf⟩ := gd hf
    refine g_lald C (wL_at 32 rfl) (inB_in g2) dX6_cells_9 rfl ?_
    obtain rfl := Option.some.inj hf
    exact g_xlret C hKQ (by decide) (by decide) dX6_cells_10
def f_X6_plan (fu : Nat) (asm : Nat → Int64) (at' : Nat → Int32) (pa : Nat → Int32) (mo : Nat → Int32) (le : Nat → Int32) (hd : Nat → Int32) (nt : Nat → Int32) (ct : Int32) (sts6 : Nat → Int64) (blo : Nat → Nat → Int32) (bhi : Nat → Nat → Int32) (bem : Nat → Int32) (glo : Nat → Int32) (ghi : Nat → Int32) (gem : Int32) (rlo : Nat → Int32) (rhi : Nat → Int32) (rem : Int32) (rom : Nat → Int32) (fnd : Nat → Int32) (fc : Int32) (prt : Int32) (lim : Int32) (l1 : Int32) (l2 : Int32) : Option ((String ⊕ Int32) × (Nat → Int32) × (Nat → Int32) × (Nat → Int32) × (Nat → Int32) × (Nat → Int32) × (Nat → Int32) × Int32 × (Nat → Int64) × (Nat → Nat → Int32) × (Nat → Nat → Int32) × (Nat → Int32) × (Nat → Int32) × (Nat → Int32) × Int32 × (Nat → Int32) × (Nat → Int32) × Int32 × (Nat → Int32) × (Nat → Int32) × Int32 × Int32 × Int32) := ((f_X6_assembledPieces fu asm).bind fun q1 => (if (l1 &&& (q1 ^^^ (-1 : Int32))) = 0 then ((f_J6_bitCount_0f7a4 l1).bind fun q3 => (if (2 : Int32) ≤ q3 then (if l2 < (1 : Int32) then some (Sum.inl x_IAE, at', pa, mo, le, hd, nt, ct, sts6, blo, bhi, bem, glo, ghi, gem, rlo, rhi, rem, rom, fnd, fc, prt, lim) else (if l2 ≤ (300 : Int32) then ((f_X5_look fu at' pa mo le hd nt sts6 blo bhi bem glo ghi gem rlo rhi rem rom fnd asm l1 l2).bind fun q7 => some (Sum.inr q7.1, q7.2.1, q7.2.2.1, q7.2.2.2.1, q7.2.2.2.2.1, q7.2.2.2.2.2.1, q7.2.2.2.2.2.2.1, q7.2.2.2.2.2.2.2.1, q7.2.2.2.2.2.2.2.2.1, q7.2.2.2.2.2.2.2.2.2.1, q7.2.2.2.2.2.2.2.2.2.2.1, q7.2.2.2.2.2.2.2.2.2.2.2.1, q7.2.2.2.2.2.2.2.2.2.2.2.2.1, q7.2.2.2.2.2.2.2.2.2.2.2.2.2.1, q7.2.2.2.2.2.2.2.2.2.2.2.2.2.2.1, q7.2.2.2.2.2.2.2.2.2.2.2.2.2.2.2.1, q7.2.2.2.2.2.2.2.2.2.2.2.2.2.2.2.2.1, q7.2.2.2.2.2.2.2.2.2.2.2.2.2.2.2.2.2.1, q7.2.2.2.2.2.2.2.2.2.2.2.2.2.2.2.2.2.2.1, q7.2.2.2.2.2.2.2.2.2.2.2.2.2.2.2.2.2.2.2.1, q7.2.2.2.2.2.2.2.2.2.2.2.2.2.2.2.2.2.2.2.2.1, q7.2.2.2.2.2.2.2.2.2.2.2.2.2.2.2.2.2.2.2.2.2.1, q7.2.2.2.2.2.2.2.2.2.2.2.2.2.2.2.2.2.2.2.2.2.2)) else some (Sum.inl x_IAE, at', pa, mo, le, hd, nt, ct, sts6, blo, bhi, bem, glo, ghi, gem, rlo, rhi, rem, rom, fnd, fc, prt, lim))) else some (Sum.inl x_IAE, at', pa, mo, le, hd, nt, ct, sts6, blo, bhi, bem, glo, ghi, gem, rlo, rhi, rem, rom, fnd, fc, prt, lim))) else some (Sum.inl x_IAE, at', pa, mo, le, hd, nt, ct, sts6, blo, bhi, bem, glo, ghi, gem, rlo, rhi, rem, rom, fnd, fc, prt, lim)))
set_option maxHeartbeats 2000000 in
set_option maxRecDepth 20000 in
theorem c_X6_plan {l : Launch} {E : Ex} {n : Nat} {σ : AH} {x : Nat}  {pss : Nat → Nat → Int64} {pps : Nat → Nat → Int64} {phv : Nat → Nat → Int64} {poo : Nat → Nat → Int64} {pcu : Nat → Int64} {pmm : Nat → Int32} {psk : Nat → Int32} {ppk : Nat → Int32} {pkw : Nat → Int64} {psc : Nat → Int32} {ppn : Nat → Int32} {asm : Nat → Int64} {sur : Int64} {bud : Int32} {wan : Int32} {tri : Int32} {fou : Int32} {en : Int32} {eh : Int32} {cho : Nat → Int64} {at' : Nat → Int32} {pa : Nat → Int32} {mo : Nat → Int32} {le : Nat → Int32} {hd : Nat → Int32} {nt : Nat → Int32} {ct : Int32} {sts6 : Nat → Int64} {blo : Nat → Nat → Int32} {bhi : Nat → Nat → Int32} {bem : Nat → Int32} {glo : Nat → Int32} {ghi : Nat → Int32} {gem : Int32} {rlo : Nat → Int32} {rhi : Nat → Int32} {rem : Int32} {rom : Nat → Int32} {fnd : Nat → Int32} {fc : Int32} {prt : Int32} {lim : Int32} {su : Int64} {op : Int64} {l1 : Int32} {l2 : Int32} {fu : Nat} (hl0 : l.stackTraces = false) (res : ((String ⊕ Int32) × (Nat → Int32) × (Nat → Int32) × (Nat → Int32) × (Nat → Int32) × (Nat → Int32) × (Nat → Int32) × Int32 × (Nat → Int64) × (Nat → Nat → Int32) × (Nat → Nat → Int32) × (Nat → Int32) × (Nat → Int32) × (Nat → Int32) × Int32 × (Nat → Int32) × (Nat → Int32) × Int32 × (Nat → Int32) × (Nat → Int32) × Int32 × Int32 × Int32)) (hf : f_X6_plan fu asm at' pa mo le hd nt ct sts6 blo bhi bem glo ghi gem rlo rhi rem rom fnd fc prt lim l1 l2 = some res) : ConX l E yX6_plan (.code yX6_plan cX6_plan 3 (some .int) :: TT) ({ frames := 6, cells := 1, slots := 6, locals := 222 } : Room) 1 6 [.ref x, .int l1, .int l2] (wSh σ x pss pps phv poo pcu pmm psk ppk pkw psc ppn asm sur bud wan tri fou en eh cho at' pa mo le hd nt ct sts6 blo bhi bem glo ghi gem rlo rhi rem rom fnd fc prt lim su op) n (xrI res.1) (wSh σ x pss pps phv poo pcu pmm psk ppk pkw psc ppn asm sur bud wan tri fou en eh cho res.2.1 res.2.2.1 res.2.2.2.1 res.2.2.2.2.1 res.2.2.2.2.2.1 res.2.2.2.2.2.2.1 res.2.2.2.2.2.2.2.1 res.2.2.2.2.2.2.2.2.1 res.2.2.2.2.2.2.2.2.2.1 res.2.2.2.2.2.2.2.2.2.2.1 res.2.2.2.2.2.2.2.2.2.2.2.1 res.2.2.2.2.2.2.2.2.2.2.2.2.1 res.2.2.2.2.2.2.2.2.2.2.2.2.2.1 res.2.2.2.2.2.2.2.2.2.2.2.2.2.2.1 res.2.2.2.2.2.2.2.2.2.2.2.2.2.2.2.1 res.2.2.2.2.2.2.2.2.2.2.2.2.2.2.2.2.1 res.2.2.2.2.2.2.2.2.2.2.2.2.2.2.2.2.2.1 res.2.2.2.2.2.2.2.2.2.2.2.2.2.2.2.2.2.2.1 res.2.2.2.2.2.2.2.2.2.2.2.2.2.2.2.2.2.2.2.1 res.2.2.2.2.2.2.2.2.2.2.2.2.2.2.2.2.2.2.2.2.1 res.2.2.2.2.2.2.2.2.2.2.2.2.2.2.2.2.2.2.2.2.2.1 res.2.2.2.2.2.2.2.2.2.2.2.2.2.2.2.2.2.2.2.2.2.2 su op) := by
  refine conX_intro (by decide +kernel) (Nat.le_of_ble_eq_true rfl) ?_
  intro K C hT hKR hKL hKE hKN hKQ
  subst hKL
  subst hKE
  have C : Cx K RX6 "plan" cX6_plan (some .int) := C
  show G K 0 0 0 [(0, .ref x), (1, .int l1), (2, .int l2)] [] (wSh σ x pss pps phv poo pcu pmm psk ppk pkw psc ppn asm sur bud wan tri fou en eh cho at' pa mo le hd nt ct sts6 blo bhi bem glo ghi gem rlo rhi rem rom fnd fc prt lim su op) n
  unfold f_X6_plan at hf
  refine g_iload_n C rfl (q := 1) rfl dX6_plan_0 rfl ?_
  refine g_aload_n C rfl (q := 0) rfl dX6_plan_1 rfl ?_
  obtain ⟨q1, hq1, hf⟩ := bd hf
  refine g_callV0 (st' := [.int l1]) (as := []) (st2 := [.int q1, .int l1]) (k := 0) C ⟨wm_RX6_141, wn_X6_assembledPieces, wv_X6_assembledPieces, wi_RX6, wk_X6_assembledPieces, by decide +kernel⟩ rfl (wL_at0 rfl) (c_X6_assembledPieces (l := kL K) (E := kE K)  _ hq1) (by rw [hKR]; exact ⟨rfl, rfl, ⟨by decide, by decide⟩, by decide, by decide⟩) rfl rfl (by simp [Value.category]) rfl dX6_plan_2 rfl ?_
  refine g_iconst (v := (-1)) C (by decide) dX6_plan_5 rfl ?_
  refine g_ixor C dX6_plan_6 rfl ?_
  refine g_iand C dX6_plan_7 rfl ?_
  refine g_if_ne (tgt := 19) C dX6_plan_8 (by decide) rfl (fun c2 => ?_) (fun c2 => ?_)
  · replace hf := iff' c2 hf
    obtain rfl := Option.some.inj hf
    exact g_throw (X := x_IAE) (ik := 79) (is := 150) (ic := 83) (text := "no such part") C hT hl0 (Or.inl rfl) wl_RX6_79 wi_x_IAE (by decide +kernel) (by decide +kernel) (by decide +kernel) (by decide +kernel) (by decide +kernel) dX6_plan_19 dX6_plan_22 dX6_plan_23 dX6_plan_25 dX6_plan_28 (by rw [hKR]; decide) (by rw [hKR]; simp [Value.category]) (by rw [hKR]; decide) (by rw [hKR]; decide) hKQ (by decide) (by decide)
  · replace hf := ift c2 hf
    refine g_iload_n C rfl (q := 1) rfl dX6_plan_11 rfl ?_
    obtain ⟨q3, hq3, hf⟩ := bd hf
    refine g_callS0 (st' := []) (as := [.int l1]) (st2 := [.int q3]) (k := 1) C ⟨wm_RX6_144, ws_J6_bitCount_0f7a4, wi_RJ6, wk_J6_bitCount_0f7a4, by decide +kernel⟩ (c_J6_bitCount_0f7a4 (l := kL K) (E := kE K)  _ hq3) (by rw [hKR]; exact ⟨rfl, rfl, ⟨by decide, by decide⟩, by decide, by decide⟩) rfl rfl (by simp) rfl dX6_plan_12 rfl ?_
    refine g_iconst (v := 2) C (by decide) dX6_plan_15 rfl ?_
    refine g_icmp_ge (tgt := 29) C dX6_plan_16 (by decide) rfl (fun c4 => ?_) (fun c4 => ?_)
    · replace hf := ift c4 hf
      refine g_iload_n C rfl (q := 2) rfl dX6_plan_29 rfl ?_
      refine g_iconst (v := 1) C (by decide) dX6_plan_30 rfl ?_
      refine g_icmp_lt (tgt := 41) C dX6_plan_31 (by decide) rfl (fun c5 => ?_) (fun c5 => ?_)
      · replace hf := ift c5 hf
        obtain rfl := Option.some.inj hf
        exact g_throw (X := x_IAE) (ik := 79) (is := 152) (ic := 83) (text := "no such limit") C hT hl0 (Or.inl rfl) wl_RX6_79 wi_x_IAE (by decide +kernel) (by decide +kernel) (by decide +kernel) (by decide +kernel) (by decide +kernel) dX6_plan_41 dX6_plan_44 dX6_plan_45 dX6_plan_47 dX6_plan_50 (by rw [hKR]; decide) (by rw [hKR]; simp [Value.category]) (by rw [hKR]; decide) (by rw [hKR]; decide) hKQ (by decide) (by decide)
      · replace hf := iff' c5 hf
        refine g_iload_n C rfl (q := 2) rfl dX6_plan_34 rfl ?_
        refine g_sipush (v := 300) C (by decide) dX6_plan_35 rfl ?_
        refine g_icmp_le (tgt := 51) C dX6_plan_38 (by decide) rfl (fun c6 => ?_) (fun c6 => ?_)
        · replace hf := ift c6 hf
          refine g_aload_n C rfl (q := 0) rfl dX6_plan_51 rfl ?_
          refine g_get C fc_X6 3 (by decide) wf_RX6_32 (wL_at0 rfl) rfl dX6_plan_52 rfl ?_
          refine g_aload_n C rfl (q := 0) rfl dX6_plan_55 rfl ?_
          refine g_get C fc_X6 1 (by decide) wf_RX6_16 (wL_at0 rfl) rfl dX6_plan_56 rfl ?_
          refine g_iload_n C rfl (q := 1) rfl dX6_plan_59 rfl ?_
          refine g_iload_n C rfl (q := 2) rfl dX6_plan_60 rfl ?_
          obtain ⟨q7, hq7, hf⟩ := bd hf
          refine g_heap sh_lk_s ?_
          refine g_callV0 (st' := []) (as := [.ref (x + 1 + 31), .int l1, .int l2]) (st2 := [.int q7.1]) (k := 3) C ⟨wm_RX6_154, wn_X5_look, wv_X5_look, wi_RX5, wk_X5_look, by decide +kernel⟩ rfl (wL_at0 rfl) (c_X5_look (l := kL K) (E := kE K) (σ := (wSh σ x pss pps phv poo pcu pmm psk ppk pkw psc ppn asm sur bud wan tri fou en eh cho at' pa mo le hd nt ct sts6 blo bhi bem glo ghi gem rlo rhi rem rom fnd fc prt lim su op)) (u := x + 35) (b := x + 1 + 31) (by omega) _ hq7) (by rw [hKR]; exact ⟨rfl, rfl, ⟨by decide, by decide⟩, by decide, by decide⟩) rfl rfl (by simp) rfl dX6_plan_61 rfl ?_
          refine g_heap (h' := (wSh σ x pss pps phv poo pcu pmm psk ppk pkw psc ppn asm sur bud wan tri fou en eh cho q7.2.1 q7.2.2.1 q7.2.2.2.1 q7.2.2.2.2.1 q7.2.2.2.2.2.1 q7.2.2.2.2.2.2.1 q7.2.2.2.2.2.2.2.1 q7.2.2.2.2.2.2.2.2.1 q7.2.2.2.2.2.2.2.2.2.1 q7.2.2.2.2.2.2.2.2.2.2.1 q7.2.2.2.2.2.2.2.2.2.2.2.1 q7.2.2.2.2.2.2.2.2.2.2.2.2.1 q7.2.2.2.2.2.2.2.2.2.2.2.2.2.1 q7.2.2.2.2.2.2.2.2.2.2.2.2.2.2.1 q7.2.2.2.2.2.2.2.2.2.2.2.2.2.2.2.1 q7.2.2.2.2.2.2.2.2.2.2.2.2.2.2.2.2.1 q7.2.2.2.2.2.2.2.2.2.2.2.2.2.2.2.2.2.1 q7.2.2.2.2.2.2.2.2.2.2.2.2.2.2.2.2.2.2.1 q7.2.2.2.2.2.2.2.2.2.2.2.2.2.2.2.2.2.2.2.1 q7.2.2.2.2.2.2.2.2.2.2.2.2.2.2.2.2.2.2.2.2.1 q7.2.2.2.2.2.2.2.2.2.2.2.2.2.2.2.2.2.2.2.2.2.1 q7.2.2.2.2.2.2.2.2.2.2.2.2.2.2.2.2.2.2.2.2.2.2 su op)) sh_lk_r ?_
          obtain rfl := Option.some.inj hf
          exact g_xiret C hKQ (by decide) (by decide) dX6_plan_64
        · replace hf := iff' c6 hf
          obtain rfl := Option.some.inj hf
          exact g_throw (X := x_IAE) (ik := 79) (is := 152) (ic := 83) (text := "no such limit") C hT hl0 (Or.inl rfl) wl_RX6_79 wi_x_IAE (by decide +kernel) (by decide +kernel) (by decide +kernel) (by decide +kernel) (by decide +kernel) dX6_plan_41 dX6_plan_44 dX6_plan_45 dX6_plan_47 dX6_plan_50 (by rw [hKR]; decide) (by rw [hKR]; simp [Value.category]) (by rw [hKR]; decide) (by rw [hKR]; decide) hKQ (by decide) (by decide)
    · replace hf := iff' c4 hf
      obtain rfl := Option.some.inj hf
      exact g_throw (X := x_IAE) (ik := 79) (is := 150) (ic := 83) (text := "no such part") C hT hl0 (Or.inl rfl) wl_RX6_79 wi_x_IAE (by decide +kernel) (by decide +kernel) (by decide +kernel) (by decide +kernel) (by decide +kernel) dX6_plan_19 dX6_plan_22 dX6_plan_23 dX6_plan_25 dX6_plan_28 (by rw [hKR]; decide) (by rw [hKR]; simp [Value.category]) (by rw [hKR]; decide) (by rw [hKR]; decide) hKQ (by decide) (by decide)
def f_X6_move (fnd : Nat → Int32) (fc : Int32) (l1 : Int32) : Option (String ⊕ Int32) := (if l1 < 0 then some (Sum.inl x_IOB) else ((f_X5_countMoves fc).bind fun q2 => (if l1 < q2 then ((f_X5_moveAt fnd l1).bind fun q4 => some (Sum.inr q4)) else some (Sum.inl x_IOB))))
set_option maxHeartbeats 2000000 in
set_option maxRecDepth 20000 in
theorem c_X6_move {l : Launch} {E : Ex} {n : Nat} {σ : AH} {x : Nat}  {pss : Nat → Nat → Int64} {pps : Nat → Nat → Int64} {phv : Nat → Nat → Int64} {poo : Nat → Nat → Int64} {pcu : Nat → Int64} {pmm : Nat → Int32} {psk : Nat → Int32} {ppk : Nat → Int32} {pkw : Nat → Int64} {psc : Nat → Int32} {ppn : Nat → Int32} {asm : Nat → Int64} {sur : Int64} {bud : Int32} {wan : Int32} {tri : Int32} {fou : Int32} {en : Int32} {eh : Int32} {cho : Nat → Int64} {at' : Nat → Int32} {pa : Nat → Int32} {mo : Nat → Int32} {le : Nat → Int32} {hd : Nat → Int32} {nt : Nat → Int32} {ct : Int32} {sts6 : Nat → Int64} {blo : Nat → Nat → Int32} {bhi : Nat → Nat → Int32} {bem : Nat → Int32} {glo : Nat → Int32} {ghi : Nat → Int32} {gem : Int32} {rlo : Nat → Int32} {rhi : Nat → Int32} {rem : Int32} {rom : Nat → Int32} {fnd : Nat → Int32} {fc : Int32} {prt : Int32} {lim : Int32} {su : Int64} {op : Int64} {l1 : Int32} (hl0 : l.stackTraces = false) (res : (String ⊕ Int32)) (hf : f_X6_move fnd fc l1 = some res) : ConX l E yX6_move (.code yX6_move cX6_move 2 (some .int) :: TT) ({ frames := 6, cells := 1, slots := 6, locals := 100 } : Room) 1 6 [.ref x, .int l1] (wSh σ x pss pps phv poo pcu pmm psk ppk pkw psc ppn asm sur bud wan tri fou en eh cho at' pa mo le hd nt ct sts6 blo bhi bem glo ghi gem rlo rhi rem rom fnd fc prt lim su op) n (xrI res) (wSh σ x pss pps phv poo pcu pmm psk ppk pkw psc ppn asm sur bud wan tri fou en eh cho at' pa mo le hd nt ct sts6 blo bhi bem glo ghi gem rlo rhi rem rom fnd fc prt lim su op) := by
  refine conX_intro (by decide +kernel) (Nat.le_of_ble_eq_true rfl) ?_
  intro K C hT hKR hKL hKE hKN hKQ
  subst hKL
  subst hKE
  have C : Cx K RX6 "move" cX6_move (some .int) := C
  show G K 0 0 0 [(0, .ref x), (1, .int l1)] [] (wSh σ x pss pps phv poo pcu pmm psk ppk pkw psc ppn asm sur bud wan tri fou en eh cho at' pa mo le hd nt ct sts6 blo bhi bem glo ghi gem rlo rhi rem rom fnd fc prt lim su op) n
  unfold f_X6_move at hf
  refine g_iload_n C rfl (q := 1) rfl dX6_move_0 rfl ?_
  refine g_if_lt (tgt := 15) C dX6_move_1 (by decide) rfl (fun c1 => ?_) (fun c1 => ?_)
  · replace hf := ift c1 hf
    obtain rfl := Option.some.inj hf
    exact g_throw (X := x_IOB) (ik := 70) (is := 164) (ic := 74) (text := "no such move") C hT hl0 (Or.inr (Or.inr rfl)) wl_RX6_70 wi_x_IOB (by decide +kernel) (by decide +kernel) (by decide +kernel) (by decide +kernel) (by decide +kernel) dX6_move_15 dX6_move_18 dX6_move_19 dX6_move_21 dX6_move_24 (by rw [hKR]; decide) (by rw [hKR]; simp [Value.category]) (by rw [hKR]; decide) (by rw [hKR]; decide) hKQ (by decide) (by decide)
  · replace hf := iff' c1 hf
    refine g_iload_n C rfl (q := 1) rfl dX6_move_4 rfl ?_
    refine g_aload_n C rfl (q := 0) rfl dX6_move_5 rfl ?_
    refine g_get C fc_X6 3 (by decide) wf_RX6_32 (wL_at0 rfl) rfl dX6_move_6 rfl ?_
    obtain ⟨q2, hq2, hf⟩ := bd hf
    refine g_heap sh_un_s ?_
    refine g_callV0 (st' := [.int l1]) (as := []) (st2 := [.int q2, .int l1]) (k := 0) C ⟨wm_RX6_161, wn_X5_countMoves, wv_X5_countMoves, wi_RX5, wk_X5_countMoves, by decide +kernel⟩ rfl (wL_at0 rfl) (c_X5_countMoves (l := kL K) (E := kE K) (σ := (wSh σ x pss pps phv poo pcu pmm psk ppk pkw psc ppn asm sur bud wan tri fou en eh cho at' pa mo le hd nt ct sts6 blo bhi bem glo ghi gem rlo rhi rem rom fnd fc prt lim su op)) (u := x + 35) _ hq2) (by rw [hKR]; exact ⟨rfl, rfl, ⟨by decide, by decide⟩, by decide, by decide⟩) rfl rfl (by simp [Value.category]) rfl dX6_move_9 rfl ?_
    refine g_heap (h' := (wSh σ x pss pps phv poo pcu pmm psk ppk pkw psc ppn asm sur bud wan tri fou en eh cho at' pa mo le hd nt ct sts6 blo bhi bem glo ghi gem rlo rhi rem rom fnd fc prt lim su op)) sh_un_r ?_
    refine g_icmp_lt (tgt := 25) C dX6_move_12 (by decide) rfl (fun c3 => ?_) (fun c3 => ?_)
    · replace hf := ift c3 hf
      refine g_aload_n C rfl (q := 0) rfl dX6_move_25 rfl ?_
      refine g_get C fc_X6 3 (by decide) wf_RX6_32 (wL_at0 rfl) rfl dX6_move_26 rfl ?_
      refine g_iload_n C rfl (q := 1) rfl dX6_move_29 rfl ?_
      obtain ⟨q4, hq4, hf⟩ := bd hf
      refine g_heap sh_un_s ?_
      refine g_callV0 (st' := []) (as := [.int l1]) (st2 := [.int q4]) (k := 1) C ⟨wm_RX6_166, wn_X5_moveAt, wv_X5_moveAt, wi_RX5, wk_X5_moveAt, by decide +kernel⟩ rfl (wL_at0 rfl) (c_X5_moveAt (l := kL K) (E := kE K) (σ := (wSh σ x pss pps phv poo pcu pmm psk ppk pkw psc ppn asm sur bud wan tri fou en eh cho at' pa mo le hd nt ct sts6 blo bhi bem glo ghi gem rlo rhi rem rom fnd fc prt lim su op)) (u := x + 35) _ hq4) (by rw [hKR]; exact ⟨rfl, rfl, ⟨by decide, by decide⟩, by decide, by decide⟩) rfl rfl (by simp) rfl dX6_move_30 rfl ?_
      refine g_heap (h' := (wSh σ x pss pps phv poo pcu pmm psk ppk pkw psc ppn asm sur bud wan tri fou en eh cho at' pa mo le hd nt ct sts6 blo bhi bem glo ghi gem rlo rhi rem rom fnd fc prt lim su op)) sh_un_r ?_
      obtain rfl := Option.some.inj hf
      exact g_xiret C hKQ (by decide) (by decide) dX6_move_33
    · replace hf := iff' c3 hf
      obtain rfl := Option.some.inj hf
      exact g_throw (X := x_IOB) (ik := 70) (is := 164) (ic := 74) (text := "no such move") C hT hl0 (Or.inr (Or.inr rfl)) wl_RX6_70 wi_x_IOB (by decide +kernel) (by decide +kernel) (by decide +kernel) (by decide +kernel) (by decide +kernel) dX6_move_15 dX6_move_18 dX6_move_19 dX6_move_21 dX6_move_24 (by rw [hKR]; decide) (by rw [hKR]; simp [Value.category]) (by rw [hKR]; decide) (by rw [hKR]; decide) hKQ (by decide) (by decide)
