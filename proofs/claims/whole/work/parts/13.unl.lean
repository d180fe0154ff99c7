abbrev cUn (u : Nat) (at' : Nat → Int32) (pa : Nat → Int32) (mo : Nat → Int32) (le : Nat → Int32) (hd : Nat → Int32) (nt : Nat → Int32) (ct : Int32) (sts6 : Nat → Int64) (blo : Nat → Nat → Int32) (bhi : Nat → Nat → Int32) (bem : Nat → Int32) (glo : Nat → Int32) (ghi : Nat → Int32) (gem : Int32) (rlo : Nat → Int32) (rhi : Nat → Int32) (rem : Int32) (rom : Nat → Int32) (fnd : Nat → Int32) (fc : Int32) (prt : Int32) (lim : Int32) : List CE := [.inr (4, [.ref (u + 1), .ref (u + 8), .ref (u + 9), .ref (u + 28), .ref (u + 31), .ref (u + 34), .ref (u + 35), .int fc, .int prt, .int lim]), .inr (3, [.ref (u + 1 + 1), .ref (u + 1 + 2), .ref (u + 1 + 3), .ref (u + 1 + 4), .ref (u + 1 + 5), .ref (u + 1 + 6), .int ct]), .inl (0, 5418, .inl at'), .inl (0, 300, .inl pa), .inl (0, 300, .inl mo), .inl (0, 300, .inl le), .inl (0, 512, .inl hd), .inl (0, 300, .inl nt), .inl (1, 6, .inr (.inl sts6)), .inl (4, 6, .inr (.inr (.inr (.inr (fun j => some (u + (10 + 3 * j))))))), .inr (2, [.ref (u + (10 + 3 * 0) + 1), .ref (u + (10 + 3 * 0) + 2), .int (bem 0)]), .inl (0, 3, .inl (blo 0)), .inl (0, 3, .inl (bhi 0)), .inr (2, [.ref (u + (10 + 3 * 1) + 1), .ref (u + (10 + 3 * 1) + 2), .int (bem 1)]), .inl (0, 3, .inl (blo 1)), .inl (0, 3, .inl (bhi 1)), .inr (2, [.ref (u + (10 + 3 * 2) + 1), .ref (u + (10 + 3 * 2) + 2), .int (bem 2)]), .inl (0, 3, .inl (blo 2)), .inl (0, 3, .inl (bhi 2)), .inr (2, [.ref (u + (10 + 3 * 3) + 1), .ref (u + (10 + 3 * 3) + 2), .int (bem 3)]), .inl (0, 3, .inl (blo 3)), .inl (0, 3, .inl (bhi 3)), .inr (2, [.ref (u + (10 + 3 * 4) + 1), .ref (u + (10 + 3 * 4) + 2), .int (bem 4)]), .inl (0, 3, .inl (blo 4)), .inl (0, 3, .inl (bhi 4)), .inr (2, [.ref (u + (10 + 3 * 5) + 1), .ref (u + (10 + 3 * 5) + 2), .int (bem 5)]), .inl (0, 3, .inl (blo 5)), .inl (0, 3, .inl (bhi 5)), .inr (2, [.ref (u + 28 + 1), .ref (u + 28 + 2), .int gem]), .inl (0, 3, .inl glo), .inl (0, 3, .inl ghi), .inr (2, [.ref (u + 31 + 1), .ref (u + 31 + 2), .int rem]), .inl (0, 3, .inl rlo), .inl (0, 3, .inl rhi), .inl (0, 216, .inl rom), .inl (0, 300, .inl fnd)]
def wUn (σ : AH) (u : Nat) (at' : Nat → Int32) (pa : Nat → Int32) (mo : Nat → Int32) (le : Nat → Int32) (hd : Nat → Int32) (nt : Nat → Int32) (ct : Int32) (sts6 : Nat → Int64) (blo : Nat → Nat → Int32) (bhi : Nat → Nat → Int32) (bem : Nat → Int32) (glo : Nat → Int32) (ghi : Nat → Int32) (gem : Int32) (rlo : Nat → Int32) (rhi : Nat → Int32) (rem : Int32) (rom : Nat → Int32) (fnd : Nat → Int32) (fc : Int32) (prt : Int32) (lim : Int32) : AH := wL σ u (cUn u at' pa mo le hd nt ct sts6 blo bhi bem glo ghi gem rlo rhi rem rom fnd fc prt lim)
theorem un_bk_s {σ : AH} {u : Nat} {at' : Nat → Int32} {pa : Nat → Int32} {mo : Nat → Int32} {le : Nat → Int32} {hd : Nat → Int32} {nt : Nat → Int32} {ct : Int32} {sts6 : Nat → Int64} {blo : Nat → Nat → Int32} {bhi : Nat → Nat → Int32} {bem : Nat → Int32} {glo : Nat → Int32} {ghi : Nat → Int32} {gem : Int32} {rlo : Nat → Int32} {rhi : Nat → Int32} {rem : Int32} {rom : Nat → Int32} {fnd : Nat → Int32} {fc : Int32} {prt : Int32} {lim : Int32} : wUn σ u at' pa mo le hd nt ct sts6 blo bhi bem glo ghi gem rlo rhi rem rom fnd fc prt lim = wBk (wUn σ u at' pa mo le hd nt ct sts6 blo bhi bem glo ghi gem rlo rhi rem rom fnd fc prt lim) (u + 1) at' pa mo le hd nt ct := wL_mids [.inr (4, [.ref (u + 1), .ref (u + 8), .ref (u + 9), .ref (u + 28), .ref (u + 31), .ref (u + 34), .ref (u + 35), .int fc, .int prt, .int lim])] [.inr (3, [.ref (u + 1 + 1), .ref (u + 1 + 2), .ref (u + 1 + 3), .ref (u + 1 + 4), .ref (u + 1 + 5), .ref (u + 1 + 6), .int ct]), .inl (0, 5418, .inl at'), .inl (0, 300, .inl pa), .inl (0, 300, .inl mo), .inl (0, 300, .inl le), .inl (0, 512, .inl hd), .inl (0, 300, .inl nt)] [.inl (1, 6, .inr (.inl sts6)), .inl (4, 6, .inr (.inr (.inr (.inr (fun j => some (u + (10 + 3 * j))))))), .inr (2, [.ref (u + (10 + 3 * 0) + 1), .ref (u + (10 + 3 * 0) + 2), .int (bem 0)]), .inl (0, 3, .inl (blo 0)), .inl (0, 3, .inl (bhi 0)), .inr (2, [.ref (u + (10 + 3 * 1) + 1), .ref (u + (10 + 3 * 1) + 2), .int (bem 1)]), .inl (0, 3, .inl (blo 1)), .inl (0, 3, .inl (bhi 1)), .inr (2, [.ref (u + (10 + 3 * 2) + 1), .ref (u + (10 + 3 * 2) + 2), .int (bem 2)]), .inl (0, 3, .inl (blo 2)), .inl (0, 3, .inl (bhi 2)), .inr (2, [.ref (u + (10 + 3 * 3) + 1), .ref (u + (10 + 3 * 3) + 2), .int (bem 3)]), .inl (0, 3, .inl (blo 3)), .inl (0, 3, .inl (bhi 3)), .inr (2, [.ref (u + (10 + 3 * 4) + 1), .ref (u + (10 + 3 * 4) + 2), .int (bem 4)]), .inl (0, 3, .inl (blo 4)), .inl (0, 3, .inl (bhi 4)), .inr (2, [.ref (u + (10 + 3 * 5) + 1), .ref (u + (10 + 3 * 5) + 2), .int (bem 5)]), .inl (0, 3, .inl (blo 5)), .inl (0, 3, .inl (bhi 5)), .inr (2, [.ref (u + 28 + 1), .ref (u + 28 + 2), .int gem]), .inl (0, 3, .inl glo), .inl (0, 3, .inl ghi), .inr (2, [.ref (u + 31 + 1), .ref (u + 31 + 2), .int rem]), .inl (0, 3, .inl rlo), .inl (0, 3, .inl rhi), .inl (0, 216, .inl rom), .inl (0, 300, .inl fnd)] 1 rfl
theorem un_bk_r {σ : AH} {u : Nat} {at' : Nat → Int32} {pa : Nat → Int32} {mo : Nat → Int32} {le : Nat → Int32} {hd : Nat → Int32} {nt : Nat → Int32} {ct : Int32} {sts6 : Nat → Int64} {blo : Nat → Nat → Int32} {bhi : Nat → Nat → Int32} {bem : Nat → Int32} {glo : Nat → Int32} {ghi : Nat → Int32} {gem : Int32} {rlo : Nat → Int32} {rhi : Nat → Int32} {rem : Int32} {rom : Nat → Int32} {fnd : Nat → Int32} {fc : Int32} {prt : Int32} {lim : Int32} {at2 : Nat → Int32} {pa2 : Nat → Int32} {mo2 : Nat → Int32} {le2 : Nat → Int32} {hd2 : Nat → Int32} {nt2 : Nat → Int32} {ct2 : Int32} : wBk (wUn σ u at' pa mo le hd nt ct sts6 blo bhi bem glo ghi gem rlo rhi rem rom fnd fc prt lim) (u + 1) at2 pa2 mo2 le2 hd2 nt2 ct2 = wUn σ u at2 pa2 mo2 le2 hd2 nt2 ct2 sts6 blo bhi bem glo ghi gem rlo rhi rem rom fnd fc prt lim := wL_mid [.inr (4, [.ref (u + 1), .ref (u + 8), .ref (u + 9), .ref (u + 28), .ref (u + 31), .ref (u + 34), .ref (u + 35), .int fc, .int prt, .int lim])] [.inr (3, [.ref (u + 1 + 1), .ref (u + 1 + 2), .ref (u + 1 + 3), .ref (u + 1 + 4), .ref (u + 1 + 5), .ref (u + 1 + 6), .int ct]), .inl (0, 5418, .inl at'), .inl (0, 300, .inl pa), .inl (0, 300, .inl mo), .inl (0, 300, .inl le), .inl (0, 512, .inl hd), .inl (0, 300, .inl nt)] [.inl (1, 6, .inr (.inl sts6)), .inl (4, 6, .inr (.inr (.inr (.inr (fun j => some (u + (10 + 3 * j))))))), .inr (2, [.ref (u + (10 + 3 * 0) + 1), .ref (u + (10 + 3 * 0) + 2), .int (bem 0)]), .inl (0, 3, .inl (blo 0)), .inl (0, 3, .inl (bhi 0)), .inr (2, [.ref (u + (10 + 3 * 1) + 1), .ref (u + (10 + 3 * 1) + 2), .int (bem 1)]), .inl (0, 3, .inl (blo 1)), .inl (0, 3, .inl (bhi 1)), .inr (2, [.ref (u + (10 + 3 * 2) + 1), .ref (u + (10 + 3 * 2) + 2), .int (bem 2)]), .inl (0, 3, .inl (blo 2)), .inl (0, 3, .inl (bhi 2)), .inr (2, [.ref (u + (10 + 3 * 3) + 1), .ref (u + (10 + 3 * 3) + 2), .int (bem 3)]), .inl (0, 3, .inl (blo 3)), .inl (0, 3, .inl (bhi 3)), .inr (2, [.ref (u + (10 + 3 * 4) + 1), .ref (u + (10 + 3 * 4) + 2), .int (bem 4)]), .inl (0, 3, .inl (blo 4)), .inl (0, 3, .inl (bhi 4)), .inr (2, [.ref (u + (10 + 3 * 5) + 1), .ref (u + (10 + 3 * 5) + 2), .int (bem 5)]), .inl (0, 3, .inl (blo 5)), .inl (0, 3, .inl (bhi 5)), .inr (2, [.ref (u + 28 + 1), .ref (u + 28 + 2), .int gem]), .inl (0, 3, .inl glo), .inl (0, 3, .inl ghi), .inr (2, [.ref (u + 31 + 1), .ref (u + 31 + 2), .int rem]), .inl (0, 3, .inl rlo), .inl (0, 3, .inl rhi), .inl (0, 216, .inl rom), .inl (0, 300, .inl fnd)] [.inr (3, [.ref (u + 1 + 1), .ref (u + 1 + 2), .ref (u + 1 + 3), .ref (u + 1 + 4), .ref (u + 1 + 5), .ref (u + 1 + 6), .int ct2]), .inl (0, 5418, .inl at2), .inl (0, 300, .inl pa2), .inl (0, 300, .inl mo2), .inl (0, 300, .inl le2), .inl (0, 512, .inl hd2), .inl (0, 300, .inl nt2)] 1 rfl rfl
theorem un_gb_s {σ : AH} {u : Nat} {at' : Nat → Int32} {pa : Nat → Int32} {mo : Nat → Int32} {le : Nat → Int32} {hd : Nat → Int32} {nt : Nat → Int32} {ct : Int32} {sts6 : Nat → Int64} {blo : Nat → Nat → Int32} {bhi : Nat → Nat → Int32} {bem : Nat → Int32} {glo : Nat → Int32} {ghi : Nat → Int32} {gem : Int32} {rlo : Nat → Int32} {rhi : Nat → Int32} {rem : Int32} {rom : Nat → Int32} {fnd : Nat → Int32} {fc : Int32} {prt : Int32} {lim : Int32} : wUn σ u at' pa mo le hd nt ct sts6 blo bhi bem glo ghi gem rlo rhi rem rom fnd fc prt lim = wSp (wUn σ u at' pa mo le hd nt ct sts6 blo bhi bem glo ghi gem rlo rhi rem rom fnd fc prt lim) (u + 28) glo ghi gem := wL_mids [.inr (4, [.ref (u + 1), .ref (u + 8), .ref (u + 9), .ref (u + 28), .ref (u + 31), .ref (u + 34), .ref (u + 35), .int fc, .int prt, .int lim]), .inr (3, [.ref (u + 1 + 1), .ref (u + 1 + 2), .ref (u + 1 + 3), .ref (u + 1 + 4), .ref (u + 1 + 5), .ref (u + 1 + 6), .int ct]), .inl (0, 5418, .inl at'), .inl (0, 300, .inl pa), .inl (0, 300, .inl mo), .inl (0, 300, .inl le), .inl (0, 512, .inl hd), .inl (0, 300, .inl nt), .inl (1, 6, .inr (.inl sts6)), .inl (4, 6, .inr (.inr (.inr (.inr (fun j => some (u + (10 + 3 * j))))))), .inr (2, [.ref (u + (10 + 3 * 0) + 1), .ref (u + (10 + 3 * 0) + 2), .int (bem 0)]), .inl (0, 3, .inl (blo 0)), .inl (0, 3, .inl (bhi 0)), .inr (2, [.ref (u + (10 + 3 * 1) + 1), .ref (u + (10 + 3 * 1) + 2), .int (bem 1)]), .inl (0, 3, .inl (blo 1)), .inl (0, 3, .inl (bhi 1)), .inr (2, [.ref (u + (10 + 3 * 2) + 1), .ref (u + (10 + 3 * 2) + 2), .int (bem 2)]), .inl (0, 3, .inl (blo 2)), .inl (0, 3, .inl (bhi 2)), .inr (2, [.ref (u + (10 + 3 * 3) + 1), .ref (u + (10 + 3 * 3) + 2), .int (bem 3)]), .inl (0, 3, .inl (blo 3)), .inl (0, 3, .inl (bhi 3)), .inr (2, [.ref (u + (10 + 3 * 4) + 1), .ref (u + (10 + 3 * 4) + 2), .int (bem 4)]), .inl (0, 3, .inl (blo 4)), .inl (0, 3, .inl (bhi 4)), .inr (2, [.ref (u + (10 + 3 * 5) + 1), .ref (u + (10 + 3 * 5) + 2), .int (bem 5)]), .inl (0, 3, .inl (blo 5)), .inl (0, 3, .inl (bhi 5))] [.inr (2, [.ref (u + 28 + 1), .ref (u + 28 + 2), .int gem]), .inl (0, 3, .inl glo), .inl (0, 3, .inl ghi)] [.inr (2, [.ref (u + 31 + 1), .ref (u + 31 + 2), .int rem]), .inl (0, 3, .inl rlo), .inl (0, 3, .inl rhi), .inl (0, 216, .inl rom), .inl (0, 300, .inl fnd)] 28 rfl
theorem un_gb_r {σ : AH} {u : Nat} {at' : Nat → Int32} {pa : Nat → Int32} {mo : Nat → Int32} {le : Nat → Int32} {hd : Nat → Int32} {nt : Nat → Int32} {ct : Int32} {sts6 : Nat → Int64} {blo : Nat → Nat → Int32} {bhi : Nat → Nat → Int32} {bem : Nat → Int32} {glo : Nat → Int32} {ghi : Nat → Int32} {gem : Int32} {rlo : Nat → Int32} {rhi : Nat → Int32} {rem : Int32} {rom : Nat → Int32} {fnd : Nat → Int32} {fc : Int32} {prt : Int32} {lim : Int32} {glo2 : Nat → Int32} {ghi2 : Nat → Int32} {gem2 : Int32} : wSp (wUn σ u at' pa mo le hd nt ct sts6 blo bhi bem glo ghi gem rlo rhi rem rom fnd fc prt lim) (u + 28) glo2 ghi2 gem2 = wUn σ u at' pa mo le hd nt ct sts6 blo bhi bem glo2 ghi2 gem2 rlo rhi rem rom fnd fc prt lim := wL_mid [.inr (4, [.ref (u + 1), .ref (u + 8), .ref (u + 9), .ref (u + 28), .ref (u + 31), .ref (u + 34), .ref (u + 35), .int fc, .int prt, .int lim]), .inr (3, [.ref (u + 1 + 1), .ref (u + 1 + 2), .ref (u + 1 + 3), .ref (u + 1 + 4), .ref (u + 1 + 5), .ref (u + 1 + 6), .int ct]), .inl (0, 5418, .inl at'), .inl (0, 300, .inl pa), .inl (0, 300, .inl mo), .inl (0, 300, .inl le), .inl (0, 512, .inl hd), .inl (0, 300, .inl nt), .inl (1, 6, .inr (.inl sts6)), .inl (4, 6, .inr (.inr (.inr (.inr (fun j => some (u + (10 + 3 * j))))))), .inr (2, [.ref (u + (10 + 3 * 0) + 1), .ref (u + (10 + 3 * 0) + 2), .int (bem 0)]), .inl (0, 3, .inl (blo 0)), .inl (0, 3, .inl (bhi 0)), .inr (2, [.ref (u + (10 + 3 * 1) + 1), .ref (u + (10 + 3 * 1) + 2), .int (bem 1)]), .inl (0, 3, .inl (blo 1)), .inl (0, 3, .inl (bhi 1)), .inr (2, [.ref (u + (10 + 3 * 2) + 1), .ref (u + (10 + 3 * 2) + 2), .int (bem 2)]), .inl (0, 3, .inl (blo 2)), .inl (0, 3, .inl (bhi 2)), .inr (2, [.ref (u + (10 + 3 * 3) + 1), .ref (u + (10 + 3 * 3) + 2), .int (bem 3)]), .inl (0, 3, .inl (blo 3)), .inl (0, 3, .inl (bhi 3)), .inr (2, [.ref (u + (10 + 3 * 4) + 1), .ref (u + (10 + 3 * 4) + 2), .int (bem 4)]), .inl (0, 3, .inl (blo 4)), .inl (0, 3, .inl (bhi 4)), .inr (2, [.ref (u + (10 + 3 * 5) + 1), .ref (u + (10 + 3 * 5) + 2), .int (bem 5)]), .inl (0, 3, .inl (blo 5)), .inl (0, 3, .inl (bhi 5))] [.inr (2, [.ref (u + 28 + 1), .ref (u + 28 + 2), .int gem]), .inl (0, 3, .inl glo), .inl (0, 3, .inl ghi)] [.inr (2, [.ref (u + 31 + 1), .ref (u + 31 + 2), .int rem]), .inl (0, 3, .inl rlo), .inl (0, 3, .inl rhi), .inl (0, 216, .inl rom), .inl (0, 300, .inl fnd)] [.inr (2, [.ref (u + 28 + 1), .ref (u + 28 + 2), .int gem2]), .inl (0, 3, .inl glo2), .inl (0, 3, .inl ghi2)] 28 rfl rfl
theorem un_rb_s {σ : AH} {u : Nat} {at' : Nat → Int32} {pa : Nat → Int32} {mo : Nat → Int32} {le : Nat → Int32} {hd : Nat → Int32} {nt : Nat → Int32} {ct : Int32} {sts6 : Nat → Int64} {blo : Nat → Nat → Int32} {bhi : Nat → Nat → Int32} {bem : Nat → Int32} {glo : Nat → Int32} {ghi : Nat → Int32} {gem : Int32} {rlo : Nat → Int32} {rhi : Nat → Int32} {rem : Int32} {rom : Nat → Int32} {fnd : Nat → Int32} {fc : Int32} {prt : Int32} {lim : Int32} : wUn σ u at' pa mo le hd nt ct sts6 blo bhi bem glo ghi gem rlo rhi rem rom fnd fc prt lim = wSp (wUn σ u at' pa mo le hd nt ct sts6 blo bhi bem glo ghi gem rlo rhi rem rom fnd fc prt lim) (u + 31) rlo rhi rem := wL_mids [.inr (4, [.ref (u + 1), .ref (u + 8), .ref (u + 9), .ref (u + 28), .ref (u + 31), .ref (u + 34), .ref (u + 35), .int fc, .int prt, .int lim]), .inr (3, [.ref (u + 1 + 1), .ref (u + 1 + 2), .ref (u + 1 + 3), .ref (u + 1 + 4), .ref (u + 1 + 5), .ref (u + 1 + 6), .int ct]), .inl (0, 5418, .inl at'), .inl (0, 300, .inl pa), .inl (0, 300, .inl mo), .inl (0, 300, .inl le), .inl (0, 512, .inl hd), .inl (0, 300, .inl nt), .inl (1, 6, .inr (.inl sts6)), .inl (4, 6, .inr (.inr (.inr (.inr (fun j => some (u + (10 + 3 * j))))))), .inr (2, [.ref (u + (10 + 3 * 0) + 1), .ref (u + (10 + 3 * 0) + 2), .int (bem 0)]), .inl (0, 3, .inl (blo 0)), .inl (0, 3, .inl (bhi 0)), .inr (2, [.ref (u + (10 + 3 * 1) + 1), .ref (u + (10 + 3 * 1) + 2), .int (bem 1)]), .inl (0, 3, .inl (blo 1)), .inl (0, 3, .inl (bhi 1)), .inr (2, [.ref (u + (10 + 3 * 2) + 1), .ref (u + (10 + 3 * 2) + 2), .int (bem 2)]), .inl (0, 3, .inl (blo 2)), .inl (0, 3, .inl (bhi 2)), .inr (2, [.ref (u + (10 + 3 * 3) + 1), .ref (u + (10 + 3 * 3) + 2), .int (bem 3)]), .inl (0, 3, .inl (blo 3)), .inl (0, 3, .inl (bhi 3)), .inr (2, [.ref (u + (10 + 3 * 4) + 1), .ref (u + (10 + 3 * 4) + 2), .int (bem 4)]), .inl (0, 3, .inl (blo 4)), .inl (0, 3, .inl (bhi 4)), .inr (2, [.ref (u + (10 + 3 * 5) + 1), .ref (u + (10 + 3 * 5) + 2), .int (bem 5)]), .inl (0, 3, .inl (blo 5)), .inl (0, 3, .inl (bhi 5)), .inr (2, [.ref (u + 28 + 1), .ref (u + 28 + 2), .int gem]), .inl (0, 3, .inl glo), .inl (0, 3, .inl ghi)] [.inr (2, [.ref (u + 31 + 1), .ref (u + 31 + 2), .int rem]), .inl (0, 3, .inl rlo), .inl (0, 3, .inl rhi)] [.inl (0, 216, .inl rom), .inl (0, 300, .inl fnd)] 31 rfl
theorem un_rb_r {σ : AH} {u : Nat} {at' : Nat → Int32} {pa : Nat → Int32} {mo : Nat → Int32} {le : Nat → Int32} {hd : Nat → Int32} {nt : Nat → Int32} {ct : Int32} {sts6 : Nat → Int64} {blo : Nat → Nat → Int32} {bhi : Nat → Nat → Int32} {bem : Nat → Int32} {glo : Nat → Int32} {ghi : Nat → Int32} {gem : Int32} {rlo : Nat → Int32} {rhi : Nat → Int32} {rem : Int32} {rom : Nat → Int32} {fnd : Nat → Int32} {fc : Int32} {prt : Int32} {lim : Int32} {rlo2 : Nat → Int32} {rhi2 : Nat → Int32} {rem2 : Int32} : wSp (wUn σ u at' pa mo le hd nt ct sts6 blo bhi bem glo ghi gem rlo rhi rem rom fnd fc prt lim) (u + 31) rlo2 rhi2 rem2 = wUn σ u at' pa mo le hd nt ct sts6 blo bhi bem glo ghi gem rlo2 rhi2 rem2 rom fnd fc prt lim := wL_mid [.inr (4, [.ref (u + 1), .ref (u + 8), .ref (u + 9), .ref (u + 28), .ref (u + 31), .ref (u + 34), .ref (u + 35), .int fc, .int prt, .int lim]), .inr (3, [.ref (u + 1 + 1), .ref (u + 1 + 2), .ref (u + 1 + 3), .ref (u + 1 + 4), .ref (u + 1 + 5), .ref (u + 1 + 6), .int ct]), .inl (0, 5418, .inl at'), .inl (0, 300, .inl pa), .inl (0, 300, .inl mo), .inl (0, 300, .inl le), .inl (0, 512, .inl hd), .inl (0, 300, .inl nt), .inl (1, 6, .inr (.inl sts6)), .inl (4, 6, .inr (.inr (.inr (.inr (fun j => some (u + (10 + 3 * j))))))), .inr (2, [.ref (u + (10 + 3 * 0) + 1), .ref (u + (10 + 3 * 0) + 2), .int (bem 0)]), .inl (0, 3, .inl (blo 0)), .inl (0, 3, .inl (bhi 0)), .inr (2, [.ref (u + (10 + 3 * 1) + 1), .ref (u + (10 + 3 * 1) + 2), .int (bem 1)]), .inl (0, 3, .inl (blo 1)), .inl (0, 3, .inl (bhi 1)), .inr (2, [.ref (u + (10 + 3 * 2) + 1), .ref (u + (10 + 3 * 2) + 2), .int (bem 2)]), .inl (0, 3, .inl (blo 2)), .inl (0, 3, .inl (bhi 2)), .inr (2, [.ref (u + (10 + 3 * 3) + 1), .ref (u + (10 + 3 * 3) + 2), .int (bem 3)]), .inl (0, 3, .inl (blo 3)), .inl (0, 3, .inl (bhi 3)), .inr (2, [.ref (u + (10 + 3 * 4) + 1), .ref (u + (10 + 3 * 4) + 2), .int (bem 4)]), .inl (0, 3, .inl (blo 4)), .inl (0, 3, .inl (bhi 4)), .inr (2, [.ref (u + (10 + 3 * 5) + 1), .ref (u + (10 + 3 * 5) + 2), .int (bem 5)]), .inl (0, 3, .inl (blo 5)), .inl (0, 3, .inl (bhi 5)), .inr (2, [.ref (u + 28 + 1), .ref (u + 28 + 2), .int gem]), .inl (0, 3, .inl glo), .inl (0, 3, .inl ghi)] [.inr (2, [.ref (u + 31 + 1), .ref (u + 31 + 2), .int rem]), .inl (0, 3, .inl rlo), .inl (0, 3, .inl rhi)] [.inl (0, 216, .inl rom), .inl (0, 300, .inl fnd)] [.inr (2, [.ref (u + 31 + 1), .ref (u + 31 + 2), .int rem2]), .inl (0, 3, .inl rlo2), .inl (0, 3, .inl rhi2)] 31 rfl rfl
theorem un_bx_s {σ : AH} {u : Nat} {at' : Nat → Int32} {pa : Nat → Int32} {mo : Nat → Int32} {le : Nat → Int32} {hd : Nat → Int32} {nt : Nat → Int32} {ct : Int32} {sts6 : Nat → Int64} {blo : Nat → Nat → Int32} {bhi : Nat → Nat → Int32} {bem : Nat → Int32} {glo : Nat → Int32} {ghi : Nat → Int32} {gem : Int32} {rlo : Nat → Int32} {rhi : Nat → Int32} {rem : Int32} {rom : Nat → Int32} {fnd : Nat → Int32} {fc : Int32} {prt : Int32} {lim : Int32} (p : Nat) (hp : p < 6) : wUn σ u at' pa mo le hd nt ct sts6 blo bhi bem glo ghi gem rlo rhi rem rom fnd fc prt lim = wSp (wUn σ u at' pa mo le hd nt ct sts6 blo bhi bem glo ghi gem rlo rhi rem rom fnd fc prt lim) (u + (10 + 3 * p)) (blo p) (bhi p) (bem p) := by
  match p, hp with
  | 0, _ => exact wL_mids [.inr (4, [.ref (u + 1), .ref (u + 8), .ref (u + 9), .ref (u + 28), .ref (u + 31), .ref (u + 34), .ref (u + 35), .int fc, .int prt, .int lim]), .inr (3, [.ref (u + 1 + 1), .ref (u + 1 + 2), .ref (u + 1 + 3), .ref (u + 1 + 4), .ref (u + 1 + 5), .ref (u + 1 + 6), .int ct]), .inl (0, 5418, .inl at'), .inl (0, 300, .inl pa), .inl (0, 300, .inl mo), .inl (0, 300, .inl le), .inl (0, 512, .inl hd), .inl (0, 300, .inl nt), .inl (1, 6, .inr (.inl sts6)), .inl (4, 6, .inr (.inr (.inr (.inr (fun j => some (u + (10 + 3 * j)))))))] [.inr (2, [.ref (u + (10 + 3 * 0) + 1), .ref (u + (10 + 3 * 0) + 2), .int (bem 0)]), .inl (0, 3, .inl (blo 0)), .inl (0, 3, .inl (bhi 0))] [.inr (2, [.ref (u + (10 + 3 * 1) + 1), .ref (u + (10 + 3 * 1) + 2), .int (bem 1)]), .inl (0, 3, .inl (blo 1)), .inl (0, 3, .inl (bhi 1)), .inr (2, [.ref (u + (10 + 3 * 2) + 1), .ref (u + (10 + 3 * 2) + 2), .int (bem 2)]), .inl (0, 3, .inl (blo 2)), .inl (0, 3, .inl (bhi 2)), .inr (2, [.ref (u + (10 + 3 * 3) + 1), .ref (u + (10 + 3 * 3) + 2), .int (bem 3)]), .inl (0, 3, .inl (blo 3)), .inl (0, 3, .inl (bhi 3)), .inr (2, [.ref (u + (10 + 3 * 4) + 1), .ref (u + (10 + 3 * 4) + 2), .int (bem 4)]), .inl (0, 3, .inl (blo 4)), .inl (0, 3, .inl (bhi 4)), .inr (2, [.ref (u + (10 + 3 * 5) + 1), .ref (u + (10 + 3 * 5) + 2), .int (bem 5)]), .inl (0, 3, .inl (blo 5)), .inl (0, 3, .inl (bhi 5)), .inr (2, [.ref (u + 28 + 1), .ref (u + 28 + 2), .int gem]), .inl (0, 3, .inl glo), .inl (0, 3, .inl ghi), .inr (2, [.ref (u + 31 + 1), .ref (u + 31 + 2), .int rem]), .inl (0, 3, .inl rlo), .inl (0, 3, .inl rhi), .inl (0, 216, .inl rom), .inl (0, 300, .inl fnd)] 10 rfl
  | 1, _ => exact wL_mids [.inr (4, [.ref (u + 1), .ref (u + 8), .ref (u + 9), .ref (u + 28), .ref (u + 31), .ref (u + 34), .ref (u + 35), .int fc, .int prt, .int lim]), .inr (3, [.ref (u + 1 + 1), .ref (u + 1 + 2), .ref (u + 1 + 3), .ref (u + 1 + 4), .ref (u + 1 + 5), .ref (u + 1 + 6), .int ct]), .inl (0, 5418, .inl at'), .inl (0, 300, .inl pa), .inl (0, 300, .inl mo), .inl (0, 300, .inl le), .inl (0, 512, .inl hd), .inl (0, 300, .inl nt), .inl (1, 6, .inr (.inl sts6)), .inl (4, 6, .inr (.inr (.inr (.inr (fun j => some (u + (10 + 3 * j))))))), .inr (2, [.ref (u + (10 + 3 * 0) + 1), .ref (u + (10 + 3 * 0) + 2), .int (bem 0)]), .inl (0, 3, .inl (blo 0)), .inl (0, 3, .inl (bhi 0))] [.inr (2, [.ref (u + (10 + 3 * 1) + 1), .ref (u + (10 + 3 * 1) + 2), .int (bem 1)]), .inl (0, 3, .inl (blo 1)), .inl (0, 3, .inl (bhi 1))] [.inr (2, [.ref (u + (10 + 3 * 2) + 1), .ref (u + (10 + 3 * 2) + 2), .int (bem 2)]), .inl (0, 3, .inl (blo 2)), .inl (0, 3, .inl (bhi 2)), .inr (2, [.ref (u + (10 + 3 * 3) + 1), .ref (u + (10 + 3 * 3) + 2), .int (bem 3)]), .inl (0, 3, .inl (blo 3)), .inl (0, 3, .inl (bhi 3)), .inr (2, [.ref (u + (10 + 3 * 4) + 1), .ref (u + (10 + 3 * 4) + 2), .int (bem 4)]), .inl (0, 3, .inl (blo 4)), .inl (0, 3, .inl (bhi 4)), .inr (2, [.ref (u + (10 + 3 * 5) + 1), .ref (u + (10 + 3 * 5) + 2), .int (bem 5)]), .inl (0, 3, .inl (blo 5)), .inl (0, 3, .inl (bhi 5)), .inr (2, [.ref (u + 28 + 1), .ref (u + 28 + 2), .int gem]), .inl (0, 3, .inl glo), .inl (0, 3, .inl ghi), .inr (2, [.ref (u + 31 + 1), .ref (u + 31 + 2), .int rem]), .inl (0, 3, .inl rlo), .inl (0, 3, .inl rhi), .inl (0, 216, .inl rom), .inl (0, 300, .inl fnd)] 13 rfl
  | 2, _ => exact wL_mids [.inr (4, [.ref (u + 1), .ref (u + 8), .ref (u + 9), .ref (u + 28), .ref (u + 31), .ref (u + 34), .ref (u + 35), .int fc, .int prt, .int lim]), .inr (3, [.ref (u + 1 + 1), .ref (u + 1 + 2), .ref (u + 1 + 3), .ref (u + 1 + 4), .ref (u + 1 + 5), .ref (u + 1 + 6), .int ct]), .inl (0, 5418, .inl at'), .inl (0, 300, .inl pa), .inl (0, 300, .inl mo), .inl (0, 300, .inl le), .inl (0, 512, .inl hd), .inl (0, 300, .inl nt), .inl (1, 6, .inr (.inl sts6)), .inl (4, 6, .inr (.inr (.inr (.inr (fun j => some (u + (10 + 3 * j))))))), .inr (2, [.ref (u + (10 + 3 * 0) + 1), .ref (u + (10 + 3 * 0) + 2), .int (bem 0)]), .inl (0, 3, .inl (blo 0)), .inl (0, 3, .inl (bhi 0)), .inr (2, [.ref (u + (10 + 3 * 1) + 1), .ref (u + (10 + 3 * 1) + 2), .int (bem 1)]), .inl (0, 3, .inl (blo 1)), .inl (0, 3, .inl (bhi 1))] [.inr (2, [.ref (u + (10 + 3 * 2) + 1), .ref (u + (10 + 3 * 2) + 2), .int (bem 2)]), .inl (0, 3, .inl (blo 2)), .inl (0, 3, .inl (bhi 2))] [.inr (2, [.ref (u + (10 + 3 * 3) + 1), .ref (u + (10 + 3 * 3) + 2), .int (bem 3)]), .inl (0, 3, .inl (blo 3)), .inl (0, 3, .inl (bhi 3)), .inr (2, [.ref (u + (10 + 3 * 4) + 1), .ref (u + (10 + 3 * 4) + 2), .int (bem 4)]), .inl (0, 3, .inl (blo 4)), .inl (0, 3, .inl (bhi 4)), .inr (2, [.ref (u + (10 + 3 * 5) + 1), .ref (u + (10 + 3 * 5) + 2), .int (bem 5)]), .inl (0, 3, .inl (blo 5)), .inl (0, 3, .inl (bhi 5)), .inr (2, [.ref (u + 28 + 1), .ref (u + 28 + 2), .int gem]), .inl (0, 3, .inl glo), .inl (0, 3, .inl ghi), .inr (2, [.ref (u + 31 + 1), .ref (u + 31 + 2), .int rem]), .inl (0, 3, .inl rlo), .inl (0, 3, .inl rhi), .inl (0, 216, .inl rom), .inl (0, 300, .inl fnd)] 16 rfl
  | 3, _ => exact wL_mids [.inr (4, [.ref (u + 1), .ref (u + 8), .ref (u + 9), .ref (u + 28), .ref (u + 31), .ref (u + 34), .ref (u + 35), .int fc, .int prt, .int lim]), .inr (3, [.ref (u + 1 + 1), .ref (u + 1 + 2), .ref (u + 1 + 3), .ref (u + 1 + 4), .ref (u + 1 + 5), .ref (u + 1 + 6), .int ct]), .inl (0, 5418, .inl at'), .inl (0, 300, .inl pa), .inl (0, 300, .inl mo), .inl (0, 300, .inl le), .inl (0, 512, .inl hd), .inl (0, 300, .inl nt), .inl (1, 6, .inr (.inl sts6)), .inl (4, 6, .inr (.inr (.inr (.inr (fun j => some (u + (10 + 3 * j))))))), .inr (2, [.ref (u + (10 + 3 * 0) + 1), .ref (u + (10 + 3 * 0) + 2), .int (bem 0)]), .inl (0, 3, .inl (blo 0)), .inl (0, 3, .inl (bhi 0)), .inr (2, [.ref (u + (10 + 3 * 1) + 1), .ref (u + (10 + 3 * 1) + 2), .int (bem 1)]), .inl (0, 3, .inl (blo 1)), .inl (0, 3, .inl (bhi 1)), .inr (2, [.ref (u + (10 + 3 * 2) + 1), .ref (u + (10 + 3 * 2) + 2), .int (bem 2)]), .inl (0, 3, .inl (blo 2)), .inl (0, 3, .inl (bhi 2))] [.inr (2, [.ref (u + (10 + 3 * 3) + 1), .ref (u + (10 + 3 * 3) + 2), .int (bem 3)]), .inl (0, 3, .inl (blo 3)), .inl (0, 3, .inl (bhi 3))] [.inr (2, [.ref (u + (10 + 3 * 4) + 1), .ref (u + (10 + 3 * 4) + 2), .int (bem 4)]), .inl (0, 3, .inl (blo 4)), .inl (0, 3, .inl (bhi 4)), .inr (2, [.ref (u + (10 + 3 * 5) + 1), .ref (u + (10 + 3 * 5) + 2), .int (bem 5)]), .inl (0, 3, .inl (blo 5)), .inl (0, 3, .inl (bhi 5)), .inr (2, [.ref (u + 28 + 1), .ref (u + 28 + 2), .int gem]), .inl (0, 3, .inl glo), .inl (0, 3, .inl ghi), .inr (2, [.ref (u + 31 + 1), .ref (u + 31 + 2), .int rem]), .inl (0, 3, .inl rlo), .inl (0, 3, .inl rhi), .inl (0, 216, .inl rom), .inl (0, 300, .inl fnd)] 19 rfl
  | 4, _ => exact wL_mids [.inr (4, [.ref (u + 1), .ref (u + 8), .ref (u + 9), .ref (u + 28), .ref (u + 31), .ref (u + 34), .ref (u + 35), .int fc, .int prt, .int lim]), .inr (3, [.ref (u + 1 + 1), .ref (u + 1 + 2), .ref (u + 1 + 3), .ref (u + 1 + 4), .ref (u + 1 + 5), .ref (u + 1 + 6), .int ct]), .inl (0, 5418, .inl at'), .inl (0, 300, .inl pa), .inl (0, 300, .inl mo), .inl (0, 300, .inl le), .inl (0, 512, .inl hd), .inl (0, 300, .inl nt), .inl (1, 6, .inr (.inl sts6)), .inl (4, 6, .inr (.inr (.inr (.inr (fun j => some (u + (10 + 3 * j))))))), .inr (2, [.ref (u + (10 + 3 * 0) + 1), .ref (u + (10 + 3 * 0) + 2), .int (bem 0)]), .inl (0, 3, .inl (blo 0)), .inl (0, 3, .inl (bhi 0)), .inr (2, [.ref (u + (10 + 3 * 1) + 1), .ref (u + (10 + 3 * 1) + 2), .int (bem 1)]), .inl (0, 3, .inl (blo 1)), .inl (0, 3, .inl (bhi 1)), .inr (2, [.ref (u + (10 + 3 * 2) + 1), .ref (u + (10 + 3 * 2) + 2), .int (bem 2)]), .inl (0, 3, .inl (blo 2)), .inl (0, 3, .inl (bhi 2)), .inr (2, [.ref (u + (10 + 3 * 3) + 1), .ref (u + (10 + 3 * 3) + 2), .int (bem 3)]), .inl (0, 3, .inl (blo 3)), .inl (0, 3, .inl (bhi 3))] [.inr (2, [.ref (u + (10 + 3 * 4) + 1), .ref (u + (10 + 3 * 4) + 2), .int (bem 4)]), .inl (0, 3, .inl (blo 4)), .inl (0, 3, .inl (bhi 4))] [.inr (2, [.ref (u + (10 + 3 * 5) + 1), .ref (u + (10 + 3 * 5) + 2), .int (bem 5)]), .inl (0, 3, .inl (blo 5)), .inl (0, 3, .inl (bhi 5)), .inr (2, [.ref (u + 28 + 1), .ref (u + 28 + 2), .int gem]), .inl (0, 3, .inl glo), .inl (0, 3, .inl ghi), .inr (2, [.ref (u + 31 + 1), .ref (u + 31 + 2), .int rem]), .inl (0, 3, .inl rlo), .inl (0, 3, .inl rhi), .inl (0, 216, .inl rom), .inl (0, 300, .inl fnd)] 22 rfl
  | 5, _ => exact wL_mids [.inr (4, [.ref (u + 1), .ref (u + 8), .ref (u + 9), .ref (u + 28), .ref (u + 31), .ref (u + 34), .ref (u + 35), .int fc, .int prt, .int lim]), .inr (3, [.ref (u + 1 + 1), .ref (u + 1 + 2), .ref (u + 1 + 3), .ref (u + 1 + 4), .ref (u + 1 + 5), .ref (u + 1 + 6), .int ct]), .inl (0, 5418, .inl at'), .inl (0, 300, .inl pa), .inl (0, 300, .inl mo), .inl (0, 300, .inl le), .inl (0, 512, .inl hd), .inl (0, 300, .inl nt), .inl (1, 6, .inr (.inl sts6)), .inl (4, 6, .inr (.inr (.inr (.inr (fun j => some (u + (10 + 3 * j))))))), .inr (2, [.ref (u + (10 + 3 * 0) + 1), .ref (u + (10 + 3 * 0) + 2), .int (bem 0)]), .inl (0, 3, .inl (blo 0)), .inl (0, 3, .inl (bhi 0)), .inr (2, [.ref (u + (10 + 3 * 1) + 1), .ref (u + (10 + 3 * 1) + 2), .int (bem 1)]), .inl (0, 3, .inl (blo 1)), .inl (0, 3, .inl (bhi 1)), .inr (2, [.ref (u + (10 + 3 * 2) + 1), .ref (u + (10 + 3 * 2) + 2), .int (bem 2)]), .inl (0, 3, .inl (blo 2)), .inl (0, 3, .inl (bhi 2)), .inr (2, [.ref (u + (10 + 3 * 3) + 1), .ref (u + (10 + 3 * 3) + 2), .int (bem 3)]), .inl (0, 3, .inl (blo 3)), .inl (0, 3, .inl (bhi 3)), .inr (2, [.ref (u + (10 + 3 * 4) + 1), .ref (u + (10 + 3 * 4) + 2), .int (bem 4)]), .inl (0, 3, .inl (blo 4)), .inl (0, 3, .inl (bhi 4))] [.inr (2, [.ref (u + (10 + 3 * 5) + 1), .ref (u + (10 + 3 * 5) + 2), .int (bem 5)]), .inl (0, 3, .inl (blo 5)), .inl (0, 3, .inl (bhi 5))] [.inr (2, [.ref (u + 28 + 1), .ref (u + 28 + 2), .int gem]), .inl (0, 3, .inl glo), .inl (0, 3, .inl ghi), .inr (2, [.ref (u + 31 + 1), .ref (u + 31 + 2), .int rem]), .inl (0, 3, .inl rlo), .inl (0, 3, .inl rhi), .inl (0, 216, .inl rom), .inl (0, 300, .inl fnd)] 25 rfl
  | p + 6, hp => omega
theorem un_bx_r {σ : AH} {u : Nat} {at' : Nat → Int32} {pa : Nat → Int32} {mo : Nat → Int32} {le : Nat → Int32} {hd : Nat → Int32} {nt : Nat → Int32} {ct : Int32} {sts6 : Nat → Int64} {blo : Nat → Nat → Int32} {bhi : Nat → Nat → Int32} {bem : Nat → Int32} {glo : Nat → Int32} {ghi : Nat → Int32} {gem : Int32} {rlo : Nat → Int32} {rhi : Nat → Int32} {rem : Int32} {rom : Nat → Int32} {fnd : Nat → Int32} {fc : Int32} {prt : Int32} {lim : Int32} {lo hi : Nat → Int32} {em : Int32} (p : Nat) (hp : p < 6) : wSp (wUn σ u at' pa mo le hd nt ct sts6 blo bhi bem glo ghi gem rlo rhi rem rom fnd fc prt lim) (u + (10 + 3 * p)) lo hi em = wUn σ u at' pa mo le hd nt ct sts6 (va_up blo p lo) (va_up bhi p hi) (va_up bem p em) glo ghi gem rlo rhi rem rom fnd fc prt lim := by
  match p, hp with
  | 0, _ => exact wL_mid [.inr (4, [.ref (u + 1), .ref (u + 8), .ref (u + 9), .ref (u + 28), .ref (u + 31), .ref (u + 34), .ref (u + 35), .int fc, .int prt, .int lim]), .inr (3, [.ref (u + 1 + 1), .ref (u + 1 + 2), .ref (u + 1 + 3), .ref (u + 1 + 4), .ref (u + 1 + 5), .ref (u + 1 + 6), .int ct]), .inl (0, 5418, .inl at'), .inl (0, 300, .inl pa), .inl (0, 300, .inl mo), .inl (0, 300, .inl le), .inl (0, 512, .inl hd), .inl (0, 300, .inl nt), .inl (1, 6, .inr (.inl sts6)), .inl (4, 6, .inr (.inr (.inr (.inr (fun j => some (u + (10 + 3 * j)))))))] [.inr (2, [.ref (u + (10 + 3 * 0) + 1), .ref (u + (10 + 3 * 0) + 2), .int (bem 0)]), .inl (0, 3, .inl (blo 0)), .inl (0, 3, .inl (bhi 0))] [.inr (2, [.ref (u + (10 + 3 * 1) + 1), .ref (u + (10 + 3 * 1) + 2), .int (bem 1)]), .inl (0, 3, .inl (blo 1)), .inl (0, 3, .inl (bhi 1)), .inr (2, [.ref (u + (10 + 3 * 2) + 1), .ref (u + (10 + 3 * 2) + 2), .int (bem 2)]), .inl (0, 3, .inl (blo 2)), .inl (0, 3, .inl (bhi 2)), .inr (2, [.ref (u + (10 + 3 * 3) + 1), .ref (u + (10 + 3 * 3) + 2), .int (bem 3)]), .inl (0, 3, .inl (blo 3)), .inl (0, 3, .inl (bhi 3)), .inr (2, [.ref (u + (10 + 3 * 4) + 1), .ref (u + (10 + 3 * 4) + 2), .int (bem 4)]), .inl (0, 3, .inl (blo 4)), .inl (0, 3, .inl (bhi 4)), .inr (2, [.ref (u + (10 + 3 * 5) + 1), .ref (u + (10 + 3 * 5) + 2), .int (bem 5)]), .inl (0, 3, .inl (blo 5)), .inl (0, 3, .inl (bhi 5)), .inr (2, [.ref (u + 28 + 1), .ref (u + 28 + 2), .int gem]), .inl (0, 3, .inl glo), .inl (0, 3, .inl ghi), .inr (2, [.ref (u + 31 + 1), .ref (u + 31 + 2), .int rem]), .inl (0, 3, .inl rlo), .inl (0, 3, .inl rhi), .inl (0, 216, .inl rom), .inl (0, 300, .inl fnd)] [.inr (2, [.ref (u + (10 + 3 * 0) + 1), .ref (u + (10 + 3 * 0) + 2), .int em]), .inl (0, 3, .inl lo), .inl (0, 3, .inl hi)] 10 rfl rfl
  | 1, _ => exact wL_mid [.inr (4, [.ref (u + 1), .ref (u + 8), .ref (u + 9), .ref (u + 28), .ref (u + 31), .ref (u + 34), .ref (u + 35), .int fc, .int prt, .int lim]), .inr (3, [.ref (u + 1 + 1), .ref (u + 1 + 2), .ref (u + 1 + 3), .ref (u + 1 + 4), .ref (u + 1 + 5), .ref (u + 1 + 6), .int ct]), .inl (0, 5418, .inl at'), .inl (0, 300, .inl pa), .inl (0, 300, .inl mo), .inl (0, 300, .inl le), .inl (0, 512, .inl hd), .inl (0, 300, .inl nt), .inl (1, 6, .inr (.inl sts6)), .inl (4, 6, .inr (.inr (.inr (.inr (fun j => some (u + (10 + 3 * j))))))), .inr (2, [.ref (u + (10 + 3 * 0) + 1), .ref (u + (10 + 3 * 0) + 2), .int (bem 0)]), .inl (0, 3, .inl (blo 0)), .inl (0, 3, .inl (bhi 0))] [.inr (2, [.ref (u + (10 + 3 * 1) + 1), .ref (u + (10 + 3 * 1) + 2), .int (bem 1)]), .inl (0, 3, .inl (blo 1)), .inl (0, 3, .inl (bhi 1))] [.inr (2, [.ref (u + (10 + 3 * 2) + 1), .ref (u + (10 + 3 * 2) + 2), .int (bem 2)]), .inl (0, 3, .inl (blo 2)), .inl (0, 3, .inl (bhi 2)), .inr (2, [.ref (u + (10 + 3 * 3) + 1), .ref (u + (10 + 3 * 3) + 2), .int (bem 3)]), .inl (0, 3, .inl (blo 3)), .inl (0, 3, .inl (bhi 3)), .inr (2, [.ref (u + (10 + 3 * 4) + 1), .ref (u + (10 + 3 * 4) + 2), .int (bem 4)]), .inl (0, 3, .inl (blo 4)), .inl (0, 3, .inl (bhi 4)), .inr (2, [.ref (u + (10 + 3 * 5) + 1), .ref (u + (10 + 3 * 5) + 2), .int (bem 5)]), .inl (0, 3, .inl (blo 5)), .inl (0, 3, .inl (bhi 5)), .inr (2, [.ref (u + 28 + 1), .ref (u + 28 + 2), .int gem]), .inl (0, 3, .inl glo), .inl (0, 3, .inl ghi), .inr (2, [.ref (u + 31 + 1), .ref (u + 31 + 2), .int rem]), .inl (0, 3, .inl rlo), .inl (0, 3, .inl rhi), .inl (0, 216, .inl rom), .inl (0, 300, .inl fnd)] [.inr (2, [.ref (u + (10 + 3 * 1) + 1), .ref (u + (10 + 3 * 1) + 2), .int em]), .inl (0, 3, .inl lo), .inl (0, 3, .inl hi)] 13 rfl rfl
  | 2, _ => exact wL_mid [.inr (4, [.ref (u + 1), .ref (u + 8), .ref (u + 9), .ref (u + 28), .ref (u + 31), .ref (u + 34), .ref (u + 35), .int fc, .int prt, .int lim]), .inr (3, [.ref (u + 1 + 1), .ref (u + 1 + 2), .ref (u + 1 + 3), .ref (u + 1 + 4), .ref (u + 1 + 5), .ref (u + 1 + 6), .int ct]), .inl (0, 5418, .inl at'), .inl (0, 300, .inl pa), .inl (0, 300, .inl mo), .inl (0, 300, .inl le), .inl (0, 512, .inl hd), .inl (0, 300, .inl nt), .inl (1, 6, .inr (.inl sts6)), .inl (4, 6, .inr (.inr (.inr (.inr (fun j => some (u + (10 + 3 * j))))))), .inr (2, [.ref (u + (10 + 3 * 0) + 1), .ref (u + (10 + 3 * 0) + 2), .int (bem 0)]), .inl (0, 3, .inl (blo 0)), .inl (0, 3, .inl (bhi 0)), .inr (2, [.ref (u + (10 + 3 * 1) + 1), .ref (u + (10 + 3 * 1) + 2), .int (bem 1)]), .inl (0, 3, .inl (blo 1)), .inl (0, 3, .inl (bhi 1))] [.inr (2, [.ref (u + (10 + 3 * 2) + 1), .ref (u + (10 + 3 * 2) + 2), .int (bem 2)]), .inl (0, 3, .inl (blo 2)), .inl (0, 3, .inl (bhi 2))] [.inr (2, [.ref (u + (10 + 3 * 3) + 1), .ref (u + (10 + 3 * 3) + 2), .int (bem 3)]), .inl (0, 3, .inl (blo 3)), .inl (0, 3, .inl (bhi 3)), .inr (2, [.ref (u + (10 + 3 * 4) + 1), .ref (u + (10 + 3 * 4) + 2), .int (bem 4)]), .inl (0, 3, .inl (blo 4)), .inl (0, 3, .inl (bhi 4)), .inr (2, [.ref (u + (10 + 3 * 5) + 1), .ref (u + (10 + 3 * 5) + 2), .int (bem 5)]), .inl (0, 3, .inl (blo 5)), .inl (0, 3, .inl (bhi 5)), .inr (2, [.ref (u + 28 + 1), .ref (u + 28 + 2), .int gem]), .inl (0, 3, .inl glo), .inl (0, 3, .inl ghi), .inr (2, [.ref (u + 31 + 1), .ref (u + 31 + 2), .int rem]), .inl (0, 3, .inl rlo), .inl (0, 3, .inl rhi), .inl (0, 216, .inl rom), .inl (0, 300, .inl fnd)] [.inr (2, [.ref (u + (10 + 3 * 2) + 1), .ref (u + (10 + 3 * 2) + 2), .int em]), .inl (0, 3, .inl lo), .inl (0, 3, .inl hi)] 16 rfl rfl
  | 3, _ => exact wL_mid [.inr (4, [.ref (u + 1), .ref (u + 8), .ref (u + 9), .ref (u + 28), .ref (u + 31), .ref (u + 34), .ref (u + 35), .int fc, .int prt, .int lim]), .inr (3, [.ref (u + 1 + 1), .ref (u + 1 + 2), .ref (u + 1 + 3), .ref (u + 1 + 4), .ref (u + 1 + 5), .ref (u + 1 + 6), .int ct]), .inl (0, 5418, .inl at'), .inl (0, 300, .inl pa), .inl (0, 300, .inl mo), .inl (0, 300, .inl le), .inl (0, 512, .inl hd), .inl (0, 300, .inl nt), .inl (1, 6, .inr (.inl sts6)), .inl (4, 6, .inr (.inr (.inr (.inr (fun j => some (u + (10 + 3 * j))))))), .inr (2, [.ref (u + (10 + 3 * 0) + 1), .ref (u + (10 + 3 * 0) + 2), .int (bem 0)]), .inl (0, 3, .inl (blo 0)), .inl (0, 3, .inl (bhi 0)), .inr (2, [.ref (u + (10 + 3 * 1) + 1), .ref (u + (10 + 3 * 1) + 2), .int (bem 1)]), .inl (0, 3, .inl (blo 1)), .inl (0, 3, .inl (bhi 1)), .inr (2, [.ref (u + (10 + 3 * 2) + 1), .ref (u + (10 + 3 * 2) + 2), .int (bem 2)]), .inl (0, 3, .inl (blo 2)), .inl (0, 3, .inl (bhi 2))] [.inr (2, [.ref (u + (10 + 3 * 3) + 1), .ref (u + (10 + 3 * 3) + 2), .int (bem 3)]), .inl (0, 3, .inl (blo 3)), .inl (0, 3, .inl (bhi 3))] [.inr (2, [.ref (u + (10 + 3 * 4) + 1), .ref (u + (10 + 3 * 4) + 2), .int (bem 4)]), .inl (0, 3, .inl (blo 4)), .inl (0, 3, .inl (bhi 4)), .inr (2, [.ref (u + (10 + 3 * 5) + 1), .ref (u + (10 + 3 * 5) + 2), .int (bem 5)]), .inl (0, 3, .inl (blo 5)), .inl (0, 3, .inl (bhi 5)), .inr (2, [.ref (u + 28 + 1), .ref (u + 28 + 2), .int gem]), .inl (0, 3, .inl glo), .inl (0, 3, .inl ghi), .inr (2, [.ref (u + 31 + 1), .ref (u + 31 + 2), .int rem]), .inl (0, 3, .inl rlo), .inl (0, 3, .inl rhi), .inl (0, 216, .inl rom), .inl (0, 300, .inl fnd)] [.inr (2, [.ref (u + (10 + 3 * 3) + 1), .ref (u + (10 + 3 * 3) + 2), .int em]), .inl (0, 3, .inl lo), .inl (0, 3, .inl hi)] 19 rfl rfl
  | 4, _ => exact wL_mid [.inr (4, [.ref (u + 1), .ref (u + 8), .ref (u + 9), .ref (u + 28), .ref (u + 31), .ref (u + 34), .ref (u + 35), .int fc, .int prt, .int lim]), .inr (3, [.ref (u + 1 + 1), .ref (u + 1 + 2), .ref (u + 1 + 3), .ref (u + 1 + 4), .ref (u + 1 + 5), .ref (u + 1 + 6), .int ct]), .inl (0, 5418, .inl at'), .inl (0, 300, .inl pa), .inl (0, 300, .inl mo), .inl (0, 300, .inl le), .inl (0, 512, .inl hd), .inl (0, 300, .inl nt), .inl (1, 6, .inr (.inl sts6)), .inl (4, 6, .inr (.inr (.inr (.inr (fun j => some (u + (10 + 3 * j))))))), .inr (2, [.ref (u + (10 + 3 * 0) + 1), .ref (u + (10 + 3 * 0) + 2), .int (bem 0)]), .inl (0, 3, .inl (blo 0)), .inl (0, 3, .inl (bhi 0)), .inr (2, [.ref (u + (10 + 3 * 1) + 1), .ref (u + (10 + 3 * 1) + 2), .int (bem 1)]), .inl (0, 3, .inl (blo 1)), .inl (0, 3, .inl (bhi 1)), .inr (2, [.ref (u + (10 + 3 * 2) + 1), .ref (u + (10 + 3 * 2) + 2), .int (bem 2)]), .inl (0, 3, .inl (blo 2)), .inl (0, 3, .inl (bhi 2)), .inr (2, [.ref (u + (10 + 3 * 3) + 1), .ref (u + (10 + 3 * 3) + 2), .int (bem 3)]), .inl (0, 3, .inl (blo 3)), .inl (0, 3, .inl (bhi 3))] [.inr (2, [.ref (u + (10 + 3 * 4) + 1), .ref (u + (10 + 3 * 4) + 2), .int (bem 4)]), .inl (0, 3, .inl (blo 4)), .inl (0, 3, .inl (bhi 4))] [.inr (2, [.ref (u + (10 + 3 * 5) + 1), .ref (u + (10 + 3 * 5) + 2), .int (bem 5)]), .inl (0, 3, .inl (blo 5)), .inl (0, 3, .inl (bhi 5)), .inr (2, [.ref (u + 28 + 1), .ref (u + 28 + 2), .int gem]), .inl (0, 3, .inl glo), .inl (0, 3, .inl ghi), .inr (2, [.ref (u + 31 + 1), .ref (u + 31 + 2), .int rem]), .inl (0, 3, .inl rlo), .inl (0, 3, .inl rhi), .inl (0, 216, .inl rom), .inl (0, 300, .inl fnd)] [.inr (2, [.ref (u + (10 + 3 * 4) + 1), .ref (u + (10 + 3 * 4) + 2), .int em]), .inl (0, 3, .inl lo), .inl (0, 3, .inl hi)] 22 rfl rfl
  | 5, _ => exact wL_mid [.inr (4, [.ref (u + 1), .ref (u + 8), .ref (u + 9), .ref (u + 28), .ref (u + 31), .ref (u + 34), .ref (u + 35), .int fc, .int prt, .int lim]), .inr (3, [.ref (u + 1 + 1), .ref (u + 1 + 2), .ref (u + 1 + 3), .ref (u + 1 + 4), .ref (u + 1 + 5), .ref (u + 1 + 6), .int ct]), .inl (0, 5418, .inl at'), .inl (0, 300, .inl pa), .inl (0, 300, .inl mo), .inl (0, 300, .inl le), .inl (0, 512, .inl hd), .inl (0, 300, .inl nt), .inl (1, 6, .inr (.inl sts6)), .inl (4, 6, .inr (.inr (.inr (.inr (fun j => some (u + (10 + 3 * j))))))), .inr (2, [.ref (u + (10 + 3 * 0) + 1), .ref (u + (10 + 3 * 0) + 2), .int (bem 0)]), .inl (0, 3, .inl (blo 0)), .inl (0, 3, .inl (bhi 0)), .inr (2, [.ref (u + (10 + 3 * 1) + 1), .ref (u + (10 + 3 * 1) + 2), .int (bem 1)]), .inl (0, 3, .inl (blo 1)), .inl (0, 3, .inl (bhi 1)), .inr (2, [.ref (u + (10 + 3 * 2) + 1), .ref (u + (10 + 3 * 2) + 2), .int (bem 2)]), .inl (0, 3, .inl (blo 2)), .inl (0, 3, .inl (bhi 2)), .inr (2, [.ref (u + (10 + 3 * 3) + 1), .ref (u + (10 + 3 * 3) + 2), .int (bem 3)]), .inl (0, 3, .inl (blo 3)), .inl (0, 3, .inl (bhi 3)), .inr (2, [.ref (u + (10 + 3 * 4) + 1), .ref (u + (10 + 3 * 4) + 2), .int (bem 4)]), .inl (0, 3, .inl (blo 4)), .inl (0, 3, .inl (bhi 4))] [.inr (2, [.ref (u + (10 + 3 * 5) + 1), .ref (u + (10 + 3 * 5) + 2), .int (bem 5)]), .inl (0, 3, .inl (blo 5)), .inl (0, 3, .inl (bhi 5))] [.inr (2, [.ref (u + 28 + 1), .ref (u + 28 + 2), .int gem]), .inl (0, 3, .inl glo), .inl (0, 3, .inl ghi), .inr (2, [.ref (u + 31 + 1), .ref (u + 31 + 2), .int rem]), .inl (0, 3, .inl rlo), .inl (0, 3, .inl rhi), .inl (0, 216, .inl rom), .inl (0, 300, .inl fnd)] [.inr (2, [.ref (u + (10 + 3 * 5) + 1), .ref (u + (10 + 3 * 5) + 2), .int em]), .inl (0, 3, .inl lo), .inl (0, 3, .inl hi)] 25 rfl rfl
  | p + 6, hp => omega
theorem vp_lt {i : Int32} {z : Nat} (h : inB i z = true) : i.toNatClampNeg < z := Nat.not_le.mp fun q => inB_in h (Or.inr q)
theorem un_cv_gb_s {σ : AH} {u : Nat} {at' : Nat → Int32} {pa : Nat → Int32} {mo : Nat → Int32} {le : Nat → Int32} {hd : Nat → Int32} {nt : Nat → Int32} {ct : Int32} {sts6 : Nat → Int64} {blo : Nat → Nat → Int32} {bhi : Nat → Nat → Int32} {bem : Nat → Int32} {glo : Nat → Int32} {ghi : Nat → Int32} {gem : Int32} {rlo : Nat → Int32} {rhi : Nat → Int32} {rem : Int32} {rom : Nat → Int32} {fnd : Nat → Int32} {fc : Int32} {prt : Int32} {lim : Int32} (p : Nat) (hp : p < 6) : wUn σ u at' pa mo le hd nt ct sts6 blo bhi bem glo ghi gem rlo rhi rem rom fnd fc prt lim = wCv (wUn σ u at' pa mo le hd nt ct sts6 blo bhi bem glo ghi gem rlo rhi rem rom fnd fc prt lim) (u + 28) (u + (10 + 3 * p)) (u + 1 + 1) 5418 glo ghi gem (blo p) (bhi p) (bem p) at' := by
  have h1 : wL (wUn σ u at' pa mo le hd nt ct sts6 blo bhi bem glo ghi gem rlo rhi rem rom fnd fc prt lim) (u + 1 + 1) [.inl (0, 5418, .inl at')] = wUn σ u at' pa mo le hd nt ct sts6 blo bhi bem glo ghi gem rlo rhi rem rom fnd fc prt lim := by rw [wL_one]; exact hU_self (wL_at 2 rfl)
  unfold wCv
  rw [h1]
  exact (un_gb_s.trans (congrArg (fun z => wSp z (u + 28) glo ghi gem) (un_bx_s p hp)))
theorem un_cv_gb_r {σ : AH} {u : Nat} {at' : Nat → Int32} {pa : Nat → Int32} {mo : Nat → Int32} {le : Nat → Int32} {hd : Nat → Int32} {nt : Nat → Int32} {ct : Int32} {sts6 : Nat → Int64} {blo : Nat → Nat → Int32} {bhi : Nat → Nat → Int32} {bem : Nat → Int32} {glo : Nat → Int32} {ghi : Nat → Int32} {gem : Int32} {rlo : Nat → Int32} {rhi : Nat → Int32} {rem : Int32} {rom : Nat → Int32} {fnd : Nat → Int32} {fc : Int32} {prt : Int32} {lim : Int32} {lo2 hi2 : Nat → Int32} {em2 : Int32} (p : Nat) (hp : p < 6) : wCv (wUn σ u at' pa mo le hd nt ct sts6 blo bhi bem glo ghi gem rlo rhi rem rom fnd fc prt lim) (u + 28) (u + (10 + 3 * p)) (u + 1 + 1) 5418 lo2 hi2 em2 (blo p) (bhi p) (bem p) at' = wUn σ u at' pa mo le hd nt ct sts6 blo bhi bem lo2 hi2 em2 rlo rhi rem rom fnd fc prt lim := by
  have h1 : wL (wUn σ u at' pa mo le hd nt ct sts6 blo bhi bem glo ghi gem rlo rhi rem rom fnd fc prt lim) (u + 1 + 1) [.inl (0, 5418, .inl at')] = wUn σ u at' pa mo le hd nt ct sts6 blo bhi bem glo ghi gem rlo rhi rem rom fnd fc prt lim := by rw [wL_one]; exact hU_self (wL_at 2 rfl)
  unfold wCv
  rw [h1]
  exact (congrArg (fun z => wSp z (u + 28) lo2 hi2 em2) (un_bx_s p hp).symm).trans un_gb_r
theorem un_cv_rb_s {σ : AH} {u : Nat} {at' : Nat → Int32} {pa : Nat → Int32} {mo : Nat → Int32} {le : Nat → Int32} {hd : Nat → Int32} {nt : Nat → Int32} {ct : Int32} {sts6 : Nat → Int64} {blo : Nat → Nat → Int32} {bhi : Nat → Nat → Int32} {bem : Nat → Int32} {glo : Nat → Int32} {ghi : Nat → Int32} {gem : Int32} {rlo : Nat → Int32} {rhi : Nat → Int32} {rem : Int32} {rom : Nat → Int32} {fnd : Nat → Int32} {fc : Int32} {prt : Int32} {lim : Int32} (p : Nat) (hp : p < 6) : wUn σ u at' pa mo le hd nt ct sts6 blo bhi bem glo ghi gem rlo rhi rem rom fnd fc prt lim = wCv (wUn σ u at' pa mo le hd nt ct sts6 blo bhi bem glo ghi gem rlo rhi rem rom fnd fc prt lim) (u + 31) (u + (10 + 3 * p)) (u + 1 + 1) 5418 rlo rhi rem (blo p) (bhi p) (bem p) at' := by
  have h1 : wL (wUn σ u at' pa mo le hd nt ct sts6 blo bhi bem glo ghi gem rlo rhi rem rom fnd fc prt lim) (u + 1 + 1) [.inl (0, 5418, .inl at')] = wUn σ u at' pa mo le hd nt ct sts6 blo bhi bem glo ghi gem rlo rhi rem rom fnd fc prt lim := by rw [wL_one]; exact hU_self (wL_at 2 rfl)
  unfold wCv
  rw [h1]
  exact (un_rb_s.trans (congrArg (fun z => wSp z (u + 31) rlo rhi rem) (un_bx_s p hp)))
theorem un_cv_rb_r {σ : AH} {u : Nat} {at' : Nat → Int32} {pa : Nat → Int32} {mo : Nat → Int32} {le : Nat → Int32} {hd : Nat → Int32} {nt : Nat → Int32} {ct : Int32} {sts6 : Nat → Int64} {blo : Nat → Nat → Int32} {bhi : Nat → Nat → Int32} {bem : Nat → Int32} {glo : Nat → Int32} {ghi : Nat → Int32} {gem : Int32} {rlo : Nat → Int32} {rhi : Nat → Int32} {rem : Int32} {rom : Nat → Int32} {fnd : Nat → Int32} {fc : Int32} {prt : Int32} {lim : Int32} {lo2 hi2 : Nat → Int32} {em2 : Int32} (p : Nat) (hp : p < 6) : wCv (wUn σ u at' pa mo le hd nt ct sts6 blo bhi bem glo ghi gem rlo rhi rem rom fnd fc prt lim) (u + 31) (u + (10 + 3 * p)) (u + 1 + 1) 5418 lo2 hi2 em2 (blo p) (bhi p) (bem p) at' = wUn σ u at' pa mo le hd nt ct sts6 blo bhi bem glo ghi gem lo2 hi2 em2 rom fnd fc prt lim := by
  have h1 : wL (wUn σ u at' pa mo le hd nt ct sts6 blo bhi bem glo ghi gem rlo rhi rem rom fnd fc prt lim) (u + 1 + 1) [.inl (0, 5418, .inl at')] = wUn σ u at' pa mo le hd nt ct sts6 blo bhi bem glo ghi gem rlo rhi rem rom fnd fc prt lim := by rw [wL_one]; exact hU_self (wL_at 2 rfl)
  unfold wCv
  rw [h1]
  exact (congrArg (fun z => wSp z (u + 31) lo2 hi2 em2) (un_bx_s p hp).symm).trans un_rb_r
theorem un_ap_s {σ : AH} {u : Nat} {at' : Nat → Int32} {pa : Nat → Int32} {mo : Nat → Int32} {le : Nat → Int32} {hd : Nat → Int32} {nt : Nat → Int32} {ct : Int32} {sts6 : Nat → Int64} {blo : Nat → Nat → Int32} {bhi : Nat → Nat → Int32} {bem : Nat → Int32} {glo : Nat → Int32} {ghi : Nat → Int32} {gem : Int32} {rlo : Nat → Int32} {rhi : Nat → Int32} {rem : Int32} {rom : Nat → Int32} {fnd : Nat → Int32} {fc : Int32} {prt : Int32} {lim : Int32} : wUn σ u at' pa mo le hd nt ct sts6 blo bhi bem glo ghi gem rlo rhi rem rom fnd fc prt lim = wAp (wUn σ u at' pa mo le hd nt ct sts6 blo bhi bem glo ghi gem rlo rhi rem rom fnd fc prt lim) (u + 28) (u + 31) glo ghi gem rlo rhi rem := un_gb_s.trans (congrArg (fun z => wSp z (u + 28) glo ghi gem) un_rb_s)
theorem wf_RX5_12 : Cond.fieldLink RX5 12 (TX5 0).1 (TX5 0).2.1 (TX5 0).2.2.1 ∈ TT := tt_mem 189 (by decide +kernel) (by decide +kernel)
theorem wk_X4_size : Cond.code yX4_size cX4_size 1 (some .int) ∈ TT := tt_mem 258 (by decide +kernel) (by decide +kernel)
theorem wm_RX5_43 : Cond.methodLink RX5 43 yX4_size ∈ TT := tt_mem 255 (by decide +kernel) (by decide +kernel)
theorem wn_X4_size : Cond.instanceMethod yX4_size ∈ TT := tt_mem 256 (by decide +kernel) (by decide +kernel)
theorem wv_X4_size : Cond.selects yX4_size.cls yX4_size yX4_size ∈ TT := tt_mem 257 (by decide +kernel) (by decide +kernel)
theorem wf_RX5_47 : Cond.fieldLink RX5 47 (TX5 7).1 (TX5 7).2.1 (TX5 7).2.2.1 ∈ TT := tt_mem 196 (by decide +kernel) (by decide +kernel)
theorem wf_RX5_40 : Cond.fieldLink RX5 40 (TX5 6).1 (TX5 6).2.1 (TX5 6).2.2.1 ∈ TT := tt_mem 195 (by decide +kernel) (by decide +kernel)
theorem wm_RX5_118 : Cond.methodLink RX5 118 yX4_rowOf ∈ TT := tt_mem 687 (by decide +kernel) (by decide +kernel)
theorem wk_X4_offsets : Cond.code yX4_offsets cX4_offsets 1 (some (.array .int)) ∈ TT := tt_mem 686 (by decide +kernel) (by decide +kernel)
theorem wm_RX5_114 : Cond.methodLink RX5 114 yX4_offsets ∈ TT := tt_mem 683 (by decide +kernel) (by decide +kernel)
theorem wn_X4_offsets : Cond.instanceMethod yX4_offsets ∈ TT := tt_mem 684 (by decide +kernel) (by decide +kernel)
theorem wv_X4_offsets : Cond.selects yX4_offsets.cls yX4_offsets yX4_offsets ∈ TT := tt_mem 685 (by decide +kernel) (by decide +kernel)
theorem wf_RX5_18 : Cond.fieldLink RX5 18 (TX5 1).1 (TX5 1).2.1 (TX5 1).2.2.1 ∈ TT := tt_mem 190 (by decide +kernel) (by decide +kernel)
theorem wm_RX5_135 : Cond.methodLink RX5 135 yX0_shifted ∈ TT := tt_mem 691 (by decide +kernel) (by decide +kernel)
theorem wk_X5_gap : Cond.code yX5_gap cX5_gap 6 (some .int) ∈ TT := tt_mem 682 (by decide +kernel) (by decide +kernel)
theorem wi_RX5 : Cond.initialized RX5 ∈ TT := tt_mem 37 (by decide +kernel) (by decide +kernel)
theorem wm_RX5_132 : Cond.methodLink RX5 132 yX5_gap ∈ TT := tt_mem 679 (by decide +kernel) (by decide +kernel)
theorem wn_X5_gap : Cond.instanceMethod yX5_gap ∈ TT := tt_mem 681 (by decide +kernel) (by decide +kernel)
theorem wv_X5_gap : Cond.selects yX5_gap.cls yX5_gap yX5_gap ∈ TT := tt_mem 15 (by decide +kernel) (by decide +kernel)
theorem wm_RX5_141 : Cond.methodLink RX5 141 Lib.Math.max.name ∈ TT := tt_mem 692 (by decide +kernel) (by decide +kernel)
theorem wf_RX5_51 : Cond.fieldLink RX5 51 (TX5 8).1 (TX5 8).2.1 (TX5 8).2.2.1 ∈ TT := tt_mem 197 (by decide +kernel) (by decide +kernel)
theorem wf_RX5_36 : Cond.fieldLink RX5 36 (TX5 5).1 (TX5 5).2.1 (TX5 5).2.2.1 ∈ TT := tt_mem 194 (by decide +kernel) (by decide +kernel)
theorem wk_X5_roomIndex : Cond.code yX5_roomIndex cX5_roomIndex 3 (some .int) ∈ TT := tt_mem 697 (by decide +kernel) (by decide +kernel)
theorem ws_X5_roomIndex : Cond.static yX5_roomIndex ∈ TT := tt_mem 696 (by decide +kernel) (by decide +kernel)
theorem wm_RX5_129 : Cond.methodLink RX5 129 yX5_roomIndex ∈ TT := tt_mem 695 (by decide +kernel) (by decide +kernel)
theorem wk_X5_roomOfPair : Cond.code yX5_roomOfPair cX5_roomOfPair 11 (some .int) ∈ TT := tt_mem 678 (by decide +kernel) (by decide +kernel)
theorem wm_RX5_125 : Cond.methodLink RX5 125 yX5_roomOfPair ∈ TT := tt_mem 675 (by decide +kernel) (by decide +kernel)
theorem wn_X5_roomOfPair : Cond.instanceMethod yX5_roomOfPair ∈ TT := tt_mem 677 (by decide +kernel) (by decide +kernel)
theorem wv_X5_roomOfPair : Cond.selects yX5_roomOfPair.cls yX5_roomOfPair yX5_roomOfPair ∈ TT := tt_mem 14 (by decide +kernel) (by decide +kernel)
theorem wm_RX5_149 : Cond.methodLink RX5 149 Lib.Math.min.name ∈ TT := tt_mem 723 (by decide +kernel) (by decide +kernel)
theorem wk_X6_lowestPiece : Cond.code yX6_lowestPiece cX6_lowestPiece 1 (some .int) ∈ TT := tt_mem 556 (by decide +kernel) (by decide +kernel)
theorem wi_RX6 : Cond.initialized RX6 ∈ TT := tt_mem 34 (by decide +kernel) (by decide +kernel)
theorem ws_X6_lowestPiece : Cond.static yX6_lowestPiece ∈ TT := tt_mem 555 (by decide +kernel) (by decide +kernel)
theorem wf_RX5_29 : Cond.fieldLink RX5 29 (TX5 3).1 (TX5 3).2.1 (TX5 3).2.2.1 ∈ TT := tt_mem 192 (by decide +kernel) (by decide +kernel)
theorem wf_RX5_33 : Cond.fieldLink RX5 33 (TX5 4).1 (TX5 4).2.1 (TX5 4).2.2.1 ∈ TT := tt_mem 193 (by decide +kernel) (by decide +kernel)
theorem wf_RX5_24 : Cond.fieldLink RX5 24 (TX5 2).1 (TX5 2).2.1 (TX5 2).2.2.1 ∈ TT := tt_mem 191 (by decide +kernel) (by decide +kernel)
theorem wk_X3_cover : Cond.code yX3_cover cX3_cover 7 none ∈ TT := tt_mem 709 (by decide +kernel) (by decide +kernel)
theorem wi_RX3 : Cond.initialized RX3 ∈ TT := tt_mem 39 (by decide +kernel) (by decide +kernel)
theorem wm_RX5_121 : Cond.methodLink RX5 121 yX3_cover ∈ TT := tt_mem 706 (by decide +kernel) (by decide +kernel)
theorem wn_X3_cover : Cond.instanceMethod yX3_cover ∈ TT := tt_mem 707 (by decide +kernel) (by decide +kernel)
theorem wv_X3_cover : Cond.selects yX3_cover.cls yX3_cover yX3_cover ∈ TT := tt_mem 708 (by decide +kernel) (by decide +kernel)
theorem wk_X3_clear : Cond.code yX3_clear cX3_clear 1 none ∈ TT := tt_mem 705 (by decide +kernel) (by decide +kernel)
theorem wm_RX5_111 : Cond.methodLink RX5 111 yX3_clear ∈ TT := tt_mem 702 (by decide +kernel) (by decide +kernel)
theorem wn_X3_clear : Cond.instanceMethod yX3_clear ∈ TT := tt_mem 703 (by decide +kernel) (by decide +kernel)
theorem wv_X3_clear : Cond.selects yX3_clear.cls yX3_clear yX3_clear ∈ TT := tt_mem 704 (by decide +kernel) (by decide +kernel)
theorem wk_X4_parentOf : Cond.code yX4_parentOf cX4_parentOf 2 (some .int) ∈ TT := tt_mem 743 (by decide +kernel) (by decide +kernel)
theorem wm_RX5_108 : Cond.methodLink RX5 108 yX4_parentOf ∈ TT := tt_mem 740 (by decide +kernel) (by decide +kernel)
theorem wn_X4_parentOf : Cond.instanceMethod yX4_parentOf ∈ TT := tt_mem 741 (by decide +kernel) (by decide +kernel)
theorem wv_X4_parentOf : Cond.selects yX4_parentOf.cls yX4_parentOf yX4_parentOf ∈ TT := tt_mem 742 (by decide +kernel) (by decide +kernel)
theorem wk_X4_moveTo : Cond.code yX4_moveTo cX4_moveTo 2 (some .int) ∈ TT := tt_mem 739 (by decide +kernel) (by decide +kernel)
theorem wm_RX5_105 : Cond.methodLink RX5 105 yX4_moveTo ∈ TT := tt_mem 736 (by decide +kernel) (by decide +kernel)
theorem wn_X4_moveTo : Cond.instanceMethod yX4_moveTo ∈ TT := tt_mem 737 (by decide +kernel) (by decide +kernel)
theorem wv_X4_moveTo : Cond.selects yX4_moveTo.cls yX4_moveTo yX4_moveTo ∈ TT := tt_mem 738 (by decide +kernel) (by decide +kernel)
theorem wk_X4_levelOf : Cond.code yX4_levelOf cX4_levelOf 2 (some .int) ∈ TT := tt_mem 735 (by decide +kernel) (by decide +kernel)
theorem wm_RX5_102 : Cond.methodLink RX5 102 yX4_levelOf ∈ TT := tt_mem 732 (by decide +kernel) (by decide +kernel)
theorem wn_X4_levelOf : Cond.instanceMethod yX4_levelOf ∈ TT := tt_mem 733 (by decide +kernel) (by decide +kernel)
theorem wv_X4_levelOf : Cond.selects yX4_levelOf.cls yX4_levelOf yX4_levelOf ∈ TT := tt_mem 734 (by decide +kernel) (by decide +kernel)
theorem wf_RX5_54 : Cond.fieldLink RX5 54 (TX5 9).1 (TX5 9).2.1 (TX5 9).2.2.1 ∈ TT := tt_mem 198 (by decide +kernel) (by decide +kernel)
theorem wm_RX5_99 : Cond.methodLink RX5 99 yX4_add ∈ TT := tt_mem 760 (by decide +kernel) (by decide +kernel)
theorem wk_X4_knowsDraft : Cond.code yX4_knowsDraft cX4_knowsDraft 3 (some .boolean) ∈ TT := tt_mem 755 (by decide +kernel) (by decide +kernel)
theorem wm_RX5_95 : Cond.methodLink RX5 95 yX4_knowsDraft ∈ TT := tt_mem 752 (by decide +kernel) (by decide +kernel)
theorem wn_X4_knowsDraft : Cond.instanceMethod yX4_knowsDraft ∈ TT := tt_mem 753 (by decide +kernel) (by decide +kernel)
theorem wv_X4_knowsDraft : Cond.selects yX4_knowsDraft.cls yX4_knowsDraft yX4_knowsDraft ∈ TT := tt_mem 754 (by decide +kernel) (by decide +kernel)
theorem wk_X4_draft : Cond.code yX4_draft cX4_draft 6 none ∈ TT := tt_mem 747 (by decide +kernel) (by decide +kernel)
theorem wm_RX5_91 : Cond.methodLink RX5 91 yX4_draft ∈ TT := tt_mem 744 (by decide +kernel) (by decide +kernel)
theorem wn_X4_draft : Cond.instanceMethod yX4_draft ∈ TT := tt_mem 745 (by decide +kernel) (by decide +kernel)
theorem wv_X4_draft : Cond.selects yX4_draft.cls yX4_draft yX4_draft ∈ TT := tt_mem 746 (by decide +kernel) (by decide +kernel)
theorem wk_X5_writePlan : Cond.code yX5_writePlan cX5_writePlan 6 (some .int) ∈ TT := tt_mem 731 (by decide +kernel) (by decide +kernel)
theorem wm_RX5_88 : Cond.methodLink RX5 88 yX5_writePlan ∈ TT := tt_mem 728 (by decide +kernel) (by decide +kernel)
theorem wn_X5_writePlan : Cond.instanceMethod yX5_writePlan ∈ TT := tt_mem 730 (by decide +kernel) (by decide +kernel)
theorem wv_X5_writePlan : Cond.selects yX5_writePlan.cls yX5_writePlan yX5_writePlan ∈ TT := tt_mem 19 (by decide +kernel) (by decide +kernel)
theorem wk_X3_isApart : Cond.code yX3_isApart cX3_isApart 6 (some .boolean) ∈ TT := tt_mem 727 (by decide +kernel) (by decide +kernel)
theorem wm_RX5_84 : Cond.methodLink RX5 84 yX3_isApart ∈ TT := tt_mem 724 (by decide +kernel) (by decide +kernel)
theorem wn_X3_isApart : Cond.instanceMethod yX3_isApart ∈ TT := tt_mem 725 (by decide +kernel) (by decide +kernel)
theorem wv_X3_isApart : Cond.selects yX3_isApart.cls yX3_isApart yX3_isApart ∈ TT := tt_mem 726 (by decide +kernel) (by decide +kernel)
theorem wk_X5_roomOfGroup : Cond.code yX5_roomOfGroup cX5_roomOfGroup 8 (some .int) ∈ TT := tt_mem 721 (by decide +kernel) (by decide +kernel)
theorem wm_RX5_80 : Cond.methodLink RX5 80 yX5_roomOfGroup ∈ TT := tt_mem 718 (by decide +kernel) (by decide +kernel)
theorem wn_X5_roomOfGroup : Cond.instanceMethod yX5_roomOfGroup ∈ TT := tt_mem 720 (by decide +kernel) (by decide +kernel)
theorem wv_X5_roomOfGroup : Cond.selects yX5_roomOfGroup.cls yX5_roomOfGroup yX5_roomOfGroup ∈ TT := tt_mem 18 (by decide +kernel) (by decide +kernel)
theorem wk_X5_tryRuns : Cond.code yX5_tryRuns cX5_tryRuns 9 (some .int) ∈ TT := tt_mem 717 (by decide +kernel) (by decide +kernel)
theorem wm_RX5_76 : Cond.methodLink RX5 76 yX5_tryRuns ∈ TT := tt_mem 714 (by decide +kernel) (by decide +kernel)
theorem wn_X5_tryRuns : Cond.instanceMethod yX5_tryRuns ∈ TT := tt_mem 716 (by decide +kernel) (by decide +kernel)
theorem wv_X5_tryRuns : Cond.selects yX5_tryRuns.cls yX5_tryRuns yX5_tryRuns ∈ TT := tt_mem 17 (by decide +kernel) (by decide +kernel)
theorem wk_X5_measureBoxes : Cond.code yX5_measureBoxes cX5_measureBoxes 5 none ∈ TT := tt_mem 701 (by decide +kernel) (by decide +kernel)
theorem wm_RX5_72 : Cond.methodLink RX5 72 yX5_measureBoxes ∈ TT := tt_mem 698 (by decide +kernel) (by decide +kernel)
theorem wn_X5_measureBoxes : Cond.instanceMethod yX5_measureBoxes ∈ TT := tt_mem 700 (by decide +kernel) (by decide +kernel)
theorem wv_X5_measureBoxes : Cond.selects yX5_measureBoxes.cls yX5_measureBoxes yX5_measureBoxes ∈ TT := tt_mem 16 (by decide +kernel) (by decide +kernel)
theorem wk_X5_measureRoom : Cond.code yX5_measureRoom cX5_measureRoom 6 none ∈ TT := tt_mem 674 (by decide +kernel) (by decide +kernel)
theorem wm_RX5_68 : Cond.methodLink RX5 68 yX5_measureRoom ∈ TT := tt_mem 671 (by decide +kernel) (by decide +kernel)
theorem wn_X5_measureRoom : Cond.instanceMethod yX5_measureRoom ∈ TT := tt_mem 673 (by decide +kernel) (by decide +kernel)
theorem wv_X5_measureRoom : Cond.selects yX5_measureRoom.cls yX5_measureRoom yX5_measureRoom ∈ TT := tt_mem 13 (by decide +kernel) (by decide +kernel)
def f_X5_roomIndex (direction : Int32) (p : Int32) (q : Int32) : Option Int32 := some ((((direction * (6 : Int32)) + p) * (6 : Int32)) + q)
set_option maxHeartbeats 2000000 in
set_option maxRecDepth 20000 in
theorem c_X5_roomIndex {l : Launch} {E : Ex} {n : Nat} {σ : AH}   {direction : Int32} {p : Int32} {q : Int32} (res : Int32) (hf : f_X5_roomIndex direction p q = some res) : Con l E yX5_roomIndex (.code yX5_roomIndex cX5_roomIndex 3 (some .int) :: TT) ({ frames := 0, cells := 0, slots := 0, locals := 0 } : Room) 0 0 [.int direction, .int p, .int q] σ n (some (.int res)) σ n := by
  refine con_intro (by decide +kernel) (Nat.le_of_ble_eq_true rfl) ?_
  intro K C hKR hKL hKE hKN hKQ
  subst hKL
  subst hKE
  have C : Cx K RX5 "roomIndex" cX5_roomIndex (some .int) := C
  show G K 0 0 0 [(0, .int direction), (1, .int p), (2, .int q)] [] σ n
  unfold f_X5_roomIndex at hf
  refine g_iload_n C rfl (q := 0) rfl dX5_roomIndex_0 rfl ?_
  refine g_bipush (v := 6) C (by decide) dX5_roomIndex_1 rfl ?_
  refine g_imul C dX5_roomIndex_3 rfl ?_
  refine g_iload_n C rfl (q := 1) rfl dX5_roomIndex_4 rfl ?_
  refine g_iadd C dX5_roomIndex_5 rfl ?_
  refine g_bipush (v := 6) C (by decide) dX5_roomIndex_6 rfl ?_
  refine g_imul C dX5_roomIndex_8 rfl ?_
  refine g_iload_n C rfl (q := 2) rfl dX5_roomIndex_9 rfl ?_
  refine g_iadd C dX5_roomIndex_10 rfl ?_
  obtain rfl := Option.some.inj hf
  exact g_iret C hKQ dX5_roomIndex_11
def f_X5_countKept (ct : Int32) : Option Int32 := ((f_X4_size ct).bind fun q1 => some q1)
set_option maxHeartbeats 2000000 in
set_option maxRecDepth 20000 in
theorem c_X5_countKept {l : Launch} {E : Ex} {n : Nat} {σ : AH} {u : Nat}  {at' : Nat → Int32} {pa : Nat → Int32} {mo : Nat → Int32} {le : Nat → Int32} {hd : Nat → Int32} {nt : Nat → Int32} {ct : Int32} {sts6 : Nat → Int64} {blo : Nat → Nat → Int32} {bhi : Nat → Nat → Int32} {bem : Nat → Int32} {glo : Nat → Int32} {ghi : Nat → Int32} {gem : Int32} {rlo : Nat → Int32} {rhi : Nat → Int32} {rem : Int32} {rom : Nat → Int32} {fnd : Nat → Int32} {fc : Int32} {prt : Int32} {lim : Int32}  (res : Int32) (hf : f_X5_countKept ct = some res) : Con l E yX5_countKept (.code yX5_countKept cX5_countKept 1 (some .int) :: TT) ({ frames := 1, cells := 0, slots := 0, locals := 20 } : Room) 0 0 [.ref u] (wUn σ u at' pa mo le hd nt ct sts6 blo bhi bem glo ghi gem rlo rhi rem rom fnd fc prt lim) n (some (.int res)) (wUn σ u at' pa mo le hd nt ct sts6 blo bhi bem glo ghi gem rlo rhi rem rom fnd fc prt lim) n := by
  refine con_intro (by decide +kernel) (Nat.le_of_ble_eq_true rfl) ?_
  intro K C hKR hKL hKE hKN hKQ
  subst hKL
  subst hKE
  have C : Cx K RX5 "countKept" cX5_countKept (some .int) := C
  show G K 0 0 0 [(0, .ref u)] [] (wUn σ u at' pa mo le hd nt ct sts6 blo bhi bem glo ghi gem rlo rhi rem rom fnd fc prt lim) n
  unfold f_X5_countKept at hf
  refine g_aload_n C rfl (q := 0) rfl dX5_countKept_0 rfl ?_
  refine g_get C fc_X5 0 (by decide) wf_RX5_12 (wL_at0 rfl) rfl dX5_countKept_1 rfl ?_
  obtain ⟨q1, hq1, hf⟩ := bd hf
  refine g_heap un_bk_s ?_
  refine g_callV0 (st' := []) (as := []) (st2 := [.int q1]) (k := 0) C ⟨wm_RX5_43, wn_X4_size, wv_X4_size, wi_RX4, wk_X4_size, by decide +kernel⟩ rfl (wL_at0 rfl) (c_X4_size (l := kL K) (E := kE K) (σ := (wUn σ u at' pa mo le hd nt ct sts6 blo bhi bem glo ghi gem rlo rhi rem rom fnd fc prt lim)) (a := u + 1) _ hq1) (by rw [hKR]; exact ⟨rfl, rfl, ⟨by decide, by decide⟩, Nat.le_refl _, Nat.le_refl _⟩) rfl rfl (by simp) rfl dX5_countKept_4 rfl ?_
  refine g_heap (h' := (wUn σ u at' pa mo le hd nt ct sts6 blo bhi bem glo ghi gem rlo rhi rem rom fnd fc prt lim)) un_bk_r ?_
  obtain rfl := Option.some.inj hf
  exact g_iret C hKQ dX5_countKept_7
def f_X5_countMoves (fc : Int32) : Option Int32 := some fc
set_option maxHeartbeats 2000000 in
set_option maxRecDepth 20000 in
theorem c_X5_countMoves {l : Launch} {E : Ex} {n : Nat} {σ : AH} {u : Nat}  {at' : Nat → Int32} {pa : Nat → Int32} {mo : Nat → Int32} {le : Nat → Int32} {hd : Nat → Int32} {nt : Nat → Int32} {ct : Int32} {sts6 : Nat → Int64} {blo : Nat → Nat → Int32} {bhi : Nat → Nat → Int32} {bem : Nat → Int32} {glo : Nat → Int32} {ghi : Nat → Int32} {gem : Int32} {rlo : Nat → Int32} {rhi : Nat → Int32} {rem : Int32} {rom : Nat → Int32} {fnd : Nat → Int32} {fc : Int32} {prt : Int32} {lim : Int32}  (res : Int32) (hf : f_X5_countMoves fc = some res) : Con l E yX5_countMoves (.code yX5_countMoves cX5_countMoves 1 (some .int) :: TT) ({ frames := 0, cells := 0, slots := 0, locals := 0 } : Room) 0 0 [.ref u] (wUn σ u at' pa mo le hd nt ct sts6 blo bhi bem glo ghi gem rlo rhi rem rom fnd fc prt lim) n (some (.int res)) (wUn σ u at' pa mo le hd nt ct sts6 blo bhi bem glo ghi gem rlo rhi rem rom fnd fc prt lim) n := by
  refine con_intro (by decide +kernel) (Nat.le_of_ble_eq_true rfl) ?_
  intro K C hKR hKL hKE hKN hKQ
  subst hKL
  subst hKE
  have C : Cx K RX5 "countMoves" cX5_countMoves (some .int) := C
  show G K 0 0 0 [(0, .ref u)] [] (wUn σ u at' pa mo le hd nt ct sts6 blo bhi bem glo ghi gem rlo rhi rem rom fnd fc prt lim) n
  unfold f_X5_countMoves at hf
  refine g_aload_n C rfl (q := 0) rfl dX5_countMoves_0 rfl ?_
  refine g_get C fc_X5 7 (by decide) wf_RX5_47 (wL_at0 rfl) rfl dX5_countMoves_1 rfl ?_
  obtain rfl := Option.some.inj hf
  exact g_iret C hKQ dX5_countMoves_4
def f_X5_moveAt (fnd : Nat → Int32) (k : Int32) : Option Int32 := (if inB k 300 = true then some (fnd k.toNatClampNeg) else none)
set_option maxHeartbeats 2000000 in
set_option maxRecDepth 20000 in
theorem c_X5_moveAt {l : Launch} {E : Ex} {n : Nat} {σ : AH} {u : Nat}  {at' : Nat → Int32} {pa : Nat → Int32} {mo : Nat → Int32} {le : Nat → Int32} {hd : Nat → Int32} {nt : Nat → Int32} {ct : Int32} {sts6 : Nat → Int64} {blo : Nat → Nat → Int32} {bhi : Nat → Nat → Int32} {bem : Nat → Int32} {glo : Nat → Int32} {ghi : Nat → Int32} {gem : Int32} {rlo : Nat → Int32} {rhi : Nat → Int32} {rem : Int32} {rom : Nat → Int32} {fnd : Nat → Int32} {fc : Int32} {prt : Int32} {lim : Int32} {k : Int32} (res : Int32) (hf : f_X5_moveAt fnd k = some res) : Con l E yX5_moveAt (.code yX5_moveAt cX5_moveAt 2 (some .int) :: TT) ({ frames := 0, cells := 0, slots := 0, locals := 0 } : Room) 0 0 [.ref u, .int k] (wUn σ u at' pa mo le hd nt ct sts6 blo bhi bem glo ghi gem rlo rhi rem rom fnd fc prt lim) n (some (.int res)) (wUn σ u at' pa mo le hd nt ct sts6 blo bhi bem glo ghi gem rlo rhi rem rom fnd fc prt lim) n := by
  refine con_intro (by decide +kernel) (Nat.le_of_ble_eq_true rfl) ?_
  intro K C hKR hKL hKE hKN hKQ
  subst hKL
  subst hKE
  have C : Cx K RX5 "moveAt" cX5_moveAt (some .int) := C
  show G K 0 0 0 [(0, .ref u), (1, .int k)] [] (wUn σ u at' pa mo le hd nt ct sts6 blo bhi bem glo ghi gem rlo rhi rem rom fnd fc prt lim) n
  unfold f_X5_moveAt at hf
  refine g_aload_n C rfl (q := 0) rfl dX5_moveAt_0 rfl ?_
  refine g_get C fc_X5 6 (by decide) wf_RX5_40 (wL_at0 rfl) rfl dX5_moveAt_1 rfl ?_
  refine g_iload_n C rfl (q := 1) rfl dX5_moveAt_4 rfl ?_
  obtain ⟨g1, hf⟩ := gd hf
  refine g_iald C (wL_at 35 rfl) (inB_in g1) dX5_moveAt_5 rfl ?_
  obtain rfl := Option.some.inj hf
  exact g_iret C hKQ dX5_moveAt_6
def f_X5_gap (at' : Nat → Int32) (state : Int32) (p : Int32) (q : Int32) (axis : Int32) : Option Int32 := ((f_X4_offsets ).bind fun q1 => ((f_X4_rowOf state p).bind fun q2 => (if inB (q2 + axis) 5418 = true then ((f_X4_rowOf state q).bind fun q4 => (if inB (q4 + axis) 5418 = true then some ((at' (q2 + axis).toNatClampNeg) - (at' (q4 + axis).toNatClampNeg)) else none)) else none)))
set_option maxHeartbeats 2000000 in
set_option maxRecDepth 20000 in
theorem c_X5_gap {l : Launch} {E : Ex} {n : Nat} {σ : AH} {u : Nat}  {at' : Nat → Int32} {pa : Nat → Int32} {mo : Nat → Int32} {le : Nat → Int32} {hd : Nat → Int32} {nt : Nat → Int32} {ct : Int32} {sts6 : Nat → Int64} {blo : Nat → Nat → Int32} {bhi : Nat → Nat → Int32} {bem : Nat → Int32} {glo : Nat → Int32} {ghi : Nat → Int32} {gem : Int32} {rlo : Nat → Int32} {rhi : Nat → Int32} {rem : Int32} {rom : Nat → Int32} {fnd : Nat → Int32} {fc : Int32} {prt : Int32} {lim : Int32} {state : Int32} {p : Int32} {q : Int32} {axis : Int32} (res : Int32) (hf : f_X5_gap at' state p q axis = some res) : Con l E yX5_gap (.code yX5_gap cX5_gap 6 (some .int) :: TT) ({ frames := 1, cells := 0, slots := 0, locals := 22 } : Room) 0 0 [.ref u, .int state, .int p, .int q, .int axis] (wUn σ u at' pa mo le hd nt ct sts6 blo bhi bem glo ghi gem rlo rhi rem rom fnd fc prt lim) n (some (.int res)) (wUn σ u at' pa mo le hd nt ct sts6 blo bhi bem glo ghi gem rlo rhi rem rom fnd fc prt lim) n := by
  refine con_intro (by decide +kernel) (Nat.le_of_ble_eq_true rfl) ?_
  intro K C hKR hKL hKE hKN hKQ
  subst hKL
  subst hKE
  have C : Cx K RX5 "gap" cX5_gap (some .int) := C
  show G K 0 0 0 [(0, .ref u), (1, .int state), (2, .int p), (3, .int q), (4, .int axis)] [] (wUn σ u at' pa mo le hd nt ct sts6 blo bhi bem glo ghi gem rlo rhi rem rom fnd fc prt lim) n
  unfold f_X5_gap at hf
  refine g_aload_n C rfl (q := 0) rfl dX5_gap_0 rfl ?_
  refine g_get C fc_X5 0 (by decide) wf_RX5_12 (wL_at0 rfl) rfl dX5_gap_1 rfl ?_
  obtain ⟨q1, hq1, hf⟩ := bd hf
  refine g_heap un_bk_s ?_
  refine g_callV0 (st' := []) (as := []) (st2 := [.ref (u + 1 + 1)]) (k := 0) C ⟨wm_RX5_114, wn_X4_offsets, wv_X4_offsets, wi_RX4, wk_X4_offsets, by decide +kernel⟩ rfl (wL_at0 rfl) (c_X4_offsets (l := kL K) (E := kE K) (σ := (wUn σ u at' pa mo le hd nt ct sts6 blo bhi bem glo ghi gem rlo rhi rem rom fnd fc prt lim)) (a := u + 1) _ hq1) (by rw [hKR]; exact ⟨rfl, rfl, ⟨by decide, by decide⟩, Nat.le_refl _, Nat.le_refl _⟩) rfl rfl (by simp) rfl dX5_gap_4 rfl ?_
  refine g_heap (h' := (wUn σ u at' pa mo le hd nt ct sts6 blo bhi bem glo ghi gem rlo rhi rem rom fnd fc prt lim)) un_bk_r ?_
  refine g_astore (i := 5) (lv' := [(5, .ref (u + 1 + 1)), (0, .ref u), (1, .int state), (2, .int p), (3, .int q), (4, .int axis)]) C dX5_gap_7 rfl (by rw [hKN]; decide) rfl ?_
  refine g_aload C (q := 0) rfl dX5_gap_9 rfl ?_
  refine g_aload_n C rfl (q := 1) rfl dX5_gap_11 rfl ?_
  refine g_get C fc_X5 0 (by decide) wf_RX5_12 (wL_at0 rfl) rfl dX5_gap_12 rfl ?_
  refine g_iload_n C rfl (q := 2) rfl dX5_gap_15 rfl ?_
  refine g_iload_n C rfl (q := 3) rfl dX5_gap_16 rfl ?_
  obtain ⟨q2, hq2, hf⟩ := bd hf
  refine g_heap un_bk_s ?_
  refine g_callV0 (st' := [.ref (u + 1 + 1)]) (as := [.int state, .int p]) (st2 := [.int q2, .ref (u + 1 + 1)]) (k := 2) C ⟨wm_RX5_118, wn_X4_rowOf, wv_X4_rowOf, wi_RX4, wk_X4_rowOf, by decide +kernel⟩ rfl (wL_at0 rfl) (c_X4_rowOf (l := kL K) (E := kE K) (σ := (wUn σ u at' pa mo le hd nt ct sts6 blo bhi bem glo ghi gem rlo rhi rem rom fnd fc prt lim)) (a := u + 1) _ hq2) (by rw [hKR]; exact ⟨rfl, rfl, ⟨by decide, by decide⟩, Nat.le_refl _, Nat.le_refl _⟩) rfl rfl (by simp [Value.category]) rfl dX5_gap_17 rfl ?_
  refine g_heap (h' := (wUn σ u at' pa mo le hd nt ct sts6 blo bhi bem glo ghi gem rlo rhi rem rom fnd fc prt lim)) un_bk_r ?_
  refine g_iload C (q := 5) rfl dX5_gap_20 rfl ?_
  refine g_iadd C dX5_gap_22 rfl ?_
  obtain ⟨g3, hf⟩ := gd hf
  refine g_iald C (wL_at 2 rfl) (inB_in g3) dX5_gap_23 rfl ?_
  refine g_aload C (q := 0) rfl dX5_gap_24 rfl ?_
  refine g_aload_n C rfl (q := 1) rfl dX5_gap_26 rfl ?_
  refine g_get C fc_X5 0 (by decide) wf_RX5_12 (wL_at0 rfl) rfl dX5_gap_27 rfl ?_
  refine g_iload_n C rfl (q := 2) rfl dX5_gap_30 rfl ?_
  refine g_iload_n C rfl (q := 4) rfl dX5_gap_31 rfl ?_
  obtain ⟨q4, hq4, hf⟩ := bd hf
  refine g_heap un_bk_s ?_
  refine g_callV0 (st' := [.ref (u + 1 + 1), .int (at' (q2 + axis).toNatClampNeg)]) (as := [.int state, .int q]) (st2 := [.int q4, .ref (u + 1 + 1), .int (at' (q2 + axis).toNatClampNeg)]) (k := 2) C ⟨wm_RX5_118, wn_X4_rowOf, wv_X4_rowOf, wi_RX4, wk_X4_rowOf, by decide +kernel⟩ rfl (wL_at0 rfl) (c_X4_rowOf (l := kL K) (E := kE K) (σ := (wUn σ u at' pa mo le hd nt ct sts6 blo bhi bem glo ghi gem rlo rhi rem rom fnd fc prt lim)) (a := u + 1) _ hq4) (by rw [hKR]; exact ⟨rfl, rfl, ⟨by decide, by decide⟩, Nat.le_refl _, Nat.le_refl _⟩) rfl rfl (by simp [Value.category]) rfl dX5_gap_32 rfl ?_
  refine g_heap (h' := (wUn σ u at' pa mo le hd nt ct sts6 blo bhi bem glo ghi gem rlo rhi rem rom fnd fc prt lim)) un_bk_r ?_
  refine g_iload C (q := 5) rfl dX5_gap_35 rfl ?_
  refine g_iadd C dX5_gap_37 rfl ?_
  obtain ⟨g5, hf⟩ := gd hf
  refine g_iald C (wL_at 2 rfl) (inB_in g5) dX5_gap_38 rfl ?_
  refine g_isub C dX5_gap_39 rfl ?_
  obtain rfl := Option.some.inj hf
  exact g_iret C hKQ dX5_gap_40
def f_X5_roomOfPair_31  (l1 : Int32) (l2 : Int32) (l3 : Int32) (l5 : Int32) (at' : Nat → Int32) : Nat → Int64 → Int32 → Option Int64
  | 0, _, _ => none
  | fu + 1, l7, l9 => (if (3 : Int32) ≤ l9 then some l7 else (if l9 = l5 then f_X5_roomOfPair_31 l1 l2 l3 l5 at' fu l7 (l9 + (1 : Int32)) else ((f_X5_gap at' l1 l2 l3 l9).bind fun q12 => ((f_X0_shifted l7 l9 q12).bind fun q13 => f_X5_roomOfPair_31 l1 l2 l3 l5 at' fu q13 (l9 + (1 : Int32))))))
def f_X5_roomOfPair_93  (l3 : Int32) (l5 : Int32) (l6 : Int32) (l7 : Int64) (l9 : Int32) (sts6 : Nat → Int64) : Nat → Int32 → Option (Int32 ⊕ Unit)
  | 0, _ => none
  | fu + 1, l10 => (if ((4 : Int32) - l9) ≤ l10 then some (.inr ()) else ((f_X0_shifted l7 l5 (l6 * (l9 + l10))).bind fun q25 => (if inB l3 6 = true then (if (q25 &&& (sts6 l3.toNatClampNeg)) = (0 : Int64) then f_X5_roomOfPair_93 l3 l5 l6 l7 l9 sts6 fu (l10 + (1 : Int32)) else some (.inl (l10 - (1 : Int32)))) else none)))
def f_X5_roomOfPair (fu : Nat) (at' : Nat → Int32) (sts6 : Nat → Int64) (l1 : Int32) (l2 : Int32) (l3 : Int32) (l4 : Int32) : Option Int32 := (if inB l2 6 = true then ((f_X5_roomOfPair_31 l1 l2 l3 (l4 / (2 : Int32)) at' fu (sts6 l2.toNatClampNeg) (0 : Int32)).bind fun q14 => ((f_X5_gap at' l1 l2 l3 (l4 / (2 : Int32))).bind fun q15 => (sumB (f_X5_roomOfPair_93 l3 (l4 / (2 : Int32)) (if (l4 - l4 / (2 : Int32) * (2 : Int32)) = 0 then (1 : Int32) else (-1 : Int32)) q14 ((if (l4 - l4 / (2 : Int32) * (2 : Int32)) = 0 then (1 : Int32) else (-1 : Int32)) * q15) sts6 fu (if (1 : Int32) < ((-3 : Int32) - ((if (l4 - l4 / (2 : Int32) * (2 : Int32)) = 0 then (1 : Int32) else (-1 : Int32)) * q15)) then ((-3 : Int32) - ((if (l4 - l4 / (2 : Int32) * (2 : Int32)) = 0 then (1 : Int32) else (-1 : Int32)) * q15)) else (1 : Int32))) id fun t29 => some (500 : Int32)))) else none)
set_option maxHeartbeats 2000000 in
set_option maxRecDepth 20000 in
theorem g_X5_roomOfPair_31 {K : KX} {n : Nat} {σ : AH} {u : Nat}  {l1 : Int32} {l2 : Int32} {l3 : Int32} {l5 : Int32} {l6 : Int32} {at' : Nat → Int32} {pa : Nat → Int32} {mo : Nat → Int32} {le : Nat → Int32} {hd : Nat → Int32} {nt : Nat → Int32} {ct : Int32} {sts6 : Nat → Int64} {blo : Nat → Nat → Int32} {bhi : Nat → Nat → Int32} {bem : Nat → Int32} {glo : Nat → Int32} {ghi : Nat → Int32} {gem : Int32} {rlo : Nat → Int32} {rhi : Nat → Int32} {rem : Int32} {rom : Nat → Int32} {fnd : Nat → Int32} {fc : Int32} {prt : Int32} {lim : Int32} (C : Cx K RX5 "roomOfPair" cX5_roomOfPair (some .int)) (hKR : kR K = ({ frames := 2, cells := 0, slots := 0, locals := 47 } : Room)) (hKN : kN K = 11) : ∀ (fu : Nat) (l7 : Int64) (l9 : Int32) (res : Int64), f_X5_roomOfPair_31 l1 l2 l3 l5 at' fu l7 l9 = some res → G K 0 0 68 [(0, .ref u), (1, .int l1), (2, .int l2), (3, .int l3), (5, .int l5), (6, .int l6), (7, .long res)] [] (wUn σ u at' pa mo le hd nt ct sts6 blo bhi bem glo ghi gem rlo rhi rem rom fnd fc prt lim) n → G K 0 0 31 [(0, .ref u), (1, .int l1), (2, .int l2), (3, .int l3), (5, .int l5), (6, .int l6), (7, .long l7), (9, .int l9)] [] (wUn σ u at' pa mo le hd nt ct sts6 blo bhi bem glo ghi gem rlo rhi rem rom fnd fc prt lim) n := by
  intro fu
  induction fu with
  | zero =>
    intro l7 l9 res hf
    exact absurd hf (by simp [f_X5_roomOfPair_31])
  | succ fu ih =>
    intro l7 l9 res hf hx
    rw [f_X5_roomOfPair_31] at hf
    refine g_iload C (q := 7) rfl dX5_roomOfPair_31 rfl ?_
    refine g_iconst (v := 3) C (by decide) dX5_roomOfPair_33 rfl ?_
    refine g_icmp_ge (tgt := 68) C dX5_roomOfPair_34 (by decide) rfl (fun c10 => ?_) (fun c10 => ?_)
    · replace hf := ift c10 hf
      obtain rfl := Option.some.inj hf
      refine g_sub (lv' := [(0, .ref u), (1, .int l1), (2, .int l2), (3, .int l3), (5, .int l5), (6, .int l6), (7, .long l7)]) [0, 1, 2, 3, 4, 5, 6] rfl ?_
      exact hx
    · replace hf := iff' c10 hf
      refine g_iload C (q := 7) rfl dX5_roomOfPair_37 rfl ?_
      refine g_iload C (q := 4) rfl dX5_roomOfPair_39 rfl ?_
      refine g_icmp_eq (tgt := 62) C dX5_roomOfPair_41 (by decide) rfl (fun c11 => ?_) (fun c11 => ?_)
      · replace hf := ift c11 hf
        refine g_iinc (v := l9 + (1 : Int32)) (lv' := [(9, .int (l9 + (1 : Int32))), (0, .ref u), (1, .int l1), (2, .int l2), (3, .int l3), (5, .int l5), (6, .int l6), (7, .long l7)]) (q := 7) C dX5_roomOfPair_62 rfl rfl rfl (by rw [hKN]; decide) rfl ?_
        refine g_goto (pc' := 31) C dX5_roomOfPair_65 (by decide) ?_
        refine g_sub (lv' := [(0, .ref u), (1, .int l1), (2, .int l2), (3, .int l3), (5, .int l5), (6, .int l6), (7, .long l7), (9, .int (l9 + (1 : Int32)))]) [1, 2, 3, 4, 5, 6, 7, 0] rfl ?_
        exact ih _ _ _ hf hx
      · replace hf := iff' c11 hf
        refine g_lload C (q := 6) rfl dX5_roomOfPair_44 rfl ?_
        refine g_iload C (q := 7) rfl dX5_roomOfPair_46 rfl ?_
        refine g_aload_n C rfl (q := 0) rfl dX5_roomOfPair_48 rfl ?_
        refine g_iload_n C rfl (q := 1) rfl dX5_roomOfPair_49 rfl ?_
        refine g_iload_n C rfl (q := 2) rfl dX5_roomOfPair_50 rfl ?_
        refine g_iload_n C rfl (q := 3) rfl dX5_roomOfPair_51 rfl ?_
        refine g_iload C (q := 7) rfl dX5_roomOfPair_52 rfl ?_
        obtain ⟨q12, hq12, hf⟩ := bd hf
        refine g_callV0 (st' := [.int l9, .long l7]) (as := [.int l1, .int l2, .int l3, .int l9]) (st2 := [.int q12, .int l9, .long l7]) (k := 4) C ⟨wm_RX5_132, wn_X5_gap, wv_X5_gap, wi_RX5, wk_X5_gap, by decide +kernel⟩ rfl (wL_at0 rfl) (c_X5_gap (l := kL K) (E := kE K)  _ hq12) (by rw [hKR]; exact ⟨rfl, rfl, ⟨by decide, by decide⟩, Nat.le_refl _, Nat.le_refl _⟩) rfl rfl (by simp [Value.category]) rfl dX5_roomOfPair_54 rfl ?_
        obtain ⟨q13, hq13, hf⟩ := bd hf
        refine g_callS0 (st' := []) (as := [.long l7, .int l9, .int q12]) (st2 := [.long q13]) (k := 3) C ⟨wm_RX5_135, ws_X0_shifted, wi_RX0, wk_X0_shifted, by decide +kernel⟩ (c_X0_shifted (l := kL K) (E := kE K)  _ hq13) (by rw [hKR]; exact ⟨rfl, rfl, ⟨by decide, by decide⟩, Nat.le_refl _, Nat.le_refl _⟩) rfl rfl (by simp) rfl dX5_roomOfPair_57 rfl ?_
        refine g_lstore (i := 7) (lv' := [(7, .long q13), (0, .ref u), (1, .int l1), (2, .int l2), (3, .int l3), (5, .int l5), (6, .int l6), (9, .int l9)]) C dX5_roomOfPair_60 rfl (by rw [hKN]; decide) rfl ?_
        refine g_iinc (v := l9 + (1 : Int32)) (lv' := [(9, .int (l9 + (1 : Int32))), (7, .long q13), (0, .ref u), (1, .int l1), (2, .int l2), (3, .int l3), (5, .int l5), (6, .int l6)]) (q := 7) C dX5_roomOfPair_62 rfl rfl rfl (by rw [hKN]; decide) rfl ?_
        refine g_goto (pc' := 31) C dX5_roomOfPair_65 (by decide) ?_
        refine g_sub (lv' := [(0, .ref u), (1, .int l1), (2, .int l2), (3, .int l3), (5, .int l5), (6, .int l6), (7, .long q13), (9, .int (l9 + (1 : Int32)))]) [2, 3, 4, 5, 6, 7, 1, 0] rfl ?_
        exact ih _ _ _ hf hx
set_option maxHeartbeats 2000000 in
set_option maxRecDepth 20000 in
theorem g_X5_roomOfPair_93 {K : KX} {n : Nat} {σ : AH} {u : Nat}  {l3 : Int32} {l5 : Int32} {l6 : Int32} {l7 : Int64} {l9 : Int32} {at' : Nat → Int32} {pa : Nat → Int32} {mo : Nat → Int32} {le : Nat → Int32} {hd : Nat → Int32} {nt : Nat → Int32} {ct : Int32} {sts6 : Nat → Int64} {blo : Nat → Nat → Int32} {bhi : Nat → Nat → Int32} {bem : Nat → Int32} {glo : Nat → Int32} {ghi : Nat → Int32} {gem : Int32} {rlo : Nat → Int32} {rhi : Nat → Int32} {rem : Int32} {rom : Nat → Int32} {fnd : Nat → Int32} {fc : Int32} {prt : Int32} {lim : Int32} (C : Cx K RX5 "roomOfPair" cX5_roomOfPair (some .int)) (hKR : kR K = ({ frames := 2, cells := 0, slots := 0, locals := 47 } : Room)) (hKN : kN K = 11) : ∀ (fu : Nat) (l10 : Int32) (res : (Int32 ⊕ Unit)), f_X5_roomOfPair_93 l3 l5 l6 l7 l9 sts6 fu l10 = some res → (∀ t, res = .inl t → KQ K 0 0 (some (.int t)) (wUn σ u at' pa mo le hd nt ct sts6 blo bhi bem glo ghi gem rlo rhi rem rom fnd fc prt lim) n) → (∀ t, res = .inr t → G K 0 0 140 [] [] (wUn σ u at' pa mo le hd nt ct sts6 blo bhi bem glo ghi gem rlo rhi rem rom fnd fc prt lim) n) → G K 0 0 93 [(0, .ref u), (3, .int l3), (5, .int l5), (6, .int l6), (7, .long l7), (9, .int l9), (10, .int l10)] [] (wUn σ u at' pa mo le hd nt ct sts6 blo bhi bem glo ghi gem rlo rhi rem rom fnd fc prt lim) n := by
  intro fu
  induction fu with
  | zero =>
    intro l10 res hf
    exact absurd hf (by simp [f_X5_roomOfPair_93])
  | succ fu ih =>
    intro l10 res hf hret hx
    rw [f_X5_roomOfPair_93] at hf
    refine g_iload C (q := 6) rfl dX5_roomOfPair_93 rfl ?_
    refine g_iconst (v := 4) C (by decide) dX5_roomOfPair_95 rfl ?_
    refine g_iload C (q := 5) rfl dX5_roomOfPair_96 rfl ?_
    refine g_isub C dX5_roomOfPair_98 rfl ?_
    refine g_icmp_ge (tgt := 140) C dX5_roomOfPair_99 (by decide) rfl (fun c24 => ?_) (fun c24 => ?_)
    · replace hf := ift c24 hf
      obtain rfl := Option.some.inj hf
      refine g_sub (lv' := []) [] rfl ?_
      exact hx () rfl
    · replace hf := iff' c24 hf
      refine g_lload C (q := 4) rfl dX5_roomOfPair_102 rfl ?_
      refine g_iload C (q := 2) rfl dX5_roomOfPair_104 rfl ?_
      refine g_iload C (q := 3) rfl dX5_roomOfPair_106 rfl ?_
      refine g_iload C (q := 5) rfl dX5_roomOfPair_108 rfl ?_
      refine g_iload C (q := 6) rfl dX5_roomOfPair_110 rfl ?_
      refine g_iadd C dX5_roomOfPair_112 rfl ?_
      refine g_imul C dX5_roomOfPair_113 rfl ?_
      obtain ⟨q25, hq25, hf⟩ := bd hf
      refine g_callS0 (st' := []) (as := [.long l7, .int l5, .int (l6 * (l9 + l10))]) (st2 := [.long q25]) (k := 3) C ⟨wm_RX5_135, ws_X0_shifted, wi_RX0, wk_X0_shifted, by decide +kernel⟩ (c_X0_shifted (l := kL K) (E := kE K)  _ hq25) (by rw [hKR]; exact ⟨rfl, rfl, ⟨by decide, by decide⟩, Nat.le_refl _, Nat.le_refl _⟩) rfl rfl (by simp) rfl dX5_roomOfPair_114 rfl ?_
      refine g_aload_n C rfl (q := 0) rfl dX5_roomOfPair_117 rfl ?_
      refine g_get C fc_X5 1 (by decide) wf_RX5_18 (wL_at0 rfl) rfl dX5_roomOfPair_118 rfl ?_
      refine g_iload_n C rfl (q := 1) rfl dX5_roomOfPair_121 rfl ?_
      obtain ⟨g26, hf⟩ := gd hf
      refine g_lald C (wL_at 8 rfl) (inB_in g26) dX5_roomOfPair_122 rfl ?_
      refine g_land C dX5_roomOfPair_123 rfl ?_
      refine g_lconst (v := 0) C (by decide) dX5_roomOfPair_124 rfl ?_
      refine g_lif_eq (tgt := 134) C dX5_roomOfPair_125 rfl dX5_roomOfPair_126 (by decide) rfl (fun c27 => ?_) (fun c27 => ?_)
      · replace hf := ift c27 hf
        refine g_iinc (v := l10 + (1 : Int32)) (lv' := [(10, .int (l10 + (1 : Int32))), (0, .ref u), (3, .int l3), (5, .int l5), (6, .int l6), (7, .long l7), (9, .int l9)]) (q := 6) C dX5_roomOfPair_134 rfl rfl rfl (by rw [hKN]; decide) rfl ?_
        refine g_goto (pc' := 93) C dX5_roomOfPair_137 (by decide) ?_
        refine g_sub (lv' := [(0, .ref u), (3, .int l3), (5, .int l5), (6, .int l6), (7, .long l7), (9, .int l9), (10, .int (l10 + (1 : Int32)))]) [1, 2, 3, 4, 5, 6, 0] rfl ?_
        exact ih _ _ hf hret hx
      · replace hf := iff' c27 hf
        refine g_iload C (q := 6) rfl dX5_roomOfPair_129 rfl ?_
        refine g_iconst (v := 1) C (by decide) dX5_roomOfPair_131 rfl ?_
        refine g_isub C dX5_roomOfPair_132 rfl ?_
        obtain rfl := Option.some.inj hf
        exact g_iret C (hret (l10 - (1 : Int32)) rfl) dX5_roomOfPair_133
set_option maxHeartbeats 2000000 in
set_option maxRecDepth 20000 in
theorem c_X5_roomOfPair {l : Launch} {E : Ex} {n : Nat} {σ : AH} {u : Nat}  {at' : Nat → Int32} {pa : Nat → Int32} {mo : Nat → Int32} {le : Nat → Int32} {hd : Nat → Int32} {nt : Nat → Int32} {ct : Int32} {sts6 : Nat → Int64} {blo : Nat → Nat → Int32} {bhi : Nat → Nat → Int32} {bem : Nat → Int32} {glo : Nat → Int32} {ghi : Nat → Int32} {gem : Int32} {rlo : Nat → Int32} {rhi : Nat → Int32} {rem : Int32} {rom : Nat → Int32} {fnd : Nat → Int32} {fc : Int32} {prt : Int32} {lim : Int32} {l1 : Int32} {l2 : Int32} {l3 : Int32} {l4 : Int32} {fu : Nat} (res : Int32) (hf : f_X5_roomOfPair fu at' sts6 l1 l2 l3 l4 = some res) : Con l E yX5_roomOfPair (.code yX5_roomOfPair cX5_roomOfPair 11 (some .int) :: TT) ({ frames := 2, cells := 0, slots := 0, locals := 47 } : Room) 0 0 [.ref u, .int l1, .int l2, .int l3, .int l4] (wUn σ u at' pa mo le hd nt ct sts6 blo bhi bem glo ghi gem rlo rhi rem rom fnd fc prt lim) n (some (.int res)) (wUn σ u at' pa mo le hd nt ct sts6 blo bhi bem glo ghi gem rlo rhi rem rom fnd fc prt lim) n := by
  refine con_intro (by decide +kernel) (Nat.le_of_ble_eq_true rfl) ?_
  intro K C hKR hKL hKE hKN hKQ
  subst hKL
  subst hKE
  have C : Cx K RX5 "roomOfPair" cX5_roomOfPair (some .int) := C
  show G K 0 0 0 [(0, .ref u), (1, .int l1), (2, .int l2), (3, .int l3), (4, .int l4)] [] (wUn σ u at' pa mo le hd nt ct sts6 blo bhi bem glo ghi gem rlo rhi rem rom fnd fc prt lim) n
  unfold f_X5_roomOfPair at hf
  refine g_iload C (q := 4) rfl dX5_roomOfPair_0 rfl ?_
  refine g_iconst (v := 2) C (by decide) dX5_roomOfPair_2 rfl ?_
  refine g_idiv C (by decide) dX5_roomOfPair_3 rfl ?_
  refine g_istore (i := 5) (lv' := [(5, .int (l4 / (2 : Int32))), (0, .ref u), (1, .int l1), (2, .int l2), (3, .int l3), (4, .int l4)]) C dX5_roomOfPair_4 rfl (by rw [hKN]; decide) rfl ?_
  refine g_iload C (q := 5) rfl dX5_roomOfPair_6 rfl ?_
  refine g_iconst (v := 2) C (by decide) dX5_roomOfPair_8 rfl ?_
  refine g_irem C (by decide) dX5_roomOfPair_9 rfl ?_
  have j30 : G K 0 0 18 [(5, .int (l4 / (2 : Int32))), (0, .ref u), (1, .int l1), (2, .int l2), (3, .int l3), (4, .int l4)] [.int (if (l4 - l4 / (2 : Int32) * (2 : Int32)) = 0 then (1 : Int32) else (-1 : Int32))] (wUn σ u at' pa mo le hd nt ct sts6 blo bhi bem glo ghi gem rlo rhi rem rom fnd fc prt lim) n := by
    refine g_istore (i := 6) (lv' := [(6, .int (if (l4 - l4 / (2 : Int32) * (2 : Int32)) = 0 then (1 : Int32) else (-1 : Int32))), (5, .int (l4 / (2 : Int32))), (0, .ref u), (1, .int l1), (2, .int l2), (3, .int l3), (4, .int l4)]) C dX5_roomOfPair_18 rfl (by rw [hKN]; decide) rfl ?_
    refine g_aload_n C rfl (q := 2) rfl dX5_roomOfPair_20 rfl ?_
    refine g_get C fc_X5 1 (by decide) wf_RX5_18 (wL_at0 rfl) rfl dX5_roomOfPair_21 rfl ?_
    refine g_iload_n C rfl (q := 4) rfl dX5_roomOfPair_24 rfl ?_
    obtain ⟨g1, hf⟩ := gd hf
    refine g_lald C (wL_at 8 rfl) (inB_in g1) dX5_roomOfPair_25 rfl ?_
    refine g_lstore (i := 7) (lv' := [(7, .long (sts6 l2.toNatClampNeg)), (6, .int (if (l4 - l4 / (2 : Int32) * (2 : Int32)) = 0 then (1 : Int32) else (-1 : Int32))), (5, .int (l4 / (2 : Int32))), (0, .ref u), (1, .int l1), (2, .int l2), (3, .int l3), (4, .int l4)]) C dX5_roomOfPair_26 rfl (by rw [hKN]; decide) rfl ?_
    refine g_iconst (v := 0) C (by decide) dX5_roomOfPair_28 rfl ?_
    refine g_istore (i := 9) (lv' := [(9, .int (0 : Int32)), (7, .long (sts6 l2.toNatClampNeg)), (6, .int (if (l4 - l4 / (2 : Int32) * (2 : Int32)) = 0 then (1 : Int32) else (-1 : Int32))), (5, .int (l4 / (2 : Int32))), (0, .ref u), (1, .int l1), (2, .int l2), (3, .int l3), (4, .int l4)]) C dX5_roomOfPair_29 rfl (by rw [hKN]; decide) rfl ?_
    refine g_sub (lv' := [(0, .ref u), (1, .int l1), (2, .int l2), (3, .int l3), (5, .int (l4 / (2 : Int32))), (6, .int (if (l4 - l4 / (2 : Int32) * (2 : Int32)) = 0 then (1 : Int32) else (-1 : Int32))), (7, .long (sts6 l2.toNatClampNeg)), (9, .int (0 : Int32))]) [4, 5, 6, 7, 3, 2, 1, 0] rfl ?_
    obtain ⟨q14, hq14, hf⟩ := bd hf
    refine g_X5_roomOfPair_31 (l1 := l1) (l2 := l2) (l3 := l3) (l5 := l4 / (2 : Int32)) (l6 := (if (l4 - l4 / (2 : Int32) * (2 : Int32)) = 0 then (1 : Int32) else (-1 : Int32))) (at' := at') (pa := pa) (mo := mo) (le := le) (hd := hd) (nt := nt) (ct := ct) (sts6 := sts6) (blo := blo) (bhi := bhi) (bem := bem) (glo := glo) (ghi := ghi) (gem := gem) (rlo := rlo) (rhi := rhi) (rem := rem) (rom := rom) (fnd := fnd) (fc := fc) (prt := prt) (lim := lim) C hKR hKN _ _ _ _ hq14 ?_
    refine g_iload C (q := 5) rfl dX5_roomOfPair_68 rfl ?_
    refine g_aload_n C rfl (q := 0) rfl dX5_roomOfPair_70 rfl ?_
    refine g_iload_n C rfl (q := 1) rfl dX5_roomOfPair_71 rfl ?_
    refine g_iload_n C rfl (q := 2) rfl dX5_roomOfPair_72 rfl ?_
    refine g_iload_n C rfl (q := 3) rfl dX5_roomOfPair_73 rfl ?_
    refine g_iload C (q := 4) rfl dX5_roomOfPair_74 rfl ?_
    obtain ⟨q15, hq15, hf⟩ := bd hf
    refine g_callV0 (st' := [.int (if (l4 - l4 / (2 : Int32) * (2 : Int32)) = 0 then (1 : Int32) else (-1 : Int32))]) (as := [.int l1, .int l2, .int l3, .int (l4 / (2 : Int32))]) (st2 := [.int q15, .int (if (l4 - l4 / (2 : Int32) * (2 : Int32)) = 0 then (1 : Int32) else (-1 : Int32))]) (k := 4) C ⟨wm_RX5_132, wn_X5_gap, wv_X5_gap, wi_RX5, wk_X5_gap, by decide +kernel⟩ rfl (wL_at0 rfl) (c_X5_gap (l := kL K) (E := kE K)  _ hq15) (by rw [hKR]; exact ⟨rfl, rfl, ⟨by decide, by decide⟩, Nat.le_refl _, Nat.le_refl _⟩) rfl rfl (by simp [Value.category]) rfl dX5_roomOfPair_76 rfl ?_
    refine g_imul C dX5_roomOfPair_79 rfl ?_
    refine g_istore (i := 9) (lv' := [(9, .int ((if (l4 - l4 / (2 : Int32) * (2 : Int32)) = 0 then (1 : Int32) else (-1 : Int32)) * q15)), (0, .ref u), (1, .int l1), (2, .int l2), (3, .int l3), (5, .int (l4 / (2 : Int32))), (6, .int (if (l4 - l4 / (2 : Int32) * (2 : Int32)) = 0 then (1 : Int32) else (-1 : Int32))), (7, .long q14)]) C dX5_roomOfPair_80 rfl (by rw [hKN]; decide) rfl ?_
    refine g_iconst (v := 1) C (by decide) dX5_roomOfPair_82 rfl ?_
    refine g_bipush (v := (-3)) C (by decide) dX5_roomOfPair_83 rfl ?_
    refine g_iload C (q := 0) rfl dX5_roomOfPair_85 rfl ?_
    refine g_isub C dX5_roomOfPair_87 rfl ?_
    refine g_max C wm_RX5_141 ws_Math_max wi_Math wk_Math_max (by rw [hKR]; decide) (by rw [hKR]; simp [Value.category]) (Nat.zero_le _) (Nat.zero_le _) dX5_roomOfPair_88 rfl ?_
    refine g_istore (i := 10) (lv' := [(10, .int (if (1 : Int32) < ((-3 : Int32) - ((if (l4 - l4 / (2 : Int32) * (2 : Int32)) = 0 then (1 : Int32) else (-1 : Int32)) * q15)) then ((-3 : Int32) - ((if (l4 - l4 / (2 : Int32) * (2 : Int32)) = 0 then (1 : Int32) else (-1 : Int32)) * q15)) else (1 : Int32))), (9, .int ((if (l4 - l4 / (2 : Int32) * (2 : Int32)) = 0 then (1 : Int32) else (-1 : Int32)) * q15)), (0, .ref u), (1, .int l1), (2, .int l2), (3, .int l3), (5, .int (l4 / (2 : Int32))), (6, .int (if (l4 - l4 / (2 : Int32) * (2 : Int32)) = 0 then (1 : Int32) else (-1 : Int32))), (7, .long q14)]) C dX5_roomOfPair_91 rfl (by rw [hKN]; decide) rfl ?_
    refine g_sub (lv' := [(0, .ref u), (3, .int l3), (5, .int (l4 / (2 : Int32))), (6, .int (if (l4 - l4 / (2 : Int32) * (2 : Int32)) = 0 then (1 : Int32) else (-1 : Int32))), (7, .long q14), (9, .int ((if (l4 - l4 / (2 : Int32) * (2 : Int32)) = 0 then (1 : Int32) else (-1 : Int32)) * q15)), (10, .int (if (1 : Int32) < ((-3 : Int32) - ((if (l4 - l4 / (2 : Int32) * (2 : Int32)) = 0 then (1 : Int32) else (-1 : Int32)) * q15)) then ((-3 : Int32) - ((if (l4 - l4 / (2 : Int32) * (2 : Int32)) = 0 then (1 : Int32) else (-1 : Int32)) * q15)) else (1 : Int32)))]) [2, 5, 6, 7, 8, 1, 0] rfl ?_
    obtain ⟨q28, hq28, hf1, hf2⟩ := sb hf
    refine g_X5_roomOfPair_93 (l3 := l3) (l5 := l4 / (2 : Int32)) (l6 := (if (l4 - l4 / (2 : Int32) * (2 : Int32)) = 0 then (1 : Int32) else (-1 : Int32))) (l7 := q14) (l9 := (if (l4 - l4 / (2 : Int32) * (2 : Int32)) = 0 then (1 : Int32) else (-1 : Int32)) * q15) (at' := at') (pa := pa) (mo := mo) (le := le) (hd := hd) (nt := nt) (ct := ct) (sts6 := sts6) (blo := blo) (bhi := bhi) (bem := bem) (glo := glo) (ghi := ghi) (gem := gem) (rlo := rlo) (rhi := rhi) (rem := rem) (rom := rom) (fnd := fnd) (fc := fc) (prt := prt) (lim := lim) C hKR hKN _ _ q28 hq28 (fun t29 et29 => ?_) (fun t29 et29 => ?_)
    · obtain rfl := hf1 _ et29
      exact hKQ
    · have hf := hf2 _ et29
      refine g_sipush (v := 500) C (by decide) dX5_roomOfPair_140 rfl ?_
      obtain rfl := Option.some.inj hf
      exact g_iret C hKQ dX5_roomOfPair_143
  refine g_if_ne (tgt := 17) C dX5_roomOfPair_10 (by decide) rfl (fun c31 => ?_) (fun c31 => ?_)
  · refine g_iconst (v := (-1)) C (by decide) dX5_roomOfPair_17 rfl ?_
    exact g_topI (by rw [if_neg c31]) j30
  · refine g_iconst (v := 1) C (by decide) dX5_roomOfPair_13 rfl ?_
    refine g_goto (pc' := 18) C dX5_roomOfPair_14 (by decide) ?_
    exact g_topI (by rw [if_pos c31]) j30
def f_X5_measureRoom_39  (l1 : Int32) (l2 : Int32) (l3 : Int32) (at' : Nat → Int32) (sts6 : Nat → Int64) : Nat → Int32 → (Nat → Int32) → Option (Nat → Int32)
  | 0, _, _ => none
  | fu + 1, l4, rom => (if (6 : Int32) ≤ l4 then some rom else ((f_X5_roomOfPair fu at' sts6 l1 l2 l3 l4).bind fun q189 => ((f_X5_roomIndex l4 l2 l3).bind fun q190 => (if inB q190 216 = true then ((f_X5_roomIndex (l4 ^^^ (1 : Int32)) l3 l2).bind fun q192 => (if inB q192 216 = true then f_X5_measureRoom_39 l1 l2 l3 at' sts6 fu (l4 + (1 : Int32)) (va_up (va_up rom q190.toNatClampNeg q189) q192.toNatClampNeg q189) else none)) else none))))
def f_X5_measureRoom_12  (l1 : Int32) (l2 : Int32) (at' : Nat → Int32) (sts6 : Nat → Int64) (prt : Int32) : Nat → Int32 → (Nat → Int32) → Option (Nat → Int32)
  | 0, _, _ => none
  | fu + 1, l3, rom => (if (6 : Int32) ≤ l3 then some rom else (if (((prt >>> (l2 &&& 31)) &&& (prt >>> (l3 &&& 31))) &&& (1 : Int32)) = 0 then f_X5_measureRoom_12 l1 l2 at' sts6 prt fu (l3 + (1 : Int32)) rom else ((f_X5_measureRoom_39 l1 l2 l3 at' sts6 fu (0 : Int32) rom).bind fun q194 => f_X5_measureRoom_12 l1 l2 at' sts6 prt fu (l3 + (1 : Int32)) q194)))
def f_X5_measureRoom_2  (l1 : Int32) (at' : Nat → Int32) (sts6 : Nat → Int64) (prt : Int32) : Nat → Int32 → (Nat → Int32) → Option (Nat → Int32)
  | 0, _, _ => none
  | fu + 1, l2, rom => (if (6 : Int32) ≤ l2 then some rom else ((f_X5_measureRoom_12 l1 l2 at' sts6 prt fu (l2 + (1 : Int32)) rom).bind fun q195 => f_X5_measureRoom_2 l1 at' sts6 prt fu (l2 + (1 : Int32)) q195))
def f_X5_measureRoom (fu : Nat) (at' : Nat → Int32) (sts6 : Nat → Int64) (rom : Nat → Int32) (prt : Int32) (l1 : Int32) : Option (Nat → Int32) := ((f_X5_measureRoom_2 l1 at' sts6 prt fu (0 : Int32) rom).bind fun q196 => some q196)
set_option maxHeartbeats 2000000 in
set_option maxRecDepth 20000 in
theorem g_X5_measureRoom_39 {K : KX} {n : Nat} {σ : AH} {u : Nat}  {l1 : Int32} {l2 : Int32} {l3 : Int32} {at' : Nat → Int32} {pa : Nat → Int32} {mo : Nat → Int32} {le : Nat → Int32} {hd : Nat → Int32} {nt : Nat → Int32} {ct : Int32} {sts6 : Nat → Int64} {blo : Nat → Nat → Int32} {bhi : Nat → Nat → Int32} {bem : Nat → Int32} {glo : Nat → Int32} {ghi : Nat → Int32} {gem : Int32} {rlo : Nat → Int32} {rhi : Nat → Int32} {rem : Int32} {fnd : Nat → Int32} {fc : Int32} {prt : Int32} {lim : Int32} (C : Cx K RX5 "measureRoom" cX5_measureRoom none) (hKR : kR K = ({ frames := 3, cells := 0, slots := 0, locals := 77 } : Room)) (hKN : kN K = 6) : ∀ (fu : Nat) (l4 : Int32) (rom : Nat → Int32) (res : (Nat → Int32)), f_X5_measureRoom_39 l1 l2 l3 at' sts6 fu l4 rom = some res → G K 0 0 93 [(0, .ref u), (1, .int l1), (2, .int l2), (3, .int l3)] [] (wUn σ u at' pa mo le hd nt ct sts6 blo bhi bem glo ghi gem rlo rhi rem res fnd fc prt lim) n → G K 0 0 39 [(0, .ref u), (1, .int l1), (2, .int l2), (3, .int l3), (4, .int l4)] [] (wUn σ u at' pa mo le hd nt ct sts6 blo bhi bem glo ghi gem rlo rhi rem rom fnd fc prt lim) n := by
  intro fu
  induction fu with
  | zero =>
    intro l4 rom res hf
    exact absurd hf (by simp [f_X5_measureRoom_39])
  | succ fu ih =>
    intro l4 rom res hf hx
    rw [f_X5_measureRoom_39] at hf
    refine g_iload C (q := 4) rfl dX5_measureRoom_39 rfl ?_
    refine g_bipush (v := 6) C (by decide) dX5_measureRoom_41 rfl ?_
    refine g_icmp_ge (tgt := 93) C dX5_measureRoom_43 (by decide) rfl (fun c188 => ?_) (fun c188 => ?_)
    · replace hf := ift c188 hf
      obtain rfl := Option.some.inj hf
      refine g_sub (lv' := [(0, .ref u), (1, .int l1), (2, .int l2), (3, .int l3)]) [0, 1, 2, 3] rfl ?_
      exact hx
    · replace hf := iff' c188 hf
      refine g_aload_n C rfl (q := 0) rfl dX5_measureRoom_46 rfl ?_
      refine g_iload_n C rfl (q := 1) rfl dX5_measureRoom_47 rfl ?_
      refine g_iload_n C rfl (q := 2) rfl dX5_measureRoom_48 rfl ?_
      refine g_iload_n C rfl (q := 3) rfl dX5_measureRoom_49 rfl ?_
      refine g_iload C (q := 4) rfl dX5_measureRoom_50 rfl ?_
      obtain ⟨q189, hq189, hf⟩ := bd hf
      refine g_callV0 (st' := []) (as := [.int l1, .int l2, .int l3, .int l4]) (st2 := [.int q189]) (k := 4) C ⟨wm_RX5_125, wn_X5_roomOfPair, wv_X5_roomOfPair, wi_RX5, wk_X5_roomOfPair, by decide +kernel⟩ rfl (wL_at0 rfl) (c_X5_roomOfPair (l := kL K) (E := kE K)  _ hq189) (by rw [hKR]; exact ⟨rfl, rfl, ⟨by decide, by decide⟩, Nat.le_refl _, Nat.le_refl _⟩) rfl rfl (by simp) rfl dX5_measureRoom_52 rfl ?_
      refine g_istore (i := 5) (lv' := [(5, .int q189), (0, .ref u), (1, .int l1), (2, .int l2), (3, .int l3), (4, .int l4)]) C dX5_measureRoom_55 rfl (by rw [hKN]; decide) rfl ?_
      refine g_aload_n C rfl (q := 1) rfl dX5_measureRoom_57 rfl ?_
      refine g_get C fc_X5 5 (by decide) wf_RX5_36 (wL_at0 rfl) rfl dX5_measureRoom_58 rfl ?_
      refine g_iload C (q := 5) rfl dX5_measureRoom_61 rfl ?_
      refine g_iload_n C rfl (q := 3) rfl dX5_measureRoom_63 rfl ?_
      refine g_iload_n C rfl (q := 4) rfl dX5_measureRoom_64 rfl ?_
      obtain ⟨q190, hq190, hf⟩ := bd hf
      refine g_callS0 (st' := [.ref (u + 34)]) (as := [.int l4, .int l2, .int l3]) (st2 := [.int q190, .ref (u + 34)]) (k := 3) C ⟨wm_RX5_129, ws_X5_roomIndex, wi_RX5, wk_X5_roomIndex, by decide +kernel⟩ (c_X5_roomIndex (l := kL K) (E := kE K)  _ hq190) (by rw [hKR]; exact ⟨rfl, rfl, ⟨by decide, by decide⟩, Nat.le_refl _, Nat.le_refl _⟩) rfl rfl (by simp [Value.category]) rfl dX5_measureRoom_65 rfl ?_
      refine g_iload C (q := 0) rfl dX5_measureRoom_68 rfl ?_
      obtain ⟨g191, hf⟩ := gd hf
      refine g_iast (h' := (wUn σ u at' pa mo le hd nt ct sts6 blo bhi bem glo ghi gem rlo rhi rem (va_up rom q190.toNatClampNeg q189) fnd fc prt lim)) C (wL_at 34 rfl) (inB_in g191) (wL_up 34 (Nat.le_of_ble_eq_true rfl) rfl) dX5_measureRoom_70 rfl ?_
      refine g_aload_n C rfl (q := 1) rfl dX5_measureRoom_71 rfl ?_
      refine g_get C fc_X5 5 (by decide) wf_RX5_36 (wL_at0 rfl) rfl dX5_measureRoom_72 rfl ?_
      refine g_iload C (q := 5) rfl dX5_measureRoom_75 rfl ?_
      refine g_iconst (v := 1) C (by decide) dX5_measureRoom_77 rfl ?_
      refine g_ixor C dX5_measureRoom_78 rfl ?_
      refine g_iload_n C rfl (q := 4) rfl dX5_measureRoom_79 rfl ?_
      refine g_iload_n C rfl (q := 3) rfl dX5_measureRoom_80 rfl ?_
      obtain ⟨q192, hq192, hf⟩ := bd hf
      refine g_callS0 (st' := [.ref (u + 34)]) (as := [.int (l4 ^^^ (1 : Int32)), .int l3, .int l2]) (st2 := [.int q192, .ref (u + 34)]) (k := 3) C ⟨wm_RX5_129, ws_X5_roomIndex, wi_RX5, wk_X5_roomIndex, by decide +kernel⟩ (c_X5_roomIndex (l := kL K) (E := kE K)  _ hq192) (by rw [hKR]; exact ⟨rfl, rfl, ⟨by decide, by decide⟩, Nat.le_refl _, Nat.le_refl _⟩) rfl rfl (by simp [Value.category]) rfl dX5_measureRoom_81 rfl ?_
      refine g_iload C (q := 0) rfl dX5_measureRoom_84 rfl ?_
      obtain ⟨g193, hf⟩ := gd hf
      refine g_iast (h' := (wUn σ u at' pa mo le hd nt ct sts6 blo bhi bem glo ghi gem rlo rhi rem (va_up (va_up rom q190.toNatClampNeg q189) q192.toNatClampNeg q189) fnd fc prt lim)) C (wL_at 34 rfl) (inB_in g193) (wL_up 34 (Nat.le_of_ble_eq_true rfl) rfl) dX5_measureRoom_86 rfl ?_
      refine g_iinc (v := l4 + (1 : Int32)) (lv' := [(4, .int (l4 + (1 : Int32))), (5, .int q189), (0, .ref u), (1, .int l1), (2, .int l2), (3, .int l3)]) (q := 5) C dX5_measureRoom_87 rfl rfl rfl (by rw [hKN]; decide) rfl ?_
      refine g_goto (pc' := 39) C dX5_measureRoom_90 (by decide) ?_
      refine g_sub (lv' := [(0, .ref u), (1, .int l1), (2, .int l2), (3, .int l3), (4, .int (l4 + (1 : Int32)))]) [2, 3, 4, 5, 0] rfl ?_
      exact ih _ _ _ hf hx
set_option maxHeartbeats 2000000 in
set_option maxRecDepth 20000 in
theorem g_X5_measureRoom_12 {K : KX} {n : Nat} {σ : AH} {u : Nat}  {l1 : Int32} {l2 : Int32} {at' : Nat → Int32} {pa : Nat → Int32} {mo : Nat → Int32} {le : Nat → Int32} {hd : Nat → Int32} {nt : Nat → Int32} {ct : Int32} {sts6 : Nat → Int64} {blo : Nat → Nat → Int32} {bhi : Nat → Nat → Int32} {bem : Nat → Int32} {glo : Nat → Int32} {ghi : Nat → Int32} {gem : Int32} {rlo : Nat → Int32} {rhi : Nat → Int32} {rem : Int32} {fnd : Nat → Int32} {fc : Int32} {prt : Int32} {lim : Int32} (C : Cx K RX5 "measureRoom" cX5_measureRoom none) (hKR : kR K = ({ frames := 3, cells := 0, slots := 0, locals := 77 } : Room)) (hKN : kN K = 6) : ∀ (fu : Nat) (l3 : Int32) (rom : Nat → Int32) (res : (Nat → Int32)), f_X5_measureRoom_12 l1 l2 at' sts6 prt fu l3 rom = some res → G K 0 0 99 [(0, .ref u), (1, .int l1), (2, .int l2)] [] (wUn σ u at' pa mo le hd nt ct sts6 blo bhi bem glo ghi gem rlo rhi rem res fnd fc prt lim) n → G K 0 0 12 [(0, .ref u), (1, .int l1), (2, .int l2), (3, .int l3)] [] (wUn σ u at' pa mo le hd nt ct sts6 blo bhi bem glo ghi gem rlo rhi rem rom fnd fc prt lim) n := by
  intro fu
  induction fu with
  | zero =>
    intro l3 rom res hf
    exact absurd hf (by simp [f_X5_measureRoom_12])
  | succ fu ih =>
    intro l3 rom res hf hx
    rw [f_X5_measureRoom_12] at hf
    refine g_iload_n C rfl (q := 3) rfl dX5_measureRoom_12 rfl ?_
    refine g_bipush (v := 6) C (by decide) dX5_measureRoom_13 rfl ?_
    refine g_icmp_ge (tgt := 99) C dX5_measureRoom_15 (by decide) rfl (fun c174 => ?_) (fun c174 => ?_)
    · replace hf := ift c174 hf
      obtain rfl := Option.some.inj hf
      refine g_sub (lv' := [(0, .ref u), (1, .int l1), (2, .int l2)]) [0, 1, 2] rfl ?_
      exact hx
    · replace hf := iff' c174 hf
      refine g_aload_n C rfl (q := 0) rfl dX5_measureRoom_18 rfl ?_
      refine g_get C fc_X5 8 (by decide) wf_RX5_51 (wL_at0 rfl) rfl dX5_measureRoom_19 rfl ?_
      refine g_iload_n C rfl (q := 2) rfl dX5_measureRoom_22 rfl ?_
      refine g_ishr C dX5_measureRoom_23 rfl ?_
      refine g_aload_n C rfl (q := 0) rfl dX5_measureRoom_24 rfl ?_
      refine g_get C fc_X5 8 (by decide) wf_RX5_51 (wL_at0 rfl) rfl dX5_measureRoom_25 rfl ?_
      refine g_iload_n C rfl (q := 3) rfl dX5_measureRoom_28 rfl ?_
      refine g_ishr C dX5_measureRoom_29 rfl ?_
      refine g_iand C dX5_measureRoom_30 rfl ?_
      refine g_iconst (v := 1) C (by decide) dX5_measureRoom_31 rfl ?_
      refine g_iand C dX5_measureRoom_32 rfl ?_
      refine g_if_eq (tgt := 93) C dX5_measureRoom_33 (by decide) rfl (fun c175 => ?_) (fun c175 => ?_)
      · replace hf := ift c175 hf
        refine g_iinc (v := l3 + (1 : Int32)) (lv' := [(3, .int (l3 + (1 : Int32))), (0, .ref u), (1, .int l1), (2, .int l2)]) (q := 3) C dX5_measureRoom_93 rfl rfl rfl (by rw [hKN]; decide) rfl ?_
        refine g_goto (pc' := 12) C dX5_measureRoom_96 (by decide) ?_
        refine g_sub (lv' := [(0, .ref u), (1, .int l1), (2, .int l2), (3, .int (l3 + (1 : Int32)))]) [1, 2, 3, 0] rfl ?_
        exact ih _ _ _ hf hx
      · replace hf := iff' c175 hf
        refine g_iconst (v := 0) C (by decide) dX5_measureRoom_36 rfl ?_
        refine g_istore (i := 4) (lv' := [(4, .int (0 : Int32)), (0, .ref u), (1, .int l1), (2, .int l2), (3, .int l3)]) C dX5_measureRoom_37 rfl (by rw [hKN]; decide) rfl ?_
        refine g_sub (lv' := [(0, .ref u), (1, .int l1), (2, .int l2), (3, .int l3), (4, .int (0 : Int32))]) [1, 2, 3, 4, 0] rfl ?_
        obtain ⟨q194, hq194, hf⟩ := bd hf
        refine g_X5_measureRoom_39 (l1 := l1) (l2 := l2) (l3 := l3) (at' := at') (pa := pa) (mo := mo) (le := le) (hd := hd) (nt := nt) (ct := ct) (sts6 := sts6) (blo := blo) (bhi := bhi) (bem := bem) (glo := glo) (ghi := ghi) (gem := gem) (rlo := rlo) (rhi := rhi) (rem := rem) (fnd := fnd) (fc := fc) (prt := prt) (lim := lim) C hKR hKN _ _ _ _ hq194 ?_
        refine g_iinc (v := l3 + (1 : Int32)) (lv' := [(3, .int (l3 + (1 : Int32))), (0, .ref u), (1, .int l1), (2, .int l2)]) (q := 3) C dX5_measureRoom_93 rfl rfl rfl (by rw [hKN]; decide) rfl ?_
        refine g_goto (pc' := 12) C dX5_measureRoom_96 (by decide) ?_
        refine g_sub (lv' := [(0, .ref u), (1, .int l1), (2, .int l2), (3, .int (l3 + (1 : Int32)))]) [1, 2, 3, 0] rfl ?_
        exact ih _ _ _ hf hx
set_option maxHeartbeats 2000000 in
set_option maxRecDepth 20000 in
theorem g_X5_measureRoom_2 {K : KX} {n : Nat} {σ : AH} {u : Nat}  {l1 : Int32} {at' : Nat → Int32} {pa : Nat → Int32} {mo : Nat → Int32} {le : Nat → Int32} {hd : Nat → Int32} {nt : Nat → Int32} {ct : Int32} {sts6 : Nat → Int64} {blo : Nat → Nat → Int32} {bhi : Nat → Nat → Int32} {bem : Nat → Int32} {glo : Nat → Int32} {ghi : Nat → Int32} {gem : Int32} {rlo : Nat → Int32} {rhi : Nat → Int32} {rem : Int32} {fnd : Nat → Int32} {fc : Int32} {prt : Int32} {lim : Int32} (C : Cx K RX5 "measureRoom" cX5_measureRoom none) (hKR : kR K = ({ frames := 3, cells := 0, slots := 0, locals := 77 } : Room)) (hKN : kN K = 6) : ∀ (fu : Nat) (l2 : Int32) (rom : Nat → Int32) (res : (Nat → Int32)), f_X5_measureRoom_2 l1 at' sts6 prt fu l2 rom = some res → G K 0 0 105 [] [] (wUn σ u at' pa mo le hd nt ct sts6 blo bhi bem glo ghi gem rlo rhi rem res fnd fc prt lim) n → G K 0 0 2 [(0, .ref u), (1, .int l1), (2, .int l2)] [] (wUn σ u at' pa mo le hd nt ct sts6 blo bhi bem glo ghi gem rlo rhi rem rom fnd fc prt lim) n := by
  intro fu
  induction fu with
  | zero =>
    intro l2 rom res hf
    exact absurd hf (by simp [f_X5_measureRoom_2])
  | succ fu ih =>
    intro l2 rom res hf hx
    rw [f_X5_measureRoom_2] at hf
    refine g_iload_n C rfl (q := 2) rfl dX5_measureRoom_2 rfl ?_
    refine g_bipush (v := 6) C (by decide) dX5_measureRoom_3 rfl ?_
    refine g_icmp_ge (tgt := 105) C dX5_measureRoom_5 (by decide) rfl (fun c131 => ?_) (fun c131 => ?_)
    · replace hf := ift c131 hf
      obtain rfl := Option.some.inj hf
      refine g_sub (lv' := []) [] rfl ?_
      exact hx
    · replace hf := iff' c131 hf
      refine g_iload_n C rfl (q := 2) rfl dX5_measureRoom_8 rfl ?_
      refine g_iconst (v := 1) C (by decide) dX5_measureRoom_9 rfl ?_
      refine g_iadd C dX5_measureRoom_10 rfl ?_
      refine g_istore_n (i := 3) (lv' := [(3, .int (l2 + (1 : Int32))), (0, .ref u), (1, .int l1), (2, .int l2)]) C dX5_measureRoom_11 rfl rfl (by rw [hKN]; decide) rfl ?_
      refine g_sub (lv' := [(0, .ref u), (1, .int l1), (2, .int l2), (3, .int (l2 + (1 : Int32)))]) [1, 2, 3, 0] rfl ?_
      obtain ⟨q195, hq195, hf⟩ := bd hf
      refine g_X5_measureRoom_12 (l1 := l1) (l2 := l2) (at' := at') (pa := pa) (mo := mo) (le := le) (hd := hd) (nt := nt) (ct := ct) (sts6 := sts6) (blo := blo) (bhi := bhi) (bem := bem) (glo := glo) (ghi := ghi) (gem := gem) (rlo := rlo) (rhi := rhi) (rem := rem) (fnd := fnd) (fc := fc) (prt := prt) (lim := lim) C hKR hKN _ _ _ _ hq195 ?_
      refine g_iinc (v := l2 + (1 : Int32)) (lv' := [(2, .int (l2 + (1 : Int32))), (0, .ref u), (1, .int l1)]) (q := 2) C dX5_measureRoom_99 rfl rfl rfl (by rw [hKN]; decide) rfl ?_
      refine g_goto (pc' := 2) C dX5_measureRoom_102 (by decide) ?_
      refine g_sub (lv' := [(0, .ref u), (1, .int l1), (2, .int (l2 + (1 : Int32)))]) [1, 2, 0] rfl ?_
      exact ih _ _ _ hf hx
set_option maxHeartbeats 2000000 in
set_option maxRecDepth 20000 in
theorem c_X5_measureRoom {l : Launch} {E : Ex} {n : Nat} {σ : AH} {u : Nat}  {at' : Nat → Int32} {pa : Nat → Int32} {mo : Nat → Int32} {le : Nat → Int32} {hd : Nat → Int32} {nt : Nat → Int32} {ct : Int32} {sts6 : Nat → Int64} {blo : Nat → Nat → Int32} {bhi : Nat → Nat → Int32} {bem : Nat → Int32} {glo : Nat → Int32} {ghi : Nat → Int32} {gem : Int32} {rlo : Nat → Int32} {rhi : Nat → Int32} {rem : Int32} {rom : Nat → Int32} {fnd : Nat → Int32} {fc : Int32} {prt : Int32} {lim : Int32} {l1 : Int32} {fu : Nat} (res : (Nat → Int32)) (hf : f_X5_measureRoom fu at' sts6 rom prt l1 = some res) : Con l E yX5_measureRoom (.code yX5_measureRoom cX5_measureRoom 6 none :: TT) ({ frames := 3, cells := 0, slots := 0, locals := 77 } : Room) 0 0 [.ref u, .int l1] (wUn σ u at' pa mo le hd nt ct sts6 blo bhi bem glo ghi gem rlo rhi rem rom fnd fc prt lim) n none (wUn σ u at' pa mo le hd nt ct sts6 blo bhi bem glo ghi gem rlo rhi rem res fnd fc prt lim) n := by
  refine con_intro (by decide +kernel) (Nat.le_of_ble_eq_true rfl) ?_
  intro K C hKR hKL hKE hKN hKQ
  subst hKL
  subst hKE
  have C : Cx K RX5 "measureRoom" cX5_measureRoom none := C
  show G K 0 0 0 [(0, .ref u), (1, .int l1)] [] (wUn σ u at' pa mo le hd nt ct sts6 blo bhi bem glo ghi gem rlo rhi rem rom fnd fc prt lim) n
  unfold f_X5_measureRoom at hf
  refine g_iconst (v := 0) C (by decide) dX5_measureRoom_0 rfl ?_
  refine g_istore_n (i := 2) (lv' := [(2, .int (0 : Int32)), (0, .ref u), (1, .int l1)]) C dX5_measureRoom_1 rfl rfl (by rw [hKN]; decide) rfl ?_
  refine g_sub (lv' := [(0, .ref u), (1, .int l1), (2, .int (0 : Int32))]) [1, 2, 0] rfl ?_
  obtain ⟨q196, hq196, hf⟩ := bd hf
  refine g_X5_measureRoom_2 (l1 := l1) (at' := at') (pa := pa) (mo := mo) (le := le) (hd := hd) (nt := nt) (ct := ct) (sts6 := sts6) (blo := blo) (bhi := bhi) (bem := bem) (glo := glo) (ghi := ghi) (gem := gem) (rlo := rlo) (rhi := rhi) (rem := rem) (fnd := fnd) (fc := fc) (prt := prt) (lim := lim) C hKR hKN _ _ _ _ hq196 ?_
  obtain rfl := Option.some.inj hf
  exact g_vret C hKQ dX5_measureRoom_105
def f_X5_roomOfGroup_37  (l6 : Int32) (rom : Nat → Int32) : Nat → Int32 → Int32 → Option Int32
  | 0, _, _ => none
  | fu + 1, l4, l7 => (if l7 = 0 then some l4 else ((f_X6_lowestPiece l7).bind fun q39 => (if inB (l6 + q39) 216 = true then f_X5_roomOfGroup_37 l6 rom fu (if (rom (l6 + q39).toNatClampNeg) < l4 then (rom (l6 + q39).toNatClampNeg) else l4) (l7 &&& (l7 - (1 : Int32))) else none)))
def f_X5_roomOfGroup_17  (l2 : Int32) (l3 : Int32) (rom : Nat → Int32) : Nat → Int32 → Int32 → Option (Int32 ⊕ Int32)
  | 0, _, _ => none
  | fu + 1, l4, l5 => (if l5 = 0 then some (.inr l4) else ((f_X6_lowestPiece l5).bind fun q30 => ((f_X5_roomIndex l2 q30 (0 : Int32)).bind fun q31 => ((f_X5_roomOfGroup_37 q31 rom fu l4 l3).bind fun q41 => (if q41 = 0 then some (.inl (0 : Int32)) else f_X5_roomOfGroup_17 l2 l3 rom fu q41 (l5 &&& (l5 - (1 : Int32))))))))
def f_X5_roomOfGroup (fu : Nat) (rom : Nat → Int32) (prt : Int32) (l1 : Int32) (l2 : Int32) : Option Int32 := (sumB (f_X5_roomOfGroup_17 l2 (prt &&& (l1 ^^^ (-1 : Int32))) rom fu (500 : Int32) l1) id fun t44 => some t44)
set_option maxHeartbeats 2000000 in
set_option maxRecDepth 20000 in
theorem g_X5_roomOfGroup_37 {K : KX} {n : Nat} {σ : AH} {u : Nat}  {l2 : Int32} {l3 : Int32} {l5 : Int32} {l6 : Int32} {at' : Nat → Int32} {pa : Nat → Int32} {mo : Nat → Int32} {le : Nat → Int32} {hd : Nat → Int32} {nt : Nat → Int32} {ct : Int32} {sts6 : Nat → Int64} {blo : Nat → Nat → Int32} {bhi : Nat → Nat → Int32} {bem : Nat → Int32} {glo : Nat → Int32} {ghi : Nat → Int32} {gem : Int32} {rlo : Nat → Int32} {rhi : Nat → Int32} {rem : Int32} {rom : Nat → Int32} {fnd : Nat → Int32} {fc : Int32} {prt : Int32} {lim : Int32} (C : Cx K RX5 "roomOfGroup" cX5_roomOfGroup (some .int)) (hKR : kR K = ({ frames := 2, cells := 0, slots := 0, locals := 40 } : Room)) (hKN : kN K = 8) : ∀ (fu : Nat) (l4 : Int32) (l7 : Int32) (res : Int32), f_X5_roomOfGroup_37 l6 rom fu l4 l7 = some res → G K 0 0 74 [(0, .ref u), (2, .int l2), (3, .int l3), (4, .int res), (5, .int l5)] [] (wUn σ u at' pa mo le hd nt ct sts6 blo bhi bem glo ghi gem rlo rhi rem rom fnd fc prt lim) n → G K 0 0 37 [(0, .ref u), (2, .int l2), (3, .int l3), (4, .int l4), (5, .int l5), (6, .int l6), (7, .int l7)] [] (wUn σ u at' pa mo le hd nt ct sts6 blo bhi bem glo ghi gem rlo rhi rem rom fnd fc prt lim) n := by
  intro fu
  induction fu with
  | zero =>
    intro l4 l7 res hf
    exact absurd hf (by simp [f_X5_roomOfGroup_37])
  | succ fu ih =>
    intro l4 l7 res hf hx
    rw [f_X5_roomOfGroup_37] at hf
    refine g_iload C (q := 6) rfl dX5_roomOfGroup_37 rfl ?_
    refine g_if_eq (tgt := 74) C dX5_roomOfGroup_39 (by decide) rfl (fun c38 => ?_) (fun c38 => ?_)
    · replace hf := ift c38 hf
      obtain rfl := Option.some.inj hf
      refine g_sub (lv' := [(0, .ref u), (2, .int l2), (3, .int l3), (4, .int l4), (5, .int l5)]) [0, 1, 2, 3, 4] rfl ?_
      exact hx
    · replace hf := iff' c38 hf
      refine g_iload C (q := 3) rfl dX5_roomOfGroup_42 rfl ?_
      refine g_aload_n C rfl (q := 0) rfl dX5_roomOfGroup_44 rfl ?_
      refine g_get C fc_X5 5 (by decide) wf_RX5_36 (wL_at0 rfl) rfl dX5_roomOfGroup_45 rfl ?_
      refine g_iload C (q := 5) rfl dX5_roomOfGroup_48 rfl ?_
      refine g_iload C (q := 6) rfl dX5_roomOfGroup_50 rfl ?_
      obtain ⟨q39, hq39, hf⟩ := bd hf
      refine g_callN0 (st' := [.int l6, .ref (u + 34), .int l4]) (as := [.int l7]) (st2 := [.int q39, .int l6, .ref (u + 34), .int l4]) (k := 1) C (zN C).2 ⟨ws_X6_lowestPiece, wi_RX6, wk_X6_lowestPiece, by decide +kernel⟩ (c_X6_lowestPiece (l := kL K) (E := kE K)  _ hq39) (by rw [hKR]; exact ⟨rfl, rfl, ⟨by decide, by decide⟩, Nat.le_refl _, Nat.le_refl _⟩) rfl rfl (by simp [Value.category]) rfl dX5_roomOfGroup_52 rfl ?_
      refine g_iadd C dX5_roomOfGroup_55 rfl ?_
      obtain ⟨g40, hf⟩ := gd hf
      refine g_iald C (wL_at 34 rfl) (inB_in g40) dX5_roomOfGroup_56 rfl ?_
      refine g_min C wm_RX5_149 ws_Math_min wi_Math wk_Math_min (by rw [hKR]; decide) (by rw [hKR]; simp [Value.category]) (Nat.zero_le _) (Nat.zero_le _) dX5_roomOfGroup_57 rfl ?_
      refine g_istore (i := 4) (lv' := [(4, .int (if (rom (l6 + q39).toNatClampNeg) < l4 then (rom (l6 + q39).toNatClampNeg) else l4)), (0, .ref u), (2, .int l2), (3, .int l3), (5, .int l5), (6, .int l6), (7, .int l7)]) C dX5_roomOfGroup_60 rfl (by rw [hKN]; decide) rfl ?_
      refine g_iload C (q := 6) rfl dX5_roomOfGroup_62 rfl ?_
      refine g_iload C (q := 6) rfl dX5_roomOfGroup_64 rfl ?_
      refine g_iconst (v := 1) C (by decide) dX5_roomOfGroup_66 rfl ?_
      refine g_isub C dX5_roomOfGroup_67 rfl ?_
      refine g_iand C dX5_roomOfGroup_68 rfl ?_
      refine g_istore (i := 7) (lv' := [(7, .int (l7 &&& (l7 - (1 : Int32)))), (4, .int (if (rom (l6 + q39).toNatClampNeg) < l4 then (rom (l6 + q39).toNatClampNeg) else l4)), (0, .ref u), (2, .int l2), (3, .int l3), (5, .int l5), (6, .int l6)]) C dX5_roomOfGroup_69 rfl (by rw [hKN]; decide) rfl ?_
      refine g_goto (pc' := 37) C dX5_roomOfGroup_71 (by decide) ?_
      refine g_sub (lv' := [(0, .ref u), (2, .int l2), (3, .int l3), (4, .int (if (rom (l6 + q39).toNatClampNeg) < l4 then (rom (l6 + q39).toNatClampNeg) else l4)), (5, .int l5), (6, .int l6), (7, .int (l7 &&& (l7 - (1 : Int32))))]) [2, 3, 4, 1, 5, 6, 0] rfl ?_
      exact ih _ _ _ hf hx
set_option maxHeartbeats 2000000 in
set_option maxRecDepth 20000 in
theorem g_X5_roomOfGroup_17 {K : KX} {n : Nat} {σ : AH} {u : Nat}  {l2 : Int32} {l3 : Int32} {at' : Nat → Int32} {pa : Nat → Int32} {mo : Nat → Int32} {le : Nat → Int32} {hd : Nat → Int32} {nt : Nat → Int32} {ct : Int32} {sts6 : Nat → Int64} {blo : Nat → Nat → Int32} {bhi : Nat → Nat → Int32} {bem : Nat → Int32} {glo : Nat → Int32} {ghi : Nat → Int32} {gem : Int32} {rlo : Nat → Int32} {rhi : Nat → Int32} {rem : Int32} {rom : Nat → Int32} {fnd : Nat → Int32} {fc : Int32} {prt : Int32} {lim : Int32} (C : Cx K RX5 "roomOfGroup" cX5_roomOfGroup (some .int)) (hKR : kR K = ({ frames := 2, cells := 0, slots := 0, locals := 40 } : Room)) (hKN : kN K = 8) : ∀ (fu : Nat) (l4 : Int32) (l5 : Int32) (res : (Int32 ⊕ Int32)), f_X5_roomOfGroup_17 l2 l3 rom fu l4 l5 = some res → (∀ t, res = .inl t → KQ K 0 0 (some (.int t)) (wUn σ u at' pa mo le hd nt ct sts6 blo bhi bem glo ghi gem rlo rhi rem rom fnd fc prt lim) n) → (∀ t, res = .inr t → G K 0 0 93 [(4, .int t)] [] (wUn σ u at' pa mo le hd nt ct sts6 blo bhi bem glo ghi gem rlo rhi rem rom fnd fc prt lim) n) → G K 0 0 17 [(0, .ref u), (2, .int l2), (3, .int l3), (4, .int l4), (5, .int l5)] [] (wUn σ u at' pa mo le hd nt ct sts6 blo bhi bem glo ghi gem rlo rhi rem rom fnd fc prt lim) n := by
  intro fu
  induction fu with
  | zero =>
    intro l4 l5 res hf
    exact absurd hf (by simp [f_X5_roomOfGroup_17])
  | succ fu ih =>
    intro l4 l5 res hf hret hx
    rw [f_X5_roomOfGroup_17] at hf
    refine g_iload C (q := 4) rfl dX5_roomOfGroup_17 rfl ?_
    refine g_if_eq (tgt := 93) C dX5_roomOfGroup_19 (by decide) rfl (fun c29 => ?_) (fun c29 => ?_)
    · replace hf := ift c29 hf
      obtain rfl := Option.some.inj hf
      refine g_sub (lv' := [(4, .int l4)]) [3] rfl ?_
      exact hx l4 rfl
    · replace hf := iff' c29 hf
      refine g_iload_n C rfl (q := 1) rfl dX5_roomOfGroup_22 rfl ?_
      refine g_iload C (q := 4) rfl dX5_roomOfGroup_23 rfl ?_
      obtain ⟨q30, hq30, hf⟩ := bd hf
      refine g_callN0 (st' := [.int l2]) (as := [.int l5]) (st2 := [.int q30, .int l2]) (k := 1) C (zN C).2 ⟨ws_X6_lowestPiece, wi_RX6, wk_X6_lowestPiece, by decide +kernel⟩ (c_X6_lowestPiece (l := kL K) (E := kE K)  _ hq30) (by rw [hKR]; exact ⟨rfl, rfl, ⟨by decide, by decide⟩, Nat.le_refl _, Nat.le_refl _⟩) rfl rfl (by simp [Value.category]) rfl dX5_roomOfGroup_25 rfl ?_
      refine g_iconst (v := 0) C (by decide) dX5_roomOfGroup_28 rfl ?_
      obtain ⟨q31, hq31, hf⟩ := bd hf
      refine g_callS0 (st' := []) (as := [.int l2, .int q30, .int (0 : Int32)]) (st2 := [.int q31]) (k := 3) C ⟨wm_RX5_129, ws_X5_roomIndex, wi_RX5, wk_X5_roomIndex, by decide +kernel⟩ (c_X5_roomIndex (l := kL K) (E := kE K)  _ hq31) (by rw [hKR]; exact ⟨rfl, rfl, ⟨by decide, by decide⟩, Nat.le_refl _, Nat.le_refl _⟩) rfl rfl (by simp) rfl dX5_roomOfGroup_29 rfl ?_
      refine g_istore (i := 6) (lv' := [(6, .int q31), (0, .ref u), (2, .int l2), (3, .int l3), (4, .int l4), (5, .int l5)]) C dX5_roomOfGroup_32 rfl (by rw [hKN]; decide) rfl ?_
      refine g_iload_n C rfl (q := 3) rfl dX5_roomOfGroup_34 rfl ?_
      refine g_istore (i := 7) (lv' := [(7, .int l3), (6, .int q31), (0, .ref u), (2, .int l2), (3, .int l3), (4, .int l4), (5, .int l5)]) C dX5_roomOfGroup_35 rfl (by rw [hKN]; decide) rfl ?_
      refine g_sub (lv' := [(0, .ref u), (2, .int l2), (3, .int l3), (4, .int l4), (5, .int l5), (6, .int q31), (7, .int l3)]) [2, 3, 4, 5, 6, 1, 0] rfl ?_
      obtain ⟨q41, hq41, hf⟩ := bd hf
      refine g_X5_roomOfGroup_37 (l2 := l2) (l3 := l3) (l5 := l5) (l6 := q31) (at' := at') (pa := pa) (mo := mo) (le := le) (hd := hd) (nt := nt) (ct := ct) (sts6 := sts6) (blo := blo) (bhi := bhi) (bem := bem) (glo := glo) (ghi := ghi) (gem := gem) (rlo := rlo) (rhi := rhi) (rem := rem) (rom := rom) (fnd := fnd) (fc := fc) (prt := prt) (lim := lim) C hKR hKN _ _ _ _ hq41 ?_
      refine g_iload C (q := 3) rfl dX5_roomOfGroup_74 rfl ?_
      refine g_if_ne (tgt := 81) C dX5_roomOfGroup_76 (by decide) rfl (fun c42 => ?_) (fun c42 => ?_)
      · replace hf := iff' c42 hf
        refine g_iload C (q := 4) rfl dX5_roomOfGroup_81 rfl ?_
        refine g_iload C (q := 4) rfl dX5_roomOfGroup_83 rfl ?_
        refine g_iconst (v := 1) C (by decide) dX5_roomOfGroup_85 rfl ?_
        refine g_isub C dX5_roomOfGroup_86 rfl ?_
        refine g_iand C dX5_roomOfGroup_87 rfl ?_
        refine g_istore (i := 5) (lv' := [(5, .int (l5 &&& (l5 - (1 : Int32)))), (0, .ref u), (2, .int l2), (3, .int l3), (4, .int q41)]) C dX5_roomOfGroup_88 rfl (by rw [hKN]; decide) rfl ?_
        refine g_goto (pc' := 17) C dX5_roomOfGroup_90 (by decide) ?_
        refine g_sub (lv' := [(0, .ref u), (2, .int l2), (3, .int l3), (4, .int q41), (5, .int (l5 &&& (l5 - (1 : Int32))))]) [1, 2, 3, 4, 0] rfl ?_
        exact ih _ _ _ hf hret hx
      · replace hf := ift c42 hf
        refine g_iconst (v := 0) C (by decide) dX5_roomOfGroup_79 rfl ?_
        obtain rfl := Option.some.inj hf
        exact g_iret C (hret (0 : Int32) rfl) dX5_roomOfGroup_80
set_option maxHeartbeats 2000000 in
set_option maxRecDepth 20000 in
theorem c_X5_roomOfGroup {l : Launch} {E : Ex} {n : Nat} {σ : AH} {u : Nat}  {at' : Nat → Int32} {pa : Nat → Int32} {mo : Nat → Int32} {le : Nat → Int32} {hd : Nat → Int32} {nt : Nat → Int32} {ct : Int32} {sts6 : Nat → Int64} {blo : Nat → Nat → Int32} {bhi : Nat → Nat → Int32} {bem : Nat → Int32} {glo : Nat → Int32} {ghi : Nat → Int32} {gem : Int32} {rlo : Nat → Int32} {rhi : Nat → Int32} {rem : Int32} {rom : Nat → Int32} {fnd : Nat → Int32} {fc : Int32} {prt : Int32} {lim : Int32} {l1 : Int32} {l2 : Int32} {fu : Nat} (res : Int32) (hf : f_X5_roomOfGroup fu rom prt l1 l2 = some res) : Con l E yX5_roomOfGroup (.code yX5_roomOfGroup cX5_roomOfGroup 8 (some .int) :: TT) ({ frames := 2, cells := 0, slots := 0, locals := 40 } : Room) 0 0 [.ref u, .int l1, .int l2] (wUn σ u at' pa mo le hd nt ct sts6 blo bhi bem glo ghi gem rlo rhi rem rom fnd fc prt lim) n (some (.int res)) (wUn σ u at' pa mo le hd nt ct sts6 blo bhi bem glo ghi gem rlo rhi rem rom fnd fc prt lim) n := by
  refine con_intro (by decide +kernel) (Nat.le_of_ble_eq_true rfl) ?_
  intro K C hKR hKL hKE hKN hKQ
  subst hKL
  subst hKE
  have C : Cx K RX5 "roomOfGroup" cX5_roomOfGroup (some .int) := C
  show G K 0 0 0 [(0, .ref u), (1, .int l1), (2, .int l2)] [] (wUn σ u at' pa mo le hd nt ct sts6 blo bhi bem glo ghi gem rlo rhi rem rom fnd fc prt lim) n
  unfold f_X5_roomOfGroup at hf
  refine g_aload_n C rfl (q := 0) rfl dX5_roomOfGroup_0 rfl ?_
  refine g_get C fc_X5 8 (by decide) wf_RX5_51 (wL_at0 rfl) rfl dX5_roomOfGroup_1 rfl ?_
  refine g_iload_n C rfl (q := 1) rfl dX5_roomOfGroup_4 rfl ?_
  refine g_iconst (v := (-1)) C (by decide) dX5_roomOfGroup_5 rfl ?_
  refine g_ixor C dX5_roomOfGroup_6 rfl ?_
  refine g_iand C dX5_roomOfGroup_7 rfl ?_
  refine g_istore_n (i := 3) (lv' := [(3, .int (prt &&& (l1 ^^^ (-1 : Int32)))), (0, .ref u), (1, .int l1), (2, .int l2)]) C dX5_roomOfGroup_8 rfl rfl (by rw [hKN]; decide) rfl ?_
  refine g_sipush (v := 500) C (by decide) dX5_roomOfGroup_9 rfl ?_
  refine g_istore (i := 4) (lv' := [(4, .int (500 : Int32)), (3, .int (prt &&& (l1 ^^^ (-1 : Int32)))), (0, .ref u), (1, .int l1), (2, .int l2)]) C dX5_roomOfGroup_12 rfl (by rw [hKN]; decide) rfl ?_
  refine g_iload_n C rfl (q := 3) rfl dX5_roomOfGroup_14 rfl ?_
  refine g_istore (i := 5) (lv' := [(5, .int l1), (4, .int (500 : Int32)), (3, .int (prt &&& (l1 ^^^ (-1 : Int32)))), (0, .ref u), (1, .int l1), (2, .int l2)]) C dX5_roomOfGroup_15 rfl (by rw [hKN]; decide) rfl ?_
  refine g_sub (lv' := [(0, .ref u), (2, .int l2), (3, .int (prt &&& (l1 ^^^ (-1 : Int32)))), (4, .int (500 : Int32)), (5, .int l1)]) [3, 5, 2, 1, 0] rfl ?_
  obtain ⟨q43, hq43, hf1, hf2⟩ := sb hf
  refine g_X5_roomOfGroup_17 (l2 := l2) (l3 := prt &&& (l1 ^^^ (-1 : Int32))) (at' := at') (pa := pa) (mo := mo) (le := le) (hd := hd) (nt := nt) (ct := ct) (sts6 := sts6) (blo := blo) (bhi := bhi) (bem := bem) (glo := glo) (ghi := ghi) (gem := gem) (rlo := rlo) (rhi := rhi) (rem := rem) (rom := rom) (fnd := fnd) (fc := fc) (prt := prt) (lim := lim) C hKR hKN _ _ _ q43 hq43 (fun t44 et44 => ?_) (fun t44 et44 => ?_)
  · obtain rfl := hf1 _ et44
    exact hKQ
  · have hf := hf2 _ et44
    refine g_iload C (q := 0) rfl dX5_roomOfGroup_93 rfl ?_
    obtain rfl := Option.some.inj hf
    exact g_iret C hKQ dX5_roomOfGroup_95
def f_X5_measureBoxes_16  (l1 : Int32) (l2 : Int32) (at' : Nat → Int32) (blo : Nat → Nat → Int32) (bhi : Nat → Nat → Int32) (prt : Int32) : Nat → Int32 → (Nat → Int32) → (Nat → Int32) → Int32 → (Nat → Int32) → (Nat → Int32) → Int32 → Option ((Nat → Int32) × (Nat → Int32) × Int32 × (Nat → Int32) × (Nat → Int32) × Int32)
  | 0, _, _, _, _, _, _, _ => none
  | fu + 1, l3, glo, ghi, gem, rlo, rhi, rem => (if (6 : Int32) ≤ l3 then some (glo, ghi, gem, rlo, rhi, rem) else (if ((prt >>> (l3 &&& 31)) &&& (1 : Int32)) = 0 then f_X5_measureBoxes_16 l1 l2 at' blo bhi prt fu (l3 + (1 : Int32)) glo ghi gem rlo rhi rem else (if ((l2 >>> (l3 &&& 31)) &&& (1 : Int32)) = 0 then (if inB l3 6 = true then ((f_X4_offsets ).bind fun q33 => ((f_X4_rowOf l1 l3).bind fun q34 => (if inB l3 6 = true then ((f_X3_cover fu 5418 rlo rhi rem (blo l3.toNatClampNeg) (bhi l3.toNatClampNeg) at' q34).bind fun q36 => f_X5_measureBoxes_16 l1 l2 at' blo bhi prt fu (l3 + (1 : Int32)) glo ghi gem q36.1 q36.2.1 q36.2.2) else none))) else none) else (if inB l3 6 = true then ((f_X4_offsets ).bind fun q38 => ((f_X4_rowOf l1 l3).bind fun q39 => (if inB l3 6 = true then ((f_X3_cover fu 5418 glo ghi gem (blo l3.toNatClampNeg) (bhi l3.toNatClampNeg) at' q39).bind fun q41 => f_X5_measureBoxes_16 l1 l2 at' blo bhi prt fu (l3 + (1 : Int32)) q41.1 q41.2.1 q41.2.2 rlo rhi rem) else none))) else none))))
def f_X5_measureBoxes (fu : Nat) (at' : Nat → Int32) (blo : Nat → Nat → Int32) (bhi : Nat → Nat → Int32) (glo : Nat → Int32) (ghi : Nat → Int32) (rlo : Nat → Int32) (rhi : Nat → Int32) (prt : Int32) (l1 : Int32) (l2 : Int32) : Option ((Nat → Int32) × (Nat → Int32) × Int32 × (Nat → Int32) × (Nat → Int32) × Int32) := ((f_X3_clear ).bind fun q1 => ((f_X3_clear ).bind fun q2 => ((f_X5_measureBoxes_16 l1 l2 at' blo bhi prt fu (0 : Int32) glo ghi q1 rlo rhi q2).bind fun q42 => some (q42.1, q42.2.1, q42.2.2.1, q42.2.2.2.1, q42.2.2.2.2.1, q42.2.2.2.2.2))))
set_option maxHeartbeats 2000000 in
set_option maxRecDepth 20000 in
theorem g_X5_measureBoxes_16 {K : KX} {n : Nat} {σ : AH} {u : Nat}  {l1 : Int32} {l2 : Int32} {at' : Nat → Int32} {pa : Nat → Int32} {mo : Nat → Int32} {le : Nat → Int32} {hd : Nat → Int32} {nt : Nat → Int32} {ct : Int32} {sts6 : Nat → Int64} {blo : Nat → Nat → Int32} {bhi : Nat → Nat → Int32} {bem : Nat → Int32} {rom : Nat → Int32} {fnd : Nat → Int32} {fc : Int32} {prt : Int32} {lim : Int32} (C : Cx K RX5 "measureBoxes" cX5_measureBoxes none) (hKR : kR K = ({ frames := 2, cells := 0, slots := 0, locals := 50 } : Room)) (hKN : kN K = 5) : ∀ (fu : Nat) (l3 : Int32) (glo : Nat → Int32) (ghi : Nat → Int32) (gem : Int32) (rlo : Nat → Int32) (rhi : Nat → Int32) (rem : Int32) (res : ((Nat → Int32) × (Nat → Int32) × Int32 × (Nat → Int32) × (Nat → Int32) × Int32)), f_X5_measureBoxes_16 l1 l2 at' blo bhi prt fu l3 glo ghi gem rlo rhi rem = some res → G K 0 0 87 [] [] (wUn σ u at' pa mo le hd nt ct sts6 blo bhi bem res.1 res.2.1 res.2.2.1 res.2.2.2.1 res.2.2.2.2.1 res.2.2.2.2.2 rom fnd fc prt lim) n → G K 0 0 16 [(0, .ref u), (1, .int l1), (2, .int l2), (3, .int l3)] [] (wUn σ u at' pa mo le hd nt ct sts6 blo bhi bem glo ghi gem rlo rhi rem rom fnd fc prt lim) n := by
  intro fu
  induction fu with
  | zero =>
    intro l3 glo ghi gem rlo rhi rem res hf
    exact absurd hf (by simp [f_X5_measureBoxes_16])
  | succ fu ih =>
    intro l3 glo ghi gem rlo rhi rem res hf hx
    rw [f_X5_measureBoxes_16] at hf
    refine g_iload_n C rfl (q := 3) rfl dX5_measureBoxes_16 rfl ?_
    refine g_bipush (v := 6) C (by decide) dX5_measureBoxes_17 rfl ?_
    refine g_icmp_ge (tgt := 87) C dX5_measureBoxes_19 (by decide) rfl (fun c29 => ?_) (fun c29 => ?_)
    · replace hf := ift c29 hf
      obtain rfl := Option.some.inj hf
      refine g_sub (lv' := []) [] rfl ?_
      exact hx
    · replace hf := iff' c29 hf
      refine g_aload_n C rfl (q := 0) rfl dX5_measureBoxes_22 rfl ?_
      refine g_get C fc_X5 8 (by decide) wf_RX5_51 (wL_at0 rfl) rfl dX5_measureBoxes_23 rfl ?_
      refine g_iload_n C rfl (q := 3) rfl dX5_measureBoxes_26 rfl ?_
      refine g_ishr C dX5_measureBoxes_27 rfl ?_
      refine g_iconst (v := 1) C (by decide) dX5_measureBoxes_28 rfl ?_
      refine g_iand C dX5_measureBoxes_29 rfl ?_
      refine g_if_eq (tgt := 81) C dX5_measureBoxes_30 (by decide) rfl (fun c30 => ?_) (fun c30 => ?_)
      · replace hf := ift c30 hf
        refine g_iinc (v := l3 + (1 : Int32)) (lv' := [(3, .int (l3 + (1 : Int32))), (0, .ref u), (1, .int l1), (2, .int l2)]) (q := 3) C dX5_measureBoxes_81 rfl rfl rfl (by rw [hKN]; decide) rfl ?_
        refine g_goto (pc' := 16) C dX5_measureBoxes_84 (by decide) ?_
        refine g_sub (lv' := [(0, .ref u), (1, .int l1), (2, .int l2), (3, .int (l3 + (1 : Int32)))]) [1, 2, 3, 0] rfl ?_
        exact ih _ _ _ _ _ _ _ _ hf hx
      · replace hf := iff' c30 hf
        refine g_iload_n C rfl (q := 2) rfl dX5_measureBoxes_33 rfl ?_
        refine g_iload_n C rfl (q := 3) rfl dX5_measureBoxes_34 rfl ?_
        refine g_ishr C dX5_measureBoxes_35 rfl ?_
        refine g_iconst (v := 1) C (by decide) dX5_measureBoxes_36 rfl ?_
        refine g_iand C dX5_measureBoxes_37 rfl ?_
        refine g_if_eq (tgt := 48) C dX5_measureBoxes_38 (by decide) rfl (fun c31 => ?_) (fun c31 => ?_)
        · replace hf := ift c31 hf
          refine g_aload_n C rfl (q := 0) rfl dX5_measureBoxes_48 rfl ?_
          refine g_get C fc_X5 4 (by decide) wf_RX5_33 (wL_at0 rfl) rfl dX5_measureBoxes_49 rfl ?_
          refine g_astore (i := 4) (lv' := [(4, .ref (u + 31)), (0, .ref u), (1, .int l1), (2, .int l2), (3, .int l3)]) C dX5_measureBoxes_52 rfl (by rw [hKN]; decide) rfl ?_
          refine g_aload C (q := 0) rfl dX5_measureBoxes_54 rfl ?_
          refine g_aload_n C rfl (q := 1) rfl dX5_measureBoxes_56 rfl ?_
          refine g_get C fc_X5 2 (by decide) wf_RX5_24 (wL_at0 rfl) rfl dX5_measureBoxes_57 rfl ?_
          refine g_iload_n C rfl (q := 4) rfl dX5_measureBoxes_60 rfl ?_
          obtain ⟨g32, hf⟩ := gd hf
          refine g_aald C (by decide) (wL_at 9 rfl) (inB_in g32) rfl dX5_measureBoxes_61 rfl ?_
          refine g_aload_n C rfl (q := 1) rfl dX5_measureBoxes_62 rfl ?_
          refine g_get C fc_X5 0 (by decide) wf_RX5_12 (wL_at0 rfl) rfl dX5_measureBoxes_63 rfl ?_
          obtain ⟨q33, hq33, hf⟩ := bd hf
          refine g_heap un_bk_s ?_
          refine g_callV0 (st' := [.ref (u + (10 + 3 * l3.toNatClampNeg)), .ref (u + 31)]) (as := []) (st2 := [.ref (u + 1 + 1), .ref (u + (10 + 3 * l3.toNatClampNeg)), .ref (u + 31)]) (k := 0) C ⟨wm_RX5_114, wn_X4_offsets, wv_X4_offsets, wi_RX4, wk_X4_offsets, by decide +kernel⟩ rfl (wL_at0 rfl) (c_X4_offsets (l := kL K) (E := kE K) (σ := (wUn σ u at' pa mo le hd nt ct sts6 blo bhi bem glo ghi gem rlo rhi rem rom fnd fc prt lim)) (a := u + 1) _ hq33) (by rw [hKR]; exact ⟨rfl, rfl, ⟨by decide, by decide⟩, Nat.le_refl _, Nat.le_refl _⟩) rfl rfl (by simp [Value.category]) rfl dX5_measureBoxes_66 rfl ?_
          refine g_heap (h' := (wUn σ u at' pa mo le hd nt ct sts6 blo bhi bem glo ghi gem rlo rhi rem rom fnd fc prt lim)) un_bk_r ?_
          refine g_aload_n C rfl (q := 1) rfl dX5_measureBoxes_69 rfl ?_
          refine g_get C fc_X5 0 (by decide) wf_RX5_12 (wL_at0 rfl) rfl dX5_measureBoxes_70 rfl ?_
          refine g_iload_n C rfl (q := 2) rfl dX5_measureBoxes_73 rfl ?_
          refine g_iload_n C rfl (q := 4) rfl dX5_measureBoxes_74 rfl ?_
          obtain ⟨q34, hq34, hf⟩ := bd hf
          refine g_heap un_bk_s ?_
          refine g_callV0 (st' := [.ref (u + 1 + 1), .ref (u + (10 + 3 * l3.toNatClampNeg)), .ref (u + 31)]) (as := [.int l1, .int l3]) (st2 := [.int q34, .ref (u + 1 + 1), .ref (u + (10 + 3 * l3.toNatClampNeg)), .ref (u + 31)]) (k := 2) C ⟨wm_RX5_118, wn_X4_rowOf, wv_X4_rowOf, wi_RX4, wk_X4_rowOf, by decide +kernel⟩ rfl (wL_at0 rfl) (c_X4_rowOf (l := kL K) (E := kE K) (σ := (wUn σ u at' pa mo le hd nt ct sts6 blo bhi bem glo ghi gem rlo rhi rem rom fnd fc prt lim)) (a := u + 1) _ hq34) (by rw [hKR]; exact ⟨rfl, rfl, ⟨by decide, by decide⟩, Nat.le_refl _, Nat.le_refl _⟩) rfl rfl (by simp [Value.category]) rfl dX5_measureBoxes_75 rfl ?_
          refine g_heap (h' := (wUn σ u at' pa mo le hd nt ct sts6 blo bhi bem glo ghi gem rlo rhi rem rom fnd fc prt lim)) un_bk_r ?_
          obtain ⟨g35, hf⟩ := gd hf
          obtain ⟨q36, hq36, hf⟩ := bd hf
          refine g_heap (un_cv_rb_s l3.toNatClampNeg (vp_lt g35)) ?_
          refine g_callV0 (st' := []) (as := [.ref (u + (10 + 3 * l3.toNatClampNeg)), .ref (u + 1 + 1), .int q34]) (st2 := []) (k := 3) C ⟨wm_RX5_121, wn_X3_cover, wv_X3_cover, wi_RX3, wk_X3_cover, by decide +kernel⟩ rfl (wL_at0 rfl) (c_X3_cover (l := kL K) (E := kE K) (σ := (wUn σ u at' pa mo le hd nt ct sts6 blo bhi bem glo ghi gem rlo rhi rem rom fnd fc prt lim)) (a := u + 31) (b := u + (10 + 3 * l3.toNatClampNeg)) (c := u + 1 + 1) (z := 5418) (by have := vp_lt g35; omega) (by omega) (by have := vp_lt g35; omega) _ hq36) (by rw [hKR]; exact ⟨rfl, rfl, ⟨by decide, by decide⟩, Nat.le_refl _, Nat.le_refl _⟩) rfl rfl (by simp) rfl dX5_measureBoxes_78 rfl ?_
          refine g_heap (h' := (wUn σ u at' pa mo le hd nt ct sts6 blo bhi bem glo ghi gem q36.1 q36.2.1 q36.2.2 rom fnd fc prt lim)) (un_cv_rb_r l3.toNatClampNeg (vp_lt g35)) ?_
          refine g_iinc (v := l3 + (1 : Int32)) (lv' := [(3, .int (l3 + (1 : Int32))), (4, .ref (u + 31)), (0, .ref u), (1, .int l1), (2, .int l2)]) (q := 4) C dX5_measureBoxes_81 rfl rfl rfl (by rw [hKN]; decide) rfl ?_
          refine g_goto (pc' := 16) C dX5_measureBoxes_84 (by decide) ?_
          refine g_sub (lv' := [(0, .ref u), (1, .int l1), (2, .int l2), (3, .int (l3 + (1 : Int32)))]) [2, 3, 4, 0] rfl ?_
          exact ih _ _ _ _ _ _ _ _ hf hx
        · replace hf := iff' c31 hf
          refine g_aload_n C rfl (q := 0) rfl dX5_measureBoxes_41 rfl ?_
          refine g_get C fc_X5 3 (by decide) wf_RX5_29 (wL_at0 rfl) rfl dX5_measureBoxes_42 rfl ?_
          refine g_goto (pc' := 52) C dX5_measureBoxes_45 (by decide) ?_
          refine g_astore (i := 4) (lv' := [(4, .ref (u + 28)), (0, .ref u), (1, .int l1), (2, .int l2), (3, .int l3)]) C dX5_measureBoxes_52 rfl (by rw [hKN]; decide) rfl ?_
          refine g_aload C (q := 0) rfl dX5_measureBoxes_54 rfl ?_
          refine g_aload_n C rfl (q := 1) rfl dX5_measureBoxes_56 rfl ?_
          refine g_get C fc_X5 2 (by decide) wf_RX5_24 (wL_at0 rfl) rfl dX5_measureBoxes_57 rfl ?_
          refine g_iload_n C rfl (q := 4) rfl dX5_measureBoxes_60 rfl ?_
          obtain ⟨g37, hf⟩ := gd hf
          refine g_aald C (by decide) (wL_at 9 rfl) (inB_in g37) rfl dX5_measureBoxes_61 rfl ?_
          refine g_aload_n C rfl (q := 1) rfl dX5_measureBoxes_62 rfl ?_
          refine g_get C fc_X5 0 (by decide) wf_RX5_12 (wL_at0 rfl) rfl dX5_measureBoxes_63 rfl ?_
          obtain ⟨q38, hq38, hf⟩ := bd hf
          refine g_heap un_bk_s ?_
          refine g_callV0 (st' := [.ref (u + (10 + 3 * l3.toNatClampNeg)), .ref (u + 28)]) (as := []) (st2 := [.ref (u + 1 + 1), .ref (u + (10 + 3 * l3.toNatClampNeg)), .ref (u + 28)]) (k := 0) C ⟨wm_RX5_114, wn_X4_offsets, wv_X4_offsets, wi_RX4, wk_X4_offsets, by decide +kernel⟩ rfl (wL_at0 rfl) (c_X4_offsets (l := kL K) (E := kE K) (σ := (wUn σ u at' pa mo le hd nt ct sts6 blo bhi bem glo ghi gem rlo rhi rem rom fnd fc prt lim)) (a := u + 1) _ hq38) (by rw [hKR]; exact ⟨rfl, rfl, ⟨by decide, by decide⟩, Nat.le_refl _, Nat.le_refl _⟩) rfl rfl (by simp [Value.category]) rfl dX5_measureBoxes_66 rfl ?_
          refine g_heap (h' := (wUn σ u at' pa mo le hd nt ct sts6 blo bhi bem glo ghi gem rlo rhi rem rom fnd fc prt lim)) un_bk_r ?_
          refine g_aload_n C rfl (q := 1) rfl dX5_measureBoxes_69 rfl ?_
          refine g_get C fc_X5 0 (by decide) wf_RX5_12 (wL_at0 rfl) rfl dX5_measureBoxes_70 rfl ?_
          refine g_iload_n C rfl (q := 2) rfl dX5_measureBoxes_73 rfl ?_
          refine g_iload_n C rfl (q := 4) rfl dX5_measureBoxes_74 rfl ?_
          obtain ⟨q39, hq39, hf⟩ := bd hf
          refine g_heap un_bk_s ?_
          refine g_callV0 (st' := [.ref (u + 1 + 1), .ref (u + (10 + 3 * l3.toNatClampNeg)), .ref (u + 28)]) (as := [.int l1, .int l3]) (st2 := [.int q39, .ref (u + 1 + 1), .ref (u + (10 + 3 * l3.toNatClampNeg)), .ref (u + 28)]) (k := 2) C ⟨wm_RX5_118, wn_X4_rowOf, wv_X4_rowOf, wi_RX4, wk_X4_rowOf, by decide +kernel⟩ rfl (wL_at0 rfl) (c_X4_rowOf (l := kL K) (E := kE K) (σ := (wUn σ u at' pa mo le hd nt ct sts6 blo bhi bem glo ghi gem rlo rhi rem rom fnd fc prt lim)) (a := u + 1) _ hq39) (by rw [hKR]; exact ⟨rfl, rfl, ⟨by decide, by decide⟩, Nat.le_refl _, Nat.le_refl _⟩) rfl rfl (by simp [Value.category]) rfl dX5_measureBoxes_75 rfl ?_
          refine g_heap (h' := (wUn σ u at' pa mo le hd nt ct sts6 blo bhi bem glo ghi gem rlo rhi rem rom fnd fc prt lim)) un_bk_r ?_
          obtain ⟨g40, hf⟩ := gd hf
          obtain ⟨q41, hq41, hf⟩ := bd hf
          refine g_heap (un_cv_gb_s l3.toNatClampNeg (vp_lt g40)) ?_
          refine g_callV0 (st' := []) (as := [.ref (u + (10 + 3 * l3.toNatClampNeg)), .ref (u + 1 + 1), .int q39]) (st2 := []) (k := 3) C ⟨wm_RX5_121, wn_X3_cover, wv_X3_cover, wi_RX3, wk_X3_cover, by decide +kernel⟩ rfl (wL_at0 rfl) (c_X3_cover (l := kL K) (E := kE K) (σ := (wUn σ u at' pa mo le hd nt ct sts6 blo bhi bem glo ghi gem rlo rhi rem rom fnd fc prt lim)) (a := u + 28) (b := u + (10 + 3 * l3.toNatClampNeg)) (c := u + 1 + 1) (z := 5418) (by have := vp_lt g40; omega) (by omega) (by have := vp_lt g40; omega) _ hq41) (by rw [hKR]; exact ⟨rfl, rfl, ⟨by decide, by decide⟩, Nat.le_refl _, Nat.le_refl _⟩) rfl rfl (by simp) rfl dX5_measureBoxes_78 rfl ?_
          refine g_heap (h' := (wUn σ u at' pa mo le hd nt ct sts6 blo bhi bem q41.1 q41.2.1 q41.2.2 rlo rhi rem rom fnd fc prt lim)) (un_cv_gb_r l3.toNatClampNeg (vp_lt g40)) ?_
          refine g_iinc (v := l3 + (1 : Int32)) (lv' := [(3, .int (l3 + (1 : Int32))), (4, .ref (u + 28)), (0, .ref u), (1, .int l1), (2, .int l2)]) (q := 4) C dX5_measureBoxes_81 rfl rfl rfl (by rw [hKN]; decide) rfl ?_
          refine g_goto (pc' := 16) C dX5_measureBoxes_84 (by decide) ?_
          refine g_sub (lv' := [(0, .ref u), (1, .int l1), (2, .int l2), (3, .int (l3 + (1 : Int32)))]) [2, 3, 4, 0] rfl ?_
          exact ih _ _ _ _ _ _ _ _ hf hx
set_option maxHeartbeats 2000000 in
set_option maxRecDepth 20000 in
theorem c_X5_measureBoxes {l : Launch} {E : Ex} {n : Nat} {σ : AH} {u : Nat}  {at' : Nat → Int32} {pa : Nat → Int32} {mo : Nat → Int32} {le : Nat → Int32} {hd : Nat → Int32} {nt : Nat → Int32} {ct : Int32} {sts6 : Nat → Int64} {blo : Nat → Nat → Int32} {bhi : Nat → Nat → Int32} {bem : Nat → Int32} {glo : Nat → Int32} {ghi : Nat → Int32} {gem : Int32} {rlo : Nat → Int32} {rhi : Nat → Int32} {rem : Int32} {rom : Nat → Int32} {fnd : Nat → Int32} {fc : Int32} {prt : Int32} {lim : Int32} {l1 : Int32} {l2 : Int32} {fu : Nat} (res : ((Nat → Int32) × (Nat → Int32) × Int32 × (Nat → Int32) × (Nat → Int32) × Int32)) (hf : f_X5_measureBoxes fu at' blo bhi glo ghi rlo rhi prt l1 l2 = some res) : Con l E yX5_measureBoxes (.code yX5_measureBoxes cX5_measureBoxes 5 none :: TT) ({ frames := 2, cells := 0, slots := 0, locals := 50 } : Room) 0 0 [.ref u, .int l1, .int l2] (wUn σ u at' pa mo le hd nt ct sts6 blo bhi bem glo ghi gem rlo rhi rem rom fnd fc prt lim) n none (wUn σ u at' pa mo le hd nt ct sts6 blo bhi bem res.1 res.2.1 res.2.2.1 res.2.2.2.1 res.2.2.2.2.1 res.2.2.2.2.2 rom fnd fc prt lim) n := by
  refine con_intro (by decide +kernel) (Nat.le_of_ble_eq_true rfl) ?_
  intro K C hKR hKL hKE hKN hKQ
  subst hKL
  subst hKE
  have C : Cx K RX5 "measureBoxes" cX5_measureBoxes none := C
  show G K 0 0 0 [(0, .ref u), (1, .int l1), (2, .int l2)] [] (wUn σ u at' pa mo le hd nt ct sts6 blo bhi bem glo ghi gem rlo rhi rem rom fnd fc prt lim) n
  unfold f_X5_measureBoxes at hf
  refine g_aload_n C rfl (q := 0) rfl dX5_measureBoxes_0 rfl ?_
  refine g_get C fc_X5 3 (by decide) wf_RX5_29 (wL_at0 rfl) rfl dX5_measureBoxes_1 rfl ?_
  obtain ⟨q1, hq1, hf⟩ := bd hf
  refine g_heap un_gb_s ?_
  refine g_callV0 (st' := []) (as := []) (st2 := []) (k := 0) C ⟨wm_RX5_111, wn_X3_clear, wv_X3_clear, wi_RX3, wk_X3_clear, by decide +kernel⟩ rfl (wL_at0 rfl) (c_X3_clear (l := kL K) (E := kE K) (σ := (wUn σ u at' pa mo le hd nt ct sts6 blo bhi bem glo ghi gem rlo rhi rem rom fnd fc prt lim)) (a := u + 28) _ hq1) (by rw [hKR]; exact ⟨rfl, rfl, ⟨by decide, by decide⟩, Nat.le_refl _, Nat.le_refl _⟩) rfl rfl (by simp) rfl dX5_measureBoxes_4 rfl ?_
  refine g_heap (h' := (wUn σ u at' pa mo le hd nt ct sts6 blo bhi bem glo ghi q1 rlo rhi rem rom fnd fc prt lim)) un_gb_r ?_
  refine g_aload_n C rfl (q := 0) rfl dX5_measureBoxes_7 rfl ?_
  refine g_get C fc_X5 4 (by decide) wf_RX5_33 (wL_at0 rfl) rfl dX5_measureBoxes_8 rfl ?_
  obtain ⟨q2, hq2, hf⟩ := bd hf
  refine g_heap un_rb_s ?_
  refine g_callV0 (st' := []) (as := []) (st2 := []) (k := 0) C ⟨wm_RX5_111, wn_X3_clear, wv_X3_clear, wi_RX3, wk_X3_clear, by decide +kernel⟩ rfl (wL_at0 rfl) (c_X3_clear (l := kL K) (E := kE K) (σ := (wUn σ u at' pa mo le hd nt ct sts6 blo bhi bem glo ghi q1 rlo rhi rem rom fnd fc prt lim)) (a := u + 31) _ hq2) (by rw [hKR]; exact ⟨rfl, rfl, ⟨by decide, by decide⟩, Nat.le_refl _, Nat.le_refl _⟩) rfl rfl (by simp) rfl dX5_measureBoxes_11 rfl ?_
  refine g_heap (h' := (wUn σ u at' pa mo le hd nt ct sts6 blo bhi bem glo ghi q1 rlo rhi q2 rom fnd fc prt lim)) un_rb_r ?_
  refine g_iconst (v := 0) C (by decide) dX5_measureBoxes_14 rfl ?_
  refine g_istore_n (i := 3) (lv' := [(3, .int (0 : Int32)), (0, .ref u), (1, .int l1), (2, .int l2)]) C dX5_measureBoxes_15 rfl rfl (by rw [hKN]; decide) rfl ?_
  refine g_sub (lv' := [(0, .ref u), (1, .int l1), (2, .int l2), (3, .int (0 : Int32))]) [1, 2, 3, 0] rfl ?_
  obtain ⟨q42, hq42, hf⟩ := bd hf
  refine g_X5_measureBoxes_16 (l1 := l1) (l2 := l2) (at' := at') (pa := pa) (mo := mo) (le := le) (hd := hd) (nt := nt) (ct := ct) (sts6 := sts6) (blo := blo) (bhi := bhi) (bem := bem) (rom := rom) (fnd := fnd) (fc := fc) (prt := prt) (lim := lim) C hKR hKN _ _ _ _ _ _ _ _ _ hq42 ?_
  obtain rfl := Option.some.inj hf
  exact g_vret C hKQ dX5_measureBoxes_87
def f_X5_writePlan_38  (pa : Nat → Int32) (mo : Nat → Int32) : Nat → Int32 → Int32 → (Nat → Int32) → Option (Nat → Int32)
  | 0, _, _, _ => none
  | fu + 1, l4, l5, fnd => (if l5 < 0 then some fnd else ((f_X4_moveTo mo l4).bind fun q13 => (if inB l5 300 = true then ((f_X4_parentOf pa l4).bind fun q15 => f_X5_writePlan_38 pa mo fu q15 (l5 + (-1 : Int32)) (va_up fnd l5.toNatClampNeg q13)) else none)))
def f_X5_writePlan (fu : Nat) (pa : Nat → Int32) (mo : Nat → Int32) (le : Nat → Int32) (fnd : Nat → Int32) (fc : Int32) (l1 : Int32) (l2 : Int32) : Option (Int32 × (Nat → Int32) × Int32) := ((f_X4_levelOf le l1).bind fun q1 => (if (q1 + (1 : Int32)) ≤ (300 : Int32) then (if inB ((q1 + (1 : Int32)) - (1 : Int32)) 300 = true then ((f_X5_writePlan_38 pa mo fu l1 ((q1 + (1 : Int32)) - (2 : Int32)) (va_up fnd ((q1 + (1 : Int32)) - (1 : Int32)).toNatClampNeg l2)).bind fun q16 => some (q1 + (1 : Int32), q16, q1 + (1 : Int32))) else none) else some ((-2 : Int32), fnd, fc)))
set_option maxHeartbeats 2000000 in
set_option maxRecDepth 20000 in
theorem g_X5_writePlan_38 {K : KX} {n : Nat} {σ : AH} {u : Nat}  {l3 : Int32} {at' : Nat → Int32} {pa : Nat → Int32} {mo : Nat → Int32} {le : Nat → Int32} {hd : Nat → Int32} {nt : Nat → Int32} {ct : Int32} {sts6 : Nat → Int64} {blo : Nat → Nat → Int32} {bhi : Nat → Nat → Int32} {bem : Nat → Int32} {glo : Nat → Int32} {ghi : Nat → Int32} {gem : Int32} {rlo : Nat → Int32} {rhi : Nat → Int32} {rem : Int32} {rom : Nat → Int32} {fc : Int32} {prt : Int32} {lim : Int32} (C : Cx K RX5 "writePlan" cX5_writePlan (some .int)) (hKR : kR K = ({ frames := 1, cells := 0, slots := 0, locals := 21 } : Room)) (hKN : kN K = 6) : ∀ (fu : Nat) (l4 : Int32) (l5 : Int32) (fnd : Nat → Int32) (res : (Nat → Int32)), f_X5_writePlan_38 pa mo fu l4 l5 fnd = some res → G K 0 0 76 [(0, .ref u), (3, .int l3)] [] (wUn σ u at' pa mo le hd nt ct sts6 blo bhi bem glo ghi gem rlo rhi rem rom res fc prt lim) n → G K 0 0 38 [(0, .ref u), (3, .int l3), (4, .int l4), (5, .int l5)] [] (wUn σ u at' pa mo le hd nt ct sts6 blo bhi bem glo ghi gem rlo rhi rem rom fnd fc prt lim) n := by
  intro fu
  induction fu with
  | zero =>
    intro l4 l5 fnd res hf
    exact absurd hf (by simp [f_X5_writePlan_38])
  | succ fu ih =>
    intro l4 l5 fnd res hf hx
    rw [f_X5_writePlan_38] at hf
    refine g_iload C (q := 3) rfl dX5_writePlan_38 rfl ?_
    refine g_if_lt (tgt := 76) C dX5_writePlan_40 (by decide) rfl (fun c12 => ?_) (fun c12 => ?_)
    · replace hf := ift c12 hf
      obtain rfl := Option.some.inj hf
      refine g_sub (lv' := [(0, .ref u), (3, .int l3)]) [0, 1] rfl ?_
      exact hx
    · replace hf := iff' c12 hf
      refine g_aload_n C rfl (q := 0) rfl dX5_writePlan_43 rfl ?_
      refine g_get C fc_X5 6 (by decide) wf_RX5_40 (wL_at0 rfl) rfl dX5_writePlan_44 rfl ?_
      refine g_iload C (q := 3) rfl dX5_writePlan_47 rfl ?_
      refine g_aload_n C rfl (q := 0) rfl dX5_writePlan_49 rfl ?_
      refine g_get C fc_X5 0 (by decide) wf_RX5_12 (wL_at0 rfl) rfl dX5_writePlan_50 rfl ?_
      refine g_iload C (q := 2) rfl dX5_writePlan_53 rfl ?_
      obtain ⟨q13, hq13, hf⟩ := bd hf
      refine g_heap un_bk_s ?_
      refine g_callV0 (st' := [.int l5, .ref (u + 35)]) (as := [.int l4]) (st2 := [.int q13, .int l5, .ref (u + 35)]) (k := 1) C ⟨wm_RX5_105, wn_X4_moveTo, wv_X4_moveTo, wi_RX4, wk_X4_moveTo, by decide +kernel⟩ rfl (wL_at0 rfl) (c_X4_moveTo (l := kL K) (E := kE K) (σ := (wUn σ u at' pa mo le hd nt ct sts6 blo bhi bem glo ghi gem rlo rhi rem rom fnd fc prt lim)) (a := u + 1) _ hq13) (by rw [hKR]; exact ⟨rfl, rfl, ⟨by decide, by decide⟩, Nat.le_refl _, Nat.le_refl _⟩) rfl rfl (by simp [Value.category]) rfl dX5_writePlan_55 rfl ?_
      refine g_heap (h' := (wUn σ u at' pa mo le hd nt ct sts6 blo bhi bem glo ghi gem rlo rhi rem rom fnd fc prt lim)) un_bk_r ?_
      obtain ⟨g14, hf⟩ := gd hf
      refine g_iast (h' := (wUn σ u at' pa mo le hd nt ct sts6 blo bhi bem glo ghi gem rlo rhi rem rom (va_up fnd l5.toNatClampNeg q13) fc prt lim)) C (wL_at 35 rfl) (inB_in g14) (wL_up 35 (Nat.le_of_ble_eq_true rfl) rfl) dX5_writePlan_58 rfl ?_
      refine g_aload_n C rfl (q := 0) rfl dX5_writePlan_59 rfl ?_
      refine g_get C fc_X5 0 (by decide) wf_RX5_12 (wL_at0 rfl) rfl dX5_writePlan_60 rfl ?_
      refine g_iload C (q := 2) rfl dX5_writePlan_63 rfl ?_
      obtain ⟨q15, hq15, hf⟩ := bd hf
      refine g_heap un_bk_s ?_
      refine g_callV0 (st' := []) (as := [.int l4]) (st2 := [.int q15]) (k := 1) C ⟨wm_RX5_108, wn_X4_parentOf, wv_X4_parentOf, wi_RX4, wk_X4_parentOf, by decide +kernel⟩ rfl (wL_at0 rfl) (c_X4_parentOf (l := kL K) (E := kE K) (σ := (wUn σ u at' pa mo le hd nt ct sts6 blo bhi bem glo ghi gem rlo rhi rem rom (va_up fnd l5.toNatClampNeg q13) fc prt lim)) (a := u + 1) _ hq15) (by rw [hKR]; exact ⟨rfl, rfl, ⟨by decide, by decide⟩, Nat.le_refl _, Nat.le_refl _⟩) rfl rfl (by simp) rfl dX5_writePlan_65 rfl ?_
      refine g_heap (h' := (wUn σ u at' pa mo le hd nt ct sts6 blo bhi bem glo ghi gem rlo rhi rem rom (va_up fnd l5.toNatClampNeg q13) fc prt lim)) un_bk_r ?_
      refine g_istore (i := 4) (lv' := [(4, .int q15), (0, .ref u), (3, .int l3), (5, .int l5)]) C dX5_writePlan_68 rfl (by rw [hKN]; decide) rfl ?_
      refine g_iinc (v := l5 + (-1 : Int32)) (lv' := [(5, .int (l5 + (-1 : Int32))), (4, .int q15), (0, .ref u), (3, .int l3)]) (q := 3) C dX5_writePlan_70 rfl rfl rfl (by rw [hKN]; decide) rfl ?_
      refine g_goto (pc' := 38) C dX5_writePlan_73 (by decide) ?_
      refine g_sub (lv' := [(0, .ref u), (3, .int l3), (4, .int q15), (5, .int (l5 + (-1 : Int32)))]) [2, 3, 1, 0] rfl ?_
      exact ih _ _ _ _ hf hx
set_option maxHeartbeats 2000000 in
set_option maxRecDepth 20000 in
theorem c_X5_writePlan {l : Launch} {E : Ex} {n : Nat} {σ : AH} {u : Nat}  {at' : Nat → Int32} {pa : Nat → Int32} {mo : Nat → Int32} {le : Nat → Int32} {hd : Nat → Int32} {nt : Nat → Int32} {ct : Int32} {sts6 : Nat → Int64} {blo : Nat → Nat → Int32} {bhi : Nat → Nat → Int32} {bem : Nat → Int32} {glo : Nat → Int32} {ghi : Nat → Int32} {gem : Int32} {rlo : Nat → Int32} {rhi : Nat → Int32} {rem : Int32} {rom : Nat → Int32} {fnd : Nat → Int32} {fc : Int32} {prt : Int32} {lim : Int32} {l1 : Int32} {l2 : Int32} {fu : Nat} (res : (Int32 × (Nat → Int32) × Int32)) (hf : f_X5_writePlan fu pa mo le fnd fc l1 l2 = some res) : Con l E yX5_writePlan (.code yX5_writePlan cX5_writePlan 6 (some .int) :: TT) ({ frames := 1, cells := 0, slots := 0, locals := 21 } : Room) 0 0 [.ref u, .int l1, .int l2] (wUn σ u at' pa mo le hd nt ct sts6 blo bhi bem glo ghi gem rlo rhi rem rom fnd fc prt lim) n (some (.int res.1)) (wUn σ u at' pa mo le hd nt ct sts6 blo bhi bem glo ghi gem rlo rhi rem rom res.2.1 res.2.2 prt lim) n := by
  refine con_intro (by decide +kernel) (Nat.le_of_ble_eq_true rfl) ?_
  intro K C hKR hKL hKE hKN hKQ
  subst hKL
  subst hKE
  have C : Cx K RX5 "writePlan" cX5_writePlan (some .int) := C
  show G K 0 0 0 [(0, .ref u), (1, .int l1), (2, .int l2)] [] (wUn σ u at' pa mo le hd nt ct sts6 blo bhi bem glo ghi gem rlo rhi rem rom fnd fc prt lim) n
  unfold f_X5_writePlan at hf
  refine g_aload_n C rfl (q := 0) rfl dX5_writePlan_0 rfl ?_
  refine g_get C fc_X5 0 (by decide) wf_RX5_12 (wL_at0 rfl) rfl dX5_writePlan_1 rfl ?_
  refine g_iload_n C rfl (q := 1) rfl dX5_writePlan_4 rfl ?_
  obtain ⟨q1, hq1, hf⟩ := bd hf
  refine g_heap un_bk_s ?_
  refine g_callV0 (st' := []) (as := [.int l1]) (st2 := [.int q1]) (k := 1) C ⟨wm_RX5_102, wn_X4_levelOf, wv_X4_levelOf, wi_RX4, wk_X4_levelOf, by decide +kernel⟩ rfl (wL_at0 rfl) (c_X4_levelOf (l := kL K) (E := kE K) (σ := (wUn σ u at' pa mo le hd nt ct sts6 blo bhi bem glo ghi gem rlo rhi rem rom fnd fc prt lim)) (a := u + 1) _ hq1) (by rw [hKR]; exact ⟨rfl, rfl, ⟨by decide, by decide⟩, Nat.le_refl _, Nat.le_refl _⟩) rfl rfl (by simp) rfl dX5_writePlan_5 rfl ?_
  refine g_heap (h' := (wUn σ u at' pa mo le hd nt ct sts6 blo bhi bem glo ghi gem rlo rhi rem rom fnd fc prt lim)) un_bk_r ?_
  refine g_iconst (v := 1) C (by decide) dX5_writePlan_8 rfl ?_
  refine g_iadd C dX5_writePlan_9 rfl ?_
  refine g_istore_n (i := 3) (lv' := [(3, .int (q1 + (1 : Int32))), (0, .ref u), (1, .int l1), (2, .int l2)]) C dX5_writePlan_10 rfl rfl (by rw [hKN]; decide) rfl ?_
  refine g_iload_n C rfl (q := 0) rfl dX5_writePlan_11 rfl ?_
  refine g_sipush (v := 300) C (by decide) dX5_writePlan_12 rfl ?_
  refine g_icmp_le (tgt := 21) C dX5_writePlan_15 (by decide) rfl (fun c2 => ?_) (fun c2 => ?_)
  · replace hf := ift c2 hf
    refine g_aload_n C rfl (q := 1) rfl dX5_writePlan_21 rfl ?_
    refine g_get C fc_X5 6 (by decide) wf_RX5_40 (wL_at0 rfl) rfl dX5_writePlan_22 rfl ?_
    refine g_iload_n C rfl (q := 0) rfl dX5_writePlan_25 rfl ?_
    refine g_iconst (v := 1) C (by decide) dX5_writePlan_26 rfl ?_
    refine g_isub C dX5_writePlan_27 rfl ?_
    refine g_iload_n C rfl (q := 3) rfl dX5_writePlan_28 rfl ?_
    obtain ⟨g3, hf⟩ := gd hf
    refine g_iast (h' := (wUn σ u at' pa mo le hd nt ct sts6 blo bhi bem glo ghi gem rlo rhi rem rom (va_up fnd ((q1 + (1 : Int32)) - (1 : Int32)).toNatClampNeg l2) fc prt lim)) C (wL_at 35 rfl) (inB_in g3) (wL_up 35 (Nat.le_of_ble_eq_true rfl) rfl) dX5_writePlan_29 rfl ?_
    refine g_iload_n C rfl (q := 2) rfl dX5_writePlan_30 rfl ?_
    refine g_istore (i := 4) (lv' := [(4, .int l1), (3, .int (q1 + (1 : Int32))), (0, .ref u), (1, .int l1), (2, .int l2)]) C dX5_writePlan_31 rfl (by rw [hKN]; decide) rfl ?_
    refine g_iload_n C rfl (q := 1) rfl dX5_writePlan_33 rfl ?_
    refine g_iconst (v := 2) C (by decide) dX5_writePlan_34 rfl ?_
    refine g_isub C dX5_writePlan_35 rfl ?_
    refine g_istore (i := 5) (lv' := [(5, .int ((q1 + (1 : Int32)) - (2 : Int32))), (4, .int l1), (3, .int (q1 + (1 : Int32))), (0, .ref u), (1, .int l1), (2, .int l2)]) C dX5_writePlan_36 rfl (by rw [hKN]; decide) rfl ?_
    refine g_sub (lv' := [(0, .ref u), (3, .int (q1 + (1 : Int32))), (4, .int l1), (5, .int ((q1 + (1 : Int32)) - (2 : Int32)))]) [3, 2, 1, 0] rfl ?_
    obtain ⟨q16, hq16, hf⟩ := bd hf
    refine g_X5_writePlan_38 (l3 := q1 + (1 : Int32)) (at' := at') (pa := pa) (mo := mo) (le := le) (hd := hd) (nt := nt) (ct := ct) (sts6 := sts6) (blo := blo) (bhi := bhi) (bem := bem) (glo := glo) (ghi := ghi) (gem := gem) (rlo := rlo) (rhi := rhi) (rem := rem) (rom := rom) (fc := fc) (prt := prt) (lim := lim) C hKR hKN _ _ _ _ _ hq16 ?_
    refine g_aload_n C rfl (q := 0) rfl dX5_writePlan_76 rfl ?_
    refine g_iload_n C rfl (q := 1) rfl dX5_writePlan_77 rfl ?_
    refine g_put (h' := (wUn σ u at' pa mo le hd nt ct sts6 blo bhi bem glo ghi gem rlo rhi rem rom q16 (q1 + (1 : Int32)) prt lim)) C fc_X5 7 (by decide) wf_RX5_47 rfl rfl rfl (Nat.le_of_ble_eq_true rfl) (wL_at0 rfl) (wL_up0 (Nat.le_of_ble_eq_true rfl) rfl) dX5_writePlan_78 rfl ?_
    refine g_iload_n C rfl (q := 1) rfl dX5_writePlan_81 rfl ?_
    obtain rfl := Option.some.inj hf
    exact g_iret C hKQ dX5_writePlan_82
  · replace hf := iff' c2 hf
    refine g_bipush (v := (-2)) C (by decide) dX5_writePlan_18 rfl ?_
    obtain rfl := Option.some.inj hf
    exact g_iret C hKQ dX5_writePlan_20
def f_X5_tryRuns_16  (l1 : Int32) (l2 : Int32) (l3 : Int32) (l4 : Int32) (l5 : Int32) (glo : Nat → Int32) (ghi : Nat → Int32) (rlo : Nat → Int32) (rhi : Nat → Int32) (fnd : Nat → Int32) (fc : Int32) (lim : Int32) : Nat → Int32 → (Nat → Int32) → (Nat → Int32) → (Nat → Int32) → (Nat → Int32) → (Nat → Int32) → (Nat → Int32) → Int32 → Option ((Int32 × (Nat → Int32) × (Nat → Int32) × (Nat → Int32) × (Nat → Int32) × (Nat → Int32) × (Nat → Int32) × Int32 × (Nat → Int32) × Int32) ⊕ ((Nat → Int32) × (Nat → Int32) × (Nat → Int32) × (Nat → Int32) × (Nat → Int32) × (Nat → Int32) × Int32))
  | 0, _, _, _, _, _, _, _, _ => none
  | fu + 1, l6, at', pa, mo, le, hd, nt, ct => (if l4 < l6 then some (.inr (at', pa, mo, le, hd, nt, ct)) else ((f_X3_isApart fu glo ghi rlo rhi l5 (if (l3 - l3 / (2 : Int32) * (2 : Int32)) = 0 then l6 else (-l6))).bind fun q27 => (if q27 = 0 then ((f_X4_draft fu at' ct l1 l2 l5 (if (l3 - l3 / (2 : Int32) * (2 : Int32)) = 0 then l6 else (-l6))).bind fun q29 => ((f_X4_knowsDraft fu q29 hd nt ct).bind fun q30 => (if q30 = 0 then ((f_X4_size ct).bind fun q32 => (if q32 < lim then ((f_X4_add fu q29 pa mo le hd nt ct l1 ((((1000 : Int32) * l2) + ((100 : Int32) * l3)) + l6)).bind fun q34 => f_X5_tryRuns_16 l1 l2 l3 l4 l5 glo ghi rlo rhi fnd fc lim fu (l6 + (1 : Int32)) q29 q34.1 q34.2.1 q34.2.2.1 q34.2.2.2.1 q34.2.2.2.2.1 q34.2.2.2.2.2) else some (.inl ((-2 : Int32), q29, pa, mo, le, hd, nt, ct, fnd, fc)))) else f_X5_tryRuns_16 l1 l2 l3 l4 l5 glo ghi rlo rhi fnd fc lim fu (l6 + (1 : Int32)) q29 pa mo le hd nt ct))) else ((f_X5_writePlan fu pa mo le fnd fc l1 ((((1000 : Int32) * l2) + ((100 : Int32) * l3)) + l6)).bind fun q35 => some (.inl (q35.1, at', pa, mo, le, hd, nt, ct, q35.2.1, q35.2.2))))))
def f_X5_tryRuns (fu : Nat) (at' : Nat → Int32) (pa : Nat → Int32) (mo : Nat → Int32) (le : Nat → Int32) (hd : Nat → Int32) (nt : Nat → Int32) (ct : Int32) (glo : Nat → Int32) (ghi : Nat → Int32) (rlo : Nat → Int32) (rhi : Nat → Int32) (rom : Nat → Int32) (fnd : Nat → Int32) (fc : Int32) (prt : Int32) (lim : Int32) (l1 : Int32) (l2 : Int32) (l3 : Int32) : Option (Int32 × (Nat → Int32) × (Nat → Int32) × (Nat → Int32) × (Nat → Int32) × (Nat → Int32) × (Nat → Int32) × Int32 × (Nat → Int32) × Int32) := ((f_X5_roomOfGroup fu rom prt l2 l3).bind fun q1 => (sumB (f_X5_tryRuns_16 l1 l2 l3 q1 (l3 / (2 : Int32)) glo ghi rlo rhi fnd fc lim fu (1 : Int32) at' pa mo le hd nt ct) id fun t39 => some ((0 : Int32), t39.1, t39.2.1, t39.2.2.1, t39.2.2.2.1, t39.2.2.2.2.1, t39.2.2.2.2.2.1, t39.2.2.2.2.2.2, fnd, fc)))
set_option maxHeartbeats 2000000 in
set_option maxRecDepth 20000 in
theorem g_X5_tryRuns_16 {K : KX} {n : Nat} {σ : AH} {u : Nat}  {l1 : Int32} {l2 : Int32} {l3 : Int32} {l4 : Int32} {l5 : Int32} {sts6 : Nat → Int64} {blo : Nat → Nat → Int32} {bhi : Nat → Nat → Int32} {bem : Nat → Int32} {glo : Nat → Int32} {ghi : Nat → Int32} {gem : Int32} {rlo : Nat → Int32} {rhi : Nat → Int32} {rem : Int32} {rom : Nat → Int32} {fnd : Nat → Int32} {fc : Int32} {prt : Int32} {lim : Int32} (C : Cx K RX5 "tryRuns" cX5_tryRuns (some .int)) (hKR : kR K = ({ frames := 3, cells := 0, slots := 0, locals := 145 } : Room)) (hKN : kN K = 9) : ∀ (fu : Nat) (l6 : Int32) (at' : Nat → Int32) (pa : Nat → Int32) (mo : Nat → Int32) (le : Nat → Int32) (hd : Nat → Int32) (nt : Nat → Int32) (ct : Int32) (res : ((Int32 × (Nat → Int32) × (Nat → Int32) × (Nat → Int32) × (Nat → Int32) × (Nat → Int32) × (Nat → Int32) × Int32 × (Nat → Int32) × Int32) ⊕ ((Nat → Int32) × (Nat → Int32) × (Nat → Int32) × (Nat → Int32) × (Nat → Int32) × (Nat → Int32) × Int32))), f_X5_tryRuns_16 l1 l2 l3 l4 l5 glo ghi rlo rhi fnd fc lim fu l6 at' pa mo le hd nt ct = some res → (∀ t, res = .inl t → KQ K 0 0 (some (.int t.1)) (wUn σ u t.2.1 t.2.2.1 t.2.2.2.1 t.2.2.2.2.1 t.2.2.2.2.2.1 t.2.2.2.2.2.2.1 t.2.2.2.2.2.2.2.1 sts6 blo bhi bem glo ghi gem rlo rhi rem rom t.2.2.2.2.2.2.2.2.1 t.2.2.2.2.2.2.2.2.2 prt lim) n) → (∀ t, res = .inr t → G K 0 0 136 [] [] (wUn σ u t.1 t.2.1 t.2.2.1 t.2.2.2.1 t.2.2.2.2.1 t.2.2.2.2.2.1 t.2.2.2.2.2.2 sts6 blo bhi bem glo ghi gem rlo rhi rem rom fnd fc prt lim) n) → G K 0 0 16 [(0, .ref u), (1, .int l1), (2, .int l2), (3, .int l3), (4, .int l4), (5, .int l5), (6, .int l6)] [] (wUn σ u at' pa mo le hd nt ct sts6 blo bhi bem glo ghi gem rlo rhi rem rom fnd fc prt lim) n := by
  intro fu
  induction fu with
  | zero =>
    intro l6 at' pa mo le hd nt ct res hf
    exact absurd hf (by simp [f_X5_tryRuns_16])
  | succ fu ih =>
    intro l6 at' pa mo le hd nt ct res hf hret hx
    rw [f_X5_tryRuns_16] at hf
    refine g_iload C (q := 6) rfl dX5_tryRuns_16 rfl ?_
    refine g_iload C (q := 4) rfl dX5_tryRuns_18 rfl ?_
    refine g_icmp_gt (tgt := 136) C dX5_tryRuns_20 (by decide) rfl (fun c26 => ?_) (fun c26 => ?_)
    · replace hf := ift c26 hf
      obtain rfl := Option.some.inj hf
      refine g_sub (lv' := []) [] rfl ?_
      exact hx (at', pa, mo, le, hd, nt, ct) rfl
    · replace hf := iff' c26 hf
      refine g_iload_n C rfl (q := 3) rfl dX5_tryRuns_23 rfl ?_
      refine g_iconst (v := 2) C (by decide) dX5_tryRuns_24 rfl ?_
      refine g_irem C (by decide) dX5_tryRuns_25 rfl ?_
      have j36 : G K 0 0 37 [(0, .ref u), (1, .int l1), (2, .int l2), (3, .int l3), (4, .int l4), (5, .int l5), (6, .int l6)] [.int (if (l3 - l3 / (2 : Int32) * (2 : Int32)) = 0 then l6 else (-l6))] (wUn σ u at' pa mo le hd nt ct sts6 blo bhi bem glo ghi gem rlo rhi rem rom fnd fc prt lim) n := by
        refine g_istore (i := 7) (lv' := [(7, .int (if (l3 - l3 / (2 : Int32) * (2 : Int32)) = 0 then l6 else (-l6))), (0, .ref u), (1, .int l1), (2, .int l2), (3, .int l3), (4, .int l4), (5, .int l5), (6, .int l6)]) C dX5_tryRuns_37 rfl (by rw [hKN]; decide) rfl ?_
        refine g_sipush (v := 1000) C (by decide) dX5_tryRuns_39 rfl ?_
        refine g_iload_n C rfl (q := 3) rfl dX5_tryRuns_42 rfl ?_
        refine g_imul C dX5_tryRuns_43 rfl ?_
        refine g_bipush (v := 100) C (by decide) dX5_tryRuns_44 rfl ?_
        refine g_iload_n C rfl (q := 4) rfl dX5_tryRuns_46 rfl ?_
        refine g_imul C dX5_tryRuns_47 rfl ?_
        refine g_iadd C dX5_tryRuns_48 rfl ?_
        refine g_iload C (q := 7) rfl dX5_tryRuns_49 rfl ?_
        refine g_iadd C dX5_tryRuns_51 rfl ?_
        refine g_istore (i := 8) (lv' := [(8, .int ((((1000 : Int32) * l2) + ((100 : Int32) * l3)) + l6)), (7, .int (if (l3 - l3 / (2 : Int32) * (2 : Int32)) = 0 then l6 else (-l6))), (0, .ref u), (1, .int l1), (2, .int l2), (3, .int l3), (4, .int l4), (5, .int l5), (6, .int l6)]) C dX5_tryRuns_52 rfl (by rw [hKN]; decide) rfl ?_
        refine g_aload_n C rfl (q := 2) rfl dX5_tryRuns_54 rfl ?_
        refine g_get C fc_X5 3 (by decide) wf_RX5_29 (wL_at0 rfl) rfl dX5_tryRuns_55 rfl ?_
        refine g_aload_n C rfl (q := 2) rfl dX5_tryRuns_58 rfl ?_
        refine g_get C fc_X5 4 (by decide) wf_RX5_33 (wL_at0 rfl) rfl dX5_tryRuns_59 rfl ?_
        refine g_iload C (q := 7) rfl dX5_tryRuns_62 rfl ?_
        refine g_iload C (q := 1) rfl dX5_tryRuns_64 rfl ?_
        obtain ⟨q27, hq27, hf⟩ := bd hf
        refine g_heap un_ap_s ?_
        refine g_callV0 (st' := []) (as := [.ref (u + 31), .int l5, .int (if (l3 - l3 / (2 : Int32) * (2 : Int32)) = 0 then l6 else (-l6))]) (st2 := [.int q27]) (k := 3) C ⟨wm_RX5_84, wn_X3_isApart, wv_X3_isApart, wi_RX3, wk_X3_isApart, by decide +kernel⟩ rfl (wL_at0 rfl) (c_X3_isApart (l := kL K) (E := kE K) (σ := (wUn σ u at' pa mo le hd nt ct sts6 blo bhi bem glo ghi gem rlo rhi rem rom fnd fc prt lim)) (a := u + 28) (b := u + 31) (by omega) _ hq27) (by rw [hKR]; exact ⟨rfl, rfl, ⟨by decide, by decide⟩, Nat.le_refl _, Nat.le_refl _⟩) rfl rfl (by simp) rfl dX5_tryRuns_66 rfl ?_
        refine g_heap (h' := (wUn σ u at' pa mo le hd nt ct sts6 blo bhi bem glo ghi gem rlo rhi rem rom fnd fc prt lim)) un_ap_s.symm ?_
        refine g_if_eq (tgt := 80) C dX5_tryRuns_69 (by decide) rfl (fun c28 => ?_) (fun c28 => ?_)
        · replace hf := ift c28 hf
          refine g_aload_n C rfl (q := 2) rfl dX5_tryRuns_80 rfl ?_
          refine g_get C fc_X5 0 (by decide) wf_RX5_12 (wL_at0 rfl) rfl dX5_tryRuns_81 rfl ?_
          refine g_iload_n C rfl (q := 3) rfl dX5_tryRuns_84 rfl ?_
          refine g_iload_n C rfl (q := 4) rfl dX5_tryRuns_85 rfl ?_
          refine g_iload C (q := 7) rfl dX5_tryRuns_86 rfl ?_
          refine g_iload C (q := 1) rfl dX5_tryRuns_88 rfl ?_
          obtain ⟨q29, hq29, hf⟩ := bd hf
          refine g_heap un_bk_s ?_
          refine g_callV0 (st' := []) (as := [.int l1, .int l2, .int l5, .int (if (l3 - l3 / (2 : Int32) * (2 : Int32)) = 0 then l6 else (-l6))]) (st2 := []) (k := 4) C ⟨wm_RX5_91, wn_X4_draft, wv_X4_draft, wi_RX4, wk_X4_draft, by decide +kernel⟩ rfl (wL_at0 rfl) (c_X4_draft (l := kL K) (E := kE K) (σ := (wUn σ u at' pa mo le hd nt ct sts6 blo bhi bem glo ghi gem rlo rhi rem rom fnd fc prt lim)) (a := u + 1) _ hq29) (by rw [hKR]; exact ⟨rfl, rfl, ⟨by decide, by decide⟩, Nat.le_refl _, Nat.le_refl _⟩) rfl rfl (by simp) rfl dX5_tryRuns_90 rfl ?_
          refine g_heap (h' := (wUn σ u q29 pa mo le hd nt ct sts6 blo bhi bem glo ghi gem rlo rhi rem rom fnd fc prt lim)) un_bk_r ?_
          refine g_aload_n C rfl (q := 2) rfl dX5_tryRuns_93 rfl ?_
          refine g_get C fc_X5 0 (by decide) wf_RX5_12 (wL_at0 rfl) rfl dX5_tryRuns_94 rfl ?_
          obtain ⟨q30, hq30, hf⟩ := bd hf
          refine g_heap un_bk_s ?_
          refine g_callV0 (st' := []) (as := []) (st2 := [.int q30]) (k := 0) C ⟨wm_RX5_95, wn_X4_knowsDraft, wv_X4_knowsDraft, wi_RX4, wk_X4_knowsDraft, by decide +kernel⟩ rfl (wL_at0 rfl) (c_X4_knowsDraft (l := kL K) (E := kE K) (σ := (wUn σ u q29 pa mo le hd nt ct sts6 blo bhi bem glo ghi gem rlo rhi rem rom fnd fc prt lim)) (a := u + 1) _ hq30) (by rw [hKR]; exact ⟨rfl, rfl, ⟨by decide, by decide⟩, Nat.le_refl _, Nat.le_refl _⟩) rfl rfl (by simp) rfl dX5_tryRuns_97 rfl ?_
          refine g_heap (h' := (wUn σ u q29 pa mo le hd nt ct sts6 blo bhi bem glo ghi gem rlo rhi rem rom fnd fc prt lim)) un_bk_r ?_
          refine g_if_ne (tgt := 130) C dX5_tryRuns_100 (by decide) rfl (fun c31 => ?_) (fun c31 => ?_)
          · replace hf := iff' c31 hf
            refine g_iinc (v := l6 + (1 : Int32)) (lv' := [(6, .int (l6 + (1 : Int32))), (8, .int ((((1000 : Int32) * l2) + ((100 : Int32) * l3)) + l6)), (7, .int (if (l3 - l3 / (2 : Int32) * (2 : Int32)) = 0 then l6 else (-l6))), (0, .ref u), (1, .int l1), (2, .int l2), (3, .int l3), (4, .int l4), (5, .int l5)]) (q := 8) C dX5_tryRuns_130 rfl rfl rfl (by rw [hKN]; decide) rfl ?_
            refine g_goto (pc' := 16) C dX5_tryRuns_133 (by decide) ?_
            refine g_sub (lv' := [(0, .ref u), (1, .int l1), (2, .int l2), (3, .int l3), (4, .int l4), (5, .int l5), (6, .int (l6 + (1 : Int32)))]) [3, 4, 5, 6, 7, 8, 0] rfl ?_
            exact ih _ _ _ _ _ _ _ _ _ hf hret hx
          · replace hf := ift c31 hf
            refine g_aload_n C rfl (q := 2) rfl dX5_tryRuns_103 rfl ?_
            refine g_get C fc_X5 0 (by decide) wf_RX5_12 (wL_at0 rfl) rfl dX5_tryRuns_104 rfl ?_
            obtain ⟨q32, hq32, hf⟩ := bd hf
            refine g_heap un_bk_s ?_
            refine g_callV0 (st' := []) (as := []) (st2 := [.int q32]) (k := 0) C ⟨wm_RX5_43, wn_X4_size, wv_X4_size, wi_RX4, wk_X4_size, by decide +kernel⟩ rfl (wL_at0 rfl) (c_X4_size (l := kL K) (E := kE K) (σ := (wUn σ u q29 pa mo le hd nt ct sts6 blo bhi bem glo ghi gem rlo rhi rem rom fnd fc prt lim)) (a := u + 1) _ hq32) (by rw [hKR]; exact ⟨rfl, rfl, ⟨by decide, by decide⟩, Nat.le_refl _, Nat.le_refl _⟩) rfl rfl (by simp) rfl dX5_tryRuns_107 rfl ?_
            refine g_heap (h' := (wUn σ u q29 pa mo le hd nt ct sts6 blo bhi bem glo ghi gem rlo rhi rem rom fnd fc prt lim)) un_bk_r ?_
            refine g_aload_n C rfl (q := 2) rfl dX5_tryRuns_110 rfl ?_
            refine g_get C fc_X5 9 (by decide) wf_RX5_54 (wL_at0 rfl) rfl dX5_tryRuns_111 rfl ?_
            refine g_icmp_lt (tgt := 120) C dX5_tryRuns_114 (by decide) rfl (fun c33 => ?_) (fun c33 => ?_)
            · replace hf := ift c33 hf
              refine g_aload_n C rfl (q := 2) rfl dX5_tryRuns_120 rfl ?_
              refine g_get C fc_X5 0 (by decide) wf_RX5_12 (wL_at0 rfl) rfl dX5_tryRuns_121 rfl ?_
              refine g_iload_n C rfl (q := 3) rfl dX5_tryRuns_124 rfl ?_
              refine g_iload C (q := 0) rfl dX5_tryRuns_125 rfl ?_
              obtain ⟨q34, hq34, hf⟩ := bd hf
              refine g_heap un_bk_s ?_
              refine g_callV0 (st' := []) (as := [.int l1, .int ((((1000 : Int32) * l2) + ((100 : Int32) * l3)) + l6)]) (st2 := []) (k := 2) C ⟨wm_RX5_99, wn_X4_add, wv_X4_add, wi_RX4, wk_X4_add, by decide +kernel⟩ rfl (wL_at0 rfl) (c_X4_add (l := kL K) (E := kE K) (σ := (wUn σ u q29 pa mo le hd nt ct sts6 blo bhi bem glo ghi gem rlo rhi rem rom fnd fc prt lim)) (a := u + 1) _ hq34) (by rw [hKR]; exact ⟨rfl, rfl, ⟨by decide, by decide⟩, Nat.le_refl _, Nat.le_refl _⟩) rfl rfl (by simp) rfl dX5_tryRuns_127 rfl ?_
              refine g_heap (h' := (wUn σ u q29 q34.1 q34.2.1 q34.2.2.1 q34.2.2.2.1 q34.2.2.2.2.1 q34.2.2.2.2.2 sts6 blo bhi bem glo ghi gem rlo rhi rem rom fnd fc prt lim)) un_bk_r ?_
              refine g_iinc (v := l6 + (1 : Int32)) (lv' := [(6, .int (l6 + (1 : Int32))), (8, .int ((((1000 : Int32) * l2) + ((100 : Int32) * l3)) + l6)), (7, .int (if (l3 - l3 / (2 : Int32) * (2 : Int32)) = 0 then l6 else (-l6))), (0, .ref u), (1, .int l1), (2, .int l2), (3, .int l3), (4, .int l4), (5, .int l5)]) (q := 8) C dX5_tryRuns_130 rfl rfl rfl (by rw [hKN]; decide) rfl ?_
              refine g_goto (pc' := 16) C dX5_tryRuns_133 (by decide) ?_
              refine g_sub (lv' := [(0, .ref u), (1, .int l1), (2, .int l2), (3, .int l3), (4, .int l4), (5, .int l5), (6, .int (l6 + (1 : Int32)))]) [3, 4, 5, 6, 7, 8, 0] rfl ?_
              exact ih _ _ _ _ _ _ _ _ _ hf hret hx
            · replace hf := iff' c33 hf
              refine g_bipush (v := (-2)) C (by decide) dX5_tryRuns_117 rfl ?_
              obtain rfl := Option.some.inj hf
              exact g_iret C (hret ((-2 : Int32), q29, pa, mo, le, hd, nt, ct, fnd, fc) rfl) dX5_tryRuns_119
        · replace hf := iff' c28 hf
          refine g_aload_n C rfl (q := 2) rfl dX5_tryRuns_72 rfl ?_
          refine g_iload_n C rfl (q := 3) rfl dX5_tryRuns_73 rfl ?_
          refine g_iload C (q := 0) rfl dX5_tryRuns_74 rfl ?_
          obtain ⟨q35, hq35, hf⟩ := bd hf
          refine g_callV0 (st' := []) (as := [.int l1, .int ((((1000 : Int32) * l2) + ((100 : Int32) * l3)) + l6)]) (st2 := [.int q35.1]) (k := 2) C ⟨wm_RX5_88, wn_X5_writePlan, wv_X5_writePlan, wi_RX5, wk_X5_writePlan, by decide +kernel⟩ rfl (wL_at0 rfl) (c_X5_writePlan (l := kL K) (E := kE K)  _ hq35) (by rw [hKR]; exact ⟨rfl, rfl, ⟨by decide, by decide⟩, Nat.le_refl _, Nat.le_refl _⟩) rfl rfl (by simp) rfl dX5_tryRuns_76 rfl ?_
          obtain rfl := Option.some.inj hf
          exact g_iret C (hret (q35.1, at', pa, mo, le, hd, nt, ct, q35.2.1, q35.2.2) rfl) dX5_tryRuns_79
      refine g_if_ne (tgt := 34) C dX5_tryRuns_26 (by decide) rfl (fun c37 => ?_) (fun c37 => ?_)
      · refine g_iload C (q := 6) rfl dX5_tryRuns_34 rfl ?_
        refine g_ineg C dX5_tryRuns_36 rfl ?_
        exact g_topI (by rw [if_neg c37]) j36
      · refine g_iload C (q := 6) rfl dX5_tryRuns_29 rfl ?_
        refine g_goto (pc' := 37) C dX5_tryRuns_31 (by decide) ?_
        exact g_topI (by rw [if_pos c37]) j36
set_option maxHeartbeats 2000000 in
set_option maxRecDepth 20000 in
theorem c_X5_tryRuns {l : Launch} {E : Ex} {n : Nat} {σ : AH} {u : Nat}  {at' : Nat → Int32} {pa : Nat → Int32} {mo : Nat → Int32} {le : Nat → Int32} {hd : Nat → Int32} {nt : Nat → Int32} {ct : Int32} {sts6 : Nat → Int64} {blo : Nat → Nat → Int32} {bhi : Nat → Nat → Int32} {bem : Nat → Int32} {glo : Nat → Int32} {ghi : Nat → Int32} {gem : Int32} {rlo : Nat → Int32} {rhi : Nat → Int32} {rem : Int32} {rom : Nat → Int32} {fnd : Nat → Int32} {fc : Int32} {prt : Int32} {lim : Int32} {l1 : Int32} {l2 : Int32} {l3 : Int32} {fu : Nat} (res : (Int32 × (Nat → Int32) × (Nat → Int32) × (Nat → Int32) × (Nat → Int32) × (Nat → Int32) × (Nat → Int32) × Int32 × (Nat → Int32) × Int32)) (hf : f_X5_tryRuns fu at' pa mo le hd nt ct glo ghi rlo rhi rom fnd fc prt lim l1 l2 l3 = some res) : Con l E yX5_tryRuns (.code yX5_tryRuns cX5_tryRuns 9 (some .int) :: TT) ({ frames := 3, cells := 0, slots := 0, locals := 145 } : Room) 0 0 [.ref u, .int l1, .int l2, .int l3] (wUn σ u at' pa mo le hd nt ct sts6 blo bhi bem glo ghi gem rlo rhi rem rom fnd fc prt lim) n (some (.int res.1)) (wUn σ u res.2.1 res.2.2.1 res.2.2.2.1 res.2.2.2.2.1 res.2.2.2.2.2.1 res.2.2.2.2.2.2.1 res.2.2.2.2.2.2.2.1 sts6 blo bhi bem glo ghi gem rlo rhi rem rom res.2.2.2.2.2.2.2.2.1 res.2.2.2.2.2.2.2.2.2 prt lim) n := by
  refine con_intro (by decide +kernel) (Nat.le_of_ble_eq_true rfl) ?_
  intro K C hKR hKL hKE hKN hKQ
  subst hKL
  subst hKE
  have C : Cx K RX5 "tryRuns" cX5_tryRuns (some .int) := C
  show G K 0 0 0 [(0, .ref u), (1, .int l1), (2, .int l2), (3, .int l3)] [] (wUn σ u at' pa mo le hd nt ct sts6 blo bhi bem glo ghi gem rlo rhi rem rom fnd fc prt lim) n
  unfold f_X5_tryRuns at hf
  refine g_aload_n C rfl (q := 0) rfl dX5_tryRuns_0 rfl ?_
  refine g_iload_n C rfl (q := 2) rfl dX5_tryRuns_1 rfl ?_
  refine g_iload_n C rfl (q := 3) rfl dX5_tryRuns_2 rfl ?_
  obtain ⟨q1, hq1, hf⟩ := bd hf
  refine g_callV0 (st' := []) (as := [.int l2, .int l3]) (st2 := [.int q1]) (k := 2) C ⟨wm_RX5_80, wn_X5_roomOfGroup, wv_X5_roomOfGroup, wi_RX5, wk_X5_roomOfGroup, by decide +kernel⟩ rfl (wL_at0 rfl) (c_X5_roomOfGroup (l := kL K) (E := kE K)  _ hq1) (by rw [hKR]; exact ⟨rfl, rfl, ⟨by decide, by decide⟩, Nat.le_refl _, Nat.le_refl _⟩) rfl rfl (by simp) rfl dX5_tryRuns_3 rfl ?_
  refine g_istore (i := 4) (lv' := [(4, .int q1), (0, .ref u), (1, .int l1), (2, .int l2), (3, .int l3)]) C dX5_tryRuns_6 rfl (by rw [hKN]; decide) rfl ?_
  refine g_iload_n C rfl (q := 4) rfl dX5_tryRuns_8 rfl ?_
  refine g_iconst (v := 2) C (by decide) dX5_tryRuns_9 rfl ?_
  refine g_idiv C (by decide) dX5_tryRuns_10 rfl ?_
  refine g_istore (i := 5) (lv' := [(5, .int (l3 / (2 : Int32))), (4, .int q1), (0, .ref u), (1, .int l1), (2, .int l2), (3, .int l3)]) C dX5_tryRuns_11 rfl (by rw [hKN]; decide) rfl ?_
  refine g_iconst (v := 1) C (by decide) dX5_tryRuns_13 rfl ?_
  refine g_istore (i := 6) (lv' := [(6, .int (1 : Int32)), (5, .int (l3 / (2 : Int32))), (4, .int q1), (0, .ref u), (1, .int l1), (2, .int l2), (3, .int l3)]) C dX5_tryRuns_14 rfl (by rw [hKN]; decide) rfl ?_
  refine g_sub (lv' := [(0, .ref u), (1, .int l1), (2, .int l2), (3, .int l3), (4, .int q1), (5, .int (l3 / (2 : Int32))), (6, .int (1 : Int32))]) [3, 4, 5, 6, 2, 1, 0] rfl ?_
  obtain ⟨q38, hq38, hf1, hf2⟩ := sb hf
  refine g_X5_tryRuns_16 (l1 := l1) (l2 := l2) (l3 := l3) (l4 := q1) (l5 := l3 / (2 : Int32)) (sts6 := sts6) (blo := blo) (bhi := bhi) (bem := bem) (glo := glo) (ghi := ghi) (gem := gem) (rlo := rlo) (rhi := rhi) (rem := rem) (rom := rom) (fnd := fnd) (fc := fc) (prt := prt) (lim := lim) C hKR hKN _ _ _ _ _ _ _ _ _ q38 hq38 (fun t39 et39 => ?_) (fun t39 et39 => ?_)
  · obtain rfl := hf1 _ et39
    exact hKQ
  · have hf := hf2 _ et39
    refine g_iconst (v := 0) C (by decide) dX5_tryRuns_136 rfl ?_
    obtain rfl := Option.some.inj hf
    exact g_iret C hKQ dX5_tryRuns_137
def f_X5_expand_46  (l1 : Int32) (l2 : Int32) (glo : Nat → Int32) (ghi : Nat → Int32) (gem : Int32) (rlo : Nat → Int32) (rhi : Nat → Int32) (rem : Int32) (rom : Nat → Int32) (prt : Int32) (lim : Int32) : Nat → Int32 → (Nat → Int32) → (Nat → Int32) → (Nat → Int32) → (Nat → Int32) → (Nat → Int32) → (Nat → Int32) → Int32 → (Nat → Int32) → Int32 → Option ((Int32 × (Nat → Int32) × (Nat → Int32) × (Nat → Int32) × (Nat → Int32) × (Nat → Int32) × (Nat → Int32) × Int32 × (Nat → Int32) × (Nat → Int32) × Int32 × (Nat → Int32) × (Nat → Int32) × Int32 × (Nat → Int32) × (Nat → Int32) × Int32) ⊕ ((Nat → Int32) × (Nat → Int32) × (Nat → Int32) × (Nat → Int32) × (Nat → Int32) × (Nat → Int32) × Int32 × (Nat → Int32) × Int32))
  | 0, _, _, _, _, _, _, _, _, _, _ => none
  | fu + 1, l3, at', pa, mo, le, hd, nt, ct, fnd, fc => (if (6 : Int32) ≤ l3 then some (.inr (at', pa, mo, le, hd, nt, ct, fnd, fc)) else ((f_X5_tryRuns fu at' pa mo le hd nt ct glo ghi rlo rhi rom fnd fc prt lim l1 l2 l3).bind fun q43 => (if q43.1 = 0 then f_X5_expand_46 l1 l2 glo ghi gem rlo rhi rem rom prt lim fu (l3 + (1 : Int32)) q43.2.1 q43.2.2.1 q43.2.2.2.1 q43.2.2.2.2.1 q43.2.2.2.2.2.1 q43.2.2.2.2.2.2.1 q43.2.2.2.2.2.2.2.1 q43.2.2.2.2.2.2.2.2.1 q43.2.2.2.2.2.2.2.2.2 else some (.inl (q43.1, q43.2.1, q43.2.2.1, q43.2.2.2.1, q43.2.2.2.2.1, q43.2.2.2.2.2.1, q43.2.2.2.2.2.2.1, q43.2.2.2.2.2.2.2.1, glo, ghi, gem, rlo, rhi, rem, rom, q43.2.2.2.2.2.2.2.2.1, q43.2.2.2.2.2.2.2.2.2)))))
def f_X5_expand_7  (l1 : Int32) (blo : Nat → Nat → Int32) (bhi : Nat → Nat → Int32) (rom : Nat → Int32) (prt : Int32) (lim : Int32) : Nat → Int32 → (Nat → Int32) → (Nat → Int32) → (Nat → Int32) → (Nat → Int32) → (Nat → Int32) → (Nat → Int32) → Int32 → (Nat → Int32) → (Nat → Int32) → Int32 → (Nat → Int32) → (Nat → Int32) → Int32 → (Nat → Int32) → Int32 → Option ((Int32 × (Nat → Int32) × (Nat → Int32) × (Nat → Int32) × (Nat → Int32) × (Nat → Int32) × (Nat → Int32) × Int32 × (Nat → Int32) × (Nat → Int32) × Int32 × (Nat → Int32) × (Nat → Int32) × Int32 × (Nat → Int32) × (Nat → Int32) × Int32) ⊕ ((Nat → Int32) × (Nat → Int32) × (Nat → Int32) × (Nat → Int32) × (Nat → Int32) × (Nat → Int32) × Int32 × (Nat → Int32) × (Nat → Int32) × Int32 × (Nat → Int32) × (Nat → Int32) × Int32 × (Nat → Int32) × Int32))
  | 0, _, _, _, _, _, _, _, _, _, _, _, _, _, _, _, _ => none
  | fu + 1, l2, at', pa, mo, le, hd, nt, ct, glo, ghi, gem, rlo, rhi, rem, fnd, fc => (if prt ≤ l2 then some (.inr (at', pa, mo, le, hd, nt, ct, glo, ghi, gem, rlo, rhi, rem, fnd, fc)) else (if (l2 &&& (prt ^^^ (-1 : Int32))) = 0 then (if (prt &&& (l2 ^^^ (-1 : Int32))) ≤ l2 then f_X5_expand_7 l1 blo bhi rom prt lim fu (l2 + (1 : Int32)) at' pa mo le hd nt ct glo ghi gem rlo rhi rem fnd fc else ((f_X5_measureBoxes fu at' blo bhi glo ghi rlo rhi prt l1 l2).bind fun q35 => (sumB (f_X5_expand_46 l1 l2 q35.1 q35.2.1 q35.2.2.1 q35.2.2.2.1 q35.2.2.2.2.1 q35.2.2.2.2.2 rom prt lim fu (0 : Int32) at' pa mo le hd nt ct fnd fc) Sum.inl fun t46 => f_X5_expand_7 l1 blo bhi rom prt lim fu (l2 + (1 : Int32)) t46.1 t46.2.1 t46.2.2.1 t46.2.2.2.1 t46.2.2.2.2.1 t46.2.2.2.2.2.1 t46.2.2.2.2.2.2.1 q35.1 q35.2.1 q35.2.2.1 q35.2.2.2.1 q35.2.2.2.2.1 q35.2.2.2.2.2 t46.2.2.2.2.2.2.2.1 t46.2.2.2.2.2.2.2.2))) else f_X5_expand_7 l1 blo bhi rom prt lim fu (l2 + (1 : Int32)) at' pa mo le hd nt ct glo ghi gem rlo rhi rem fnd fc))
def f_X5_expand (fu : Nat) (at' : Nat → Int32) (pa : Nat → Int32) (mo : Nat → Int32) (le : Nat → Int32) (hd : Nat → Int32) (nt : Nat → Int32) (ct : Int32) (sts6 : Nat → Int64) (blo : Nat → Nat → Int32) (bhi : Nat → Nat → Int32) (glo : Nat → Int32) (ghi : Nat → Int32) (gem : Int32) (rlo : Nat → Int32) (rhi : Nat → Int32) (rem : Int32) (rom : Nat → Int32) (fnd : Nat → Int32) (fc : Int32) (prt : Int32) (lim : Int32) (l1 : Int32) : Option (Int32 × (Nat → Int32) × (Nat → Int32) × (Nat → Int32) × (Nat → Int32) × (Nat → Int32) × (Nat → Int32) × Int32 × (Nat → Int32) × (Nat → Int32) × Int32 × (Nat → Int32) × (Nat → Int32) × Int32 × (Nat → Int32) × (Nat → Int32) × Int32) := ((f_X5_measureRoom fu at' sts6 rom prt l1).bind fun q1 => (sumB (f_X5_expand_7 l1 blo bhi q1 prt lim fu (1 : Int32) at' pa mo le hd nt ct glo ghi gem rlo rhi rem fnd fc) id fun t48 => some ((0 : Int32), t48.1, t48.2.1, t48.2.2.1, t48.2.2.2.1, t48.2.2.2.2.1, t48.2.2.2.2.2.1, t48.2.2.2.2.2.2.1, t48.2.2.2.2.2.2.2.1, t48.2.2.2.2.2.2.2.2.1, t48.2.2.2.2.2.2.2.2.2.1, t48.2.2.2.2.2.2.2.2.2.2.1, t48.2.2.2.2.2.2.2.2.2.2.2.1, t48.2.2.2.2.2.2.2.2.2.2.2.2.1, q1, t48.2.2.2.2.2.2.2.2.2.2.2.2.2.1, t48.2.2.2.2.2.2.2.2.2.2.2.2.2.2)))
set_option maxHeartbeats 2000000 in
set_option maxRecDepth 20000 in
theorem g_X5_expand_46 {K : KX} {n : Nat} {σ : AH} {u : Nat}  {l1 : Int32} {l2 : Int32} {sts6 : Nat → Int64} {blo : Nat → Nat → Int32} {bhi : Nat → Nat → Int32} {bem : Nat → Int32} {glo : Nat → Int32} {ghi : Nat → Int32} {gem : Int32} {rlo : Nat → Int32} {rhi : Nat → Int32} {rem : Int32} {rom : Nat → Int32} {prt : Int32} {lim : Int32} (C : Cx K RX5 "expand" cX5_expand (some .int)) (hKR : kR K = ({ frames := 4, cells := 0, slots := 0, locals := 173 } : Room)) (hKN : kN K = 5) : ∀ (fu : Nat) (l3 : Int32) (at' : Nat → Int32) (pa : Nat → Int32) (mo : Nat → Int32) (le : Nat → Int32) (hd : Nat → Int32) (nt : Nat → Int32) (ct : Int32) (fnd : Nat → Int32) (fc : Int32) (res : ((Int32 × (Nat → Int32) × (Nat → Int32) × (Nat → Int32) × (Nat → Int32) × (Nat → Int32) × (Nat → Int32) × Int32 × (Nat → Int32) × (Nat → Int32) × Int32 × (Nat → Int32) × (Nat → Int32) × Int32 × (Nat → Int32) × (Nat → Int32) × Int32) ⊕ ((Nat → Int32) × (Nat → Int32) × (Nat → Int32) × (Nat → Int32) × (Nat → Int32) × (Nat → Int32) × Int32 × (Nat → Int32) × Int32))), f_X5_expand_46 l1 l2 glo ghi gem rlo rhi rem rom prt lim fu l3 at' pa mo le hd nt ct fnd fc = some res → (∀ t, res = .inl t → KQ K 0 0 (some (.int t.1)) (wUn σ u t.2.1 t.2.2.1 t.2.2.2.1 t.2.2.2.2.1 t.2.2.2.2.2.1 t.2.2.2.2.2.2.1 t.2.2.2.2.2.2.2.1 sts6 blo bhi bem t.2.2.2.2.2.2.2.2.1 t.2.2.2.2.2.2.2.2.2.1 t.2.2.2.2.2.2.2.2.2.2.1 t.2.2.2.2.2.2.2.2.2.2.2.1 t.2.2.2.2.2.2.2.2.2.2.2.2.1 t.2.2.2.2.2.2.2.2.2.2.2.2.2.1 t.2.2.2.2.2.2.2.2.2.2.2.2.2.2.1 t.2.2.2.2.2.2.2.2.2.2.2.2.2.2.2.1 t.2.2.2.2.2.2.2.2.2.2.2.2.2.2.2.2 prt lim) n) → (∀ t, res = .inr t → G K 0 0 75 [(0, .ref u), (1, .int l1), (2, .int l2)] [] (wUn σ u t.1 t.2.1 t.2.2.1 t.2.2.2.1 t.2.2.2.2.1 t.2.2.2.2.2.1 t.2.2.2.2.2.2.1 sts6 blo bhi bem glo ghi gem rlo rhi rem rom t.2.2.2.2.2.2.2.1 t.2.2.2.2.2.2.2.2 prt lim) n) → G K 0 0 46 [(0, .ref u), (1, .int l1), (2, .int l2), (3, .int l3)] [] (wUn σ u at' pa mo le hd nt ct sts6 blo bhi bem glo ghi gem rlo rhi rem rom fnd fc prt lim) n := by
  intro fu
  induction fu with
  | zero =>
    intro l3 at' pa mo le hd nt ct fnd fc res hf
    exact absurd hf (by simp [f_X5_expand_46])
  | succ fu ih =>
    intro l3 at' pa mo le hd nt ct fnd fc res hf hret hx
    rw [f_X5_expand_46] at hf
    refine g_iload_n C rfl (q := 3) rfl dX5_expand_46 rfl ?_
    refine g_bipush (v := 6) C (by decide) dX5_expand_47 rfl ?_
    refine g_icmp_ge (tgt := 75) C dX5_expand_49 (by decide) rfl (fun c42 => ?_) (fun c42 => ?_)
    · replace hf := ift c42 hf
      obtain rfl := Option.some.inj hf
      refine g_sub (lv' := [(0, .ref u), (1, .int l1), (2, .int l2)]) [0, 1, 2] rfl ?_
      exact hx (at', pa, mo, le, hd, nt, ct, fnd, fc) rfl
    · replace hf := iff' c42 hf
      refine g_aload_n C rfl (q := 0) rfl dX5_expand_52 rfl ?_
      refine g_iload_n C rfl (q := 1) rfl dX5_expand_53 rfl ?_
      refine g_iload_n C rfl (q := 2) rfl dX5_expand_54 rfl ?_
      refine g_iload_n C rfl (q := 3) rfl dX5_expand_55 rfl ?_
      obtain ⟨q43, hq43, hf⟩ := bd hf
      refine g_callV0 (st' := []) (as := [.int l1, .int l2, .int l3]) (st2 := [.int q43.1]) (k := 3) C ⟨wm_RX5_76, wn_X5_tryRuns, wv_X5_tryRuns, wi_RX5, wk_X5_tryRuns, by decide +kernel⟩ rfl (wL_at0 rfl) (c_X5_tryRuns (l := kL K) (E := kE K)  _ hq43) (by rw [hKR]; exact ⟨rfl, rfl, ⟨by decide, by decide⟩, Nat.le_refl _, Nat.le_refl _⟩) rfl rfl (by simp) rfl dX5_expand_56 rfl ?_
      refine g_istore (i := 4) (lv' := [(4, .int q43.1), (0, .ref u), (1, .int l1), (2, .int l2), (3, .int l3)]) C dX5_expand_59 rfl (by rw [hKN]; decide) rfl ?_
      refine g_iload C (q := 0) rfl dX5_expand_61 rfl ?_
      refine g_if_eq (tgt := 69) C dX5_expand_63 (by decide) rfl (fun c44 => ?_) (fun c44 => ?_)
      · replace hf := ift c44 hf
        refine g_iinc (v := l3 + (1 : Int32)) (lv' := [(3, .int (l3 + (1 : Int32))), (4, .int q43.1), (0, .ref u), (1, .int l1), (2, .int l2)]) (q := 4) C dX5_expand_69 rfl rfl rfl (by rw [hKN]; decide) rfl ?_
        refine g_goto (pc' := 46) C dX5_expand_72 (by decide) ?_
        refine g_sub (lv' := [(0, .ref u), (1, .int l1), (2, .int l2), (3, .int (l3 + (1 : Int32)))]) [2, 3, 4, 0] rfl ?_
        exact ih _ _ _ _ _ _ _ _ _ _ _ hf hret hx
      · replace hf := iff' c44 hf
        refine g_iload C (q := 0) rfl dX5_expand_66 rfl ?_
        obtain rfl := Option.some.inj hf
        exact g_iret C (hret (q43.1, q43.2.1, q43.2.2.1, q43.2.2.2.1, q43.2.2.2.2.1, q43.2.2.2.2.2.1, q43.2.2.2.2.2.2.1, q43.2.2.2.2.2.2.2.1, glo, ghi, gem, rlo, rhi, rem, rom, q43.2.2.2.2.2.2.2.2.1, q43.2.2.2.2.2.2.2.2.2) rfl) dX5_expand_68
set_option maxHeartbeats 2000000 in
set_option maxRecDepth 20000 in
theorem g_X5_expand_7 {K : KX} {n : Nat} {σ : AH} {u : Nat}  {l1 : Int32} {sts6 : Nat → Int64} {blo : Nat → Nat → Int32} {bhi : Nat → Nat → Int32} {bem : Nat → Int32} {rom : Nat → Int32} {prt : Int32} {lim : Int32} (C : Cx K RX5 "expand" cX5_expand (some .int)) (hKR : kR K = ({ frames := 4, cells := 0, slots := 0, locals := 173 } : Room)) (hKN : kN K = 5) : ∀ (fu : Nat) (l2 : Int32) (at' : Nat → Int32) (pa : Nat → Int32) (mo : Nat → Int32) (le : Nat → Int32) (hd : Nat → Int32) (nt : Nat → Int32) (ct : Int32) (glo : Nat → Int32) (ghi : Nat → Int32) (gem : Int32) (rlo : Nat → Int32) (rhi : Nat → Int32) (rem : Int32) (fnd : Nat → Int32) (fc : Int32) (res : ((Int32 × (Nat → Int32) × (Nat → Int32) × (Nat → Int32) × (Nat → Int32) × (Nat → Int32) × (Nat → Int32) × Int32 × (Nat → Int32) × (Nat → Int32) × Int32 × (Nat → Int32) × (Nat → Int32) × Int32 × (Nat → Int32) × (Nat → Int32) × Int32) ⊕ ((Nat → Int32) × (Nat → Int32) × (Nat → Int32) × (Nat → Int32) × (Nat → Int32) × (Nat → Int32) × Int32 × (Nat → Int32) × (Nat → Int32) × Int32 × (Nat → Int32) × (Nat → Int32) × Int32 × (Nat → Int32) × Int32))), f_X5_expand_7 l1 blo bhi rom prt lim fu l2 at' pa mo le hd nt ct glo ghi gem rlo rhi rem fnd fc = some res → (∀ t, res = .inl t → KQ K 0 0 (some (.int t.1)) (wUn σ u t.2.1 t.2.2.1 t.2.2.2.1 t.2.2.2.2.1 t.2.2.2.2.2.1 t.2.2.2.2.2.2.1 t.2.2.2.2.2.2.2.1 sts6 blo bhi bem t.2.2.2.2.2.2.2.2.1 t.2.2.2.2.2.2.2.2.2.1 t.2.2.2.2.2.2.2.2.2.2.1 t.2.2.2.2.2.2.2.2.2.2.2.1 t.2.2.2.2.2.2.2.2.2.2.2.2.1 t.2.2.2.2.2.2.2.2.2.2.2.2.2.1 t.2.2.2.2.2.2.2.2.2.2.2.2.2.2.1 t.2.2.2.2.2.2.2.2.2.2.2.2.2.2.2.1 t.2.2.2.2.2.2.2.2.2.2.2.2.2.2.2.2 prt lim) n) → (∀ t, res = .inr t → G K 0 0 81 [] [] (wUn σ u t.1 t.2.1 t.2.2.1 t.2.2.2.1 t.2.2.2.2.1 t.2.2.2.2.2.1 t.2.2.2.2.2.2.1 sts6 blo bhi bem t.2.2.2.2.2.2.2.1 t.2.2.2.2.2.2.2.2.1 t.2.2.2.2.2.2.2.2.2.1 t.2.2.2.2.2.2.2.2.2.2.1 t.2.2.2.2.2.2.2.2.2.2.2.1 t.2.2.2.2.2.2.2.2.2.2.2.2.1 rom t.2.2.2.2.2.2.2.2.2.2.2.2.2.1 t.2.2.2.2.2.2.2.2.2.2.2.2.2.2 prt lim) n) → G K 0 0 7 [(0, .ref u), (1, .int l1), (2, .int l2)] [] (wUn σ u at' pa mo le hd nt ct sts6 blo bhi bem glo ghi gem rlo rhi rem rom fnd fc prt lim) n := by
  intro fu
  induction fu with
  | zero =>
    intro l2 at' pa mo le hd nt ct glo ghi gem rlo rhi rem fnd fc res hf
    exact absurd hf (by simp [f_X5_expand_7])
  | succ fu ih =>
    intro l2 at' pa mo le hd nt ct glo ghi gem rlo rhi rem fnd fc res hf hret hx
    rw [f_X5_expand_7] at hf
    refine g_iload_n C rfl (q := 2) rfl dX5_expand_7 rfl ?_
    refine g_aload_n C rfl (q := 0) rfl dX5_expand_8 rfl ?_
    refine g_get C fc_X5 8 (by decide) wf_RX5_51 (wL_at0 rfl) rfl dX5_expand_9 rfl ?_
    refine g_icmp_ge (tgt := 81) C dX5_expand_12 (by decide) rfl (fun c32 => ?_) (fun c32 => ?_)
    · replace hf := ift c32 hf
      obtain rfl := Option.some.inj hf
      refine g_sub (lv' := []) [] rfl ?_
      exact hx (at', pa, mo, le, hd, nt, ct, glo, ghi, gem, rlo, rhi, rem, fnd, fc) rfl
    · replace hf := iff' c32 hf
      refine g_iload_n C rfl (q := 2) rfl dX5_expand_15 rfl ?_
      refine g_aload_n C rfl (q := 0) rfl dX5_expand_16 rfl ?_
      refine g_get C fc_X5 8 (by decide) wf_RX5_51 (wL_at0 rfl) rfl dX5_expand_17 rfl ?_
      refine g_iconst (v := (-1)) C (by decide) dX5_expand_20 rfl ?_
      refine g_ixor C dX5_expand_21 rfl ?_
      refine g_iand C dX5_expand_22 rfl ?_
      refine g_if_ne (tgt := 75) C dX5_expand_23 (by decide) rfl (fun c33 => ?_) (fun c33 => ?_)
      · replace hf := iff' c33 hf
        refine g_iinc (v := l2 + (1 : Int32)) (lv' := [(2, .int (l2 + (1 : Int32))), (0, .ref u), (1, .int l1)]) (q := 2) C dX5_expand_75 rfl rfl rfl (by rw [hKN]; decide) rfl ?_
        refine g_goto (pc' := 7) C dX5_expand_78 (by decide) ?_
        refine g_sub (lv' := [(0, .ref u), (1, .int l1), (2, .int (l2 + (1 : Int32)))]) [1, 2, 0] rfl ?_
        exact ih _ _ _ _ _ _ _ _ _ _ _ _ _ _ _ _ _ hf hret hx
      · replace hf := ift c33 hf
        refine g_iload_n C rfl (q := 2) rfl dX5_expand_26 rfl ?_
        refine g_aload_n C rfl (q := 0) rfl dX5_expand_27 rfl ?_
        refine g_get C fc_X5 8 (by decide) wf_RX5_51 (wL_at0 rfl) rfl dX5_expand_28 rfl ?_
        refine g_iload_n C rfl (q := 2) rfl dX5_expand_31 rfl ?_
        refine g_iconst (v := (-1)) C (by decide) dX5_expand_32 rfl ?_
        refine g_ixor C dX5_expand_33 rfl ?_
        refine g_iand C dX5_expand_34 rfl ?_
        refine g_icmp_ge (tgt := 75) C dX5_expand_35 (by decide) rfl (fun c34 => ?_) (fun c34 => ?_)
        · replace hf := ift c34 hf
          refine g_iinc (v := l2 + (1 : Int32)) (lv' := [(2, .int (l2 + (1 : Int32))), (0, .ref u), (1, .int l1)]) (q := 2) C dX5_expand_75 rfl rfl rfl (by rw [hKN]; decide) rfl ?_
          refine g_goto (pc' := 7) C dX5_expand_78 (by decide) ?_
          refine g_sub (lv' := [(0, .ref u), (1, .int l1), (2, .int (l2 + (1 : Int32)))]) [1, 2, 0] rfl ?_
          exact ih _ _ _ _ _ _ _ _ _ _ _ _ _ _ _ _ _ hf hret hx
        · replace hf := iff' c34 hf
          refine g_aload_n C rfl (q := 0) rfl dX5_expand_38 rfl ?_
          refine g_iload_n C rfl (q := 1) rfl dX5_expand_39 rfl ?_
          refine g_iload_n C rfl (q := 2) rfl dX5_expand_40 rfl ?_
          obtain ⟨q35, hq35, hf⟩ := bd hf
          refine g_callV0 (st' := []) (as := [.int l1, .int l2]) (st2 := []) (k := 2) C ⟨wm_RX5_72, wn_X5_measureBoxes, wv_X5_measureBoxes, wi_RX5, wk_X5_measureBoxes, by decide +kernel⟩ rfl (wL_at0 rfl) (c_X5_measureBoxes (l := kL K) (E := kE K)  _ hq35) (by rw [hKR]; exact ⟨rfl, rfl, ⟨by decide, by decide⟩, Nat.le_refl _, Nat.le_refl _⟩) rfl rfl (by simp) rfl dX5_expand_41 rfl ?_
          refine g_iconst (v := 0) C (by decide) dX5_expand_44 rfl ?_
          refine g_istore_n (i := 3) (lv' := [(3, .int (0 : Int32)), (0, .ref u), (1, .int l1), (2, .int l2)]) C dX5_expand_45 rfl rfl (by rw [hKN]; decide) rfl ?_
          refine g_sub (lv' := [(0, .ref u), (1, .int l1), (2, .int l2), (3, .int (0 : Int32))]) [1, 2, 3, 0] rfl ?_
          obtain ⟨q45, hq45, hf1, hf2⟩ := sb hf
          refine g_X5_expand_46 (l1 := l1) (l2 := l2) (sts6 := sts6) (blo := blo) (bhi := bhi) (bem := bem) (glo := q35.1) (ghi := q35.2.1) (gem := q35.2.2.1) (rlo := q35.2.2.2.1) (rhi := q35.2.2.2.2.1) (rem := q35.2.2.2.2.2) (rom := rom) (prt := prt) (lim := lim) C hKR hKN _ _ _ _ _ _ _ _ _ _ _ q45 hq45 (fun t46 et46 => ?_) (fun t46 et46 => ?_)
          · obtain rfl := hf1 _ et46
            exact (hret t46 rfl)
          · have hf := hf2 _ et46
            refine g_iinc (v := l2 + (1 : Int32)) (lv' := [(2, .int (l2 + (1 : Int32))), (0, .ref u), (1, .int l1)]) (q := 2) C dX5_expand_75 rfl rfl rfl (by rw [hKN]; decide) rfl ?_
            refine g_goto (pc' := 7) C dX5_expand_78 (by decide) ?_
            refine g_sub (lv' := [(0, .ref u), (1, .int l1), (2, .int (l2 + (1 : Int32)))]) [1, 2, 0] rfl ?_
            exact ih _ _ _ _ _ _ _ _ _ _ _ _ _ _ _ _ _ hf hret hx
set_option maxHeartbeats 2000000 in
set_option maxRecDepth 20000 in
theorem c_X5_expand {l : Launch} {E : Ex} {n : Nat} {σ : AH} {u : Nat}  {at' : Nat → Int32} {pa : Nat → Int32} {mo : Nat → Int32} {le : Nat → Int32} {hd : Nat → Int32} {nt : Nat → Int32} {ct : Int32} {sts6 : Nat → Int64} {blo : Nat → Nat → Int32} {bhi : Nat → Nat → Int32} {bem : Nat → Int32} {glo : Nat → Int32} {ghi : Nat → Int32} {gem : Int32} {rlo : Nat → Int32} {rhi : Nat → Int32} {rem : Int32} {rom : Nat → Int32} {fnd : Nat → Int32} {fc : Int32} {prt : Int32} {lim : Int32} {l1 : Int32} {fu : Nat} (res : (Int32 × (Nat → Int32) × (Nat → Int32) × (Nat → Int32) × (Nat → Int32) × (Nat → Int32) × (Nat → Int32) × Int32 × (Nat → Int32) × (Nat → Int32) × Int32 × (Nat → Int32) × (Nat → Int32) × Int32 × (Nat → Int32) × (Nat → Int32) × Int32)) (hf : f_X5_expand fu at' pa mo le hd nt ct sts6 blo bhi glo ghi gem rlo rhi rem rom fnd fc prt lim l1 = some res) : Con l E yX5_expand (.code yX5_expand cX5_expand 5 (some .int) :: TT) ({ frames := 4, cells := 0, slots := 0, locals := 173 } : Room) 0 0 [.ref u, .int l1] (wUn σ u at' pa mo le hd nt ct sts6 blo bhi bem glo ghi gem rlo rhi rem rom fnd fc prt lim) n (some (.int res.1)) (wUn σ u res.2.1 res.2.2.1 res.2.2.2.1 res.2.2.2.2.1 res.2.2.2.2.2.1 res.2.2.2.2.2.2.1 res.2.2.2.2.2.2.2.1 sts6 blo bhi bem res.2.2.2.2.2.2.2.2.1 res.2.2.2.2.2.2.2.2.2.1 res.2.2.2.2.2.2.2.2.2.2.1 res.2.2.2.2.2.2.2.2.2.2.2.1 res.2.2.2.2.2.2.2.2.2.2.2.2.1 res.2.2.2.2.2.2.2.2.2.2.2.2.2.1 res.2.2.2.2.2.2.2.2.2.2.2.2.2.2.1 res.2.2.2.2.2.2.2.2.2.2.2.2.2.2.2.1 res.2.2.2.2.2.2.2.2.2.2.2.2.2.2.2.2 prt lim) n := by
  refine con_intro (by decide +kernel) (Nat.le_of_ble_eq_true rfl) ?_
  intro K C hKR hKL hKE hKN hKQ
  subst hKL
  subst hKE
  have C : Cx K RX5 "expand" cX5_expand (some .int) := C
  show G K 0 0 0 [(0, .ref u), (1, .int l1)] [] (wUn σ u at' pa mo le hd nt ct sts6 blo bhi bem glo ghi gem rlo rhi rem rom fnd fc prt lim) n
  unfold f_X5_expand at hf
  refine g_aload_n C rfl (q := 0) rfl dX5_expand_0 rfl ?_
  refine g_iload_n C rfl (q := 1) rfl dX5_expand_1 rfl ?_
  obtain ⟨q1, hq1, hf⟩ := bd hf
  refine g_callV0 (st' := []) (as := [.int l1]) (st2 := []) (k := 1) C ⟨wm_RX5_68, wn_X5_measureRoom, wv_X5_measureRoom, wi_RX5, wk_X5_measureRoom, by decide +kernel⟩ rfl (wL_at0 rfl) (c_X5_measureRoom (l := kL K) (E := kE K)  _ hq1) (by rw [hKR]; exact ⟨rfl, rfl, ⟨by decide, by decide⟩, Nat.le_refl _, Nat.le_refl _⟩) rfl rfl (by simp) rfl dX5_expand_2 rfl ?_
  refine g_iconst (v := 1) C (by decide) dX5_expand_5 rfl ?_
  refine g_istore_n (i := 2) (lv' := [(2, .int (1 : Int32)), (0, .ref u), (1, .int l1)]) C dX5_expand_6 rfl rfl (by rw [hKN]; decide) rfl ?_
  refine g_sub (lv' := [(0, .ref u), (1, .int l1), (2, .int (1 : Int32))]) [1, 2, 0] rfl ?_
  obtain ⟨q47, hq47, hf1, hf2⟩ := sb hf
  refine g_X5_expand_7 (l1 := l1) (sts6 := sts6) (blo := blo) (bhi := bhi) (bem := bem) (rom := q1) (prt := prt) (lim := lim) C hKR hKN _ _ _ _ _ _ _ _ _ _ _ _ _ _ _ _ _ q47 hq47 (fun t48 et48 => ?_) (fun t48 et48 => ?_)
  · obtain rfl := hf1 _ et48
    exact hKQ
  · have hf := hf2 _ et48
    refine g_iconst (v := 0) C (by decide) dX5_expand_81 rfl ?_
    obtain rfl := Option.some.inj hf
    exact g_iret C hKQ dX5_expand_82
