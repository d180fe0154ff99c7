/-! the blocks of cells of the system's objects -/
def wA (σ : AH) (a z : Nat) (row : Nat → Int64) : AH := wL σ a [.inl (1, z, .inr (.inl row))]
def wAI (σ : AH) (a z : Nat) (row : Nat → Int32) : AH := wL σ a [.inl (0, z, .inl row)]
theorem wL_one {h : AH} {a : Nat} {e : CE} : wL h a [e] = hU h a e := by
  funext b
  unfold wL hU
  by_cases h1 : b = a
  · subst h1
    rw [if_pos ⟨by omega, by simp⟩, if_pos rfl]
    simp
  · rw [if_neg (by simp; omega), if_neg h1]
theorem hU_self {h : AH} {a : Nat} {e : CE} (ha : h a = some e) : hU h a e = h := by
  funext b
  unfold hU
  by_cases h1 : b = a
  · subst h1; rw [if_pos rfl, ha]
  · rw [if_neg h1]
theorem wA_self {h : AH} {a z : Nat} {row : Nat → Int64} (ha : h a = some (.inl (1, z, .inr (.inl row)))) : h = wA h a z row := by
  unfold wA; rw [wL_one, hU_self ha]
theorem wAI_self {h : AH} {a z : Nat} {row : Nat → Int32} (ha : h a = some (.inl (0, z, .inl row))) : h = wAI h a z row := by
  unfold wAI; rw [wL_one, hU_self ha]
theorem wA_up {h h' : AH} {a z : Nat} {row : Nat → Int64} (ha : hU h a (.inl (1, z, .inr (.inl row))) = h') : wA h a z row = h' := by
  unfold wA; rw [wL_one, ha]
theorem wAI_up {h h' : AH} {a z : Nat} {row : Nat → Int32} (ha : hU h a (.inl (0, z, .inl row)) = h') : wAI h a z row = h' := by
  unfold wAI; rw [wL_one, ha]
abbrev cPc (a : Nat) (ss ps hv oo : Nat → Int64) (cu : Int64) (mm sk pk : Int32) (kw : Int64) (sc pn : Int32) : List CE := [.inr (0, [.ref (a + 1), .ref (a + 2), .ref (a + 3), .ref (a + 4), .long cu, .int mm, .int sk, .int pk, .long kw, .int sc, .int pn]), .inl (1, 48, .inr (.inl ss)), .inl (1, 896, .inr (.inl ps)), .inl (1, 910, .inr (.inl hv)), .inl (1, 64, .inr (.inl oo))]
def wPc (σ : AH) (a : Nat) (ss ps hv oo : Nat → Int64) (cu : Int64) (mm sk pk : Int32) (kw : Int64) (sc pn : Int32) : AH := wL σ a (cPc a ss ps hv oo cu mm sk pk kw sc pn)
abbrev cSp (a : Nat) (lo hi : Nat → Int32) (em : Int32) : List CE := [.inr (2, [.ref (a + 1), .ref (a + 2), .int em]), .inl (0, 3, .inl lo), .inl (0, 3, .inl hi)]
def wSp (σ : AH) (a : Nat) (lo hi : Nat → Int32) (em : Int32) : AH := wL σ a (cSp a lo hi em)
abbrev cBk (a : Nat) (at' pa mo le hd nt : Nat → Int32) (ct : Int32) : List CE := [.inr (3, [.ref (a + 1), .ref (a + 2), .ref (a + 3), .ref (a + 4), .ref (a + 5), .ref (a + 6), .int ct]), .inl (0, 5418, .inl at'), .inl (0, 300, .inl pa), .inl (0, 300, .inl mo), .inl (0, 300, .inl le), .inl (0, 512, .inl hd), .inl (0, 300, .inl nt)]
def wBk (σ : AH) (a : Nat) (at' pa mo le hd nt : Nat → Int32) (ct : Int32) : AH := wL σ a (cBk a at' pa mo le hd nt ct)
/-- the reference -/
abbrev cMd (a : Nat) (th : Int32) (set : Nat → Int64) (mir tgt shs : Nat → Int32) (shp : Nat → Int64) (pls : Nat → Int32) (pl : Nat → Int64) (tri : Int32) (asm tak : Nat → Int64) (pld cel pie nxt : Nat → Int32) (cho : Nat → Int64) (cbs cub : Nat → Int32) (sts : Int32) (stt frm by' wrk oth : Nat → Int32) (mvs : Int32) (mov : Nat → Int32) : List CE :=
  [.inr (6, [.int th, .ref (a + 1), .ref (a + 2), .ref (a + 3), .ref (a + 4), .ref (a + 5), .ref (a + 6), .ref (a + 7), .int tri, .ref (a + 8), .ref (a + 9), .ref (a + 10), .ref (a + 11), .ref (a + 12), .ref (a + 13), .ref (a + 14), .ref (a + 15), .ref (a + 16), .int sts, .ref (a + 17), .ref (a + 18), .ref (a + 19), .ref (a + 20), .ref (a + 21), .int mvs, .ref (a + 22)]),
   .inl (1, 6, .inr (.inl set)), .inl (2, 6, .inl mir), .inl (0, 64, .inl tgt), .inl (0, 6, .inl shs), .inl (1, 288, .inr (.inl shp)), .inl (0, 6, .inl pls), .inl (1, 8400, .inr (.inl pl)), .inl (1, 6, .inr (.inl asm)), .inl (1, 7, .inr (.inl tak)), .inl (0, 7, .inl pld), .inl (0, 7, .inl cel), .inl (0, 7, .inl pie), .inl (0, 7, .inl nxt), .inl (1, 7, .inr (.inl cho)), .inl (0, 6, .inl cbs), .inl (0, 180, .inl cub), .inl (0, 5400, .inl stt), .inl (0, 300, .inl frm), .inl (0, 300, .inl by'), .inl (0, 18, .inl wrk), .inl (0, 18, .inl oth), .inl (0, 301, .inl mov)]
def wMd (σ : AH) (a : Nat) (th : Int32) (set : Nat → Int64) (mir tgt shs : Nat → Int32) (shp : Nat → Int64) (pls : Nat → Int32) (pl : Nat → Int64) (tri : Int32) (asm tak : Nat → Int64) (pld cel pie nxt : Nat → Int32) (cho : Nat → Int64) (cbs cub : Nat → Int32) (sts : Int32) (stt frm by' wrk oth : Nat → Int32) (mvs : Int32) (mov : Nat → Int32) : AH := wL σ a (cMd a th set mir tgt shs shp pls pl tri asm tak pld cel pie nxt cho cbs cub sts stt frm by' wrk oth mvs mov)
theorem g_max {K : KX} {own nm : String} {cc : ByteArray} {ret : Option FieldType} {cells slots pc pc' : Nat} {lv : List (Nat × Value)} {st : List Value} {h : AH} {n ix : Nat} (C : Cx K own nm cc ret) (w1 : Cond.methodLink own ix Lib.Math.max.name ∈ TT) (w2 : Cond.static Lib.Math.max.name ∈ TT) (w3 : Cond.initialized "java/lang/Math" ∈ TT) (w4 : Cond.code Lib.Math.max.name Lib.Math.max.code 2 (some .int) ∈ TT) (hfr : 1 ≤ (kR K).frames) (hcat : (st.map fun v => v.category).sum + 13 ≤ (kR K).locals) (h1 : cells ≤ (kR K).cells) (h2 : slots ≤ (kR K).slots) {x y : Int32} (d : decode cc pc = .ok (.invokestatic ix, 3)) (hp : pc + 3 = pc') (kk : G K cells slots pc' lv (.int (if x < y then y else x) :: st) h n) : G K cells slots pc lv (.int y :: .int x :: st) h n := by
  obtain ⟨p, l, e, R, s, m, args, below, meth, c, nL, E, Q⟩ := K
  intro ls H locs hl hR0 hn hS
  subst hp
  have hts : ∀ x ∈ TT, x.before args s = true := C.2.2.2.2.1
  exact va_mmax C.1 C.2.1 (by rw [C.2.2.1]; exact hl.1.symm) C.2.2.2.1 (hts _ w1) (hts _ w2) (hts _ w3) (hts _ w4) hfr hcat h1 h2 d (kk ls H locs hl hR0 hn hS)
theorem g_min {K : KX} {own nm : String} {cc : ByteArray} {ret : Option FieldType} {cells slots pc pc' : Nat} {lv : List (Nat × Value)} {st : List Value} {h : AH} {n ix : Nat} (C : Cx K own nm cc ret) (w1 : Cond.methodLink own ix Lib.Math.min.name ∈ TT) (w2 : Cond.static Lib.Math.min.name ∈ TT) (w3 : Cond.initialized "java/lang/Math" ∈ TT) (w4 : Cond.code Lib.Math.min.name Lib.Math.min.code 2 (some .int) ∈ TT) (hfr : 1 ≤ (kR K).frames) (hcat : (st.map fun v => v.category).sum + 13 ≤ (kR K).locals) (h1 : cells ≤ (kR K).cells) (h2 : slots ≤ (kR K).slots) {x y : Int32} (d : decode cc pc = .ok (.invokestatic ix, 3)) (hp : pc + 3 = pc') (kk : G K cells slots pc' lv (.int (if y < x then y else x) :: st) h n) : G K cells slots pc lv (.int y :: .int x :: st) h n := by
  obtain ⟨p, l, e, R, s, m, args, below, meth, c, nL, E, Q⟩ := K
  intro ls H locs hl hR0 hn hS
  subst hp
  have hts : ∀ x ∈ TT, x.before args s = true := C.2.2.2.2.1
  exact va_mmin C.1 C.2.1 (by rw [C.2.2.1]; exact hl.1.symm) C.2.2.2.1 (hts _ w1) (hts _ w2) (hts _ w3) (hts _ w4) hfr hcat h1 h2 d (kk ls H locs hl hR0 hn hS)
theorem fc_X1 : FC 0 RX1 TX1 11 tyX1 := ⟨rfl, by decide +kernel, tyX1_ok, nmX1⟩
theorem fc_X2 : FC 1 RX2 TX2 9 tyX2 := ⟨rfl, by decide +kernel, tyX2_ok, nmX2⟩
theorem fc_X3 : FC 2 RX3 TX3 3 tyX3 := ⟨rfl, by decide +kernel, tyX3_ok, nmX3⟩
theorem fc_X4 : FC 3 RX4 TX4 7 tyX4 := ⟨rfl, by decide +kernel, tyX4_ok, nmX4⟩
theorem fc_X5 : FC 4 RX5 TX5 10 tyX5 := ⟨rfl, by decide +kernel, tyX5_ok, nmX5⟩
theorem fc_X6 : FC 5 RX6 TX6 6 tyX6 := ⟨rfl, by decide +kernel, tyX6_ok, nmX6⟩
theorem fc_X7 : FC 6 RX7 TX7 26 tyX7 := ⟨rfl, by decide +kernel, tyX7_ok, nmX7⟩
