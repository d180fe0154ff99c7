/-! cubes, the target, putting -/
theorem hasCube_ok (x : Int64) {c : Nat} (hc : c < 64) : f_X1_hasCube x (nI c) = some (bI (B x c)) := by
  have h1 : ∀ j, j < 64 → B (((x.toUInt64 >>> ((nI c).toInt64.toUInt64 &&& Int64.toUInt64 63)).toInt64) &&& (1 : Int64)) j = (B x (j + c) && decide (j = 0)) := by
    intro j hj
    have e := B_one (k := 0) (by decide) j
    rw [show (1 : Int64) <<< ((nI 0).toInt64 &&& 63) = 1 by decide +kernel] at e
    rw [B_and, B_shr x hc, e]
  have e : ((((x.toUInt64 >>> ((nI c).toInt64.toUInt64 &&& Int64.toUInt64 63)).toInt64) &&& (1 : Int64)) = (0 : Int64)) ↔ B x c = false := by
    rw [B_zero]
    constructor
    · intro h
      have := h 0 (by decide)
      rw [h1 0 (by decide), Nat.zero_add] at this
      simpa using this
    · intro h j hj
      rw [h1 j hj]
      by_cases z : j = 0
      · subst z; rw [Nat.zero_add, h]; rfl
      · rw [decide_eq_false z, Bool.and_false]
  unfold f_X1_hasCube
  cases hB : B x c
  · rw [if_pos (e.2 hB), if_pos bOk_0]; rfl
  · have ne := mt e.1 (by rw [hB]; decide)
    rw [if_neg ne, if_pos bOk_1]; rfl
def flp (x : Int64) (c : Nat) : Int64 := x ^^^ ((1 : Int64) <<< ((nI c).toInt64 &&& 63))
theorem flp_B (x : Int64) {c : Nat} (hc : c < 64) (d : Nat) : B (flp x c) d = (B x d ^^ decide (d = c)) := by
  unfold flp
  rw [B_xor, B_one hc]
theorem flp_cnt (x : Int64) {c : Nat} (hc : c < 64) : (B x c = true → cnt x = cnt (flp x c) + 1) ∧ (B x c = false → cnt (flp x c) = cnt x + 1) := by
  constructor
  · intro h
    rw [cnt_F, cnt_F, cF_del h 64 hc]
    congr 1
    refine cF_congr 64 (fun d hd => ?_)
    rw [flp_B x hc]
    by_cases z : d = c
    · subst z; rw [h]; simp
    · simp [z]
  · intro h
    have h2 : B (flp x c) c = true := by rw [flp_B x hc, h]; simp
    rw [cnt_F, cnt_F, cF_del h2 64 hc]
    congr 1
    refine cF_congr 64 (fun d hd => ?_)
    rw [flp_B x hc]
    by_cases z : d = c
    · subst z; rw [h]; simp
    · simp [z]
theorem PcA.cube {S : Nat → Int64} {mb : Nat → Bool} {pss pps phv : Nat → Nat → Int64} {psk ppk : Nat → Int32} {pkw : Nat → Int64} {psc ppn : Nat → Int32} (h : PcA S mb pss pps phv psk ppk pkw psc ppn) (n : Nat) (x : Int64) : PcA (va_up S n x) mb pss pps phv (va_up psk n 0) (va_up ppk n 0) pkw psc ppn := by
  intro p hp
  by_cases y : p = n
  · subst y
    rw [vu_s, vu_s, vu_s]
    exact ⟨Or.inl rfl, Or.inl rfl⟩
  · rw [vu_n y, vu_n y, vu_n y]
    exact h p hp
theorem cube_ok {fu : Nat} (hf : 100 ≤ fu) {S : Nat → Int64} {mb : Nat → Bool} {pmm mir : Nat → Int32} {pss pps phv : Nat → Nat → Int64} {psk ppk : Nat → Int32} {pkw : Nat → Int64} {psc ppn : Nat → Int32} (hI : PI S mb pmm mir pss pps phv psk ppk pkw psc ppn) {asm asm' : Nat → Int64} (h : ∀ p, p < 6 → asm p = asm' p) (hac : ∀ p, p < 6 → cnt (asm p) ≤ 10) (out : Nat → Int64) (p0 p1 : Int32) (b0 : Bool) : Ok (f_L_cube S psk ppk asm out p0 p1 (bI b0)) (fun a => Ok (f_X7_cube fu S asm' p0 p1 (bI b0)) (fun b => b.2.1 = a.1 ∧ (a.1 = 0 → a.2.2.2.2.2 0 = b.1.toInt64) ∧ b.2.2.1 = a.2.1 ∧ PI a.2.1 mb pmm mir pss pps phv a.2.2.1 a.2.2.2.1 pkw psc ppn ∧ (∀ p, p < 6 → a.2.2.2.2.1 p = b.2.2.2 p) ∧ ∀ p, p < 6 → cnt (a.2.2.2.2.1 p) ≤ 10)) := by
  obtain ⟨i1, i2, i3, i4⟩ := hI
  unfold f_L_cube f_X6_cube f_X7_cube
  have iae : ∀ y : Option (Int32 × Int32 × (Nat → Int64) × (Nat → Int64)), y = some (0, 1, S, asm') → ∀ x, x = some ((Sum.inl x_IAE : String ⊕ Int32), S, psk, ppk, asm) → Ok (x.bind fun q1 => xSel x_IAE x_ISE q1.1 (some ((1 : Int32), q1.2.1, q1.2.2.1, q1.2.2.2.1, q1.2.2.2.2, out)) (some ((2 : Int32), q1.2.1, q1.2.2.1, q1.2.2.2.1, q1.2.2.2.2, out)) (fun v2 => (if inB (0 : Int32) 1 = true then some ((0 : Int32), q1.2.1, q1.2.2.1, q1.2.2.2.1, q1.2.2.2.2, va_up out (0 : Int32).toNatClampNeg v2.toInt64) else none))) (fun a => Ok y (fun b => b.2.1 = a.1 ∧ (a.1 = 0 → a.2.2.2.2.2 0 = b.1.toInt64) ∧ b.2.2.1 = a.2.1 ∧ PI a.2.1 mb pmm mir pss pps phv a.2.2.1 a.2.2.2.1 pkw psc ppn ∧ (∀ p, p < 6 → a.2.2.2.2.1 p = b.2.2.2 p) ∧ ∀ p, p < 6 → cnt (a.2.2.2.2.1 p) ≤ 10)) := by
    rintro y rfl x rfl
    exact Ok.bindE rfl (Ok.sel1 rfl (Ok.some (Ok.some ⟨rfl, fun q => absurd q ne10, rfl, ⟨i1, i2, i3, i4⟩, h, hac⟩)))
  have ise : ∀ y : Option (Int32 × Int32 × (Nat → Int64) × (Nat → Int64)), y = some (0, 2, S, asm') → ∀ x, x = some ((Sum.inl x_ISE : String ⊕ Int32), S, psk, ppk, asm) → Ok (x.bind fun q1 => xSel x_IAE x_ISE q1.1 (some ((1 : Int32), q1.2.1, q1.2.2.1, q1.2.2.2.1, q1.2.2.2.2, out)) (some ((2 : Int32), q1.2.1, q1.2.2.1, q1.2.2.2.1, q1.2.2.2.2, out)) (fun v2 => (if inB (0 : Int32) 1 = true then some ((0 : Int32), q1.2.1, q1.2.2.1, q1.2.2.2.1, q1.2.2.2.2, va_up out (0 : Int32).toNatClampNeg v2.toInt64) else none))) (fun a => Ok y (fun b => b.2.1 = a.1 ∧ (a.1 = 0 → a.2.2.2.2.2 0 = b.1.toInt64) ∧ b.2.2.1 = a.2.1 ∧ PI a.2.1 mb pmm mir pss pps phv a.2.2.1 a.2.2.2.1 pkw psc ppn ∧ (∀ p, p < 6 → a.2.2.2.2.1 p = b.2.2.2 p) ∧ ∀ p, p < 6 → cnt (a.2.2.2.2.1 p) ≤ 10)) := by
    rintro y rfl x rfl
    exact Ok.bindE rfl (Ok.sel2 rfl x_ne.1 (Ok.some (Ok.some ⟨rfl, fun q => absurd q (show ¬ (2 : Int32) = 0 by decide), rfl, ⟨i1, i2, i3, i4⟩, h, hac⟩)))
  by_cases hp : (!decide (p0 < 0) && !decide (5 < p0)) = true
  · obtain ⟨n, hn, rfl, e1, e2⟩ := cp_ok hp
    by_cases hq : (!decide (p1 < 0) && !decide (63 < p1)) = true
    · obtain ⟨c, hc, rfl, e3, e4⟩ := cc_ok hq
      have ein : inB (nI n) 6 = true := inB_n hn (by decide)
      have e5 : (if bI true = 0 then (0 : Int32) else 1) = 1 := by decide
      have good : cnt (flp (S n) c) ≤ 10 → Ok ((some ((Sum.inr (nI (cnt (flp (S n) c))) : String ⊕ Int32), va_up S n (flp (S n) c), va_up psk n 0, va_up ppk n 0, va_up asm n (0 : Int64))).bind fun q1 => xSel x_IAE x_ISE q1.1 (some ((1 : Int32), q1.2.1, q1.2.2.1, q1.2.2.2.1, q1.2.2.2.2, out)) (some ((2 : Int32), q1.2.1, q1.2.2.1, q1.2.2.2.1, q1.2.2.2.2, out)) (fun v2 => (if inB (0 : Int32) 1 = true then some ((0 : Int32), q1.2.1, q1.2.2.1, q1.2.2.2.1, q1.2.2.2.2, va_up out (0 : Int32).toNatClampNeg v2.toInt64) else none))) (fun a => Ok (some (nI (cnt (flp (S n) c)), (0 : Int32), va_up S n (flp (S n) c), va_up asm' n (0 : Int64))) (fun b => b.2.1 = a.1 ∧ (a.1 = 0 → a.2.2.2.2.2 0 = b.1.toInt64) ∧ b.2.2.1 = a.2.1 ∧ PI a.2.1 mb pmm mir pss pps phv a.2.2.1 a.2.2.2.1 pkw psc ppn ∧ (∀ p, p < 6 → a.2.2.2.2.1 p = b.2.2.2 p) ∧ ∀ p, p < 6 → cnt (a.2.2.2.2.1 p) ≤ 10)) := by
        intro hcn
        refine Ok.bindE rfl (Ok.sel0 rfl (Ok.pos (by decide) (Ok.some (Ok.some ⟨rfl, fun _ => rfl, rfl, ⟨i1, i2, fun p hp => ?_, i4.cube n _⟩, fun p hp => ?_, fun p hp => ?_⟩))))
        · show cnt (va_up S n (flp (S n) c) p) ≤ 10
          by_cases y : p = n
          · subst y; rw [vu_s]; exact hcn
          · rw [vu_n y]; exact i3 p hp
        · show va_up asm n 0 p = va_up asm' n 0 p
          by_cases y : p = n
          · subst y; rw [vu_s, vu_s]
          · rw [vu_n y, vu_n y]; exact h p hp
        · show cnt (va_up asm n 0 p) ≤ 10
          by_cases y : p = n
          · subst y
            rw [vu_s]
            have c0 : cnt 0 = 0 := by decide +kernel
            omega
          · rw [vu_n y]; exact hac p hp
      have hfl := flp_cnt (S n) hc
      have ebit : f_X1_flipCube (S n) (nI c) = some (flp (S n) c, 0, 0) := rfl
      have ecc : ∀ x, f_X1_cubeCount x = some (nI (cnt x)) := by
        intro x
        unfold f_X1_cubeCount
        rw [bitCount_ok]
        rfl
      have h3 := i3 n hn
      by_cases hb : B (S n) c = b0
      · refine ise _ ?_ _ ?_
        · rw [e2, Option.bind_some, if_neg (show ¬ bI true = 0 by decide), e4, Option.bind_some, e5, if_neg (by decide), if_pos ein, cl_n (by omega), has_ok (S n) hc, Option.bind_some, if_pos (by rw [hb])]
        · rw [e1]
          show xBd (f_X6_checkCell (nI c)) _ _ = _
          rw [e3]
          show (if inB (nI n) 6 = true then _ else _) = _
          rw [if_pos ein, if_pos ein, cl_n (by omega), hasCube_ok (S n) hc, Option.bind_some, if_pos (by rw [hb])]
      · have hbI : ¬ bI (B (S n) c) = bI b0 := fun z => hb (bI_inj.1 z)
        cases b0 with
        | false =>
          have hbt : B (S n) c = true := by
            cases hh : B (S n) c
            · exact absurd hh hb
            · rfl
          have hcn : cnt (flp (S n) c) ≤ 10 := by have := hfl.1 hbt; omega
          have g := good hcn
          have ex : (xBd (f_X6_checkPiece (nI n)) (fun e9 => some ((Sum.inl e9 : String ⊕ Int32), S, psk, ppk, asm)) (fun _ => (xBd (f_X6_checkCell (nI c)) (fun e9 => some (Sum.inl e9, S, psk, ppk, asm)) (fun _ => (if inB (nI n) 6 = true then (if inB (nI n) 6 = true then ((f_X1_hasCube (S (nI n).toNatClampNeg) (nI c)).bind fun q5 => (if q5 = bI false then some (Sum.inl x_ISE, S, psk, ppk, asm) else (if bI false = 0 then (if inB (nI n) 6 = true then ((f_X1_flipCube (S (nI n).toNatClampNeg) (nI c)).bind fun q9 => (if inB (nI n) 6 = true then (if inB (nI n) 6 = true then ((f_X1_cubeCount ((va_up S (nI n).toNatClampNeg q9.1) (nI n).toNatClampNeg)).bind fun q12 => some (Sum.inr q12, va_up S (nI n).toNatClampNeg q9.1, va_up psk (nI n).toNatClampNeg q9.2.1, va_up ppk (nI n).toNatClampNeg q9.2.2, va_up asm (nI n).toNatClampNeg (0 : Int64))) else none) else none)) else none) else (if inB (nI n) 6 = true then ((f_X1_cubeCount (S (nI n).toNatClampNeg)).bind fun q14 => (if q14 < (10 : Int32) then (if inB (nI n) 6 = true then ((f_X1_flipCube (S (nI n).toNatClampNeg) (nI c)).bind fun q17 => (if inB (nI n) 6 = true then (if inB (nI n) 6 = true then ((f_X1_cubeCount ((va_up S (nI n).toNatClampNeg q17.1) (nI n).toNatClampNeg)).bind fun q20 => some (Sum.inr q20, va_up S (nI n).toNatClampNeg q17.1, va_up psk (nI n).toNatClampNeg q17.2.1, va_up ppk (nI n).toNatClampNeg q17.2.2, va_up asm (nI n).toNatClampNeg (0 : Int64))) else none) else none)) else none) else some (Sum.inl x_ISE, S, psk, ppk, asm))) else none)))) else none) else none))))) = some ((Sum.inr (nI (cnt (flp (S n) c))) : String ⊕ Int32), va_up S n (flp (S n) c), va_up psk n 0, va_up ppk n 0, va_up asm n (0 : Int64)) := by
            rw [e1]
            show xBd (f_X6_checkCell (nI c)) _ _ = _
            rw [e3]
            show (if inB (nI n) 6 = true then _ else _) = _
            rw [if_pos ein, if_pos ein, cl_n (by omega), hasCube_ok (S n) hc, Option.bind_some, if_neg hbI, if_pos (show bI false = 0 from rfl), if_pos ein, ebit, Option.bind_some, if_pos ein, if_pos ein]
            show (f_X1_cubeCount (va_up S n (flp (S n) c) n)).bind _ = _
            rw [vu_s, ecc]
            rfl
          have ey : ((f_X7_in (nI n) (0 : Int32) (5 : Int32)).bind fun q1 => (if q1 = 0 then some ((0 : Int32), (1 : Int32), S, asm') else ((f_X7_in (nI c) (0 : Int32) (63 : Int32)).bind fun q5 => (if (if q5 = 0 then (0 : Int32) else (1 : Int32)) = 0 then some ((0 : Int32), (1 : Int32), S, asm') else (if inB (nI n) 6 = true then ((f_X7_has (S (nI n).toNatClampNeg) (nI c)).bind fun q8 => (if q8 = bI false then some ((0 : Int32), (2 : Int32), S, asm') else (if bI false = 0 then (if inB (nI n) 6 = true then (if inB (nI n) 6 = true then (if inB (nI n) 6 = true then (if inB (nI n) 6 = true then ((f_X7_count fu ((va_up S (nI n).toNatClampNeg ((S (nI n).toNatClampNeg) ^^^ ((1 : Int64) <<< ((nI c).toInt64 &&& 63)))) (nI n).toNatClampNeg)).bind fun q17 => some (q17, (0 : Int32), va_up S (nI n).toNatClampNeg ((S (nI n).toNatClampNeg) ^^^ ((1 : Int64) <<< ((nI c).toInt64 &&& 63))), va_up asm' (nI n).toNatClampNeg (0 : Int64))) else none) else none) else none) else none) else (if inB (nI n) 6 = true then ((f_X7_count fu (S (nI n).toNatClampNeg)).bind fun q19 => (if (if q19 = (10 : Int32) then (2 : Int32) else (0 : Int32)) ≤ 0 then (if inB (nI n) 6 = true then (if inB (nI n) 6 = true then (if inB (nI n) 6 = true then (if inB (nI n) 6 = true then ((f_X7_count fu ((va_up S (nI n).toNatClampNeg ((S (nI n).toNatClampNeg) ^^^ ((1 : Int64) <<< ((nI c).toInt64 &&& 63)))) (nI n).toNatClampNeg)).bind fun q25 => some (q25, (if q19 = (10 : Int32) then (2 : Int32) else (0 : Int32)), va_up S (nI n).toNatClampNeg ((S (nI n).toNatClampNeg) ^^^ ((1 : Int64) <<< ((nI c).toInt64 &&& 63))), va_up asm' (nI n).toNatClampNeg (0 : Int64))) else none) else none) else none) else none) else some ((0 : Int32), (if q19 = (10 : Int32) then (2 : Int32) else (0 : Int32)), S, asm'))) else none)))) else none))))) = some (nI (cnt (flp (S n) c)), (0 : Int32), va_up S n (flp (S n) c), va_up asm' n (0 : Int64)) := by
            rw [e2, Option.bind_some, if_neg (show ¬ bI true = 0 by decide), e4, Option.bind_some, e5, if_neg (by decide), if_pos ein, cl_n (by omega), has_ok (S n) hc, Option.bind_some, if_neg hbI, if_pos (show bI false = 0 from rfl), if_pos ein, if_pos ein, if_pos ein, if_pos ein]
            show (f_X7_count fu (va_up S n (flp (S n) c) n)).bind _ = _
            rw [vu_s, count_ok (by omega)]
            rfl
          rw [ex, ey]
          exact g
        | true =>
          have hbf : B (S n) c = false := by
            cases hh : B (S n) c
            · rfl
            · exact absurd hh hb
          have hcf := hfl.2 hbf
          have e10 : (10 : Int32) = nI 10 := rfl
          by_cases hten : cnt (S n) = 10
          · refine ise _ ?_ _ ?_
            · rw [e2, Option.bind_some, if_neg (show ¬ bI true = 0 by decide), e4, Option.bind_some, e5, if_neg (by decide), if_pos ein, cl_n (by omega), has_ok (S n) hc, Option.bind_some, if_neg hbI, if_neg (show ¬ bI true = 0 by decide), if_pos ein, count_ok (by omega), Option.bind_some, hten, if_pos (show nI 10 = 10 from rfl), if_neg (by decide)]
            · rw [e1]
              show xBd (f_X6_checkCell (nI c)) _ _ = _
              rw [e3]
              show (if inB (nI n) 6 = true then _ else _) = _
              rw [if_pos ein, if_pos ein, cl_n (by omega), hasCube_ok (S n) hc, Option.bind_some, if_neg hbI, if_neg (show ¬ bI true = 0 by decide), if_pos ein, ecc, Option.bind_some, hten, if_neg (by decide)]
          · have hcn : cnt (flp (S n) c) ≤ 10 := by omega
            have g := good hcn
            refine Ok.bind (P := fun z => z = ((Sum.inr (nI (cnt (flp (S n) c))) : String ⊕ Int32), va_up S n (flp (S n) c), va_up psk n 0, va_up ppk n 0, va_up asm n (0 : Int64))) (Ok.xr e1 (Ok.xr e3 ?_)) ?_
            · rw [cl_n (by omega)]
              refine Ok.pos ein (Ok.pos ein (Ok.bindE (hasCube_ok (S n) hc) (Ok.neg hbI (Ok.neg (by decide) (Ok.pos ein (Ok.bindE (ecc _) (Ok.pos (by rw [e10, lt_n (by omega) (by omega)]; omega) (Ok.pos ein (Ok.bindE ebit (Ok.pos ein (Ok.pos ein ?_)))))))))))
              show Ok ((f_X1_cubeCount (va_up S n (flp (S n) c) n)).bind _) _
              rw [vu_s, ecc]
              exact Ok.some rfl
            · rintro z rfl
              obtain ⟨a, ea, b, eb, hh⟩ := g
              refine ⟨a, ea, b, ?_, hh⟩
              rw [← eb, e2, Option.bind_some, if_neg (show ¬ bI true = 0 by decide), e4, Option.bind_some, e5, if_neg (by decide), if_pos ein, cl_n (by omega), has_ok (S n) hc, Option.bind_some, if_neg hbI, if_neg (show ¬ bI true = 0 by decide), if_pos ein, count_ok (by omega), Option.bind_some]
              have e11 : (if nI (cnt (S n)) = (10 : Int32) then (2 : Int32) else 0) = 0 := if_neg (by rw [e10, eq_n (by omega) (by omega)]; exact hten)
              rw [e11, if_pos (by decide), if_pos ein, if_pos ein, if_pos ein, if_pos ein]
              show (f_X7_count fu (va_up S n (flp (S n) c) n)).bind _ = _
              rw [vu_s, count_ok (by omega)]
              rfl
    · obtain ⟨e3, e4⟩ := cc_no hq
      refine iae _ ?_ _ ?_
      · rw [e2, Option.bind_some, if_neg (show ¬ bI true = 0 by decide), e4, Option.bind_some, if_pos (by decide)]
      · rw [e1]
        show xBd (f_X6_checkCell p1) _ _ = _
        rw [e3]
        rfl
  · obtain ⟨e1, e2⟩ := cp_no hp
    refine iae _ ?_ _ ?_
    · rw [e2, Option.bind_some, if_pos (by decide)]
    · rw [e1]
      rfl
