/-! plans of both -/
theorem look18_ok {asm : Nat → Int64} : ∀ k fu i sts blo bhi bem, 30 + k < fu → k + i = 6 → (∀ p, p < i → sts p = asm p ∧ BxF (asm p) (blo p) (bhi p)) → Ok (f_X5_look_18 asm fu (nI i) sts blo bhi bem) (fun q => ∀ p, p < 6 → q.1 p = asm p ∧ BxF (asm p) (q.2.1 p) (q.2.2.1 p)) := by
  intro k
  induction k with
  | zero =>
    intro fu i sts blo bhi bem hf hk h
    obtain ⟨w, rfl⟩ : ∃ w, fu = w + 1 := ⟨fu - 1, by omega⟩
    have : i = 6 := by omega
    subst this
    rw [f_X5_look_18]
    exact Ok.pos (by decide +kernel) (Ok.some h)
  | succ k ih =>
    intro fu i sts blo bhi bem hf hk h
    obtain ⟨w, rfl⟩ : ∃ w, fu = w + 1 := ⟨fu - 1, by omega⟩
    have hi : i < 6 := by omega
    rw [f_X5_look_18, show nI i + 1 = nI (i + 1) from nI_1 i, cl_n (by omega)]
    refine Ok.neg (nI_ge (b := 6) hi (by decide)) (Ok.pos (inB_n hi (by decide)) (Ok.pos (inB_n hi (by decide)) (Ok.pos (inB_n hi (by decide)) (Ok.pos (inB_n hi (by decide)) (Ok.pos (inB_n hi (by decide)) (Ok.bind (fit_ok (by omega) (asm i) (blo i) (bhi i)) ?_))))))
    intro q hq
    refine ih w (i + 1) _ _ _ _ (by omega) (by omega) (fun p hp => ?_)
    by_cases z : p = i
    · subst z; rw [vu_s, vu_s, vu_s]; exact ⟨rfl, hq⟩
    · rw [vu_n z, vu_n z, vu_n z]; exact h p (by omega)
theorem pl246_ok : ∀ k fu i stt, k < fu → k + i = 18 → (∀ j, j < i → stt j = 0) → Ok (f_X7_plan_246 fu (nI i) stt) (fun q => ∀ j, j < 18 → q j = 0) := by
  intro k
  induction k with
  | zero =>
    intro fu i stt hf hk h
    obtain ⟨w, rfl⟩ : ∃ w, fu = w + 1 := ⟨fu - 1, by omega⟩
    have : i = 18 := by omega
    subst this
    rw [f_X7_plan_246]
    exact Ok.pos (by decide +kernel) (Ok.some h)
  | succ k ih =>
    intro fu i stt hf hk h
    obtain ⟨w, rfl⟩ : ∃ w, fu = w + 1 := ⟨fu - 1, by omega⟩
    rw [f_X7_plan_246, show nI i + 1 = nI (i + 1) from nI_1 i, cl_n (by omega)]
    refine Ok.neg (nI_ge (b := 18) (by omega) (by decide)) (Ok.pos (inB_n (by omega) (by decide)) (ih w (i + 1) _ (by omega) (by omega) (fun j hj => ?_)))
    by_cases z : j = i
    · subst z; exact vu_s
    · rw [vu_n z]; exact h j (by omega)
/-- the reference's look, once its arguments are good -/
def rlook (fu : Nat) (asm : Nat → Int64) (cbs cub stt frm by' wrk oth mov : Nat → Int32) (P lim th : Int32) : Option RWE := (f_X7_plan_110 asm fu (0 : Int32) cbs cub).bind fun q123 => ((f_X7_plan_246 fu (0 : Int32) stt).bind fun q130 => (if inB (0 : Int32) 300 = true then (sumB (f_X7_plan_277 P lim th q123.1 q123.2 fu (0 : Int32) (1 : Int32) q130 (va_up frm (0 : Int32).toNatClampNeg (-1 : Int32)) by' wrk oth (0 : Int32) mov) id fun t259 => some ((-1 : Int32), th, q123.1, q123.2, t259.1, t259.2.1, t259.2.2.1, t259.2.2.2.1, t259.2.2.2.2.1, t259.2.2.2.2.2.1, t259.2.2.2.2.2.2.1, t259.2.2.2.2.2.2.2)) else none))
theorem look_ok {fu : Nat} (hf : 100000 ≤ fu) {asm asm' : Nat → Int64} (hasm : ∀ p, p < 6 → asm p = asm' p) (hc : ∀ p, p < 6 → cnt (asm p) ≤ 10) {P lim : Nat} (hP : P < 64) (hP0 : P ≠ 0) (hl1 : 1 ≤ lim) (hl : lim ≤ 300) (hA : ∀ p, p < 6 → P.testBit p = true → asm p ≠ 0) (at' pa mo le hd nt : Nat → Int32) (sts6 : Nat → Int64) (blo bhi : Nat → Nat → Int32) (bem glo ghi : Nat → Int32) (gem : Int32) (rlo rhi : Nat → Int32) (rem : Int32) (rom fnd : Nat → Int32) (cbs cub stt frm by' wrk oth mov : Nat → Int32) (th : Int32) : Ok2 (f_X5_look fu at' pa mo le hd nt sts6 blo bhi bem glo ghi gem rlo rhi rem rom fnd asm (nI P) (nI lim)) (rlook fu asm' cbs cub stt frm by' wrk oth mov (nI P) (nI lim) th) (fun a b => a.1 = b.1 ∧ b.2.1 = th ∧ a.2.2.2.2.2.2.2.1 = b.2.2.2.2.1 ∧ Fin a.2.2.2.2.2.2.2.2.2.2.2.2.2.2.2.2.2.2.2.1 a.2.2.2.2.2.2.2.2.2.2.2.2.2.2.2.2.2.2.2.2.1 b.2.2.2.2.2.2.2.2.2.2.2 b.2.2.2.2.2.2.2.2.2.2.1) := by
  unfold f_X5_look rlook
  refine Ok2.L (look18_ok 6 fu 0 sts6 blo bhi bem (by omega) (by omega) (fun p hp => absurd hp (by omega))) ?_
  rintro ⟨A, blo', bhi', bem'⟩ hq
  replace hq : ∀ p, p < 6 → A p = asm p ∧ BxF (asm p) (blo' p) (bhi' p) := hq
  refine Ok2.L (start_ok (by omega) at' pa mo le hd nt) ?_
  rintro ⟨a1, a2, a3, a4, a5, a6, a7⟩ ⟨s1, s2, s3, s4, s5⟩
  replace s5 : a7 = nI 1 := s5
  subst s5
  have hc' : ∀ p, p < 6 → cnt (asm' p) ≤ 10 := fun p hp => by rw [← hasm p hp]; exact hc p hp
  refine Ok2.R (pl110_ok hc' 6 fu 0 cbs cub (by omega) (by omega) (fun p hp => absurd hp (by omega))) ?_
  rintro ⟨cbs', cub'⟩ hC
  have hCA : CubOK A cbs' cub' := by
    intro p hp
    rw [(hq p hp).1, hasm p hp]
    exact hC p hp
  refine Ok2.R (pl246_ok 18 fu 0 stt (by omega) (by omega) (fun j hj => absurd hj (by omega))) ?_
  intro stt' hst
  refine Ok2.posR (by decide) ?_
  have hAA : ∀ p, p < 6 → P.testBit p = true → A p ≠ 0 := fun p hp z => by rw [(hq p hp).1]; exact hA p hp z
  have hx : ∀ p, p < 6 → BxF (A p) (blo' p) (bhi' p) := fun p hp => by rw [(hq p hp).1]; exact (hq p hp).2
  have hBK : BK A P lim 1 (fun _ _ _ => 0) (fun _ => 0) (fun _ => 0) a1 a2 a3 a4 a5 a6 stt' (va_up frm (0 : Int32).toNatClampNeg (-1 : Int32)) by' := by
    refine ⟨⟨Nat.le_refl _, hl1⟩, fun t ht => ?_, s4, fun t ht => ?_, ⟨rfl, s3, vu_s⟩, fun t h0 ht => absurd ht (by omega), fun t ht => ⟨fun p hp a ha => ⟨show (-1000 : Int) ≤ 0 by decide, show (0 : Int) ≤ 1000 by decide⟩, fun p hp _ a ha => rfl⟩, rfl, fun t h0 ht => absurd ht (by omega)⟩
    · have : t = 0 := by omega
      subst this
      exact s1
    · have : t = 0 := by omega
      subst this
      intro p hp a ha
      rw [hst _ (by omega)]
      unfold nrm
      split <;> rfl
  obtain ⟨a, b, ea, eb, hab⟩ := states_ok hP hP0 hl hAA hCA (bem := bem') hx (th := th) (fnd := fnd) (mov := mov) (fc := 0) (mvs := 0) ⟨0, by omega, rfl, rfl, fun k hk => absurd hk (by omega)⟩ 300 fu 0 1 _ _ _ a1 a2 a3 a4 a5 a6 glo ghi gem rlo rhi rem rom stt' _ by' wrk oth (by omega) (by omega) (by omega) hBK (fun s' hs' => absurd hs' (by omega))
  have ea2 : f_X5_look_66 A blo' bhi' bem' (nI P) (nI lim) fu (0 : Int32) a1 a2 a3 a4 a5 a6 (nI 1) glo ghi gem rlo rhi rem rom fnd (0 : Int32) = some a := ea
  have eb2 : f_X7_plan_277 (nI P) (nI lim) th cbs' cub' fu (0 : Int32) (1 : Int32) stt' (va_up frm (0 : Int32).toNatClampNeg (-1 : Int32)) by' wrk oth (0 : Int32) mov = some b := eb
  show Ok2 (sumB (f_X5_look_66 A blo' bhi' bem' (nI P) (nI lim) fu (0 : Int32) a1 a2 a3 a4 a5 a6 (nI 1) glo ghi gem rlo rhi rem rom fnd (0 : Int32)) id _) (sumB (f_X7_plan_277 (nI P) (nI lim) th cbs' cub' fu (0 : Int32) (1 : Int32) stt' (va_up frm (0 : Int32).toNatClampNeg (-1 : Int32)) by' wrk oth (0 : Int32) mov) id _) _
  rw [ea2, eb2]
  cases a with
  | inl a =>
    cases b with
    | inl b => exact ⟨a, b, rfl, rfl, hab.1.1, hab.2, hab.1.2.2.1, hab.1.2.2.2⟩
    | inr b => exact absurd hab (fun z => z)
  | inr a =>
    cases b with
    | inl b => exact absurd hab (fun z => z)
    | inr b => exact ⟨_, _, rfl, rfl, rfl, rfl, hab.1, hab.2⟩
/-- what is asked of a plan's arguments -/
theorem asm4_ok {asm : Nat → Int64} : ∀ k fu i M, k < fu → k + i = 6 → M < 2 ^ i → (∀ p, p < i → (M.testBit p = true ↔ asm p ≠ 0)) → Ok (f_X6_assembledPieces_4 asm fu (nI M) (nI i)) (fun q => ∃ M, q = nI M ∧ M < 64 ∧ ∀ p, p < 6 → (M.testBit p = true ↔ asm p ≠ 0)) := by
  intro k
  induction k with
  | zero =>
    intro fu i M hf hk hM h
    obtain ⟨w, rfl⟩ : ∃ w, fu = w + 1 := ⟨fu - 1, by omega⟩
    have : i = 6 := by omega
    subst this
    rw [f_X6_assembledPieces_4]
    exact Ok.pos (by decide +kernel) (Ok.some ⟨M, rfl, hM, h⟩)
  | succ k ih =>
    intro fu i M hf hk hM h
    obtain ⟨w, rfl⟩ : ∃ w, fu = w + 1 := ⟨fu - 1, by omega⟩
    have hi : i < 6 := by omega
    have hM64 : M < 64 := Nat.lt_of_lt_of_le hM (msk_lt i (by omega))
    obtain ⟨m1, m2, m3⟩ := msk_i i hi M hM64 hM
    rw [f_X6_assembledPieces_4, show nI i + 1 = nI (i + 1) from nI_1 i, m1, cl_n (by omega)]
    refine Ok.neg (nI_ge (b := 6) hi (by decide)) (Ok.pos (inB_n hi (by decide)) (Ok.ite (fun z => ?_) (fun z => ?_)))
    · refine ih w (i + 1) M (by omega) (by omega) m3 (fun p hp => ?_)
      by_cases y : p = i
      · subst y
        rw [(msk_b p hi M hM64 p hi hM).2]
        exact ⟨fun x => (by cases x), fun x => absurd z x⟩
      · exact h p (by omega)
    · refine ih w (i + 1) (M + 2 ^ i) (by omega) (by omega) m2 (fun p hp => ?_)
      rw [(msk_b i hi M hM64 p (by omega) hM).1]
      by_cases y : p = i
      · subst y
        simp [z]
      · rw [decide_eq_false y, Bool.or_false]
        exact h p (by omega)
theorem pln33_ok {asm : Nat → Int64} {P : Nat} (hP : P < 64) : ∀ k fu i, k < fu → k + i = 6 → (∀ p, p < i → P.testBit p = true → asm p ≠ 0) → Ok (f_X7_plan_33 (nI P) asm fu 1 (nI (cntN P i)) (nI i)) (fun q => (q.1 = 1 ∧ q.2 = nI (pc P) ∧ ∀ p, p < 6 → P.testBit p = true → asm p ≠ 0) ∨ (q.1 = 0 ∧ ¬ ∀ p, p < 6 → P.testBit p = true → asm p ≠ 0)) := by
  intro k
  induction k with
  | zero =>
    intro fu i hf hk h
    obtain ⟨w, rfl⟩ : ∃ w, fu = w + 1 := ⟨fu - 1, by omega⟩
    have : i = 6 := by omega
    subst this
    rw [f_X7_plan_33]
    exact Ok.pos (by decide +kernel) (Ok.some (Or.inl ⟨rfl, rfl, h⟩))
  | succ k ih =>
    intro fu i hf hk h
    obtain ⟨w, rfl⟩ : ∃ w, fu = w + 1 := ⟨fu - 1, by omega⟩
    have hi : i < 6 := by omega
    have hcs := cntN_s P i
    rw [f_X7_plan_33, show nI i + 1 = nI (i + 1) from nI_1 i, show nI (cntN P i) + 1 = nI (cntN P i + 1) from nI_1 _, cl_n (by omega)]
    refine Ok.neg (nI_ge (b := 6) hi (by decide)) (Ok.neg (by decide) (Ok.ite (fun z => ?_) (fun z => ?_)))
    · rw [bit1 P hP i hi] at z
      rw [z] at hcs
      have e : cntN P i = cntN P (i + 1) := by rw [hcs]; rfl
      rw [e]
      refine ih w (i + 1) (by omega) (by omega) (fun p hp hb => ?_)
      by_cases y : p = i
      · subst y; rw [z] at hb; cases hb
      · exact h p (by omega) hb
    · rw [bit1 P hP i hi, Bool.not_eq_false] at z
      rw [z] at hcs
      have e : cntN P i + 1 = cntN P (i + 1) := by rw [hcs]; rfl
      rw [e]
      refine Ok.pos (inB_n hi (by decide)) ?_
      by_cases y : asm i = 0
      · rw [if_pos y]
        obtain ⟨w2, rfl⟩ : ∃ w2, w = w2 + 1 := ⟨w - 1, by omega⟩
        rw [f_X7_plan_33]
        refine Ok.ite (fun _ => Ok.some (Or.inr ⟨rfl, fun x => x i hi z y⟩)) (fun _ => Ok.pos rfl (Ok.some (Or.inr ⟨rfl, fun x => x i hi z y⟩)))
      · rw [if_neg y]
        refine ih w (i + 1) (by omega) (by omega) (fun p hp hb => ?_)
        by_cases x : p = i
        · subst x; exact y
        · exact h p (by omega) hb
theorem pln33_0 {asm : Nat → Int64} {fu : Nat} (hf : 2 ≤ fu) (x : Int32) : f_X7_plan_33 x asm fu 0 0 0 = some (0, 0) := by
  obtain ⟨w, rfl⟩ : ∃ w, fu = w + 1 := ⟨fu - 1, by omega⟩
  rw [f_X7_plan_33, if_neg (by decide), if_pos rfl]
theorem and_msk (x : Int32) {M : Nat} (hM : M < 64) (h : x &&& (nI M ^^^ (-1 : Int32)) = 0) : ∃ k, k < 64 ∧ x = nI k := by
  have h1 : x = x &&& nI M := by
    apply Int32.toBitVec_inj.1
    have h2 : x.toBitVec &&& ((nI M).toBitVec ^^^ (-1 : Int32).toBitVec) = 0#32 := congrArg Int32.toBitVec h
    show x.toBitVec = x.toBitVec &&& (nI M).toBitVec
    have h3 : (-1 : Int32).toBitVec = BitVec.allOnes 32 := by decide
    rw [h3, BitVec.xor_allOnes] at h2
    generalize x.toBitVec = u at *
    generalize (nI M).toBitVec = v at *
    apply BitVec.eq_of_getLsbD_eq
    intro i hi
    have h4 := congrArg (fun z => z.getLsbD i) h2
    simp only [BitVec.getLsbD_and, BitVec.getLsbD_not, hi, decide_true, Bool.true_and] at h4
    rw [BitVec.getLsbD_and]
    cases hu : u.getLsbD i <;> cases hv : v.getLsbD i
    · rfl
    · rfl
    · rw [hu, hv] at h4; simp at h4
    · rfl
  refine ⟨(x &&& nI M).toBitVec.toNat, ?_, ?_⟩
  · have e : (x &&& nI M).toBitVec = x.toBitVec &&& BitVec.ofNat 32 M := rfl
    rw [e, BitVec.toNat_and, BitVec.toNat_ofNat, Nat.mod_eq_of_lt (by omega)]
    exact Nat.lt_of_le_of_lt Nat.and_le_right hM
  · rw [← h1]
    apply Int32.toBitVec_inj.1
    show _ = BitVec.ofNat 32 _
    rw [BitVec.ofNat_toNat, BitVec.setWidth_eq]
theorem bc6 : ∀ P, P < 64 → f_J6_bitCount_0f7a4 (nI P) = some (nI (pc P)) := by decide +kernel
/-- both plans, called alike -/
theorem lplan_ok {fu : Nat} (hf : 100000 ≤ fu) {asm asm' : Nat → Int64} (hasm : ∀ p, p < 6 → asm p = asm' p) (hc : ∀ p, p < 6 → cnt (asm p) ≤ 10) (at' pa mo le hd nt : Nat → Int32) (ct : Int32) (sts6 : Nat → Int64) (blo bhi : Nat → Nat → Int32) (bem glo ghi : Nat → Int32) (gem : Int32) (rlo rhi : Nat → Int32) (rem : Int32) (rom fnd : Nat → Int32) (fc prt lim : Int32) (out : Nat → Int64) (cbs cub : Nat → Int32) (sts : Int32) (stt frm by' wrk oth : Nat → Int32) (mvs : Int32) (mov : Nat → Int32) (h1 : ct = sts) (h2 : Fin fnd fc mov mvs) (p0 p1 : Int32) : Ok (f_L_plan fu asm at' pa mo le hd nt ct sts6 blo bhi bem glo ghi gem rlo rhi rem rom fnd fc prt lim out p0 p1) (fun a => Ok (f_X7_plan fu asm' cbs cub sts stt frm by' wrk oth mvs mov p0 p1) (fun b => b.2.1 = a.1 ∧ (a.1 = 0 → a.2.2.2.2.2.2.2.2.2.2.2.2.2.2.2.2.2.2.2.2.2.2.2 0 = b.1.toInt64) ∧ a.2.2.2.2.2.2.2.1 = b.2.2.2.2.1 ∧ Fin a.2.2.2.2.2.2.2.2.2.2.2.2.2.2.2.2.2.2.2.1 a.2.2.2.2.2.2.2.2.2.2.2.2.2.2.2.2.2.2.2.2.1 b.2.2.2.2.2.2.2.2.2.2.2 b.2.2.2.2.2.2.2.2.2.2.1)) := by
  unfold f_L_plan f_X6_plan f_X6_assembledPieces f_X7_plan
  obtain ⟨_, eM, M, rfl, hM, hMb⟩ := asm4_ok (asm := asm) 6 fu 0 0 (by omega) (by omega) (by decide) (fun p hp => absurd hp (by omega))
  have eM2 : (f_X6_assembledPieces_4 asm fu (0 : Int32) (0 : Int32)).bind (fun q10 => some q10) = some (nI M) := by
    rw [show (0 : Int32) = nI 0 from rfl, eM]
    rfl
  have sy0 : ∀ b : Bool, f_X7_says (if bI b = 0 then (0 : Int32) else 1) = some (bI b, bI (!b)) := by decide +kernel
  -- the class refuses, and the reference too
  have no : ∀ (x : Option ((String ⊕ Int32) × (Nat → Int32) × (Nat → Int32) × (Nat → Int32) × (Nat → Int32) × (Nat → Int32) × (Nat → Int32) × Int32 × (Nat → Int64) × (Nat → Nat → Int32) × (Nat → Nat → Int32) × (Nat → Int32) × (Nat → Int32) × (Nat → Int32) × Int32 × (Nat → Int32) × (Nat → Int32) × Int32 × (Nat → Int32) × (Nat → Int32) × Int32 × Int32 × Int32)) (y : Option RWE), x = some (Sum.inl x_IAE, at', pa, mo, le, hd, nt, ct, sts6, blo, bhi, bem, glo, ghi, gem, rlo, rhi, rem, rom, fnd, fc, prt, lim) → y = some ((0 : Int32), 1, cbs, cub, sts, stt, frm, by', wrk, oth, mvs, mov) → Ok (x.bind fun q1 => xSel x_IAE "" q1.1 (some ((1 : Int32), q1.2.1, q1.2.2.1, q1.2.2.2.1, q1.2.2.2.2.1, q1.2.2.2.2.2.1, q1.2.2.2.2.2.2.1, q1.2.2.2.2.2.2.2.1, q1.2.2.2.2.2.2.2.2.1, q1.2.2.2.2.2.2.2.2.2.1, q1.2.2.2.2.2.2.2.2.2.2.1, q1.2.2.2.2.2.2.2.2.2.2.2.1, q1.2.2.2.2.2.2.2.2.2.2.2.2.1, q1.2.2.2.2.2.2.2.2.2.2.2.2.2.1, q1.2.2.2.2.2.2.2.2.2.2.2.2.2.2.1, q1.2.2.2.2.2.2.2.2.2.2.2.2.2.2.2.1, q1.2.2.2.2.2.2.2.2.2.2.2.2.2.2.2.2.1, q1.2.2.2.2.2.2.2.2.2.2.2.2.2.2.2.2.2.1, q1.2.2.2.2.2.2.2.2.2.2.2.2.2.2.2.2.2.2.1, q1.2.2.2.2.2.2.2.2.2.2.2.2.2.2.2.2.2.2.2.1, q1.2.2.2.2.2.2.2.2.2.2.2.2.2.2.2.2.2.2.2.2.1, q1.2.2.2.2.2.2.2.2.2.2.2.2.2.2.2.2.2.2.2.2.2.1, q1.2.2.2.2.2.2.2.2.2.2.2.2.2.2.2.2.2.2.2.2.2.2, out)) none (fun v2 => (if inB (0 : Int32) 1 = true then some ((0 : Int32), q1.2.1, q1.2.2.1, q1.2.2.2.1, q1.2.2.2.2.1, q1.2.2.2.2.2.1, q1.2.2.2.2.2.2.1, q1.2.2.2.2.2.2.2.1, q1.2.2.2.2.2.2.2.2.1, q1.2.2.2.2.2.2.2.2.2.1, q1.2.2.2.2.2.2.2.2.2.2.1, q1.2.2.2.2.2.2.2.2.2.2.2.1, q1.2.2.2.2.2.2.2.2.2.2.2.2.1, q1.2.2.2.2.2.2.2.2.2.2.2.2.2.1, q1.2.2.2.2.2.2.2.2.2.2.2.2.2.2.1, q1.2.2.2.2.2.2.2.2.2.2.2.2.2.2.2.1, q1.2.2.2.2.2.2.2.2.2.2.2.2.2.2.2.2.1, q1.2.2.2.2.2.2.2.2.2.2.2.2.2.2.2.2.2.1, q1.2.2.2.2.2.2.2.2.2.2.2.2.2.2.2.2.2.2.1, q1.2.2.2.2.2.2.2.2.2.2.2.2.2.2.2.2.2.2.2.1, q1.2.2.2.2.2.2.2.2.2.2.2.2.2.2.2.2.2.2.2.2.1, q1.2.2.2.2.2.2.2.2.2.2.2.2.2.2.2.2.2.2.2.2.2.1, q1.2.2.2.2.2.2.2.2.2.2.2.2.2.2.2.2.2.2.2.2.2.2, va_up out (0 : Int32).toNatClampNeg v2.toInt64) else none))) (fun a => Ok y (fun b => b.2.1 = a.1 ∧ (a.1 = 0 → a.2.2.2.2.2.2.2.2.2.2.2.2.2.2.2.2.2.2.2.2.2.2.2 0 = b.1.toInt64) ∧ a.2.2.2.2.2.2.2.1 = b.2.2.2.2.1 ∧ Fin a.2.2.2.2.2.2.2.2.2.2.2.2.2.2.2.2.2.2.2.1 a.2.2.2.2.2.2.2.2.2.2.2.2.2.2.2.2.2.2.2.2.1 b.2.2.2.2.2.2.2.2.2.2.2 b.2.2.2.2.2.2.2.2.2.2.1)) := by
    rintro x y rfl rfl
    exact Ok.bindE rfl (Ok.sel1 rfl (Ok.some (Ok.some ⟨rfl, fun q => absurd q ne10, h1, h2⟩)))
  have sayN : f_X7_says (0 : Int32) = some (0, 1) := by decide +kernel
  rw [eM2]
  by_cases hin : (!decide (p0 < 0) && !decide (63 < p0)) = true
  · have hin2 : f_X7_in p0 0 63 = some (bI true) := by rw [in_ok, hin]
    obtain ⟨g1, g2⟩ := rng_lt.1 hin
    obtain ⟨P, hP, e⟩ := to_n g1
    subst e
    replace g2 : nI P ≤ nI 63 := g2
    rw [le_n hP (by decide)] at g2
    have hP : P < 64 := by omega
    have hsub := sub_g M hM P hP
    rw [hin2]
    by_cases hlim : (!decide (p1 < 1) && !decide (300 < p1)) = true
    · have hl2 : f_X7_in p1 1 300 = some (bI true) := by rw [in_ok, hlim]
      obtain ⟨k1, k2⟩ := rng_lt.1 hlim
      obtain ⟨L, hL, e⟩ := to_n (x := p1) (fun q => k1 (Int32.lt_trans q (by decide)))
      subst e
      have k3 : 1 ≤ L ∧ L ≤ 300 := by
        replace k1 : ¬ nI L < nI 1 := k1
        replace k2 : nI L ≤ nI 300 := k2
        rw [lt_n hL (by decide)] at k1
        rw [le_n hL (by decide)] at k2
        omega
      rw [hl2]
      obtain ⟨q, eq, hq⟩ := pln33_ok (asm := asm') hP 6 fu 0 (by omega) (by omega) (fun p hp => absurd hp (by omega))
      have eq2 : f_X7_plan_33 (nI P) asm' fu (if bI true = 0 then (0 : Int32) else 1) (0 : Int32) (0 : Int32) = some q := eq
      rcases hq with ⟨q1, q2, q3⟩ | ⟨q1, q3⟩
      · have hs : nI P &&& (nI M ^^^ (-1 : Int32)) = 0 := hsub.2 (subB_t.2 (fun p hp z => (hMb p hp).2 (by rw [hasm p hp]; exact q3 p hp z)))
        have hpc := pc_6 P hP
        by_cases h2p : 2 ≤ pc P
        · have hP0 : P ≠ 0 := by
            rintro rfl
            have : pc 0 = 0 := by decide
            omega
          obtain ⟨a, b, ea, eb, r1, r2, r3, r4⟩ := look_ok (fu := fu) (by omega) hasm hc hP hP0 k3.1 k3.2 (fun p hp z => by rw [hasm p hp]; exact q3 p hp z) at' pa mo le hd nt sts6 blo bhi bem glo ghi gem rlo rhi rem rom fnd cbs cub stt frm by' wrk oth mov 0
          refine Ok.bind (P := fun z => z.1 = Sum.inr a.1 ∧ z.2.2.2.2.2.2.2.1 = a.2.2.2.2.2.2.2.1 ∧ z.2.2.2.2.2.2.2.2.2.2.2.2.2.2.2.2.2.2.2.1 = a.2.2.2.2.2.2.2.2.2.2.2.2.2.2.2.2.2.2.2.1 ∧ z.2.2.2.2.2.2.2.2.2.2.2.2.2.2.2.2.2.2.2.2.1 = a.2.2.2.2.2.2.2.2.2.2.2.2.2.2.2.2.2.2.2.2.1) (Ok.bindE rfl (Ok.pos hs (Ok.bindE (bc6 P hP) (Ok.pos (by show nI 2 ≤ nI (pc P); rw [le_n (by omega) (by omega)]; exact h2p) (Ok.neg k1 (Ok.pos k2 (Ok.bindE ea (Ok.some ⟨rfl, rfl, rfl, rfl⟩)))))))) ?_
          rintro z ⟨z1, z2, z3, z4⟩
          refine Ok.sel0 z1 (Ok.pos (by decide) (Ok.some ?_))
          refine Ok.bindE rfl (Ok.neg (by decide) (Ok.bindE rfl (Ok.bindE eq2 ?_)))
          have e5 : (if q.1 = 0 then (0 : Int32) else (if q.2 ≤ (1 : Int32) then (0 : Int32) else (1 : Int32))) = bI true := by
            rw [q1, if_neg (by decide), q2, if_neg (by show ¬ nI (pc P) ≤ nI 1; rw [le_n (by omega) (by omega)]; omega)]
            rfl
          rw [e5]
          refine Ok.bindE (says_ok true) (Ok.neg (by decide) ?_)
          refine ⟨b, eb, r2, fun _ => ?_, ?_, ?_⟩
          · show a.1.toInt64 = b.1.toInt64
            rw [r1]
          · exact z2.trans r3
          · show Fin z.2.2.2.2.2.2.2.2.2.2.2.2.2.2.2.2.2.2.2.1 z.2.2.2.2.2.2.2.2.2.2.2.2.2.2.2.2.2.2.2.2.1 _ _
            rw [z3, z4]
            exact r4
        · refine no _ _ ?_ ?_
          · rw [Option.bind_some, if_pos hs, bc6 P hP, Option.bind_some, if_neg (by show ¬ nI 2 ≤ nI (pc P); rw [le_n (by omega) (by omega)]; exact h2p)]
          · rw [Option.bind_some, if_neg (show ¬ bI true = 0 by decide), Option.bind_some, eq2, Option.bind_some, q1, if_neg (show ¬ (1 : Int32) = 0 by decide), q2, if_pos (by show nI (pc P) ≤ nI 1; rw [le_n (by omega) (by omega)]; omega), sayN, Option.bind_some, if_pos rfl]
      · have hs : ¬ nI P &&& (nI M ^^^ (-1 : Int32)) = 0 := fun z => q3 (fun p hp y => by rw [← hasm p hp]; exact (hMb p hp).1 (subB_t.1 (hsub.1 z) p hp y))
        refine no _ _ ?_ ?_
        · rw [Option.bind_some, if_neg hs]
        · rw [Option.bind_some, if_neg (show ¬ bI true = 0 by decide), Option.bind_some, eq2, Option.bind_some, q1, if_pos rfl, sayN, Option.bind_some, if_pos rfl]
    · have hl' : (!decide (p1 < 1) && !decide (300 < p1)) = false := by
        cases hh : (!decide (p1 < 1) && !decide (300 < p1))
        · rfl
        · exact absurd hh hlim
      have hl2 : f_X7_in p1 1 300 = some (bI false) := by rw [in_ok, hl']
      rw [hl2]
      refine no _ _ ?_ ?_
      · rw [Option.bind_some]
        by_cases hs : nI P &&& (nI M ^^^ (-1 : Int32)) = 0
        · rw [if_pos hs, bc6 P hP, Option.bind_some]
          by_cases h2p : (2 : Int32) ≤ nI (pc P)
          · rw [if_pos h2p]
            by_cases k1 : p1 < 1
            · rw [if_pos k1]
            · rw [if_neg k1, if_neg (fun q => hlim (rng_lt.2 ⟨k1, q⟩))]
          · rw [if_neg h2p]
        · rw [if_neg hs]
      · rw [Option.bind_some, if_neg (show ¬ bI true = 0 by decide), Option.bind_some, if_pos (show bI false = 0 by decide), pln33_0 (by omega), Option.bind_some, if_pos rfl, sayN, Option.bind_some, if_pos rfl]
  · have hin' : (!decide (p0 < 0) && !decide (63 < p0)) = false := by
      cases hh : (!decide (p0 < 0) && !decide (63 < p0))
      · rfl
      · exact absurd hh hin
    have hin2 : f_X7_in p0 0 63 = some (bI false) := by rw [in_ok, hin']
    have hs : ¬ p0 &&& (nI M ^^^ (-1 : Int32)) = 0 := by
      intro z
      obtain ⟨k, hk, e⟩ := and_msk p0 hM z
      subst e
      refine hin (rng_lt.2 ⟨nI_pos (by omega), ?_⟩)
      show nI k ≤ nI 63
      rw [le_n (by omega) (by omega)]
      omega
    rw [hin2]
    refine no _ _ ?_ ?_
    · rw [Option.bind_some, if_neg hs]
    · rw [Option.bind_some, if_pos (show bI false = 0 by decide), pln33_0 (by omega), Option.bind_some, if_pos rfl, sayN, Option.bind_some, if_pos rfl]
