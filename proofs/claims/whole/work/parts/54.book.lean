/-! the book of states -/
theorem and511 (x : Int32) : ∃ k, k < 512 ∧ x &&& 511 = nI k := by
  refine ⟨(x &&& 511).toBitVec.toNat, ?_, ?_⟩
  · have : (x &&& 511).toBitVec = x.toBitVec &&& 511#32 := rfl
    rw [this, BitVec.toNat_and]
    exact Nat.lt_of_le_of_lt Nat.and_le_right (by decide)
  · apply Int32.toBitVec_inj.1
    show _ = BitVec.ofNat 32 _
    rw [BitVec.ofNat_toNat, BitVec.setWidth_eq]
def hsh (r : Nat → Int32) : Nat → Int32
  | 0 => 0
  | i + 1 => hsh r i * 31 + r i
def hashI (r : Nat → Int32) : Int32 := (hsh r 18 ^^^ (((hsh r 18).toUInt32 >>> ((9 : Int32).toUInt32 &&& Int32.toUInt32 31)).toInt32)) &&& (511 : Int32)
def hashR (r : Nat → Int32) : Nat := (hashI r).toNatClampNeg
theorem hashR_ok (r : Nat → Int32) : hashI r = nI (hashR r) ∧ hashR r < 512 := by
  obtain ⟨k, hk, e⟩ := and511 (hsh r 18 ^^^ (((hsh r 18).toUInt32 >>> ((9 : Int32).toUInt32 &&& Int32.toUInt32 31)).toInt32))
  have e2 : hashI r = nI k := e
  have e3 : hashR r = k := by unfold hashR; rw [e2, cl_n (by omega)]
  rw [e2, e3]
  exact ⟨rfl, hk⟩
theorem hsh_congr {r r' : Nat → Int32} : ∀ i, (∀ j, j < i → r j = r' j) → hsh r i = hsh r' i := by
  intro i
  induction i with
  | zero => intro _; rfl
  | succ i ih =>
    intro h
    unfold hsh
    rw [ih (fun j hj => h j (by omega)), h i (by omega)]
theorem hashR_congr {r r' : Nat → Int32} (h : ∀ j, j < 18 → r j = r' j) : hashR r = hashR r' := by
  unfold hashR hashI
  rw [hsh_congr 18 h]
def rw18 (at' : Nat → Int32) (t : Nat) : Nat → Int32 := fun i => at' (t * 18 + i)
theorem ix_18 (t i : Nat) : nI t * 18 + nI i = nI (t * 18 + i) := by
  rw [show (18 : Int32) = nI 18 from rfl, pk_mul, nI_add]
theorem hash_ok {fu ct : Nat} (hf : 30 ≤ fu) (hc : ct ≤ 300) (at' : Nat → Int32) : f_X4_hashOfDraft fu at' (nI ct) = some (nI (hashR (rw18 at' ct))) := by
  have loop : ∀ k fu i, k < fu → k + i = 18 → f_X4_hashOfDraft_4 at' (nI ct) fu (hsh (rw18 at' ct) i) (nI i) = some (hsh (rw18 at' ct) 18) := by
    intro k
    induction k with
    | zero =>
      intro fu i hf hk
      obtain ⟨w, rfl⟩ : ∃ w, fu = w + 1 := ⟨fu - 1, by omega⟩
      have : i = 18 := by omega
      subst this
      rw [f_X4_hashOfDraft_4, if_pos (by decide +kernel)]
    | succ k ih =>
      intro fu i hf hk
      obtain ⟨w, rfl⟩ : ∃ w, fu = w + 1 := ⟨fu - 1, by omega⟩
      rw [f_X4_hashOfDraft_4, if_neg (show ¬ (18 : Int32) ≤ nI i from nI_ge (b := 18) (by omega) (by decide)), ix_18, if_pos (inB_n (by omega) (by decide)), cl_n (by omega), show nI i + 1 = nI (i + 1) from nI_1 i]
      exact ih w (i + 1) (by omega) (by omega)
  unfold f_X4_hashOfDraft
  rw [show (0 : Int32) = nI 0 from rfl]
  have := loop 18 fu 0 (by omega) (by omega)
  rw [show hsh (rw18 at' ct) 0 = nI 0 from rfl] at this
  rw [this]
  show some (hashI (rw18 at' ct)) = _
  rw [(hashR_ok _).1]
theorem isDraft_ok {fu ct t : Nat} (hf : 30 ≤ fu) (hc : ct ≤ 300) (ht : t ≤ 300) (at' : Nat → Int32) : Ok (f_X4_isDraft fu at' (nI ct) (nI t)) (fun r => (r = 1 ∧ ∀ i, i < 18 → at' (t * 18 + i) = at' (ct * 18 + i)) ∨ (r = 0 ∧ ¬ ∀ i, i < 18 → at' (t * 18 + i) = at' (ct * 18 + i))) := by
  have loop : ∀ k fu i, k < fu → k + i = 18 → (∀ j, j < i → at' (t * 18 + j) = at' (ct * 18 + j)) → Ok (f_X4_isDraft_2 (nI t) at' (nI ct) fu (nI i)) (fun r => match r with | .inl z => z = 0 ∧ ¬ ∀ i, i < 18 → at' (t * 18 + i) = at' (ct * 18 + i) | .inr _ => ∀ i, i < 18 → at' (t * 18 + i) = at' (ct * 18 + i)) := by
    intro k
    induction k with
    | zero =>
      intro fu i hf hk h
      obtain ⟨w, rfl⟩ : ∃ w, fu = w + 1 := ⟨fu - 1, by omega⟩
      have : i = 18 := by omega
      subst this
      rw [f_X4_isDraft_2]
      exact Ok.pos (by decide +kernel) (Ok.some h)
    | succ k ih =>
      intro fu i hf hk h
      obtain ⟨w, rfl⟩ : ∃ w, fu = w + 1 := ⟨fu - 1, by omega⟩
      rw [f_X4_isDraft_2, ix_18, ix_18, cl_n (by omega), cl_n (by omega), show nI i + 1 = nI (i + 1) from nI_1 i]
      refine Ok.neg (nI_ge (b := 18) (by omega) (by decide)) (Ok.pos (inB_n (by omega) (by decide)) (Ok.pos (inB_n (by omega) (by decide)) (Ok.ite (fun z => ?_) (fun z => ?_))))
      · refine ih w (i + 1) (by omega) (by omega) (fun j hj => ?_)
        by_cases y : j = i
        · subst y; exact z
        · exact h j (by omega)
      · exact Ok.some ⟨rfl, fun y => z (y i (by omega))⟩
  unfold f_X4_isDraft
  refine Ok.sumB (Ok.mono (loop 18 fu 0 (by omega) (by omega) (fun j hj => absurd hj (by omega))) ?_)
  intro r hr
  cases r with
  | inl z => exact Or.inr hr
  | inr z => exact Ok.some (Or.inl ⟨rfl, hr⟩)
/-- the chains of states of one hash -/
def hr (at' : Nat → Int32) (t : Nat) : Nat := hashR (rw18 at' t)
def Hk (at' : Nat → Int32) (x : Int32) (b h : Nat) : Prop := (x = -1 ∧ ∀ t, t < b → hr at' t ≠ h) ∨ (∃ t, t < b ∧ x = nI t ∧ hr at' t = h ∧ ∀ t', t < t' → t' < b → hr at' t' ≠ h)
def ChOK (at' hd nt : Nat → Int32) (n : Nat) : Prop := (∀ h, h < 512 → Hk at' (hd h) n h) ∧ ∀ t, t < n → Hk at' (nt t) t (hr at' t)
theorem hr_congr {at' at2 : Nat → Int32} {t : Nat} (h : ∀ i, i < 18 → at2 (t * 18 + i) = at' (t * 18 + i)) : hr at2 t = hr at' t := hashR_congr h
theorem Hk.congr {at' at2 : Nat → Int32} {x : Int32} {b h : Nat} (hk : Hk at' x b h) (e : ∀ t, t < b → hr at2 t = hr at' t) : Hk at2 x b h := by
  rcases hk with ⟨h1, h2⟩ | ⟨t, h1, h2, h3, h4⟩
  · exact Or.inl ⟨h1, fun t ht => by rw [e t ht]; exact h2 t ht⟩
  · exact Or.inr ⟨t, h1, h2, by rw [e t h1]; exact h3, fun t' g1 g2 => by rw [e t' g2]; exact h4 t' g1 g2⟩
theorem ChOK.congr {at' at2 hd nt : Nat → Int32} {n : Nat} (h : ChOK at' hd nt n) (e : ∀ j, j < n * 18 → at2 j = at' j) : ChOK at2 hd nt n := by
  have e2 : ∀ t, t < n → hr at2 t = hr at' t := fun t ht => hr_congr (fun i hi => e _ (by omega))
  refine ⟨fun g hg => (h.1 g hg).congr e2, fun t ht => ?_⟩
  rw [e2 t ht]
  exact (h.2 t ht).congr (fun t' ht' => e2 t' (by omega))
theorem knows_ok {fu n : Nat} (hf : 400 ≤ fu) (hn : n ≤ 300) {at' hd nt : Nat → Int32} (hC : ChOK at' hd nt n) : Ok (f_X4_knowsDraft fu at' hd nt (nI n)) (fun r => (r = 1 ∧ ∃ t, t < n ∧ ∀ i, i < 18 → at' (t * 18 + i) = at' (n * 18 + i)) ∨ (r = 0 ∧ ¬ ∃ t, t < n ∧ ∀ i, i < 18 → at' (t * 18 + i) = at' (n * 18 + i))) := by
  have loop : ∀ b fu l x, 40 + b < fu → b + l ≤ 300 → b ≤ n → Hk at' x b (hr at' n) → Ok (f_X4_knowsDraft_12 at' nt (nI n) fu x (nI l)) (fun r => match r with | .inl z => z = 1 ∧ ∃ t, t < b ∧ ∀ i, i < 18 → at' (t * 18 + i) = at' (n * 18 + i) | .inr _ => ¬ ∃ t, t < b ∧ ∀ i, i < 18 → at' (t * 18 + i) = at' (n * 18 + i)) := by
    intro b
    induction b using Nat.strongRecOn with
    | ind b ih =>
      intro fu l x hf hl hb hk
      obtain ⟨w, rfl⟩ : ∃ w, fu = w + 1 := ⟨fu - 1, by omega⟩
      rw [f_X4_knowsDraft_12, show nI l + 1 = nI (l + 1) from nI_1 l]
      refine Ok.ite (fun z => ?_) (fun z => ?_)
      · replace z : nI 300 ≤ nI l := z
        rw [le_n (by omega) (by omega)] at z
        refine Ok.some ?_
        rintro ⟨t, ht, _⟩
        omega
      · rcases hk with ⟨rfl, h2⟩ | ⟨t, h1, rfl, h3, h4⟩
        · refine Ok.pos rfl (Ok.some ?_)
          rintro ⟨t, ht, e⟩
          exact h2 t ht (hashR_congr e)
        · refine Ok.neg (fun y => ?_) (Ok.bind (isDraft_ok (by omega) hn (show t ≤ 300 by omega) at') ?_)
          · have : ¬ nI t < 0 := nI_pos (by omega)
            rw [y] at this
            exact this (by decide)
          · rintro r (⟨rfl, e⟩ | ⟨rfl, e⟩)
            · exact Ok.neg (by decide) (Ok.some ⟨rfl, t, h1, e⟩)
            · rw [cl_n (by omega)]
              refine Ok.pos rfl (Ok.pos (inB_n (by omega) (by decide)) (Ok.mono (ih t h1 w (l + 1) (nt t) (by omega) (by omega) (by omega) (by rw [← h3]; exact hC.2 t (by omega))) ?_))
              have hiff : (∃ t', t' < b ∧ ∀ i, i < 18 → at' (t' * 18 + i) = at' (n * 18 + i)) → ∃ t', t' < t ∧ ∀ i, i < 18 → at' (t' * 18 + i) = at' (n * 18 + i) := by
                rintro ⟨t', g1, g2⟩
                refine ⟨t', ?_, g2⟩
                by_cases y : t' < t
                · exact y
                · by_cases y2 : t' = t
                  · subst y2; exact absurd g2 e
                  · exact absurd (hashR_congr g2) (h4 t' (by omega) g1)
              intro r hr
              cases r with
              | inl z =>
                obtain ⟨z1, t', z2, z3⟩ := hr
                exact ⟨z1, t', by omega, z3⟩
              | inr z => exact fun y => hr (hiff y)
  unfold f_X4_knowsDraft
  have hh := (hashR_ok (rw18 at' n)).2
  refine Ok.bindE (hash_ok (by omega) hn at') (Ok.pos (inB_n hh (by decide)) ?_)
  rw [cl_n (by omega)]
  refine Ok.sumB (Ok.mono (loop n fu 0 _ (by omega) (by omega) (Nat.le_refl _) (hC.1 _ hh)) ?_)
  intro r hr
  cases r with
  | inl z => exact Or.inl hr
  | inr z => exact Ok.some (Or.inr ⟨rfl, hr⟩)
def mvU (σ : Nat → Nat → Int) (G ax : Nat) (by0 : Int) (i : Nat) : Nat → Nat → Int := fun p a => if p < i then mvG σ G ax by0 p a else σ p a
theorem mvU_lt {σ : Nat → Nat → Int} {G ax : Nat} {by0 : Int} {i p a : Nat} (h : p < i) : mvU σ G ax by0 i p a = mvG σ G ax by0 p a := if_pos h
theorem mvU_ge {σ : Nat → Nat → Int} {G ax : Nat} {by0 : Int} {i p a : Nat} (h : i ≤ p) : mvU σ G ax by0 i p a = σ p a := if_neg (by omega)
theorem draft_ok {fu s n G ax : Nat} (hf : 10 ≤ fu) (hs : s < n) (hn : n ≤ 300) (hG : G < 64) (hax : ax < 3) {at' : Nat → Int32} {σ : Nat → Nat → Int} (h : RowC at' s σ) (by0 : Int) : Ok (f_X4_draft fu at' (nI n) (nI s) (nI G) (nI ax) (iI by0)) (fun q => (∀ j, j < n * 18 → q j = at' j) ∧ RowC q n (mvG σ G ax by0)) := by
  have loop : ∀ k fu i f, k < fu → k + i = 6 → (∀ j, j < n * 18 → f j = at' j) → RowC f n (mvU σ G ax by0 i) → Ok (f_X4_draft_27 (nI G) (nI ax) (iI by0) (nI n) fu (nI i) f) (fun q => (∀ j, j < n * 18 → q j = at' j) ∧ RowC q n (mvG σ G ax by0)) := by
    intro k
    induction k with
    | zero =>
      intro fu i f hf hk h1 h2
      obtain ⟨w, rfl⟩ : ∃ w, fu = w + 1 := ⟨fu - 1, by omega⟩
      have : i = 6 := by omega
      subst this
      rw [f_X4_draft_27]
      refine Ok.pos (by decide +kernel) (Ok.some ⟨h1, fun p hp a ha => ?_⟩)
      rw [h2 p hp a ha, mvU_lt hp]
    | succ k ih =>
      intro fu i f hf hk h1 h2
      obtain ⟨w, rfl⟩ : ∃ w, fu = w + 1 := ⟨fu - 1, by omega⟩
      have hi6 : i < 6 := by omega
      have hrow : f_X4_rowOf (nI n) (nI i) = some (nI (n * 18 + i * 3)) := by
        unfold f_X4_rowOf
        rw [show (18 : Int32) = nI 18 from rfl, show (3 : Int32) = nI 3 from rfl, pk_mul, pk_mul, nI_add]
      rw [f_X4_draft_27, show nI i + 1 = nI (i + 1) from nI_1 i]
      refine Ok.neg (nI_ge (b := 6) hi6 (by decide)) (Ok.ite (fun z => ?_) (fun z => ?_))
      · rw [bit1 G hG i hi6] at z
        refine ih w (i + 1) f (by omega) (by omega) h1 (fun p hp a ha => ?_)
        rw [h2 p hp a ha]
        by_cases y : p = i
        · subst y
          rw [mvU_ge (Nat.le_refl p), mvU_lt (show p < p + 1 by omega)]
          unfold mvG
          rw [if_neg (fun x => by rw [z] at x; cases x.1)]
        · by_cases y2 : p < i
          · rw [mvU_lt y2, mvU_lt (show p < i + 1 by omega)]
          · rw [mvU_ge (show i ≤ p by omega), mvU_ge (show i + 1 ≤ p by omega)]
      · rw [bit1 G hG i hi6, Bool.not_eq_false] at z
        refine Ok.bindE hrow ?_
        rw [nI_add, cl_n (by omega)]
        refine Ok.pos (inB_n (by omega) (by decide)) (Ok.pos (inB_n (by omega) (by decide)) (ih w (i + 1) _ (by omega) (by omega) (fun j hj => ?_) (fun p hp a ha => ?_)))
        · rw [vu_n (by omega)]; exact h1 j hj
        · by_cases y : p = i
          · subst y
            rw [mvU_lt (show p < p + 1 by omega)]
            have e := h2 p hp a ha
            rw [mvU_ge (Nat.le_refl p)] at e
            unfold mvG
            by_cases x : a = ax
            · subst x
              rw [vu_s, e, iI_add, if_pos ⟨z, rfl⟩]
            · rw [vu_n (by omega), e, if_neg (fun u => x u.2)]
          · rw [vu_n (by omega), h2 p hp a ha]
            by_cases y2 : p < i
            · rw [mvU_lt y2, mvU_lt (show p < i + 1 by omega)]
            · rw [mvU_ge (show i ≤ p by omega), mvU_ge (show i + 1 ≤ p by omega)]
  unfold f_X4_draft
  have e1 : nI s * 18 = nI (s * 18) := by rw [show (18 : Int32) = nI 18 from rfl, pk_mul]
  have e2 : nI n * 18 = nI (n * 18) := by rw [show (18 : Int32) = nI 18 from rfl, pk_mul]
  have e3 : (18 : Int32).toNatClampNeg = 18 := by decide
  rw [e1, e2, cl_n (by omega), cl_n (by omega), e3]
  have hc : cpyB (nI (s * 18)) (nI (n * 18)) 18 5418 = true := by
    unfold cpyB
    rw [cl_n (by omega), cl_n (by omega), e3]
    exact decide_eq_true ⟨nI_pos (by omega), nI_pos (by omega), by decide, by omega, by omega⟩
  refine Ok.pos hc (Ok.bind (loop 6 fu 0 _ (by omega) (by omega) (fun j hj => ?_) (fun p hp a ha => ?_)) (fun q hq => Ok.some hq))
  · unfold va_cpy
    rw [if_neg (by omega)]
  · unfold va_cpy
    rw [if_pos (by omega), mvU_ge (Nat.zero_le p), ← h p hp a ha]
    congr 1
    omega
theorem add_ok {fu n : Nat} (hf : 40 ≤ fu) (hn : n < 300) {at' pa mo le hd nt : Nat → Int32} (hC : ChOK at' hd nt n) {s : Nat} (hs : s < n) (code : Int32) : Ok (f_X4_add fu at' pa mo le hd nt (nI n) (nI s) code) (fun q => q.1 = va_up pa n (nI s) ∧ q.2.1 = va_up mo n code ∧ q.2.2.1 = va_up le n (le s + 1) ∧ ChOK at' q.2.2.2.1 q.2.2.2.2.1 (n + 1) ∧ q.2.2.2.2.2 = nI (n + 1)) := by
  unfold f_X4_add
  have hh := (hashR_ok (rw18 at' n)).2
  have hp : ¬ nI s = (-1 : Int32) := fun y => by
    have : ¬ nI s < 0 := nI_pos (by omega)
    rw [y] at this
    exact this (by decide)
  refine Ok.pos (by show nI n < nI 300; rw [lt_n (by omega) (by omega)]; exact hn) (Ok.bindE (hash_ok (by omega) (by omega) at') ?_)
  rw [cl_n (by omega), cl_n (by omega), cl_n (by omega)]
  refine Ok.pos (inB_n hn (by decide)) (Ok.pos (inB_n hn (by decide)) (Ok.neg hp (Ok.pos (inB_n (by omega) (by decide)) (Ok.pos (inB_n hn (by decide)) (Ok.pos (inB_n hh (by decide)) (Ok.pos (inB_n hn (by decide)) (Ok.pos (inB_n hh (by decide)) (Ok.some ⟨rfl, rfl, rfl, ⟨?_, ?_⟩, nI_1 n⟩))))))))
  · intro g hg
    by_cases z : g = hr at' n
    · subst z
      refine Or.inr ⟨n, by omega, vu_s, rfl, fun t' g1 g2 => absurd g2 (by omega)⟩
    · show Hk at' (va_up hd (hr at' n) (nI n) g) (n + 1) g
      rw [vu_n z]
      rcases hC.1 g hg with ⟨h1, h2⟩ | ⟨t, h1, h2, h3, h4⟩
      · refine Or.inl ⟨h1, fun t ht => ?_⟩
        by_cases y : t = n
        · subst y; exact fun x => z x.symm
        · exact h2 t (by omega)
      · refine Or.inr ⟨t, by omega, h2, h3, fun t' g1 g2 => ?_⟩
        by_cases y : t' = n
        · subst y; exact fun x => z x.symm
        · exact h4 t' g1 (by omega)
  · intro t ht
    by_cases z : t = n
    · subst z
      show Hk at' (va_up nt t (hd (hr at' t)) t) t (hr at' t)
      rw [vu_s]
      exact hC.1 _ hh
    · show Hk at' (va_up nt n (hd (hr at' n)) t) t (hr at' t)
      rw [vu_n z]
      exact hC.2 t (by omega)
theorem start_ok {fu : Nat} (hf : 1000 ≤ fu) (at' pa mo le hd nt : Nat → Int32) : Ok (f_X4_start fu at' pa mo le hd nt) (fun q => RowC q.1 0 (fun _ _ => 0) ∧ q.2.1 0 = -1 ∧ q.2.2.2.1 0 = 0 ∧ ChOK q.1 q.2.2.2.2.1 q.2.2.2.2.2.1 1 ∧ q.2.2.2.2.2.2 = nI 1) := by
  have l1 : ∀ k fu i f, k < fu → k + i = 512 → (∀ j, j < i → f j = -1) → Ok (f_J7_fill_53178_5 512 (-1) (Int32.ofNat 512) fu (nI i) f) (fun q => ∀ j, j < 512 → q j = -1) := by
    intro k
    induction k with
    | zero =>
      intro fu i f hf hk h
      obtain ⟨w, rfl⟩ : ∃ w, fu = w + 1 := ⟨fu - 1, by omega⟩
      have : i = 512 := by omega
      subst this
      rw [f_J7_fill_53178_5]
      exact Ok.pos (by decide +kernel) (Ok.some h)
    | succ k ih =>
      intro fu i f hf hk h
      obtain ⟨w, rfl⟩ : ∃ w, fu = w + 1 := ⟨fu - 1, by omega⟩
      rw [f_J7_fill_53178_5, show nI i + 1 = nI (i + 1) from nI_1 i, cl_n (by omega)]
      refine Ok.neg (show ¬ nI 512 ≤ nI i from nI_ge (by omega) (by decide)) (Ok.pos (inB_n (by omega) (by decide)) (ih w (i + 1) _ (by omega) (by omega) (fun j hj => ?_)))
      by_cases z : j = i
      · subst z; exact vu_s
      · rw [vu_n z]; exact h j (by omega)
  have l2 : ∀ k fu i f, k < fu → k + i = 18 → (∀ j, j < i → f j = 0) → Ok (f_X4_start_15 fu (nI i) f) (fun q => ∀ j, j < 18 → q j = 0) := by
    intro k
    induction k with
    | zero =>
      intro fu i f hf hk h
      obtain ⟨w, rfl⟩ : ∃ w, fu = w + 1 := ⟨fu - 1, by omega⟩
      have : i = 18 := by omega
      subst this
      rw [f_X4_start_15]
      exact Ok.pos (by decide +kernel) (Ok.some h)
    | succ k ih =>
      intro fu i f hf hk h
      obtain ⟨w, rfl⟩ : ∃ w, fu = w + 1 := ⟨fu - 1, by omega⟩
      rw [f_X4_start_15, show nI i + 1 = nI (i + 1) from nI_1 i, cl_n (by omega)]
      refine Ok.neg (nI_ge (b := 18) (by omega) (by decide)) (Ok.pos (inB_n (by omega) (by decide)) (ih w (i + 1) _ (by omega) (by omega) (fun j hj => ?_)))
      by_cases z : j = i
      · subst z; exact vu_s
      · rw [vu_n z]; exact h j (by omega)
  unfold f_X4_start f_J7_fill_53178
  refine Ok.bind (P := fun q => ∀ j, j < 512 → q j = -1) (Ok.bind (l1 512 fu 0 hd (by omega) (by omega) (fun j hj => absurd hj (by omega))) (fun q hq => Ok.some hq)) ?_
  intro hd' hhd
  refine Ok.bind (l2 18 fu 0 at' (by omega) (by omega) (fun j hj => absurd hj (by omega))) ?_
  intro at2 h2
  have hh := (hashR_ok (rw18 at2 0)).2
  unfold f_X4_add
  have hb : Ok (if (0 : Int32) < (300 : Int32) then ((f_X4_hashOfDraft fu at2 (0 : Int32)).bind fun q2 => (if inB (0 : Int32) 300 = true then (if inB (0 : Int32) 300 = true then (if (-1 : Int32) = (-1 : Int32) then (if inB (0 : Int32) 300 = true then (if inB q2 512 = true then (if inB (0 : Int32) 300 = true then (if inB q2 512 = true then some (va_up pa (0 : Int32).toNatClampNeg (-1 : Int32), va_up mo (0 : Int32).toNatClampNeg (0 : Int32), va_up le (0 : Int32).toNatClampNeg (0 : Int32), va_up hd' q2.toNatClampNeg (0 : Int32), va_up nt (0 : Int32).toNatClampNeg (hd' q2.toNatClampNeg), (0 : Int32) + (1 : Int32)) else none) else none) else none) else none) else (if inB (-1 : Int32) 300 = true then (if inB (0 : Int32) 300 = true then (if inB q2 512 = true then (if inB (0 : Int32) 300 = true then (if inB q2 512 = true then some (va_up pa (0 : Int32).toNatClampNeg (-1 : Int32), va_up mo (0 : Int32).toNatClampNeg (0 : Int32), va_up le (0 : Int32).toNatClampNeg ((le (-1 : Int32).toNatClampNeg) + (1 : Int32)), va_up hd' q2.toNatClampNeg (0 : Int32), va_up nt (0 : Int32).toNatClampNeg (hd' q2.toNatClampNeg), (0 : Int32) + (1 : Int32)) else none) else none) else none) else none) else none)) else none) else none)) else some (pa, mo, le, hd', nt, (0 : Int32))) (fun q => q.1 0 = -1 ∧ q.2.2.1 0 = 0 ∧ ChOK at2 q.2.2.2.1 q.2.2.2.2.1 1 ∧ q.2.2.2.2.2 = nI 1) := by
    refine Ok.pos (by decide) (Ok.bindE (hash_ok (ct := 0) (by omega) (by omega) at2) (Ok.pos (by decide) (Ok.pos (by decide) (Ok.pos rfl (Ok.pos (by decide) (Ok.pos (inB_n hh (by decide)) (Ok.pos (by decide) (Ok.pos (inB_n hh (by decide)) (Ok.some ⟨vu_s (f := pa) (k := 0) (v := -1), vu_s (f := le) (k := 0) (v := 0), ⟨?_, ?_⟩, rfl⟩)))))))))
    · intro g hg
      rw [cl_n (by omega)]
      by_cases z : g = hr at2 0
      · subst z
        exact Or.inr ⟨0, by omega, vu_s, rfl, fun t' g1 g2 => absurd g2 (by omega)⟩
      · show Hk at2 (va_up hd' (hr at2 0) 0 g) 1 g
        rw [vu_n z]
        refine Or.inl ⟨hhd g hg, fun t ht => ?_⟩
        have : t = 0 := by omega
        subst this
        exact fun x => z x.symm
    · intro t ht
      have : t = 0 := by omega
      subst this
      rw [cl_n (by omega)]
      exact Or.inl ⟨(vu_s (f := nt) (k := 0)).trans (hhd _ hh), fun t ht => absurd ht (by omega)⟩
  refine Ok.bind hb ?_
  rintro q ⟨q1, q2, q3, q4⟩
  refine Ok.some ⟨fun p hp a ha => ?_, q1, q2, q3, q4⟩
  exact h2 _ (by omega)
