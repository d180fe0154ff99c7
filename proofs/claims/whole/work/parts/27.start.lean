/-! the law's start: what the Statement gives, as En has it -/
theorem st_arr {s : State} {args : Array Value} {ty : FieldType} (h : (Cond.arrayClass ty).before args s = true) (hp : ∀ C, ty ≠ .object C) : ∃ cA, ArrOfT s cA ty ∧ va_RA s cA ty := by
  obtain ⟨c, k, comp, h1, h2, h3⟩ := Cond.arrayClass_spec h
  refine ⟨c, fun n z => ⟨fun k h => (by cases h), k, h2, comp, h3⟩, ?_⟩
  cases ty with
  | object C => exact absurd rfl (hp C)
  | _ => exact h1
theorem st_arrq {s : State} {C : String} (h : va_AO C s) : ∃ cA, ArrOfT s cA (.object C) ∧ va_RA s cA (.object C) := by
  obtain ⟨comp, c, k, h1, -, h3, h4, h5⟩ := Cond.arrayOver_spec h
  exact ⟨c, fun n z => ⟨fun k h => (by cases h), k, h3, comp, h4⟩, k, comp, h3, h4, h1, h5⟩
theorem st_static {s : State} {args : Array Value} {nf df : String} {ty : FieldType} {N : Nat} {f : Nat → Value} {A : Nat → Prop} (hN : N < 2 ^ 31) (hl : (Cond.laysStatic RX0 nf df).before args s = true) (hini : (Cond.initialized RX0).before args s = true) (harr : (Cond.arrayOf (.static RX0 nf df) ty).before args s = true) (hlen : (Cond.eq (.length (.static RX0 nf df)) (.int (Int32.ofNat N))).before args s = true) (hel : ∀ j : Nat, j < N → (Term.elem (.static RX0 nf df) (.int (Int32.ofNat j))).eval args s none [] s = some (f j)) (hA : ∀ a : Nat, a < s.heap.size → ¬ A a) :
    ∃ t, va_Z RX0 nf df (.ref t) A s s.heap ∧ va_T ty t N f A s s.heap := by
  obtain ⟨t, h1, h2⟩ := va_Tof hN harr (va_eqt hlen) hel hA
  exact ⟨t, va_Zof hl hini h1 hA, h2⟩
theorem st_STRIDE {s : State} {args : Array Value} {A : Nat → Prop} (hs : ∀ w ∈ lw_tbl, w.before args s = true) (hg : (Jvm.Cond.and given_1 narrow_1).before args s = true) (hA : ∀ a : Nat, a < s.heap.size → ¬ A a) : ∃ t, va_Z RX0 "STRIDE" "[I" (.ref t) A s s.heap ∧ va_T .int t 3 (fun j => .int (z_STRIDE j)) A s s.heap := by
  have hq := flat_of_before _ hg
  refine st_static (by decide) (hs _ (by decide +kernel)) (hs _ (by decide +kernel)) (hq _ (by decide +kernel)) (hq _ (by decide +kernel)) (fun j hj => ?_) hA
  match j, hj with
  | 0, _ => exact va_eqt (z := (1)) (hq _ (by decide +kernel))
  | 1, _ => exact va_eqt (z := (4)) (hq _ (by decide +kernel))
  | 2, _ => exact va_eqt (z := (16)) (hq _ (by decide +kernel))
  | k + 3, h => exact absurd h (by omega)
theorem st_FLOOR {s : State} {args : Array Value} {A : Nat → Prop} (hs : ∀ w ∈ lw_tbl, w.before args s = true) (hg : (Jvm.Cond.and given_1 narrow_1).before args s = true) (hA : ∀ a : Nat, a < s.heap.size → ¬ A a) : ∃ t, va_Z RX0 "FLOOR" "[J" (.ref t) A s s.heap ∧ va_T .long t 3 (fun j => .long (z_FLOOR j)) A s s.heap := by
  have hq := flat_of_before _ hg
  refine st_static (by decide) (hs _ (by decide +kernel)) (hs _ (by decide +kernel)) (hq _ (by decide +kernel)) (hq _ (by decide +kernel)) (fun j hj => ?_) hA
  match j, hj with
  | 0, _ => exact va_eqtl (z := (1229782938247303441)) (hq _ (by decide +kernel))
  | 1, _ => exact va_eqtl (z := (4222189076152335)) (hq _ (by decide +kernel))
  | 2, _ => exact va_eqtl (z := (65535)) (hq _ (by decide +kernel))
  | k + 3, h => exact absurd h (by omega)
theorem st_STAYS {s : State} {args : Array Value} {A : Nat → Prop} (hs : ∀ w ∈ lw_tbl, w.before args s = true) (hg : (Jvm.Cond.and given_1 narrow_1).before args s = true) (hA : ∀ a : Nat, a < s.heap.size → ¬ A a) : ∃ t, va_Z RX0 "STAYS" "[J" (.ref t) A s s.heap ∧ va_T .long t 12 (fun j => .long (z_STAYS j)) A s s.heap := by
  have hq := flat_of_before _ hg
  refine st_static (by decide) (hs _ (by decide +kernel)) (hs _ (by decide +kernel)) (hq _ (by decide +kernel)) (hq _ (by decide +kernel)) (fun j hj => ?_) hA
  match j, hj with
  | 0, _ => exact va_eqtl (z := (-1)) (hq _ (by decide +kernel))
  | 1, _ => exact va_eqtl (z := (8608480567731124087)) (hq _ (by decide +kernel))
  | 2, _ => exact va_eqtl (z := (3689348814741910323)) (hq _ (by decide +kernel))
  | 3, _ => exact va_eqtl (z := (1229782938247303441)) (hq _ (by decide +kernel))
  | 4, _ => exact va_eqtl (z := (-1)) (hq _ (by decide +kernel))
  | 5, _ => exact va_eqtl (z := (1152657617789587455)) (hq _ (by decide +kernel))
  | 6, _ => exact va_eqtl (z := (71777214294589695)) (hq _ (by decide +kernel))
  | 7, _ => exact va_eqtl (z := (4222189076152335)) (hq _ (by decide +kernel))
  | 8, _ => exact va_eqtl (z := (-1)) (hq _ (by decide +kernel))
  | 9, _ => exact va_eqtl (z := (281474976710655)) (hq _ (by decide +kernel))
  | 10, _ => exact va_eqtl (z := (4294967295)) (hq _ (by decide +kernel))
  | 11, _ => exact va_eqtl (z := (65535)) (hq _ (by decide +kernel))
  | k + 12, h => exact absurd h (by omega)
theorem st_ORDERS {s : State} {args : Array Value} {A : Nat → Prop} (hs : ∀ w ∈ lw_tbl, w.before args s = true) (hg : (Jvm.Cond.and given_1 narrow_1).before args s = true) (hA : ∀ a : Nat, a < s.heap.size → ¬ A a) : ∃ t, va_Z RX0 "ORDERS" "[I" (.ref t) A s s.heap ∧ va_T .int t 18 (fun j => .int (z_ORDERS j)) A s s.heap := by
  have hq := flat_of_before _ hg
  refine st_static (by decide) (hs _ (by decide +kernel)) (hs _ (by decide +kernel)) (hq _ (by decide +kernel)) (hq _ (by decide +kernel)) (fun j hj => ?_) hA
  match j, hj with
  | 0, _ => exact va_eqt (z := (0)) (hq _ (by decide +kernel))
  | 1, _ => exact va_eqt (z := (1)) (hq _ (by decide +kernel))
  | 2, _ => exact va_eqt (z := (2)) (hq _ (by decide +kernel))
  | 3, _ => exact va_eqt (z := (1)) (hq _ (by decide +kernel))
  | 4, _ => exact va_eqt (z := (2)) (hq _ (by decide +kernel))
  | 5, _ => exact va_eqt (z := (0)) (hq _ (by decide +kernel))
  | 6, _ => exact va_eqt (z := (2)) (hq _ (by decide +kernel))
  | 7, _ => exact va_eqt (z := (0)) (hq _ (by decide +kernel))
  | 8, _ => exact va_eqt (z := (1)) (hq _ (by decide +kernel))
  | 9, _ => exact va_eqt (z := (0)) (hq _ (by decide +kernel))
  | 10, _ => exact va_eqt (z := (2)) (hq _ (by decide +kernel))
  | 11, _ => exact va_eqt (z := (1)) (hq _ (by decide +kernel))
  | 12, _ => exact va_eqt (z := (2)) (hq _ (by decide +kernel))
  | 13, _ => exact va_eqt (z := (1)) (hq _ (by decide +kernel))
  | 14, _ => exact va_eqt (z := (0)) (hq _ (by decide +kernel))
  | 15, _ => exact va_eqt (z := (1)) (hq _ (by decide +kernel))
  | 16, _ => exact va_eqt (z := (0)) (hq _ (by decide +kernel))
  | 17, _ => exact va_eqt (z := (2)) (hq _ (by decide +kernel))
  | k + 18, h => exact absurd h (by omega)
theorem st_str {s : State} {args : Array Value} {k : Nat} {tx : String} (h1 : (Cond.stringRef RX6 k tx).before args s = true) (h2 : (Cond.exactly (.string RX6 k) "java/lang/String").before args s = true) : xStr s (RX6, k, tx) := by
  obtain ⟨a, c, cell, k0, ha, -⟩ := Cond.exactly_spec h2
  exact ⟨a, vk_R.of h1 ha⟩
theorem st_strs {s : State} {args : Array Value} (hs : ∀ w ∈ lw_tbl, w.before args s = true) (hg : (Jvm.Cond.and given_1 narrow_1).before args s = true) : xStrs s := by
  have hq := flat_of_before _ hg
  intro q hq1
  simp only [List.mem_cons, List.not_mem_nil, or_false] at hq1
  rcases hq1 with rfl | rfl | rfl | rfl | rfl | rfl | rfl | rfl | rfl | rfl | rfl | rfl | rfl | rfl
  · exact st_str (hs _ (by decide +kernel)) (hq _ (by decide +kernel))
  · exact st_str (hs _ (by decide +kernel)) (hq _ (by decide +kernel))
  · exact st_str (hs _ (by decide +kernel)) (hq _ (by decide +kernel))
  · exact st_str (hs _ (by decide +kernel)) (hq _ (by decide +kernel))
  · exact st_str (hs _ (by decide +kernel)) (hq _ (by decide +kernel))
  · exact st_str (hs _ (by decide +kernel)) (hq _ (by decide +kernel))
  · exact st_str (hs _ (by decide +kernel)) (hq _ (by decide +kernel))
  · exact st_str (hs _ (by decide +kernel)) (hq _ (by decide +kernel))
  · exact st_str (hs _ (by decide +kernel)) (hq _ (by decide +kernel))
  · exact st_str (hs _ (by decide +kernel)) (hq _ (by decide +kernel))
  · exact st_str (hs _ (by decide +kernel)) (hq _ (by decide +kernel))
  · exact st_str (hs _ (by decide +kernel)) (hq _ (by decide +kernel))
  · exact st_str (hs _ (by decide +kernel)) (hq _ (by decide +kernel))
  · exact st_str (hs _ (by decide +kernel)) (hq _ (by decide +kernel))
