theorem wk_X7_has : Cond.code yX7_has cX7_has 3 (some .boolean) ∈ TT := tt_mem 876 (by decide +kernel) (by decide +kernel)
theorem wi_RX7 : Cond.initialized RX7 ∈ TT := tt_mem 40 (by decide +kernel) (by decide +kernel)
theorem ws_X7_has : Cond.static yX7_has ∈ TT := tt_mem 875 (by decide +kernel) (by decide +kernel)
theorem wm_RX7_82 : Cond.methodLink RX7 82 yX7_has ∈ TT := tt_mem 874 (by decide +kernel) (by decide +kernel)
theorem wc_RX7_86 : Cond.constantLong RX7 86 (-9223372036854775808) ∈ TT := tt_mem 914 (by decide +kernel) (by decide +kernel)
theorem wk_X7_touch : Cond.code yX7_touch cX7_touch 5 (some .boolean) ∈ TT := tt_mem 901 (by decide +kernel) (by decide +kernel)
theorem ws_X7_touch : Cond.static yX7_touch ∈ TT := tt_mem 900 (by decide +kernel) (by decide +kernel)
theorem wm_RX7_100 : Cond.methodLink RX7 100 yX7_touch ∈ TT := tt_mem 899 (by decide +kernel) (by decide +kernel)
theorem wk_X7_axis : Cond.code yX7_axis cX7_axis 4 (some .int) ∈ TT := tt_mem 907 (by decide +kernel) (by decide +kernel)
theorem ws_X7_axis : Cond.static yX7_axis ∈ TT := tt_mem 906 (by decide +kernel) (by decide +kernel)
theorem wm_RX7_104 : Cond.methodLink RX7 104 yX7_axis ∈ TT := tt_mem 905 (by decide +kernel) (by decide +kernel)
theorem wk_X7_isLess : Cond.code yX7_isLess cX7_isLess 4 (some .boolean) ∈ TT := tt_mem 913 (by decide +kernel) (by decide +kernel)
theorem ws_X7_isLess : Cond.static yX7_isLess ∈ TT := tt_mem 912 (by decide +kernel) (by decide +kernel)
theorem wm_RX7_108 : Cond.methodLink RX7 108 yX7_isLess ∈ TT := tt_mem 911 (by decide +kernel) (by decide +kernel)
theorem wf_RX7_78 : Cond.fieldLink RX7 78 (TX7 0).1 (TX7 0).2.1 (TX7 0).2.2.1 ∈ TT := tt_mem 783 (by decide +kernel) (by decide +kernel)
theorem wf_RX7_7 : Cond.fieldLink RX7 7 (TX7 1).1 (TX7 1).2.1 (TX7 1).2.2.1 ∈ TT := tt_mem 784 (by decide +kernel) (by decide +kernel)
theorem wf_RX7_33 : Cond.fieldLink RX7 33 (TX7 9).1 (TX7 9).2.1 (TX7 9).2.2.1 ∈ TT := tt_mem 792 (by decide +kernel) (by decide +kernel)
theorem wk_X7_count : Cond.code yX7_count cX7_count 4 (some .int) ∈ TT := tt_mem 879 (by decide +kernel) (by decide +kernel)
theorem ws_X7_count : Cond.static yX7_count ∈ TT := tt_mem 878 (by decide +kernel) (by decide +kernel)
theorem wm_RX7_92 : Cond.methodLink RX7 92 yX7_count ∈ TT := tt_mem 877 (by decide +kernel) (by decide +kernel)
theorem wk_X7_in : Cond.code yX7_in cX7_in 3 (some .boolean) ∈ TT := tt_mem 873 (by decide +kernel) (by decide +kernel)
theorem ws_X7_in : Cond.static yX7_in ∈ TT := tt_mem 872 (by decide +kernel) (by decide +kernel)
theorem wm_RX7_88 : Cond.methodLink RX7 88 yX7_in ∈ TT := tt_mem 871 (by decide +kernel) (by decide +kernel)
theorem wf_RX7_13 : Cond.fieldLink RX7 13 (TX7 2).1 (TX7 2).2.1 (TX7 2).2.2.1 ∈ TT := tt_mem 785 (by decide +kernel) (by decide +kernel)
theorem wk_X7_says : Cond.code yX7_says cX7_says 2 (some .boolean) ∈ TT := tt_mem 887 (by decide +kernel) (by decide +kernel)
theorem wm_RX7_96 : Cond.methodLink RX7 96 yX7_says ∈ TT := tt_mem 884 (by decide +kernel) (by decide +kernel)
theorem wn_X7_says : Cond.instanceMethod yX7_says ∈ TT := tt_mem 886 (by decide +kernel) (by decide +kernel)
theorem wv_X7_says : Cond.selects yX7_says.cls yX7_says yX7_says ∈ TT := tt_mem 21 (by decide +kernel) (by decide +kernel)
theorem wf_RX7_21 : Cond.fieldLink RX7 21 (TX7 4).1 (TX7 4).2.1 (TX7 4).2.2.1 ∈ TT := tt_mem 787 (by decide +kernel) (by decide +kernel)
theorem wf_RX7_24 : Cond.fieldLink RX7 24 (TX7 5).1 (TX7 5).2.1 (TX7 5).2.2.1 ∈ TT := tt_mem 788 (by decide +kernel) (by decide +kernel)
theorem wk_X7_insert : Cond.code yX7_insert cX7_insert 7 (some .int) ∈ TT := tt_mem 910 (by decide +kernel) (by decide +kernel)
theorem ws_X7_insert : Cond.static yX7_insert ∈ TT := tt_mem 909 (by decide +kernel) (by decide +kernel)
theorem wm_RX7_120 : Cond.methodLink RX7 120 yX7_insert ∈ TT := tt_mem 908 (by decide +kernel) (by decide +kernel)
theorem wk_X7_turned : Cond.code yX7_turned cX7_turned 16 (some .long) ∈ TT := tt_mem 904 (by decide +kernel) (by decide +kernel)
theorem ws_X7_turned : Cond.static yX7_turned ∈ TT := tt_mem 903 (by decide +kernel) (by decide +kernel)
theorem wm_RX7_116 : Cond.methodLink RX7 116 yX7_turned ∈ TT := tt_mem 902 (by decide +kernel) (by decide +kernel)
theorem wk_X7_isMade : Cond.code yX7_isMade cX7_isMade 7 (some .boolean) ∈ TT := tt_mem 898 (by decide +kernel) (by decide +kernel)
theorem ws_X7_isMade : Cond.static yX7_isMade ∈ TT := tt_mem 897 (by decide +kernel) (by decide +kernel)
theorem wm_RX7_112 : Cond.methodLink RX7 112 yX7_isMade ∈ TT := tt_mem 896 (by decide +kernel) (by decide +kernel)
theorem wk_X7_shapesOf : Cond.code yX7_shapesOf cX7_shapesOf 5 none ∈ TT := tt_mem 895 (by decide +kernel) (by decide +kernel)
theorem wm_RX7_124 : Cond.methodLink RX7 124 yX7_shapesOf ∈ TT := tt_mem 892 (by decide +kernel) (by decide +kernel)
theorem wn_X7_shapesOf : Cond.instanceMethod yX7_shapesOf ∈ TT := tt_mem 894 (by decide +kernel) (by decide +kernel)
theorem wv_X7_shapesOf : Cond.selects yX7_shapesOf.cls yX7_shapesOf yX7_shapesOf ∈ TT := tt_mem 22 (by decide +kernel) (by decide +kernel)
theorem wf_RX7_17 : Cond.fieldLink RX7 17 (TX7 3).1 (TX7 3).2.1 (TX7 3).2.2.1 ∈ TT := tt_mem 786 (by decide +kernel) (by decide +kernel)
theorem wf_RX7_27 : Cond.fieldLink RX7 27 (TX7 6).1 (TX7 6).2.1 (TX7 6).2.2.1 ∈ TT := tt_mem 789 (by decide +kernel) (by decide +kernel)
theorem wf_RX7_30 : Cond.fieldLink RX7 30 (TX7 7).1 (TX7 7).2.1 (TX7 7).2.2.1 ∈ TT := tt_mem 790 (by decide +kernel) (by decide +kernel)
theorem wk_X7_moved : Cond.code yX7_moved cX7_moved 11 (some .long) ∈ TT := tt_mem 933 (by decide +kernel) (by decide +kernel)
theorem ws_X7_moved : Cond.static yX7_moved ∈ TT := tt_mem 932 (by decide +kernel) (by decide +kernel)
theorem wm_RX7_128 : Cond.methodLink RX7 128 yX7_moved ∈ TT := tt_mem 931 (by decide +kernel) (by decide +kernel)
theorem wk_X7_placesOf : Cond.code yX7_placesOf cX7_placesOf 8 none ∈ TT := tt_mem 930 (by decide +kernel) (by decide +kernel)
theorem wm_RX7_132 : Cond.methodLink RX7 132 yX7_placesOf ∈ TT := tt_mem 927 (by decide +kernel) (by decide +kernel)
theorem wn_X7_placesOf : Cond.instanceMethod yX7_placesOf ∈ TT := tt_mem 929 (by decide +kernel) (by decide +kernel)
theorem wv_X7_placesOf : Cond.selects yX7_placesOf.cls yX7_placesOf yX7_placesOf ∈ TT := tt_mem 23 (by decide +kernel) (by decide +kernel)
theorem wf_RX7_42 : Cond.fieldLink RX7 42 (TX7 12).1 (TX7 12).2.1 (TX7 12).2.2.1 ∈ TT := tt_mem 795 (by decide +kernel) (by decide +kernel)
theorem wf_RX7_36 : Cond.fieldLink RX7 36 (TX7 10).1 (TX7 10).2.1 (TX7 10).2.2.1 ∈ TT := tt_mem 793 (by decide +kernel) (by decide +kernel)
theorem wf_RX7_39 : Cond.fieldLink RX7 39 (TX7 11).1 (TX7 11).2.1 (TX7 11).2.2.1 ∈ TT := tt_mem 794 (by decide +kernel) (by decide +kernel)
theorem wf_RX7_45 : Cond.fieldLink RX7 45 (TX7 13).1 (TX7 13).2.1 (TX7 13).2.2.1 ∈ TT := tt_mem 796 (by decide +kernel) (by decide +kernel)
theorem wf_RX7_48 : Cond.fieldLink RX7 48 (TX7 14).1 (TX7 14).2.1 (TX7 14).2.2.1 ∈ TT := tt_mem 797 (by decide +kernel) (by decide +kernel)
theorem wf_RX7_135 : Cond.fieldLink RX7 135 (TX7 8).1 (TX7 8).2.1 (TX7 8).2.2.1 ∈ TT := tt_mem 791 (by decide +kernel) (by decide +kernel)
theorem wf_RX7_51 : Cond.fieldLink RX7 51 (TX7 15).1 (TX7 15).2.1 (TX7 15).2.2.1 ∈ TT := tt_mem 798 (by decide +kernel) (by decide +kernel)
theorem wk_X7_begins : Cond.code yX7_begins cX7_begins 4 none ∈ TT := tt_mem 946 (by decide +kernel) (by decide +kernel)
theorem wm_RX7_138 : Cond.methodLink RX7 138 yX7_begins ∈ TT := tt_mem 943 (by decide +kernel) (by decide +kernel)
theorem wn_X7_begins : Cond.instanceMethod yX7_begins ∈ TT := tt_mem 945 (by decide +kernel) (by decide +kernel)
theorem wv_X7_begins : Cond.selects yX7_begins.cls yX7_begins yX7_begins ∈ TT := tt_mem 25 (by decide +kernel) (by decide +kernel)
theorem wc_RX7_142 : Cond.constant RX7 142 (1000000) ∈ TT := tt_mem 947 (by decide +kernel) (by decide +kernel)
theorem wc_RX7_143 : Cond.constant RX7 143 (200000) ∈ TT := tt_mem 938 (by decide +kernel) (by decide +kernel)
theorem wk_X7_search : Cond.code yX7_search cX7_search 10 (some .int) ∈ TT := tt_mem 942 (by decide +kernel) (by decide +kernel)
theorem wm_RX7_144 : Cond.methodLink RX7 144 yX7_search ∈ TT := tt_mem 939 (by decide +kernel) (by decide +kernel)
theorem wn_X7_search : Cond.instanceMethod yX7_search ∈ TT := tt_mem 941 (by decide +kernel) (by decide +kernel)
theorem wv_X7_search : Cond.selects yX7_search.cls yX7_search yX7_search ∈ TT := tt_mem 24 (by decide +kernel) (by decide +kernel)
theorem wf_RX7_57 : Cond.fieldLink RX7 57 (TX7 17).1 (TX7 17).2.1 (TX7 17).2.2.1 ∈ TT := tt_mem 800 (by decide +kernel) (by decide +kernel)
theorem wf_RX7_69 : Cond.fieldLink RX7 69 (TX7 22).1 (TX7 22).2.1 (TX7 22).2.2.1 ∈ TT := tt_mem 805 (by decide +kernel) (by decide +kernel)
theorem wf_RX7_54 : Cond.fieldLink RX7 54 (TX7 16).1 (TX7 16).2.1 (TX7 16).2.2.1 ∈ TT := tt_mem 799 (by decide +kernel) (by decide +kernel)
theorem wk_X7_at : Cond.code yX7_at cX7_at 4 (some .int) ∈ TT := tt_mem 983 (by decide +kernel) (by decide +kernel)
theorem wm_RX7_148 : Cond.methodLink RX7 148 yX7_at ∈ TT := tt_mem 980 (by decide +kernel) (by decide +kernel)
theorem wn_X7_at : Cond.instanceMethod yX7_at ∈ TT := tt_mem 982 (by decide +kernel) (by decide +kernel)
theorem wv_X7_at : Cond.selects yX7_at.cls yX7_at yX7_at ∈ TT := tt_mem 28 (by decide +kernel) (by decide +kernel)
theorem wc_RX7_152 : Cond.constant RX7 152 (-100000) ∈ TT := tt_mem 992 (by decide +kernel) (by decide +kernel)
theorem wc_RX7_153 : Cond.constant RX7 153 (100000) ∈ TT := tt_mem 993 (by decide +kernel) (by decide +kernel)
theorem wk_X7_edge : Cond.code yX7_edge cX7_edge 8 (some .int) ∈ TT := tt_mem 991 (by decide +kernel) (by decide +kernel)
theorem wm_RX7_154 : Cond.methodLink RX7 154 yX7_edge ∈ TT := tt_mem 988 (by decide +kernel) (by decide +kernel)
theorem wn_X7_edge : Cond.instanceMethod yX7_edge ∈ TT := tt_mem 990 (by decide +kernel) (by decide +kernel)
theorem wv_X7_edge : Cond.selects yX7_edge.cls yX7_edge yX7_edge ∈ TT := tt_mem 30 (by decide +kernel) (by decide +kernel)
theorem wf_RX7_72 : Cond.fieldLink RX7 72 (TX7 23).1 (TX7 23).2.1 (TX7 23).2.2.1 ∈ TT := tt_mem 806 (by decide +kernel) (by decide +kernel)
theorem wf_RX7_157 : Cond.fieldLink RX7 157 (TX7 18).1 (TX7 18).2.1 (TX7 18).2.2.1 ∈ TT := tt_mem 801 (by decide +kernel) (by decide +kernel)
theorem wf_RX7_60 : Cond.fieldLink RX7 60 (TX7 19).1 (TX7 19).2.1 (TX7 19).2.2.1 ∈ TT := tt_mem 802 (by decide +kernel) (by decide +kernel)
theorem wf_RX7_63 : Cond.fieldLink RX7 63 (TX7 20).1 (TX7 20).2.1 (TX7 20).2.2.1 ∈ TT := tt_mem 803 (by decide +kernel) (by decide +kernel)
theorem wf_RX7_160 : Cond.fieldLink RX7 160 (TX7 24).1 (TX7 24).2.1 (TX7 24).2.2.1 ∈ TT := tt_mem 807 (by decide +kernel) (by decide +kernel)
theorem wf_RX7_75 : Cond.fieldLink RX7 75 (TX7 25).1 (TX7 25).2.1 (TX7 25).2.2.1 ∈ TT := tt_mem 808 (by decide +kernel) (by decide +kernel)
theorem wf_RX7_66 : Cond.fieldLink RX7 66 (TX7 21).1 (TX7 21).2.1 (TX7 21).2.2.1 ∈ TT := tt_mem 804 (by decide +kernel) (by decide +kernel)
theorem wk_X7_isKnown : Cond.code yX7_isKnown cX7_isKnown 6 (some .boolean) ∈ TT := tt_mem 1001 (by decide +kernel) (by decide +kernel)
theorem wm_RX7_176 : Cond.methodLink RX7 176 yX7_isKnown ∈ TT := tt_mem 998 (by decide +kernel) (by decide +kernel)
theorem wn_X7_isKnown : Cond.instanceMethod yX7_isKnown ∈ TT := tt_mem 1000 (by decide +kernel) (by decide +kernel)
theorem wv_X7_isKnown : Cond.selects yX7_isKnown.cls yX7_isKnown yX7_isKnown ∈ TT := tt_mem 32 (by decide +kernel) (by decide +kernel)
theorem wk_X7_finish : Cond.code yX7_finish cX7_finish 6 none ∈ TT := tt_mem 997 (by decide +kernel) (by decide +kernel)
theorem wm_RX7_173 : Cond.methodLink RX7 173 yX7_finish ∈ TT := tt_mem 994 (by decide +kernel) (by decide +kernel)
theorem wn_X7_finish : Cond.instanceMethod yX7_finish ∈ TT := tt_mem 996 (by decide +kernel) (by decide +kernel)
theorem wv_X7_finish : Cond.selects yX7_finish.cls yX7_finish yX7_finish ∈ TT := tt_mem 31 (by decide +kernel) (by decide +kernel)
theorem wk_X7_isFree : Cond.code yX7_isFree cX7_isFree 4 (some .boolean) ∈ TT := tt_mem 987 (by decide +kernel) (by decide +kernel)
theorem wm_RX7_170 : Cond.methodLink RX7 170 yX7_isFree ∈ TT := tt_mem 984 (by decide +kernel) (by decide +kernel)
theorem wn_X7_isFree : Cond.instanceMethod yX7_isFree ∈ TT := tt_mem 986 (by decide +kernel) (by decide +kernel)
theorem wv_X7_isFree : Cond.selects yX7_isFree.cls yX7_isFree yX7_isFree ∈ TT := tt_mem 29 (by decide +kernel) (by decide +kernel)
theorem wk_X7_hits : Cond.code yX7_hits cX7_hits 7 (some .boolean) ∈ TT := tt_mem 979 (by decide +kernel) (by decide +kernel)
theorem wm_RX7_167 : Cond.methodLink RX7 167 yX7_hits ∈ TT := tt_mem 976 (by decide +kernel) (by decide +kernel)
theorem wn_X7_hits : Cond.instanceMethod yX7_hits ∈ TT := tt_mem 978 (by decide +kernel) (by decide +kernel)
theorem wv_X7_hits : Cond.selects yX7_hits.cls yX7_hits yX7_hits ∈ TT := tt_mem 27 (by decide +kernel) (by decide +kernel)
theorem wk_X7_run : Cond.code yX7_run cX7_run 9 (some .int) ∈ TT := tt_mem 975 (by decide +kernel) (by decide +kernel)
theorem wm_RX7_163 : Cond.methodLink RX7 163 yX7_run ∈ TT := tt_mem 972 (by decide +kernel) (by decide +kernel)
theorem wn_X7_run : Cond.instanceMethod yX7_run ∈ TT := tt_mem 974 (by decide +kernel) (by decide +kernel)
theorem wv_X7_run : Cond.selects yX7_run.cls yX7_run yX7_run ∈ TT := tt_mem 26 (by decide +kernel) (by decide +kernel)
def f_X7_in (x : Int32) (low : Int32) (high : Int32) : Option Int32 := (if bOk (if x < low then (0 : Int32) else (if high < x then (0 : Int32) else (1 : Int32))) = true then some (if x < low then (0 : Int32) else (if high < x then (0 : Int32) else (1 : Int32))) else none)
set_option maxHeartbeats 2000000 in
set_option maxRecDepth 20000 in
theorem c_X7_in {l : Launch} {E : Ex} {n : Nat} {σ : AH}   {x : Int32} {low : Int32} {high : Int32} (res : Int32) (hf : f_X7_in x low high = some res) : Con l E yX7_in (.code yX7_in cX7_in 3 (some .boolean) :: TT) ({ frames := 0, cells := 0, slots := 0, locals := 0 } : Room) 0 0 [.int x, .int low, .int high] σ n (some (.int res)) σ n := by
  refine con_intro (by decide +kernel) (Nat.le_of_ble_eq_true rfl) ?_
  intro K C hKR hKL hKE hKN hKQ
  subst hKL
  subst hKE
  have C : Cx K RX7 "in" cX7_in (some .boolean) := C
  show G K 0 0 0 [(0, .int x), (1, .int low), (2, .int high)] [] σ n
  unfold f_X7_in at hf
  refine g_iload_n C rfl (q := 0) rfl dX7_in_0 rfl ?_
  refine g_iload_n C rfl (q := 1) rfl dX7_in_1 rfl ?_
  have j2 : G K 0 0 15 [(0, .int x), (1, .int low), (2, .int high)] [.int (if x < low then (0 : Int32) else (if high < x then (0 : Int32) else (1 : Int32)))] σ n := by
    obtain ⟨g1, hf⟩ := gd hf
    obtain rfl := Option.some.inj hf
    exact g_zret C (bOk_n g1) hKQ dX7_in_15
  refine g_icmp_lt (tgt := 14) C dX7_in_2 (by decide) rfl (fun c3 => ?_) (fun c3 => ?_)
  · refine g_iconst (v := 0) C (by decide) dX7_in_14 rfl ?_
    exact g_topI (by rw [if_pos c3]) j2
  · refine g_iload_n C rfl (q := 0) rfl dX7_in_5 rfl ?_
    refine g_iload_n C rfl (q := 2) rfl dX7_in_6 rfl ?_
    refine g_icmp_gt (tgt := 14) C dX7_in_7 (by decide) rfl (fun c4 => ?_) (fun c4 => ?_)
    · refine g_iconst (v := 0) C (by decide) dX7_in_14 rfl ?_
      exact g_topI (by rw [if_neg c3, if_pos c4]) j2
    · refine g_iconst (v := 1) C (by decide) dX7_in_10 rfl ?_
      refine g_goto (pc' := 15) C dX7_in_11 (by decide) ?_
      exact g_topI (by rw [if_neg c3, if_neg c4]) j2
def f_X7_has (s : Int64) (c : Int32) : Option Int32 := (if bOk (if (((s.toUInt64 >>> (c.toInt64.toUInt64 &&& Int64.toUInt64 63)).toInt64) &&& (1 : Int64)) = (1 : Int64) then (1 : Int32) else (0 : Int32)) = true then some (if (((s.toUInt64 >>> (c.toInt64.toUInt64 &&& Int64.toUInt64 63)).toInt64) &&& (1 : Int64)) = (1 : Int64) then (1 : Int32) else (0 : Int32)) else none)
set_option maxHeartbeats 2000000 in
set_option maxRecDepth 20000 in
theorem c_X7_has {l : Launch} {E : Ex} {n : Nat} {σ : AH}   {s : Int64} {c : Int32} (res : Int32) (hf : f_X7_has s c = some res) : Con l E yX7_has (.code yX7_has cX7_has 3 (some .boolean) :: TT) ({ frames := 0, cells := 0, slots := 0, locals := 0 } : Room) 0 0 [.long s, .int c] σ n (some (.int res)) σ n := by
  refine con_intro (by decide +kernel) (Nat.le_of_ble_eq_true rfl) ?_
  intro K C hKR hKL hKE hKN hKQ
  subst hKL
  subst hKE
  have C : Cx K RX7 "has" cX7_has (some .boolean) := C
  show G K 0 0 0 [(0, .long s), (2, .int c)] [] σ n
  unfold f_X7_has at hf
  refine g_lload_n C rfl (q := 0) rfl dX7_has_0 rfl ?_
  refine g_iload_n C rfl (q := 1) rfl dX7_has_1 rfl ?_
  refine g_lushr C dX7_has_2 rfl ?_
  refine g_lconst (v := 1) C (by decide) dX7_has_3 rfl ?_
  refine g_land C dX7_has_4 rfl ?_
  refine g_lconst (v := 1) C (by decide) dX7_has_5 rfl ?_
  have j2 : G K 0 0 15 [(0, .long s), (2, .int c)] [.int (if (((s.toUInt64 >>> (c.toInt64.toUInt64 &&& Int64.toUInt64 63)).toInt64) &&& (1 : Int64)) = (1 : Int64) then (1 : Int32) else (0 : Int32))] σ n := by
    obtain ⟨g1, hf⟩ := gd hf
    obtain rfl := Option.some.inj hf
    exact g_zret C (bOk_n g1) hKQ dX7_has_15
  refine g_lif_ne (tgt := 14) C dX7_has_6 rfl dX7_has_7 (by decide) rfl (fun c3 => ?_) (fun c3 => ?_)
  · refine g_iconst (v := 0) C (by decide) dX7_has_14 rfl ?_
    exact g_topI (by rw [if_neg c3]) j2
  · refine g_iconst (v := 1) C (by decide) dX7_has_10 rfl ?_
    refine g_goto (pc' := 15) C dX7_has_11 (by decide) ?_
    exact g_topI (by rw [if_pos c3]) j2
def f_X7_count_4  (l0 : Int64) : Nat → Int32 → Int32 → Option Int32
  | 0, _, _ => none
  | fu + 1, l2, l3 => (if (64 : Int32) ≤ l3 then some l2 else ((f_X7_has l0 l3).bind fun q10 => f_X7_count_4 l0 fu (if q10 = 0 then l2 else (l2 + (1 : Int32))) (l3 + (1 : Int32))))
def f_X7_count (fu : Nat) (s : Int64) : Option Int32 := ((f_X7_count_4 s fu (0 : Int32) (0 : Int32)).bind fun q13 => some q13)
set_option maxHeartbeats 2000000 in
set_option maxRecDepth 20000 in
theorem g_X7_count_4 {K : KX} {n : Nat} {σ : AH}  {l0 : Int64} (C : Cx K RX7 "count" cX7_count (some .int)) (hKR : kR K = ({ frames := 1, cells := 0, slots := 0, locals := 22 } : Room)) (hKN : kN K = 4) : ∀ (fu : Nat) (l2 : Int32) (l3 : Int32) (res : Int32), f_X7_count_4 l0 fu l2 l3 = some res → G K 0 0 32 [(2, .int res)] [] σ n → G K 0 0 4 [(0, .long l0), (2, .int l2), (3, .int l3)] [] σ n := by
  intro fu
  induction fu with
  | zero =>
    intro l2 l3 res hf
    exact absurd hf (by simp [f_X7_count_4])
  | succ fu ih =>
    intro l2 l3 res hf hx
    rw [f_X7_count_4] at hf
    refine g_iload_n C rfl (q := 2) rfl dX7_count_4 rfl ?_
    refine g_bipush (v := 64) C (by decide) dX7_count_5 rfl ?_
    refine g_icmp_ge (tgt := 32) C dX7_count_7 (by decide) rfl (fun c9 => ?_) (fun c9 => ?_)
    · replace hf := ift c9 hf
      obtain rfl := Option.some.inj hf
      refine g_sub (lv' := [(2, .int l2)]) [1] rfl ?_
      exact hx
    · replace hf := iff' c9 hf
      refine g_lload_n C rfl (q := 0) rfl dX7_count_10 rfl ?_
      refine g_iload_n C rfl (q := 2) rfl dX7_count_11 rfl ?_
      obtain ⟨q10, hq10, hf⟩ := bd hf
      refine g_callS0 (st' := []) (as := [.long l0, .int l3]) (st2 := [.int q10]) (k := 2) C ⟨wm_RX7_82, ws_X7_has, wi_RX7, wk_X7_has, by decide +kernel⟩ (c_X7_has (l := kL K) (E := kE K)  _ hq10) (by rw [hKR]; exact ⟨rfl, rfl, ⟨by decide, by decide⟩, Nat.le_refl _, Nat.le_refl _⟩) rfl rfl (by simp) rfl dX7_count_12 rfl ?_
      have j11 : G K 0 0 25 [(0, .long l0), (2, .int l2), (3, .int l3)] [.int (if q10 = 0 then l2 else (l2 + (1 : Int32)))] σ n := by
        refine g_istore_n (i := 2) (lv' := [(2, .int (if q10 = 0 then l2 else (l2 + (1 : Int32)))), (0, .long l0), (3, .int l3)]) C dX7_count_25 rfl rfl (by rw [hKN]; decide) rfl ?_
        refine g_iinc (v := l3 + (1 : Int32)) (lv' := [(3, .int (l3 + (1 : Int32))), (2, .int (if q10 = 0 then l2 else (l2 + (1 : Int32)))), (0, .long l0)]) (q := 2) C dX7_count_26 rfl rfl rfl (by rw [hKN]; decide) rfl ?_
        refine g_goto (pc' := 4) C dX7_count_29 (by decide) ?_
        refine g_sub (lv' := [(0, .long l0), (2, .int (if q10 = 0 then l2 else (l2 + (1 : Int32)))), (3, .int (l3 + (1 : Int32)))]) [2, 1, 0] rfl ?_
        exact ih _ _ _ hf hx
      refine g_if_eq (tgt := 24) C dX7_count_15 (by decide) rfl (fun c12 => ?_) (fun c12 => ?_)
      · refine g_iload_n C rfl (q := 1) rfl dX7_count_24 rfl ?_
        exact g_topI (by rw [if_pos c12]) j11
      · refine g_iload_n C rfl (q := 1) rfl dX7_count_18 rfl ?_
        refine g_iconst (v := 1) C (by decide) dX7_count_19 rfl ?_
        refine g_iadd C dX7_count_20 rfl ?_
        refine g_goto (pc' := 25) C dX7_count_21 (by decide) ?_
        exact g_topI (by rw [if_neg c12]) j11
set_option maxHeartbeats 2000000 in
set_option maxRecDepth 20000 in
theorem c_X7_count {l : Launch} {E : Ex} {n : Nat} {σ : AH}   {s : Int64} {fu : Nat} (res : Int32) (hf : f_X7_count fu s = some res) : Con l E yX7_count (.code yX7_count cX7_count 4 (some .int) :: TT) ({ frames := 1, cells := 0, slots := 0, locals := 22 } : Room) 0 0 [.long s] σ n (some (.int res)) σ n := by
  refine con_intro (by decide +kernel) (Nat.le_of_ble_eq_true rfl) ?_
  intro K C hKR hKL hKE hKN hKQ
  subst hKL
  subst hKE
  have C : Cx K RX7 "count" cX7_count (some .int) := C
  show G K 0 0 0 [(0, .long s)] [] σ n
  unfold f_X7_count at hf
  refine g_iconst (v := 0) C (by decide) dX7_count_0 rfl ?_
  refine g_istore_n (i := 2) (lv' := [(2, .int (0 : Int32)), (0, .long s)]) C dX7_count_1 rfl rfl (by rw [hKN]; decide) rfl ?_
  refine g_iconst (v := 0) C (by decide) dX7_count_2 rfl ?_
  refine g_istore_n (i := 3) (lv' := [(3, .int (0 : Int32)), (2, .int (0 : Int32)), (0, .long s)]) C dX7_count_3 rfl rfl (by rw [hKN]; decide) rfl ?_
  refine g_sub (lv' := [(0, .long s), (2, .int (0 : Int32)), (3, .int (0 : Int32))]) [2, 1, 0] rfl ?_
  obtain ⟨q13, hq13, hf⟩ := bd hf
  refine g_X7_count_4 (l0 := s) C hKR hKN _ _ _ _ hq13 ?_
  refine g_iload_n C rfl (q := 0) rfl dX7_count_32 rfl ?_
  obtain rfl := Option.some.inj hf
  exact g_iret C hKQ dX7_count_33
def f_X7_isLess (a : Int64) (b : Int64) : Option Int32 := (if bOk (if (b ^^^ (-9223372036854775808 : Int64)) ≤ (a ^^^ (-9223372036854775808 : Int64)) then (0 : Int32) else (1 : Int32)) = true then some (if (b ^^^ (-9223372036854775808 : Int64)) ≤ (a ^^^ (-9223372036854775808 : Int64)) then (0 : Int32) else (1 : Int32)) else none)
set_option maxHeartbeats 2000000 in
set_option maxRecDepth 20000 in
theorem c_X7_isLess {l : Launch} {E : Ex} {n : Nat} {σ : AH}   {a : Int64} {b : Int64} (res : Int32) (hf : f_X7_isLess a b = some res) : Con l E yX7_isLess (.code yX7_isLess cX7_isLess 4 (some .boolean) :: TT) ({ frames := 0, cells := 0, slots := 0, locals := 0 } : Room) 0 0 [.long a, .long b] σ n (some (.int res)) σ n := by
  refine con_intro (by decide +kernel) (Nat.le_of_ble_eq_true rfl) ?_
  intro K C hKR hKL hKE hKN hKQ
  subst hKL
  subst hKE
  have C : Cx K RX7 "isLess" cX7_isLess (some .boolean) := C
  show G K 0 0 0 [(0, .long a), (2, .long b)] [] σ n
  unfold f_X7_isLess at hf
  refine g_lload_n C rfl (q := 0) rfl dX7_isLess_0 rfl ?_
  refine g_ldc2 C wc_RX7_86 dX7_isLess_1 rfl ?_
  refine g_lxor C dX7_isLess_4 rfl ?_
  refine g_lload_n C rfl (q := 1) rfl dX7_isLess_5 rfl ?_
  refine g_ldc2 C wc_RX7_86 dX7_isLess_6 rfl ?_
  refine g_lxor C dX7_isLess_9 rfl ?_
  have j2 : G K 0 0 19 [(0, .long a), (2, .long b)] [.int (if (b ^^^ (-9223372036854775808 : Int64)) ≤ (a ^^^ (-9223372036854775808 : Int64)) then (0 : Int32) else (1 : Int32))] σ n := by
    obtain ⟨g1, hf⟩ := gd hf
    obtain rfl := Option.some.inj hf
    exact g_zret C (bOk_n g1) hKQ dX7_isLess_19
  refine g_lif_ge (tgt := 18) C dX7_isLess_10 rfl dX7_isLess_11 (by decide) rfl (fun c3 => ?_) (fun c3 => ?_)
  · refine g_iconst (v := 0) C (by decide) dX7_isLess_18 rfl ?_
    exact g_topI (by rw [if_pos c3]) j2
  · refine g_iconst (v := 1) C (by decide) dX7_isLess_14 rfl ?_
    refine g_goto (pc' := 19) C dX7_isLess_15 (by decide) ?_
    exact g_topI (by rw [if_neg c3]) j2
def f_X7_touch (a : Int32) (b : Int32) : Option Int32 := (if bOk (if (((((a - a / (4 : Int32) * (4 : Int32)) - (b - b / (4 : Int32) * (4 : Int32))) * ((a - a / (4 : Int32) * (4 : Int32)) - (b - b / (4 : Int32) * (4 : Int32)))) + ((((a / (4 : Int32)) - (a / (4 : Int32)) / (4 : Int32) * (4 : Int32)) - ((b / (4 : Int32)) - (b / (4 : Int32)) / (4 : Int32) * (4 : Int32))) * (((a / (4 : Int32)) - (a / (4 : Int32)) / (4 : Int32) * (4 : Int32)) - ((b / (4 : Int32)) - (b / (4 : Int32)) / (4 : Int32) * (4 : Int32))))) + (((a / (16 : Int32)) - (b / (16 : Int32))) * ((a / (16 : Int32)) - (b / (16 : Int32))))) = (1 : Int32) then (1 : Int32) else (0 : Int32)) = true then some (if (((((a - a / (4 : Int32) * (4 : Int32)) - (b - b / (4 : Int32) * (4 : Int32))) * ((a - a / (4 : Int32) * (4 : Int32)) - (b - b / (4 : Int32) * (4 : Int32)))) + ((((a / (4 : Int32)) - (a / (4 : Int32)) / (4 : Int32) * (4 : Int32)) - ((b / (4 : Int32)) - (b / (4 : Int32)) / (4 : Int32) * (4 : Int32))) * (((a / (4 : Int32)) - (a / (4 : Int32)) / (4 : Int32) * (4 : Int32)) - ((b / (4 : Int32)) - (b / (4 : Int32)) / (4 : Int32) * (4 : Int32))))) + (((a / (16 : Int32)) - (b / (16 : Int32))) * ((a / (16 : Int32)) - (b / (16 : Int32))))) = (1 : Int32) then (1 : Int32) else (0 : Int32)) else none)
set_option maxHeartbeats 2000000 in
set_option maxRecDepth 20000 in
theorem c_X7_touch {l : Launch} {E : Ex} {n : Nat} {σ : AH}   {a : Int32} {b : Int32} (res : Int32) (hf : f_X7_touch a b = some res) : Con l E yX7_touch (.code yX7_touch cX7_touch 5 (some .boolean) :: TT) ({ frames := 0, cells := 0, slots := 0, locals := 0 } : Room) 0 0 [.int a, .int b] σ n (some (.int res)) σ n := by
  refine con_intro (by decide +kernel) (Nat.le_of_ble_eq_true rfl) ?_
  intro K C hKR hKL hKE hKN hKQ
  subst hKL
  subst hKE
  have C : Cx K RX7 "touch" cX7_touch (some .boolean) := C
  show G K 0 0 0 [(0, .int a), (1, .int b)] [] σ n
  unfold f_X7_touch at hf
  refine g_iload_n C rfl (q := 0) rfl dX7_touch_0 rfl ?_
  refine g_iconst (v := 4) C (by decide) dX7_touch_1 rfl ?_
  refine g_irem C (by decide) dX7_touch_2 rfl ?_
  refine g_iload_n C rfl (q := 1) rfl dX7_touch_3 rfl ?_
  refine g_iconst (v := 4) C (by decide) dX7_touch_4 rfl ?_
  refine g_irem C (by decide) dX7_touch_5 rfl ?_
  refine g_isub C dX7_touch_6 rfl ?_
  refine g_istore_n (i := 2) (lv' := [(2, .int ((a - a / (4 : Int32) * (4 : Int32)) - (b - b / (4 : Int32) * (4 : Int32)))), (0, .int a), (1, .int b)]) C dX7_touch_7 rfl rfl (by rw [hKN]; decide) rfl ?_
  refine g_iload_n C rfl (q := 1) rfl dX7_touch_8 rfl ?_
  refine g_iconst (v := 4) C (by decide) dX7_touch_9 rfl ?_
  refine g_idiv C (by decide) dX7_touch_10 rfl ?_
  refine g_iconst (v := 4) C (by decide) dX7_touch_11 rfl ?_
  refine g_irem C (by decide) dX7_touch_12 rfl ?_
  refine g_iload_n C rfl (q := 2) rfl dX7_touch_13 rfl ?_
  refine g_iconst (v := 4) C (by decide) dX7_touch_14 rfl ?_
  refine g_idiv C (by decide) dX7_touch_15 rfl ?_
  refine g_iconst (v := 4) C (by decide) dX7_touch_16 rfl ?_
  refine g_irem C (by decide) dX7_touch_17 rfl ?_
  refine g_isub C dX7_touch_18 rfl ?_
  refine g_istore_n (i := 3) (lv' := [(3, .int (((a / (4 : Int32)) - (a / (4 : Int32)) / (4 : Int32) * (4 : Int32)) - ((b / (4 : Int32)) - (b / (4 : Int32)) / (4 : Int32) * (4 : Int32)))), (2, .int ((a - a / (4 : Int32) * (4 : Int32)) - (b - b / (4 : Int32) * (4 : Int32)))), (0, .int a), (1, .int b)]) C dX7_touch_19 rfl rfl (by rw [hKN]; decide) rfl ?_
  refine g_iload_n C rfl (q := 2) rfl dX7_touch_20 rfl ?_
  refine g_bipush (v := 16) C (by decide) dX7_touch_21 rfl ?_
  refine g_idiv C (by decide) dX7_touch_23 rfl ?_
  refine g_iload_n C rfl (q := 3) rfl dX7_touch_24 rfl ?_
  refine g_bipush (v := 16) C (by decide) dX7_touch_25 rfl ?_
  refine g_idiv C (by decide) dX7_touch_27 rfl ?_
  refine g_isub C dX7_touch_28 rfl ?_
  refine g_istore (i := 4) (lv' := [(4, .int ((a / (16 : Int32)) - (b / (16 : Int32)))), (3, .int (((a / (4 : Int32)) - (a / (4 : Int32)) / (4 : Int32) * (4 : Int32)) - ((b / (4 : Int32)) - (b / (4 : Int32)) / (4 : Int32) * (4 : Int32)))), (2, .int ((a - a / (4 : Int32) * (4 : Int32)) - (b - b / (4 : Int32) * (4 : Int32)))), (0, .int a), (1, .int b)]) C dX7_touch_29 rfl (by rw [hKN]; decide) rfl ?_
  refine g_iload_n C rfl (q := 2) rfl dX7_touch_31 rfl ?_
  refine g_iload_n C rfl (q := 2) rfl dX7_touch_32 rfl ?_
  refine g_imul C dX7_touch_33 rfl ?_
  refine g_iload_n C rfl (q := 1) rfl dX7_touch_34 rfl ?_
  refine g_iload_n C rfl (q := 1) rfl dX7_touch_35 rfl ?_
  refine g_imul C dX7_touch_36 rfl ?_
  refine g_iadd C dX7_touch_37 rfl ?_
  refine g_iload C (q := 0) rfl dX7_touch_38 rfl ?_
  refine g_iload C (q := 0) rfl dX7_touch_40 rfl ?_
  refine g_imul C dX7_touch_42 rfl ?_
  refine g_iadd C dX7_touch_43 rfl ?_
  refine g_iconst (v := 1) C (by decide) dX7_touch_44 rfl ?_
  have j2 : G K 0 0 53 [(4, .int ((a / (16 : Int32)) - (b / (16 : Int32)))), (3, .int (((a / (4 : Int32)) - (a / (4 : Int32)) / (4 : Int32) * (4 : Int32)) - ((b / (4 : Int32)) - (b / (4 : Int32)) / (4 : Int32) * (4 : Int32)))), (2, .int ((a - a / (4 : Int32) * (4 : Int32)) - (b - b / (4 : Int32) * (4 : Int32)))), (0, .int a), (1, .int b)] [.int (if (((((a - a / (4 : Int32) * (4 : Int32)) - (b - b / (4 : Int32) * (4 : Int32))) * ((a - a / (4 : Int32) * (4 : Int32)) - (b - b / (4 : Int32) * (4 : Int32)))) + ((((a / (4 : Int32)) - (a / (4 : Int32)) / (4 : Int32) * (4 : Int32)) - ((b / (4 : Int32)) - (b / (4 : Int32)) / (4 : Int32) * (4 : Int32))) * (((a / (4 : Int32)) - (a / (4 : Int32)) / (4 : Int32) * (4 : Int32)) - ((b / (4 : Int32)) - (b / (4 : Int32)) / (4 : Int32) * (4 : Int32))))) + (((a / (16 : Int32)) - (b / (16 : Int32))) * ((a / (16 : Int32)) - (b / (16 : Int32))))) = (1 : Int32) then (1 : Int32) else (0 : Int32))] σ n := by
    obtain ⟨g1, hf⟩ := gd hf
    obtain rfl := Option.some.inj hf
    exact g_zret C (bOk_n g1) hKQ dX7_touch_53
  refine g_icmp_ne (tgt := 52) C dX7_touch_45 (by decide) rfl (fun c3 => ?_) (fun c3 => ?_)
  · refine g_iconst (v := 0) C (by decide) dX7_touch_52 rfl ?_
    exact g_topI (by rw [if_neg c3]) j2
  · refine g_iconst (v := 1) C (by decide) dX7_touch_48 rfl ?_
    refine g_goto (pc' := 53) C dX7_touch_49 (by decide) ?_
    exact g_topI (by rw [if_pos c3]) j2
def f_X7_isMade_58  (l2 : Int64) (l5 : Int32) : Nat → Int32 → Int32 → Option Int32
  | 0, _, _ => none
  | fu + 1, l4, l6 => (if (64 : Int32) ≤ l6 then some l4 else (if l4 = 0 then ((f_X7_has l2 l6).bind fun q320 => (if q320 = 0 then f_X7_isMade_58 l2 l5 fu (0 : Int32) (l6 + (1 : Int32)) else ((f_X7_touch l5 l6).bind fun q322 => (if q322 = 0 then f_X7_isMade_58 l2 l5 fu (0 : Int32) (l6 + (1 : Int32)) else ((f_X7_has l2 l5).bind fun q324 => f_X7_isMade_58 l2 l5 fu (if q324 = 0 then (1 : Int32) else (0 : Int32)) (l6 + (1 : Int32))))))) else f_X7_isMade_58 l2 l5 fu (1 : Int32) (l6 + (1 : Int32))))
def f_X7_isMade_27  (l0 : Int64) : Nat → Int64 → Int32 → Int32 → Option (Int64 × Int32)
  | 0, _, _, _ => none
  | fu + 1, l2, l4, l5 => (if (64 : Int32) ≤ l5 then some (l2, l4) else ((f_X7_has l0 l5).bind fun q296 => (if q296 = 0 then f_X7_isMade_27 l0 fu l2 l4 (l5 + (1 : Int32)) else ((f_X7_has l2 l5).bind fun q298 => (if q298 = 0 then ((f_X7_isMade_58 l2 l5 fu l4 (0 : Int32)).bind fun q327 => (if q327 = 0 then (if q327 = 0 then f_X7_isMade_27 l0 fu l2 q327 (l5 + (1 : Int32)) else some (l2, q327)) else (if q327 = 0 then f_X7_isMade_27 l0 fu (l2 ||| ((1 : Int64) <<< (l5.toInt64 &&& 63))) q327 (l5 + (1 : Int32)) else some (l2 ||| ((1 : Int64) <<< (l5.toInt64 &&& 63)), q327)))) else f_X7_isMade_27 l0 fu l2 l4 (l5 + (1 : Int32)))))))
def f_X7_isMade_16  (l0 : Int64) : Nat → Int64 → Int32 → Option Int64
  | 0, _, _ => none
  | fu + 1, l2, l4 => (if l4 = 0 then some l2 else ((f_X7_isMade_27 l0 fu l2 (0 : Int32) (0 : Int32)).bind fun q331 => f_X7_isMade_16 l0 fu q331.1 q331.2))
def f_X7_isMade (fu : Nat) (s : Int64) : Option Int32 := (if s = (0 : Int64) then some (0 : Int32) else ((f_X7_isMade_16 s fu (s &&& (-s)) (1 : Int32)).bind fun q332 => (if bOk (if q332 = s then (1 : Int32) else (0 : Int32)) = true then some (if q332 = s then (1 : Int32) else (0 : Int32)) else none)))
set_option maxHeartbeats 2000000 in
set_option maxRecDepth 20000 in
theorem g_X7_isMade_58 {K : KX} {n : Nat} {σ : AH}  {l0 : Int64} {l2 : Int64} {l5 : Int32} (C : Cx K RX7 "isMade" cX7_isMade (some .boolean)) (hKR : kR K = ({ frames := 1, cells := 0, slots := 0, locals := 24 } : Room)) (hKN : kN K = 7) : ∀ (fu : Nat) (l4 : Int32) (l6 : Int32) (res : Int32), f_X7_isMade_58 l2 l5 fu l4 l6 = some res → G K 0 0 111 [(0, .long l0), (2, .long l2), (4, .int res), (5, .int l5)] [] σ n → G K 0 0 58 [(0, .long l0), (2, .long l2), (4, .int l4), (5, .int l5), (6, .int l6)] [] σ n := by
  intro fu
  induction fu with
  | zero =>
    intro l4 l6 res hf
    exact absurd hf (by simp [f_X7_isMade_58])
  | succ fu ih =>
    intro l4 l6 res hf hx
    rw [f_X7_isMade_58] at hf
    refine g_iload C (q := 4) rfl dX7_isMade_58 rfl ?_
    refine g_bipush (v := 64) C (by decide) dX7_isMade_60 rfl ?_
    refine g_icmp_ge (tgt := 111) C dX7_isMade_62 (by decide) rfl (fun c318 => ?_) (fun c318 => ?_)
    · replace hf := ift c318 hf
      obtain rfl := Option.some.inj hf
      refine g_sub (lv' := [(0, .long l0), (2, .long l2), (4, .int l4), (5, .int l5)]) [0, 1, 2, 3] rfl ?_
      exact hx
    · replace hf := iff' c318 hf
      refine g_iload C (q := 2) rfl dX7_isMade_65 rfl ?_
      refine g_if_ne (tgt := 98) C dX7_isMade_67 (by decide) rfl (fun c319 => ?_) (fun c319 => ?_)
      · replace hf := iff' c319 hf
        refine g_iconst (v := 1) C (by decide) dX7_isMade_98 rfl ?_
        refine g_goto (pc' := 103) C dX7_isMade_99 (by decide) ?_
        refine g_istore (i := 4) (lv' := [(4, .int (1 : Int32)), (0, .long l0), (2, .long l2), (5, .int l5), (6, .int l6)]) C dX7_isMade_103 rfl (by rw [hKN]; decide) rfl ?_
        refine g_iinc (v := l6 + (1 : Int32)) (lv' := [(6, .int (l6 + (1 : Int32))), (4, .int (1 : Int32)), (0, .long l0), (2, .long l2), (5, .int l5)]) (q := 4) C dX7_isMade_105 rfl rfl rfl (by rw [hKN]; decide) rfl ?_
        refine g_goto (pc' := 58) C dX7_isMade_108 (by decide) ?_
        refine g_sub (lv' := [(0, .long l0), (2, .long l2), (4, .int (1 : Int32)), (5, .int l5), (6, .int (l6 + (1 : Int32)))]) [2, 3, 1, 4, 0] rfl ?_
        exact ih _ _ _ hf hx
      · replace hf := ift c319 hf
        refine g_lload_n C rfl (q := 1) rfl dX7_isMade_70 rfl ?_
        refine g_iload C (q := 4) rfl dX7_isMade_71 rfl ?_
        obtain ⟨q320, hq320, hf⟩ := bd hf
        refine g_callS0 (st' := []) (as := [.long l2, .int l6]) (st2 := [.int q320]) (k := 2) C ⟨wm_RX7_82, ws_X7_has, wi_RX7, wk_X7_has, by decide +kernel⟩ (c_X7_has (l := kL K) (E := kE K)  _ hq320) (by rw [hKR]; exact ⟨rfl, rfl, ⟨by decide, by decide⟩, Nat.le_refl _, Nat.le_refl _⟩) rfl rfl (by simp) rfl dX7_isMade_73 rfl ?_
        refine g_if_eq (tgt := 102) C dX7_isMade_76 (by decide) rfl (fun c321 => ?_) (fun c321 => ?_)
        · replace hf := ift c321 hf
          refine g_iconst (v := 0) C (by decide) dX7_isMade_102 rfl ?_
          refine g_istore (i := 4) (lv' := [(4, .int (0 : Int32)), (0, .long l0), (2, .long l2), (5, .int l5), (6, .int l6)]) C dX7_isMade_103 rfl (by rw [hKN]; decide) rfl ?_
          refine g_iinc (v := l6 + (1 : Int32)) (lv' := [(6, .int (l6 + (1 : Int32))), (4, .int (0 : Int32)), (0, .long l0), (2, .long l2), (5, .int l5)]) (q := 4) C dX7_isMade_105 rfl rfl rfl (by rw [hKN]; decide) rfl ?_
          refine g_goto (pc' := 58) C dX7_isMade_108 (by decide) ?_
          refine g_sub (lv' := [(0, .long l0), (2, .long l2), (4, .int (0 : Int32)), (5, .int l5), (6, .int (l6 + (1 : Int32)))]) [2, 3, 1, 4, 0] rfl ?_
          exact ih _ _ _ hf hx
        · replace hf := iff' c321 hf
          refine g_iload C (q := 3) rfl dX7_isMade_79 rfl ?_
          refine g_iload C (q := 4) rfl dX7_isMade_81 rfl ?_
          obtain ⟨q322, hq322, hf⟩ := bd hf
          refine g_callS0 (st' := []) (as := [.int l5, .int l6]) (st2 := [.int q322]) (k := 2) C ⟨wm_RX7_100, ws_X7_touch, wi_RX7, wk_X7_touch, by decide +kernel⟩ (c_X7_touch (l := kL K) (E := kE K)  _ hq322) (by rw [hKR]; exact ⟨rfl, rfl, ⟨by decide, by decide⟩, Nat.le_refl _, Nat.le_refl _⟩) rfl rfl (by simp) rfl dX7_isMade_83 rfl ?_
          refine g_if_eq (tgt := 102) C dX7_isMade_86 (by decide) rfl (fun c323 => ?_) (fun c323 => ?_)
          · replace hf := ift c323 hf
            refine g_iconst (v := 0) C (by decide) dX7_isMade_102 rfl ?_
            refine g_istore (i := 4) (lv' := [(4, .int (0 : Int32)), (0, .long l0), (2, .long l2), (5, .int l5), (6, .int l6)]) C dX7_isMade_103 rfl (by rw [hKN]; decide) rfl ?_
            refine g_iinc (v := l6 + (1 : Int32)) (lv' := [(6, .int (l6 + (1 : Int32))), (4, .int (0 : Int32)), (0, .long l0), (2, .long l2), (5, .int l5)]) (q := 4) C dX7_isMade_105 rfl rfl rfl (by rw [hKN]; decide) rfl ?_
            refine g_goto (pc' := 58) C dX7_isMade_108 (by decide) ?_
            refine g_sub (lv' := [(0, .long l0), (2, .long l2), (4, .int (0 : Int32)), (5, .int l5), (6, .int (l6 + (1 : Int32)))]) [2, 3, 1, 4, 0] rfl ?_
            exact ih _ _ _ hf hx
          · replace hf := iff' c323 hf
            refine g_lload_n C rfl (q := 1) rfl dX7_isMade_89 rfl ?_
            refine g_iload C (q := 3) rfl dX7_isMade_90 rfl ?_
            obtain ⟨q324, hq324, hf⟩ := bd hf
            refine g_callS0 (st' := []) (as := [.long l2, .int l5]) (st2 := [.int q324]) (k := 2) C ⟨wm_RX7_82, ws_X7_has, wi_RX7, wk_X7_has, by decide +kernel⟩ (c_X7_has (l := kL K) (E := kE K)  _ hq324) (by rw [hKR]; exact ⟨rfl, rfl, ⟨by decide, by decide⟩, Nat.le_refl _, Nat.le_refl _⟩) rfl rfl (by simp) rfl dX7_isMade_92 rfl ?_
            have j325 : G K 0 0 103 [(0, .long l0), (2, .long l2), (4, .int l4), (5, .int l5), (6, .int l6)] [.int (if q324 = 0 then (1 : Int32) else (0 : Int32))] σ n := by
              refine g_istore (i := 4) (lv' := [(4, .int (if q324 = 0 then (1 : Int32) else (0 : Int32))), (0, .long l0), (2, .long l2), (5, .int l5), (6, .int l6)]) C dX7_isMade_103 rfl (by rw [hKN]; decide) rfl ?_
              refine g_iinc (v := l6 + (1 : Int32)) (lv' := [(6, .int (l6 + (1 : Int32))), (4, .int (if q324 = 0 then (1 : Int32) else (0 : Int32))), (0, .long l0), (2, .long l2), (5, .int l5)]) (q := 4) C dX7_isMade_105 rfl rfl rfl (by rw [hKN]; decide) rfl ?_
              refine g_goto (pc' := 58) C dX7_isMade_108 (by decide) ?_
              refine g_sub (lv' := [(0, .long l0), (2, .long l2), (4, .int (if q324 = 0 then (1 : Int32) else (0 : Int32))), (5, .int l5), (6, .int (l6 + (1 : Int32)))]) [2, 3, 1, 4, 0] rfl ?_
              exact ih _ _ _ hf hx
            refine g_if_ne (tgt := 102) C dX7_isMade_95 (by decide) rfl (fun c326 => ?_) (fun c326 => ?_)
            · refine g_iconst (v := 0) C (by decide) dX7_isMade_102 rfl ?_
              exact g_topI (by rw [if_neg c326]) j325
            · refine g_iconst (v := 1) C (by decide) dX7_isMade_98 rfl ?_
              refine g_goto (pc' := 103) C dX7_isMade_99 (by decide) ?_
              exact g_topI (by rw [if_pos c326]) j325
set_option maxHeartbeats 2000000 in
set_option maxRecDepth 20000 in
theorem g_X7_isMade_27 {K : KX} {n : Nat} {σ : AH}  {l0 : Int64} (C : Cx K RX7 "isMade" cX7_isMade (some .boolean)) (hKR : kR K = ({ frames := 1, cells := 0, slots := 0, locals := 24 } : Room)) (hKN : kN K = 7) : ∀ (fu : Nat) (l2 : Int64) (l4 : Int32) (l5 : Int32) (res : (Int64 × Int32)), f_X7_isMade_27 l0 fu l2 l4 l5 = some res → G K 0 0 137 [(0, .long l0), (2, .long res.1), (4, .int res.2)] [] σ n → G K 0 0 27 [(0, .long l0), (2, .long l2), (4, .int l4), (5, .int l5)] [] σ n := by
  intro fu
  induction fu with
  | zero =>
    intro l2 l4 l5 res hf
    exact absurd hf (by simp [f_X7_isMade_27])
  | succ fu ih =>
    intro l2 l4 l5 res hf hx
    rw [f_X7_isMade_27] at hf
    refine g_iload C (q := 3) rfl dX7_isMade_27 rfl ?_
    refine g_bipush (v := 64) C (by decide) dX7_isMade_29 rfl ?_
    refine g_icmp_ge (tgt := 137) C dX7_isMade_31 (by decide) rfl (fun c295 => ?_) (fun c295 => ?_)
    · replace hf := ift c295 hf
      obtain rfl := Option.some.inj hf
      refine g_sub (lv' := [(0, .long l0), (2, .long l2), (4, .int l4)]) [0, 1, 2] rfl ?_
      exact hx
    · replace hf := iff' c295 hf
      refine g_lload_n C rfl (q := 0) rfl dX7_isMade_34 rfl ?_
      refine g_iload C (q := 3) rfl dX7_isMade_35 rfl ?_
      obtain ⟨q296, hq296, hf⟩ := bd hf
      refine g_callS0 (st' := []) (as := [.long l0, .int l5]) (st2 := [.int q296]) (k := 2) C ⟨wm_RX7_82, ws_X7_has, wi_RX7, wk_X7_has, by decide +kernel⟩ (c_X7_has (l := kL K) (E := kE K)  _ hq296) (by rw [hKR]; exact ⟨rfl, rfl, ⟨by decide, by decide⟩, Nat.le_refl _, Nat.le_refl _⟩) rfl rfl (by simp) rfl dX7_isMade_37 rfl ?_
      refine g_if_eq (tgt := 131) C dX7_isMade_40 (by decide) rfl (fun c297 => ?_) (fun c297 => ?_)
      · replace hf := ift c297 hf
        refine g_iinc (v := l5 + (1 : Int32)) (lv' := [(5, .int (l5 + (1 : Int32))), (0, .long l0), (2, .long l2), (4, .int l4)]) (q := 3) C dX7_isMade_131 rfl rfl rfl (by rw [hKN]; decide) rfl ?_
        refine g_goto (pc' := 27) C dX7_isMade_134 (by decide) ?_
        refine g_sub (lv' := [(0, .long l0), (2, .long l2), (4, .int l4), (5, .int (l5 + (1 : Int32)))]) [1, 2, 3, 0] rfl ?_
        exact ih _ _ _ _ hf hx
      · replace hf := iff' c297 hf
        refine g_lload_n C rfl (q := 1) rfl dX7_isMade_43 rfl ?_
        refine g_iload C (q := 3) rfl dX7_isMade_44 rfl ?_
        obtain ⟨q298, hq298, hf⟩ := bd hf
        refine g_callS0 (st' := []) (as := [.long l2, .int l5]) (st2 := [.int q298]) (k := 2) C ⟨wm_RX7_82, ws_X7_has, wi_RX7, wk_X7_has, by decide +kernel⟩ (c_X7_has (l := kL K) (E := kE K)  _ hq298) (by rw [hKR]; exact ⟨rfl, rfl, ⟨by decide, by decide⟩, Nat.le_refl _, Nat.le_refl _⟩) rfl rfl (by simp) rfl dX7_isMade_46 rfl ?_
        refine g_if_eq (tgt := 55) C dX7_isMade_49 (by decide) rfl (fun c299 => ?_) (fun c299 => ?_)
        · replace hf := ift c299 hf
          refine g_iconst (v := 0) C (by decide) dX7_isMade_55 rfl ?_
          refine g_istore (i := 6) (lv' := [(6, .int (0 : Int32)), (0, .long l0), (2, .long l2), (4, .int l4), (5, .int l5)]) C dX7_isMade_56 rfl (by rw [hKN]; decide) rfl ?_
          refine g_sub (lv' := [(0, .long l0), (2, .long l2), (4, .int l4), (5, .int l5), (6, .int (0 : Int32))]) [1, 2, 3, 4, 0] rfl ?_
          obtain ⟨q327, hq327, hf⟩ := bd hf
          refine g_X7_isMade_58 (l0 := l0) (l2 := l2) (l5 := l5) C hKR hKN _ _ _ _ hq327 ?_
          refine g_iload C (q := 2) rfl dX7_isMade_111 rfl ?_
          refine g_if_eq (tgt := 123) C dX7_isMade_113 (by decide) rfl (fun c328 => ?_) (fun c328 => ?_)
          · replace hf := ift c328 hf
            refine g_iload C (q := 2) rfl dX7_isMade_123 rfl ?_
            refine g_if_eq (tgt := 131) C dX7_isMade_125 (by decide) rfl (fun c329 => ?_) (fun c329 => ?_)
            · replace hf := ift c329 hf
              refine g_iinc (v := l5 + (1 : Int32)) (lv' := [(5, .int (l5 + (1 : Int32))), (0, .long l0), (2, .long l2), (4, .int q327)]) (q := 3) C dX7_isMade_131 rfl rfl rfl (by rw [hKN]; decide) rfl ?_
              refine g_goto (pc' := 27) C dX7_isMade_134 (by decide) ?_
              refine g_sub (lv' := [(0, .long l0), (2, .long l2), (4, .int q327), (5, .int (l5 + (1 : Int32)))]) [1, 2, 3, 0] rfl ?_
              exact ih _ _ _ _ hf hx
            · replace hf := iff' c329 hf
              refine g_goto (pc' := 137) C dX7_isMade_128 (by decide) ?_
              obtain rfl := Option.some.inj hf
              refine g_sub (lv' := [(0, .long l0), (2, .long l2), (4, .int q327)]) [0, 1, 2] rfl ?_
              exact hx
          · replace hf := iff' c328 hf
            refine g_lload_n C rfl (q := 1) rfl dX7_isMade_116 rfl ?_
            refine g_lconst (v := 1) C (by decide) dX7_isMade_117 rfl ?_
            refine g_iload C (q := 3) rfl dX7_isMade_118 rfl ?_
            refine g_lshl C dX7_isMade_120 rfl ?_
            refine g_lor C dX7_isMade_121 rfl ?_
            refine g_lstore_n (i := 2) (lv' := [(2, .long (l2 ||| ((1 : Int64) <<< (l5.toInt64 &&& 63)))), (0, .long l0), (4, .int q327), (5, .int l5)]) C dX7_isMade_122 rfl rfl (by rw [hKN]; decide) rfl ?_
            refine g_iload C (q := 2) rfl dX7_isMade_123 rfl ?_
            refine g_if_eq (tgt := 131) C dX7_isMade_125 (by decide) rfl (fun c330 => ?_) (fun c330 => ?_)
            · replace hf := ift c330 hf
              refine g_iinc (v := l5 + (1 : Int32)) (lv' := [(5, .int (l5 + (1 : Int32))), (2, .long (l2 ||| ((1 : Int64) <<< (l5.toInt64 &&& 63)))), (0, .long l0), (4, .int q327)]) (q := 3) C dX7_isMade_131 rfl rfl rfl (by rw [hKN]; decide) rfl ?_
              refine g_goto (pc' := 27) C dX7_isMade_134 (by decide) ?_
              refine g_sub (lv' := [(0, .long l0), (2, .long (l2 ||| ((1 : Int64) <<< (l5.toInt64 &&& 63)))), (4, .int q327), (5, .int (l5 + (1 : Int32)))]) [2, 1, 3, 0] rfl ?_
              exact ih _ _ _ _ hf hx
            · replace hf := iff' c330 hf
              refine g_goto (pc' := 137) C dX7_isMade_128 (by decide) ?_
              obtain rfl := Option.some.inj hf
              refine g_sub (lv' := [(0, .long l0), (2, .long (l2 ||| ((1 : Int64) <<< (l5.toInt64 &&& 63)))), (4, .int q327)]) [1, 0, 2] rfl ?_
              exact hx
        · replace hf := iff' c299 hf
          refine g_goto (pc' := 131) C dX7_isMade_52 (by decide) ?_
          refine g_iinc (v := l5 + (1 : Int32)) (lv' := [(5, .int (l5 + (1 : Int32))), (0, .long l0), (2, .long l2), (4, .int l4)]) (q := 3) C dX7_isMade_131 rfl rfl rfl (by rw [hKN]; decide) rfl ?_
          refine g_goto (pc' := 27) C dX7_isMade_134 (by decide) ?_
          refine g_sub (lv' := [(0, .long l0), (2, .long l2), (4, .int l4), (5, .int (l5 + (1 : Int32)))]) [1, 2, 3, 0] rfl ?_
          exact ih _ _ _ _ hf hx
set_option maxHeartbeats 2000000 in
set_option maxRecDepth 20000 in
theorem g_X7_isMade_16 {K : KX} {n : Nat} {σ : AH}  {l0 : Int64} (C : Cx K RX7 "isMade" cX7_isMade (some .boolean)) (hKR : kR K = ({ frames := 1, cells := 0, slots := 0, locals := 24 } : Room)) (hKN : kN K = 7) : ∀ (fu : Nat) (l2 : Int64) (l4 : Int32) (res : Int64), f_X7_isMade_16 l0 fu l2 l4 = some res → G K 0 0 140 [(0, .long l0), (2, .long res)] [] σ n → G K 0 0 16 [(0, .long l0), (2, .long l2), (4, .int l4)] [] σ n := by
  intro fu
  induction fu with
  | zero =>
    intro l2 l4 res hf
    exact absurd hf (by simp [f_X7_isMade_16])
  | succ fu ih =>
    intro l2 l4 res hf hx
    rw [f_X7_isMade_16] at hf
    refine g_iload C (q := 2) rfl dX7_isMade_16 rfl ?_
    refine g_if_eq (tgt := 140) C dX7_isMade_18 (by decide) rfl (fun c222 => ?_) (fun c222 => ?_)
    · replace hf := ift c222 hf
      obtain rfl := Option.some.inj hf
      refine g_sub (lv' := [(0, .long l0), (2, .long l2)]) [0, 1] rfl ?_
      exact hx
    · replace hf := iff' c222 hf
      refine g_iconst (v := 0) C (by decide) dX7_isMade_21 rfl ?_
      refine g_istore (i := 4) (lv' := [(4, .int (0 : Int32)), (0, .long l0), (2, .long l2)]) C dX7_isMade_22 rfl (by rw [hKN]; decide) rfl ?_
      refine g_iconst (v := 0) C (by decide) dX7_isMade_24 rfl ?_
      refine g_istore (i := 5) (lv' := [(5, .int (0 : Int32)), (4, .int (0 : Int32)), (0, .long l0), (2, .long l2)]) C dX7_isMade_25 rfl (by rw [hKN]; decide) rfl ?_
      refine g_sub (lv' := [(0, .long l0), (2, .long l2), (4, .int (0 : Int32)), (5, .int (0 : Int32))]) [2, 3, 1, 0] rfl ?_
      obtain ⟨q331, hq331, hf⟩ := bd hf
      refine g_X7_isMade_27 (l0 := l0) C hKR hKN _ _ _ _ _ hq331 ?_
      refine g_goto (pc' := 16) C dX7_isMade_137 (by decide) ?_
      exact ih _ _ _ hf hx
set_option maxHeartbeats 2000000 in
set_option maxRecDepth 20000 in
theorem c_X7_isMade {l : Launch} {E : Ex} {n : Nat} {σ : AH}   {s : Int64} {fu : Nat} (res : Int32) (hf : f_X7_isMade fu s = some res) : Con l E yX7_isMade (.code yX7_isMade cX7_isMade 7 (some .boolean) :: TT) ({ frames := 1, cells := 0, slots := 0, locals := 24 } : Room) 0 0 [.long s] σ n (some (.int res)) σ n := by
  refine con_intro (by decide +kernel) (Nat.le_of_ble_eq_true rfl) ?_
  intro K C hKR hKL hKE hKN hKQ
  subst hKL
  subst hKE
  have C : Cx K RX7 "isMade" cX7_isMade (some .boolean) := C
  show G K 0 0 0 [(0, .long s)] [] σ n
  unfold f_X7_isMade at hf
  refine g_lload_n C rfl (q := 0) rfl dX7_isMade_0 rfl ?_
  refine g_lconst (v := 0) C (by decide) dX7_isMade_1 rfl ?_
  refine g_lif_ne (tgt := 8) C dX7_isMade_2 rfl dX7_isMade_3 (by decide) rfl (fun c1 => ?_) (fun c1 => ?_)
  · replace hf := iff' c1 hf
    refine g_lload_n C rfl (q := 0) rfl dX7_isMade_8 rfl ?_
    refine g_lload_n C rfl (q := 0) rfl dX7_isMade_9 rfl ?_
    refine g_lneg C dX7_isMade_10 rfl ?_
    refine g_land C dX7_isMade_11 rfl ?_
    refine g_lstore_n (i := 2) (lv' := [(2, .long (s &&& (-s))), (0, .long s)]) C dX7_isMade_12 rfl rfl (by rw [hKN]; decide) rfl ?_
    refine g_iconst (v := 1) C (by decide) dX7_isMade_13 rfl ?_
    refine g_istore (i := 4) (lv' := [(4, .int (1 : Int32)), (2, .long (s &&& (-s))), (0, .long s)]) C dX7_isMade_14 rfl (by rw [hKN]; decide) rfl ?_
    refine g_sub (lv' := [(0, .long s), (2, .long (s &&& (-s))), (4, .int (1 : Int32))]) [2, 1, 0] rfl ?_
    obtain ⟨q332, hq332, hf⟩ := bd hf
    refine g_X7_isMade_16 (l0 := s) C hKR hKN _ _ _ _ hq332 ?_
    refine g_lload_n C rfl (q := 1) rfl dX7_isMade_140 rfl ?_
    refine g_lload_n C rfl (q := 0) rfl dX7_isMade_141 rfl ?_
    have j334 : G K 0 0 151 [(0, .long s), (2, .long q332)] [.int (if q332 = s then (1 : Int32) else (0 : Int32))] σ n := by
      obtain ⟨g333, hf⟩ := gd hf
      obtain rfl := Option.some.inj hf
      exact g_zret C (bOk_n g333) hKQ dX7_isMade_151
    refine g_lif_ne (tgt := 150) C dX7_isMade_142 rfl dX7_isMade_143 (by decide) rfl (fun c335 => ?_) (fun c335 => ?_)
    · refine g_iconst (v := 0) C (by decide) dX7_isMade_150 rfl ?_
      exact g_topI (by rw [if_neg c335]) j334
    · refine g_iconst (v := 1) C (by decide) dX7_isMade_146 rfl ?_
      refine g_goto (pc' := 151) C dX7_isMade_147 (by decide) ?_
      exact g_topI (by rw [if_pos c335]) j334
  · replace hf := ift c1 hf
    refine g_iconst (v := 0) C (by decide) dX7_isMade_6 rfl ?_
    obtain rfl := Option.some.inj hf
    exact g_zret C rfl hKQ dX7_isMade_7
def f_X7_axis (c : Int32) (which : Int32) (round : Int32) : Option Int32 := (if which = 0 then some (if round = 0 then (c - c / (4 : Int32) * (4 : Int32)) else ((3 : Int32) - (c - c / (4 : Int32) * (4 : Int32)))) else (if which = (1 : Int32) then some (if round = 0 then ((c / (4 : Int32)) - (c / (4 : Int32)) / (4 : Int32) * (4 : Int32)) else ((3 : Int32) - ((c / (4 : Int32)) - (c / (4 : Int32)) / (4 : Int32) * (4 : Int32)))) else some (if round = 0 then (c / (16 : Int32)) else ((3 : Int32) - (c / (16 : Int32))))))
set_option maxHeartbeats 2000000 in
set_option maxRecDepth 20000 in
theorem c_X7_axis {l : Launch} {E : Ex} {n : Nat} {σ : AH}   {c : Int32} {which : Int32} {round : Int32} (res : Int32) (hf : f_X7_axis c which round = some res) : Con l E yX7_axis (.code yX7_axis cX7_axis 4 (some .int) :: TT) ({ frames := 0, cells := 0, slots := 0, locals := 0 } : Room) 0 0 [.int c, .int which, .int round] σ n (some (.int res)) σ n := by
  refine con_intro (by decide +kernel) (Nat.le_of_ble_eq_true rfl) ?_
  intro K C hKR hKL hKE hKN hKQ
  subst hKL
  subst hKE
  have C : Cx K RX7 "axis" cX7_axis (some .int) := C
  show G K 0 0 0 [(0, .int c), (1, .int which), (2, .int round)] [] σ n
  unfold f_X7_axis at hf
  refine g_iload_n C rfl (q := 1) rfl dX7_axis_0 rfl ?_
  refine g_if_ne (tgt := 10) C dX7_axis_1 (by decide) rfl (fun c1 => ?_) (fun c1 => ?_)
  · replace hf := iff' c1 hf
    refine g_iload_n C rfl (q := 1) rfl dX7_axis_10 rfl ?_
    refine g_iconst (v := 1) C (by decide) dX7_axis_11 rfl ?_
    refine g_icmp_ne (tgt := 23) C dX7_axis_12 (by decide) rfl (fun c2 => ?_) (fun c2 => ?_)
    · replace hf := iff' c2 hf
      refine g_iload_n C rfl (q := 0) rfl dX7_axis_23 rfl ?_
      refine g_bipush (v := 16) C (by decide) dX7_axis_24 rfl ?_
      refine g_idiv C (by decide) dX7_axis_26 rfl ?_
      refine g_istore_n (i := 3) (lv' := [(3, .int (c / (16 : Int32))), (0, .int c), (1, .int which), (2, .int round)]) C dX7_axis_27 rfl rfl (by rw [hKN]; decide) rfl ?_
      refine g_iload_n C rfl (q := 3) rfl dX7_axis_28 rfl ?_
      have j3 : G K 0 0 39 [(3, .int (c / (16 : Int32))), (0, .int c), (1, .int which), (2, .int round)] [.int (if round = 0 then (c / (16 : Int32)) else ((3 : Int32) - (c / (16 : Int32))))] σ n := by
        obtain rfl := Option.some.inj hf
        exact g_iret C hKQ dX7_axis_39
      refine g_if_eq (tgt := 38) C dX7_axis_29 (by decide) rfl (fun c4 => ?_) (fun c4 => ?_)
      · refine g_iload_n C rfl (q := 0) rfl dX7_axis_38 rfl ?_
        exact g_topI (by rw [if_pos c4]) j3
      · refine g_iconst (v := 3) C (by decide) dX7_axis_32 rfl ?_
        refine g_iload_n C rfl (q := 0) rfl dX7_axis_33 rfl ?_
        refine g_isub C dX7_axis_34 rfl ?_
        refine g_goto (pc' := 39) C dX7_axis_35 (by decide) ?_
        exact g_topI (by rw [if_neg c4]) j3
    · replace hf := ift c2 hf
      refine g_iload_n C rfl (q := 0) rfl dX7_axis_15 rfl ?_
      refine g_iconst (v := 4) C (by decide) dX7_axis_16 rfl ?_
      refine g_idiv C (by decide) dX7_axis_17 rfl ?_
      refine g_iconst (v := 4) C (by decide) dX7_axis_18 rfl ?_
      refine g_irem C (by decide) dX7_axis_19 rfl ?_
      refine g_goto (pc' := 27) C dX7_axis_20 (by decide) ?_
      refine g_istore_n (i := 3) (lv' := [(3, .int ((c / (4 : Int32)) - (c / (4 : Int32)) / (4 : Int32) * (4 : Int32))), (0, .int c), (1, .int which), (2, .int round)]) C dX7_axis_27 rfl rfl (by rw [hKN]; decide) rfl ?_
      refine g_iload_n C rfl (q := 3) rfl dX7_axis_28 rfl ?_
      have j5 : G K 0 0 39 [(3, .int ((c / (4 : Int32)) - (c / (4 : Int32)) / (4 : Int32) * (4 : Int32))), (0, .int c), (1, .int which), (2, .int round)] [.int (if round = 0 then ((c / (4 : Int32)) - (c / (4 : Int32)) / (4 : Int32) * (4 : Int32)) else ((3 : Int32) - ((c / (4 : Int32)) - (c / (4 : Int32)) / (4 : Int32) * (4 : Int32))))] σ n := by
        obtain rfl := Option.some.inj hf
        exact g_iret C hKQ dX7_axis_39
      refine g_if_eq (tgt := 38) C dX7_axis_29 (by decide) rfl (fun c6 => ?_) (fun c6 => ?_)
      · refine g_iload_n C rfl (q := 0) rfl dX7_axis_38 rfl ?_
        exact g_topI (by rw [if_pos c6]) j5
      · refine g_iconst (v := 3) C (by decide) dX7_axis_32 rfl ?_
        refine g_iload_n C rfl (q := 0) rfl dX7_axis_33 rfl ?_
        refine g_isub C dX7_axis_34 rfl ?_
        refine g_goto (pc' := 39) C dX7_axis_35 (by decide) ?_
        exact g_topI (by rw [if_neg c6]) j5
  · replace hf := ift c1 hf
    refine g_iload_n C rfl (q := 0) rfl dX7_axis_4 rfl ?_
    refine g_iconst (v := 4) C (by decide) dX7_axis_5 rfl ?_
    refine g_irem C (by decide) dX7_axis_6 rfl ?_
    refine g_goto (pc' := 27) C dX7_axis_7 (by decide) ?_
    refine g_istore_n (i := 3) (lv' := [(3, .int (c - c / (4 : Int32) * (4 : Int32))), (0, .int c), (1, .int which), (2, .int round)]) C dX7_axis_27 rfl rfl (by rw [hKN]; decide) rfl ?_
    refine g_iload_n C rfl (q := 3) rfl dX7_axis_28 rfl ?_
    have j7 : G K 0 0 39 [(3, .int (c - c / (4 : Int32) * (4 : Int32))), (0, .int c), (1, .int which), (2, .int round)] [.int (if round = 0 then (c - c / (4 : Int32) * (4 : Int32)) else ((3 : Int32) - (c - c / (4 : Int32) * (4 : Int32))))] σ n := by
      obtain rfl := Option.some.inj hf
      exact g_iret C hKQ dX7_axis_39
    refine g_if_eq (tgt := 38) C dX7_axis_29 (by decide) rfl (fun c8 => ?_) (fun c8 => ?_)
    · refine g_iload_n C rfl (q := 0) rfl dX7_axis_38 rfl ?_
      exact g_topI (by rw [if_pos c8]) j7
    · refine g_iconst (v := 3) C (by decide) dX7_axis_32 rfl ?_
      refine g_iload_n C rfl (q := 0) rfl dX7_axis_33 rfl ?_
      refine g_isub C dX7_axis_34 rfl ?_
      refine g_goto (pc' := 39) C dX7_axis_35 (by decide) ?_
      exact g_topI (by rw [if_neg c8]) j7
def f_X7_turned_49  (l0 : Int64) (l3 : Int32) (l4 : Int32) (l5 : Int32) (l6 : Int32) : Nat → Int32 → Int32 → Int32 → Int32 → Option (Int32 × Int32 × Int32)
  | 0, _, _, _, _ => none
  | fu + 1, l7, l8, l9, l10 => (if (64 : Int32) ≤ l10 then some (l7, l8, l9) else ((f_X7_has l0 l10).bind fun q39 => (if q39 = 0 then f_X7_turned_49 l0 l3 l4 l5 l6 fu l7 l8 l9 (l10 + (1 : Int32)) else ((f_X7_axis l10 l4 (if (l3 &&& (1 : Int32)) = (1 : Int32) then (1 : Int32) else (0 : Int32))).bind fun q41 => ((f_X7_axis l10 l5 (if (l3 &&& (2 : Int32)) = (2 : Int32) then (1 : Int32) else (0 : Int32))).bind fun q42 => ((f_X7_axis l10 l6 (if (l3 &&& (4 : Int32)) = (4 : Int32) then (1 : Int32) else (0 : Int32))).bind fun q43 => f_X7_turned_49 l0 l3 l4 l5 l6 fu (if l7 ≤ q41 then l7 else q41) (if l8 ≤ q42 then l8 else q42) (if l9 ≤ q43 then l9 else q43) (l10 + (1 : Int32))))))))
def f_X7_turned_191  (l0 : Int64) (l3 : Int32) (l4 : Int32) (l5 : Int32) (l6 : Int32) (l7 : Int32) (l8 : Int32) (l9 : Int32) : Nat → Int64 → Int32 → Option Int64
  | 0, _, _ => none
  | fu + 1, l10, l12 => (if (64 : Int32) ≤ l12 then some l10 else ((f_X7_has l0 l12).bind fun q82 => (if q82 = 0 then f_X7_turned_191 l0 l3 l4 l5 l6 l7 l8 l9 fu l10 (l12 + (1 : Int32)) else ((f_X7_axis l12 l4 (if (l3 &&& (1 : Int32)) = (1 : Int32) then (1 : Int32) else (0 : Int32))).bind fun q84 => ((f_X7_axis l12 l5 (if (l3 &&& (2 : Int32)) = (2 : Int32) then (1 : Int32) else (0 : Int32))).bind fun q85 => ((f_X7_axis l12 l6 (if (l3 &&& (4 : Int32)) = (4 : Int32) then (1 : Int32) else (0 : Int32))).bind fun q86 => f_X7_turned_191 l0 l3 l4 l5 l6 l7 l8 l9 fu (l10 ||| ((1 : Int64) <<< ((((q84 - l7) + ((4 : Int32) * (q85 - l8))) + ((16 : Int32) * (q86 - l9))).toInt64 &&& 63))) (l12 + (1 : Int32))))))))
def f_X7_turned (fu : Nat) (s : Int64) (row : Int32) (signs : Int32) : Option Int64 := (if (row - row / (2 : Int32) * (2 : Int32)) = 0 then ((f_X7_turned_49 s signs (row / (2 : Int32)) (((row / (2 : Int32)) + (1 : Int32)) - ((row / (2 : Int32)) + (1 : Int32)) / (3 : Int32) * (3 : Int32)) (((3 : Int32) - (row / (2 : Int32))) - (((row / (2 : Int32)) + (1 : Int32)) - ((row / (2 : Int32)) + (1 : Int32)) / (3 : Int32) * (3 : Int32))) fu (3 : Int32) (3 : Int32) (3 : Int32) (0 : Int32)).bind fun q94 => ((f_X7_turned_191 s signs (row / (2 : Int32)) (((row / (2 : Int32)) + (1 : Int32)) - ((row / (2 : Int32)) + (1 : Int32)) / (3 : Int32) * (3 : Int32)) (((3 : Int32) - (row / (2 : Int32))) - (((row / (2 : Int32)) + (1 : Int32)) - ((row / (2 : Int32)) + (1 : Int32)) / (3 : Int32) * (3 : Int32))) q94.1 q94.2.1 q94.2.2 fu (0 : Int64) (0 : Int32)).bind fun q95 => some q95)) else ((f_X7_turned_49 s signs (row / (2 : Int32)) (((row / (2 : Int32)) + (2 : Int32)) - ((row / (2 : Int32)) + (2 : Int32)) / (3 : Int32) * (3 : Int32)) (((3 : Int32) - (row / (2 : Int32))) - (((row / (2 : Int32)) + (2 : Int32)) - ((row / (2 : Int32)) + (2 : Int32)) / (3 : Int32) * (3 : Int32))) fu (3 : Int32) (3 : Int32) (3 : Int32) (0 : Int32)).bind fun q56 => ((f_X7_turned_191 s signs (row / (2 : Int32)) (((row / (2 : Int32)) + (2 : Int32)) - ((row / (2 : Int32)) + (2 : Int32)) / (3 : Int32) * (3 : Int32)) (((3 : Int32) - (row / (2 : Int32))) - (((row / (2 : Int32)) + (2 : Int32)) - ((row / (2 : Int32)) + (2 : Int32)) / (3 : Int32) * (3 : Int32))) q56.1 q56.2.1 q56.2.2 fu (0 : Int64) (0 : Int32)).bind fun q93 => some q93)))
set_option maxHeartbeats 2000000 in
set_option maxRecDepth 20000 in
theorem g_X7_turned_49 {K : KX} {n : Nat} {σ : AH}  {l0 : Int64} {l3 : Int32} {l4 : Int32} {l5 : Int32} {l6 : Int32} (C : Cx K RX7 "turned" cX7_turned (some .long)) (hKR : kR K = ({ frames := 1, cells := 0, slots := 0, locals := 23 } : Room)) (hKN : kN K = 16) : ∀ (fu : Nat) (l7 : Int32) (l8 : Int32) (l9 : Int32) (l10 : Int32) (res : (Int32 × Int32 × Int32)), f_X7_turned_49 l0 l3 l4 l5 l6 fu l7 l8 l9 l10 = some res → G K 0 0 185 [(0, .long l0), (3, .int l3), (4, .int l4), (5, .int l5), (6, .int l6), (7, .int res.1), (8, .int res.2.1), (9, .int res.2.2)] [] σ n → G K 0 0 49 [(0, .long l0), (3, .int l3), (4, .int l4), (5, .int l5), (6, .int l6), (7, .int l7), (8, .int l8), (9, .int l9), (10, .int l10)] [] σ n := by
  intro fu
  induction fu with
  | zero =>
    intro l7 l8 l9 l10 res hf
    exact absurd hf (by simp [f_X7_turned_49])
  | succ fu ih =>
    intro l7 l8 l9 l10 res hf hx
    rw [f_X7_turned_49] at hf
    refine g_iload C (q := 8) rfl dX7_turned_49 rfl ?_
    refine g_bipush (v := 64) C (by decide) dX7_turned_51 rfl ?_
    refine g_icmp_ge (tgt := 185) C dX7_turned_53 (by decide) rfl (fun c38 => ?_) (fun c38 => ?_)
    · replace hf := ift c38 hf
      obtain rfl := Option.some.inj hf
      refine g_sub (lv' := [(0, .long l0), (3, .int l3), (4, .int l4), (5, .int l5), (6, .int l6), (7, .int l7), (8, .int l8), (9, .int l9)]) [0, 1, 2, 3, 4, 5, 6, 7] rfl ?_
      exact hx
    · replace hf := iff' c38 hf
      refine g_lload_n C rfl (q := 0) rfl dX7_turned_56 rfl ?_
      refine g_iload C (q := 8) rfl dX7_turned_57 rfl ?_
      obtain ⟨q39, hq39, hf⟩ := bd hf
      refine g_callS0 (st' := []) (as := [.long l0, .int l10]) (st2 := [.int q39]) (k := 2) C ⟨wm_RX7_82, ws_X7_has, wi_RX7, wk_X7_has, by decide +kernel⟩ (c_X7_has (l := kL K) (E := kE K)  _ hq39) (by rw [hKR]; exact ⟨rfl, rfl, ⟨by decide, by decide⟩, Nat.le_refl _, Nat.le_refl _⟩) rfl rfl (by simp) rfl dX7_turned_59 rfl ?_
      refine g_if_ne (tgt := 68) C dX7_turned_62 (by decide) rfl (fun c40 => ?_) (fun c40 => ?_)
      · replace hf := iff' c40 hf
        refine g_iload C (q := 8) rfl dX7_turned_68 rfl ?_
        refine g_iload C (q := 2) rfl dX7_turned_70 rfl ?_
        refine g_iload_n C rfl (q := 1) rfl dX7_turned_72 rfl ?_
        refine g_iconst (v := 1) C (by decide) dX7_turned_73 rfl ?_
        refine g_iand C dX7_turned_74 rfl ?_
        refine g_iconst (v := 1) C (by decide) dX7_turned_75 rfl ?_
        have j54 : G K 0 0 84 [(0, .long l0), (3, .int l3), (4, .int l4), (5, .int l5), (6, .int l6), (7, .int l7), (8, .int l8), (9, .int l9), (10, .int l10)] [.int (if (l3 &&& (1 : Int32)) = (1 : Int32) then (1 : Int32) else (0 : Int32)), .int l4, .int l10] σ n := by
          obtain ⟨q41, hq41, hf⟩ := bd hf
          refine g_callS0 (st' := []) (as := [.int l10, .int l4, .int (if (l3 &&& (1 : Int32)) = (1 : Int32) then (1 : Int32) else (0 : Int32))]) (st2 := [.int q41]) (k := 3) C ⟨wm_RX7_104, ws_X7_axis, wi_RX7, wk_X7_axis, by decide +kernel⟩ (c_X7_axis (l := kL K) (E := kE K)  _ hq41) (by rw [hKR]; exact ⟨rfl, rfl, ⟨by decide, by decide⟩, Nat.le_refl _, Nat.le_refl _⟩) rfl rfl (by simp) rfl dX7_turned_84 rfl ?_
          refine g_istore (i := 11) (lv' := [(11, .int q41), (0, .long l0), (3, .int l3), (4, .int l4), (5, .int l5), (6, .int l6), (7, .int l7), (8, .int l8), (9, .int l9), (10, .int l10)]) C dX7_turned_87 rfl (by rw [hKN]; decide) rfl ?_
          refine g_iload C (q := 9) rfl dX7_turned_89 rfl ?_
          refine g_iload C (q := 4) rfl dX7_turned_91 rfl ?_
          refine g_iload_n C rfl (q := 2) rfl dX7_turned_93 rfl ?_
          refine g_iconst (v := 2) C (by decide) dX7_turned_94 rfl ?_
          refine g_iand C dX7_turned_95 rfl ?_
          refine g_iconst (v := 2) C (by decide) dX7_turned_96 rfl ?_
          have j52 : G K 0 0 105 [(11, .int q41), (0, .long l0), (3, .int l3), (4, .int l4), (5, .int l5), (6, .int l6), (7, .int l7), (8, .int l8), (9, .int l9), (10, .int l10)] [.int (if (l3 &&& (2 : Int32)) = (2 : Int32) then (1 : Int32) else (0 : Int32)), .int l5, .int l10] σ n := by
            obtain ⟨q42, hq42, hf⟩ := bd hf
            refine g_callS0 (st' := []) (as := [.int l10, .int l5, .int (if (l3 &&& (2 : Int32)) = (2 : Int32) then (1 : Int32) else (0 : Int32))]) (st2 := [.int q42]) (k := 3) C ⟨wm_RX7_104, ws_X7_axis, wi_RX7, wk_X7_axis, by decide +kernel⟩ (c_X7_axis (l := kL K) (E := kE K)  _ hq42) (by rw [hKR]; exact ⟨rfl, rfl, ⟨by decide, by decide⟩, Nat.le_refl _, Nat.le_refl _⟩) rfl rfl (by simp) rfl dX7_turned_105 rfl ?_
            refine g_istore (i := 12) (lv' := [(12, .int q42), (11, .int q41), (0, .long l0), (3, .int l3), (4, .int l4), (5, .int l5), (6, .int l6), (7, .int l7), (8, .int l8), (9, .int l9), (10, .int l10)]) C dX7_turned_108 rfl (by rw [hKN]; decide) rfl ?_
            refine g_iload C (q := 10) rfl dX7_turned_110 rfl ?_
            refine g_iload C (q := 6) rfl dX7_turned_112 rfl ?_
            refine g_iload_n C rfl (q := 3) rfl dX7_turned_114 rfl ?_
            refine g_iconst (v := 4) C (by decide) dX7_turned_115 rfl ?_
            refine g_iand C dX7_turned_116 rfl ?_
            refine g_iconst (v := 4) C (by decide) dX7_turned_117 rfl ?_
            have j50 : G K 0 0 126 [(12, .int q42), (11, .int q41), (0, .long l0), (3, .int l3), (4, .int l4), (5, .int l5), (6, .int l6), (7, .int l7), (8, .int l8), (9, .int l9), (10, .int l10)] [.int (if (l3 &&& (4 : Int32)) = (4 : Int32) then (1 : Int32) else (0 : Int32)), .int l6, .int l10] σ n := by
              obtain ⟨q43, hq43, hf⟩ := bd hf
              refine g_callS0 (st' := []) (as := [.int l10, .int l6, .int (if (l3 &&& (4 : Int32)) = (4 : Int32) then (1 : Int32) else (0 : Int32))]) (st2 := [.int q43]) (k := 3) C ⟨wm_RX7_104, ws_X7_axis, wi_RX7, wk_X7_axis, by decide +kernel⟩ (c_X7_axis (l := kL K) (E := kE K)  _ hq43) (by rw [hKR]; exact ⟨rfl, rfl, ⟨by decide, by decide⟩, Nat.le_refl _, Nat.le_refl _⟩) rfl rfl (by simp) rfl dX7_turned_126 rfl ?_
              refine g_istore (i := 13) (lv' := [(13, .int q43), (12, .int q42), (11, .int q41), (0, .long l0), (3, .int l3), (4, .int l4), (5, .int l5), (6, .int l6), (7, .int l7), (8, .int l8), (9, .int l9), (10, .int l10)]) C dX7_turned_129 rfl (by rw [hKN]; decide) rfl ?_
              refine g_iload C (q := 2) rfl dX7_turned_131 rfl ?_
              refine g_iload C (q := 8) rfl dX7_turned_133 rfl ?_
              have j48 : G K 0 0 145 [(13, .int q43), (12, .int q42), (11, .int q41), (0, .long l0), (3, .int l3), (4, .int l4), (5, .int l5), (6, .int l6), (7, .int l7), (8, .int l8), (9, .int l9), (10, .int l10)] [.int (if l7 ≤ q41 then l7 else q41)] σ n := by
                refine g_istore (i := 7) (lv' := [(7, .int (if l7 ≤ q41 then l7 else q41)), (13, .int q43), (12, .int q42), (11, .int q41), (0, .long l0), (3, .int l3), (4, .int l4), (5, .int l5), (6, .int l6), (8, .int l8), (9, .int l9), (10, .int l10)]) C dX7_turned_145 rfl (by rw [hKN]; decide) rfl ?_
                refine g_iload C (q := 2) rfl dX7_turned_147 rfl ?_
                refine g_iload C (q := 9) rfl dX7_turned_149 rfl ?_
                have j46 : G K 0 0 161 [(7, .int (if l7 ≤ q41 then l7 else q41)), (13, .int q43), (12, .int q42), (11, .int q41), (0, .long l0), (3, .int l3), (4, .int l4), (5, .int l5), (6, .int l6), (8, .int l8), (9, .int l9), (10, .int l10)] [.int (if l8 ≤ q42 then l8 else q42)] σ n := by
                  refine g_istore (i := 8) (lv' := [(8, .int (if l8 ≤ q42 then l8 else q42)), (7, .int (if l7 ≤ q41 then l7 else q41)), (13, .int q43), (12, .int q42), (11, .int q41), (0, .long l0), (3, .int l3), (4, .int l4), (5, .int l5), (6, .int l6), (9, .int l9), (10, .int l10)]) C dX7_turned_161 rfl (by rw [hKN]; decide) rfl ?_
                  refine g_iload C (q := 2) rfl dX7_turned_163 rfl ?_
                  refine g_iload C (q := 10) rfl dX7_turned_165 rfl ?_
                  have j44 : G K 0 0 177 [(8, .int (if l8 ≤ q42 then l8 else q42)), (7, .int (if l7 ≤ q41 then l7 else q41)), (13, .int q43), (12, .int q42), (11, .int q41), (0, .long l0), (3, .int l3), (4, .int l4), (5, .int l5), (6, .int l6), (9, .int l9), (10, .int l10)] [.int (if l9 ≤ q43 then l9 else q43)] σ n := by
                    refine g_istore (i := 9) (lv' := [(9, .int (if l9 ≤ q43 then l9 else q43)), (8, .int (if l8 ≤ q42 then l8 else q42)), (7, .int (if l7 ≤ q41 then l7 else q41)), (13, .int q43), (12, .int q42), (11, .int q41), (0, .long l0), (3, .int l3), (4, .int l4), (5, .int l5), (6, .int l6), (10, .int l10)]) C dX7_turned_177 rfl (by rw [hKN]; decide) rfl ?_
                    refine g_iinc (v := l10 + (1 : Int32)) (lv' := [(10, .int (l10 + (1 : Int32))), (9, .int (if l9 ≤ q43 then l9 else q43)), (8, .int (if l8 ≤ q42 then l8 else q42)), (7, .int (if l7 ≤ q41 then l7 else q41)), (13, .int q43), (12, .int q42), (11, .int q41), (0, .long l0), (3, .int l3), (4, .int l4), (5, .int l5), (6, .int l6)]) (q := 11) C dX7_turned_179 rfl rfl rfl (by rw [hKN]; decide) rfl ?_
                    refine g_goto (pc' := 49) C dX7_turned_182 (by decide) ?_
                    refine g_sub (lv' := [(0, .long l0), (3, .int l3), (4, .int l4), (5, .int l5), (6, .int l6), (7, .int (if l7 ≤ q41 then l7 else q41)), (8, .int (if l8 ≤ q42 then l8 else q42)), (9, .int (if l9 ≤ q43 then l9 else q43)), (10, .int (l10 + (1 : Int32)))]) [7, 8, 9, 10, 11, 3, 2, 1, 0] rfl ?_
                    exact ih _ _ _ _ _ hf hx
                  refine g_icmp_ge (tgt := 175) C dX7_turned_167 (by decide) rfl (fun c45 => ?_) (fun c45 => ?_)
                  · refine g_iload C (q := 10) rfl dX7_turned_175 rfl ?_
                    exact g_topI (by rw [if_pos c45]) j44
                  · refine g_iload C (q := 2) rfl dX7_turned_170 rfl ?_
                    refine g_goto (pc' := 177) C dX7_turned_172 (by decide) ?_
                    exact g_topI (by rw [if_neg c45]) j44
                refine g_icmp_ge (tgt := 159) C dX7_turned_151 (by decide) rfl (fun c47 => ?_) (fun c47 => ?_)
                · refine g_iload C (q := 9) rfl dX7_turned_159 rfl ?_
                  exact g_topI (by rw [if_pos c47]) j46
                · refine g_iload C (q := 2) rfl dX7_turned_154 rfl ?_
                  refine g_goto (pc' := 161) C dX7_turned_156 (by decide) ?_
                  exact g_topI (by rw [if_neg c47]) j46
              refine g_icmp_ge (tgt := 143) C dX7_turned_135 (by decide) rfl (fun c49 => ?_) (fun c49 => ?_)
              · refine g_iload C (q := 8) rfl dX7_turned_143 rfl ?_
                exact g_topI (by rw [if_pos c49]) j48
              · refine g_iload C (q := 2) rfl dX7_turned_138 rfl ?_
                refine g_goto (pc' := 145) C dX7_turned_140 (by decide) ?_
                exact g_topI (by rw [if_neg c49]) j48
            refine g_icmp_ne (tgt := 125) C dX7_turned_118 (by decide) rfl (fun c51 => ?_) (fun c51 => ?_)
            · refine g_iconst (v := 0) C (by decide) dX7_turned_125 rfl ?_
              exact g_topI (by rw [if_neg c51]) j50
            · refine g_iconst (v := 1) C (by decide) dX7_turned_121 rfl ?_
              refine g_goto (pc' := 126) C dX7_turned_122 (by decide) ?_
              exact g_topI (by rw [if_pos c51]) j50
          refine g_icmp_ne (tgt := 104) C dX7_turned_97 (by decide) rfl (fun c53 => ?_) (fun c53 => ?_)
          · refine g_iconst (v := 0) C (by decide) dX7_turned_104 rfl ?_
            exact g_topI (by rw [if_neg c53]) j52
          · refine g_iconst (v := 1) C (by decide) dX7_turned_100 rfl ?_
            refine g_goto (pc' := 105) C dX7_turned_101 (by decide) ?_
            exact g_topI (by rw [if_pos c53]) j52
        refine g_icmp_ne (tgt := 83) C dX7_turned_76 (by decide) rfl (fun c55 => ?_) (fun c55 => ?_)
        · refine g_iconst (v := 0) C (by decide) dX7_turned_83 rfl ?_
          exact g_topI (by rw [if_neg c55]) j54
        · refine g_iconst (v := 1) C (by decide) dX7_turned_79 rfl ?_
          refine g_goto (pc' := 84) C dX7_turned_80 (by decide) ?_
          exact g_topI (by rw [if_pos c55]) j54
      · replace hf := ift c40 hf
        refine g_goto (pc' := 179) C dX7_turned_65 (by decide) ?_
        refine g_iinc (v := l10 + (1 : Int32)) (lv' := [(10, .int (l10 + (1 : Int32))), (0, .long l0), (3, .int l3), (4, .int l4), (5, .int l5), (6, .int l6), (7, .int l7), (8, .int l8), (9, .int l9)]) (q := 8) C dX7_turned_179 rfl rfl rfl (by rw [hKN]; decide) rfl ?_
        refine g_goto (pc' := 49) C dX7_turned_182 (by decide) ?_
        refine g_sub (lv' := [(0, .long l0), (3, .int l3), (4, .int l4), (5, .int l5), (6, .int l6), (7, .int l7), (8, .int l8), (9, .int l9), (10, .int (l10 + (1 : Int32)))]) [1, 2, 3, 4, 5, 6, 7, 8, 0] rfl ?_
        exact ih _ _ _ _ _ hf hx
set_option maxHeartbeats 2000000 in
set_option maxRecDepth 20000 in
theorem g_X7_turned_191 {K : KX} {n : Nat} {σ : AH}  {l0 : Int64} {l3 : Int32} {l4 : Int32} {l5 : Int32} {l6 : Int32} {l7 : Int32} {l8 : Int32} {l9 : Int32} (C : Cx K RX7 "turned" cX7_turned (some .long)) (hKR : kR K = ({ frames := 1, cells := 0, slots := 0, locals := 23 } : Room)) (hKN : kN K = 16) : ∀ (fu : Nat) (l10 : Int64) (l12 : Int32) (res : Int64), f_X7_turned_191 l0 l3 l4 l5 l6 l7 l8 l9 fu l10 l12 = some res → G K 0 0 308 [(10, .long res)] [] σ n → G K 0 0 191 [(0, .long l0), (3, .int l3), (4, .int l4), (5, .int l5), (6, .int l6), (7, .int l7), (8, .int l8), (9, .int l9), (10, .long l10), (12, .int l12)] [] σ n := by
  intro fu
  induction fu with
  | zero =>
    intro l10 l12 res hf
    exact absurd hf (by simp [f_X7_turned_191])
  | succ fu ih =>
    intro l10 l12 res hf hx
    rw [f_X7_turned_191] at hf
    refine g_iload C (q := 9) rfl dX7_turned_191 rfl ?_
    refine g_bipush (v := 64) C (by decide) dX7_turned_193 rfl ?_
    refine g_icmp_ge (tgt := 308) C dX7_turned_195 (by decide) rfl (fun c81 => ?_) (fun c81 => ?_)
    · replace hf := ift c81 hf
      obtain rfl := Option.some.inj hf
      refine g_sub (lv' := [(10, .long l10)]) [8] rfl ?_
      exact hx
    · replace hf := iff' c81 hf
      refine g_lload_n C rfl (q := 0) rfl dX7_turned_198 rfl ?_
      refine g_iload C (q := 9) rfl dX7_turned_199 rfl ?_
      obtain ⟨q82, hq82, hf⟩ := bd hf
      refine g_callS0 (st' := []) (as := [.long l0, .int l12]) (st2 := [.int q82]) (k := 2) C ⟨wm_RX7_82, ws_X7_has, wi_RX7, wk_X7_has, by decide +kernel⟩ (c_X7_has (l := kL K) (E := kE K)  _ hq82) (by rw [hKR]; exact ⟨rfl, rfl, ⟨by decide, by decide⟩, Nat.le_refl _, Nat.le_refl _⟩) rfl rfl (by simp) rfl dX7_turned_201 rfl ?_
      refine g_if_ne (tgt := 210) C dX7_turned_204 (by decide) rfl (fun c83 => ?_) (fun c83 => ?_)
      · replace hf := iff' c83 hf
        refine g_iload C (q := 9) rfl dX7_turned_210 rfl ?_
        refine g_iload C (q := 2) rfl dX7_turned_212 rfl ?_
        refine g_iload_n C rfl (q := 1) rfl dX7_turned_214 rfl ?_
        refine g_iconst (v := 1) C (by decide) dX7_turned_215 rfl ?_
        refine g_iand C dX7_turned_216 rfl ?_
        refine g_iconst (v := 1) C (by decide) dX7_turned_217 rfl ?_
        have j91 : G K 0 0 226 [(0, .long l0), (3, .int l3), (4, .int l4), (5, .int l5), (6, .int l6), (7, .int l7), (8, .int l8), (9, .int l9), (10, .long l10), (12, .int l12)] [.int (if (l3 &&& (1 : Int32)) = (1 : Int32) then (1 : Int32) else (0 : Int32)), .int l4, .int l12] σ n := by
          obtain ⟨q84, hq84, hf⟩ := bd hf
          refine g_callS0 (st' := []) (as := [.int l12, .int l4, .int (if (l3 &&& (1 : Int32)) = (1 : Int32) then (1 : Int32) else (0 : Int32))]) (st2 := [.int q84]) (k := 3) C ⟨wm_RX7_104, ws_X7_axis, wi_RX7, wk_X7_axis, by decide +kernel⟩ (c_X7_axis (l := kL K) (E := kE K)  _ hq84) (by rw [hKR]; exact ⟨rfl, rfl, ⟨by decide, by decide⟩, Nat.le_refl _, Nat.le_refl _⟩) rfl rfl (by simp) rfl dX7_turned_226 rfl ?_
          refine g_iload C (q := 5) rfl dX7_turned_229 rfl ?_
          refine g_isub C dX7_turned_231 rfl ?_
          refine g_istore (i := 13) (lv' := [(13, .int (q84 - l7)), (0, .long l0), (3, .int l3), (4, .int l4), (5, .int l5), (6, .int l6), (7, .int l7), (8, .int l8), (9, .int l9), (10, .long l10), (12, .int l12)]) C dX7_turned_232 rfl (by rw [hKN]; decide) rfl ?_
          refine g_iload C (q := 10) rfl dX7_turned_234 rfl ?_
          refine g_iload C (q := 4) rfl dX7_turned_236 rfl ?_
          refine g_iload_n C rfl (q := 2) rfl dX7_turned_238 rfl ?_
          refine g_iconst (v := 2) C (by decide) dX7_turned_239 rfl ?_
          refine g_iand C dX7_turned_240 rfl ?_
          refine g_iconst (v := 2) C (by decide) dX7_turned_241 rfl ?_
          have j89 : G K 0 0 250 [(13, .int (q84 - l7)), (0, .long l0), (3, .int l3), (4, .int l4), (5, .int l5), (6, .int l6), (7, .int l7), (8, .int l8), (9, .int l9), (10, .long l10), (12, .int l12)] [.int (if (l3 &&& (2 : Int32)) = (2 : Int32) then (1 : Int32) else (0 : Int32)), .int l5, .int l12] σ n := by
            obtain ⟨q85, hq85, hf⟩ := bd hf
            refine g_callS0 (st' := []) (as := [.int l12, .int l5, .int (if (l3 &&& (2 : Int32)) = (2 : Int32) then (1 : Int32) else (0 : Int32))]) (st2 := [.int q85]) (k := 3) C ⟨wm_RX7_104, ws_X7_axis, wi_RX7, wk_X7_axis, by decide +kernel⟩ (c_X7_axis (l := kL K) (E := kE K)  _ hq85) (by rw [hKR]; exact ⟨rfl, rfl, ⟨by decide, by decide⟩, Nat.le_refl _, Nat.le_refl _⟩) rfl rfl (by simp) rfl dX7_turned_250 rfl ?_
            refine g_iload C (q := 7) rfl dX7_turned_253 rfl ?_
            refine g_isub C dX7_turned_255 rfl ?_
            refine g_istore (i := 14) (lv' := [(14, .int (q85 - l8)), (13, .int (q84 - l7)), (0, .long l0), (3, .int l3), (4, .int l4), (5, .int l5), (6, .int l6), (7, .int l7), (8, .int l8), (9, .int l9), (10, .long l10), (12, .int l12)]) C dX7_turned_256 rfl (by rw [hKN]; decide) rfl ?_
            refine g_iload C (q := 11) rfl dX7_turned_258 rfl ?_
            refine g_iload C (q := 6) rfl dX7_turned_260 rfl ?_
            refine g_iload_n C rfl (q := 3) rfl dX7_turned_262 rfl ?_
            refine g_iconst (v := 4) C (by decide) dX7_turned_263 rfl ?_
            refine g_iand C dX7_turned_264 rfl ?_
            refine g_iconst (v := 4) C (by decide) dX7_turned_265 rfl ?_
            have j87 : G K 0 0 274 [(14, .int (q85 - l8)), (13, .int (q84 - l7)), (0, .long l0), (3, .int l3), (4, .int l4), (5, .int l5), (6, .int l6), (7, .int l7), (8, .int l8), (9, .int l9), (10, .long l10), (12, .int l12)] [.int (if (l3 &&& (4 : Int32)) = (4 : Int32) then (1 : Int32) else (0 : Int32)), .int l6, .int l12] σ n := by
              obtain ⟨q86, hq86, hf⟩ := bd hf
              refine g_callS0 (st' := []) (as := [.int l12, .int l6, .int (if (l3 &&& (4 : Int32)) = (4 : Int32) then (1 : Int32) else (0 : Int32))]) (st2 := [.int q86]) (k := 3) C ⟨wm_RX7_104, ws_X7_axis, wi_RX7, wk_X7_axis, by decide +kernel⟩ (c_X7_axis (l := kL K) (E := kE K)  _ hq86) (by rw [hKR]; exact ⟨rfl, rfl, ⟨by decide, by decide⟩, Nat.le_refl _, Nat.le_refl _⟩) rfl rfl (by simp) rfl dX7_turned_274 rfl ?_
              refine g_iload C (q := 9) rfl dX7_turned_277 rfl ?_
              refine g_isub C dX7_turned_279 rfl ?_
              refine g_istore (i := 15) (lv' := [(15, .int (q86 - l9)), (14, .int (q85 - l8)), (13, .int (q84 - l7)), (0, .long l0), (3, .int l3), (4, .int l4), (5, .int l5), (6, .int l6), (7, .int l7), (8, .int l8), (9, .int l9), (10, .long l10), (12, .int l12)]) C dX7_turned_280 rfl (by rw [hKN]; decide) rfl ?_
              refine g_lload C (q := 11) rfl dX7_turned_282 rfl ?_
              refine g_lconst (v := 1) C (by decide) dX7_turned_284 rfl ?_
              refine g_iload C (q := 2) rfl dX7_turned_285 rfl ?_
              refine g_iconst (v := 4) C (by decide) dX7_turned_287 rfl ?_
              refine g_iload C (q := 1) rfl dX7_turned_288 rfl ?_
              refine g_imul C dX7_turned_290 rfl ?_
              refine g_iadd C dX7_turned_291 rfl ?_
              refine g_bipush (v := 16) C (by decide) dX7_turned_292 rfl ?_
              refine g_iload C (q := 0) rfl dX7_turned_294 rfl ?_
              refine g_imul C dX7_turned_296 rfl ?_
              refine g_iadd C dX7_turned_297 rfl ?_
              refine g_lshl C dX7_turned_298 rfl ?_
              refine g_lor C dX7_turned_299 rfl ?_
              refine g_lstore (i := 10) (lv' := [(10, .long (l10 ||| ((1 : Int64) <<< ((((q84 - l7) + ((4 : Int32) * (q85 - l8))) + ((16 : Int32) * (q86 - l9))).toInt64 &&& 63)))), (15, .int (q86 - l9)), (14, .int (q85 - l8)), (13, .int (q84 - l7)), (0, .long l0), (3, .int l3), (4, .int l4), (5, .int l5), (6, .int l6), (7, .int l7), (8, .int l8), (9, .int l9), (12, .int l12)]) C dX7_turned_300 rfl (by rw [hKN]; decide) rfl ?_
              refine g_iinc (v := l12 + (1 : Int32)) (lv' := [(12, .int (l12 + (1 : Int32))), (10, .long (l10 ||| ((1 : Int64) <<< ((((q84 - l7) + ((4 : Int32) * (q85 - l8))) + ((16 : Int32) * (q86 - l9))).toInt64 &&& 63)))), (15, .int (q86 - l9)), (14, .int (q85 - l8)), (13, .int (q84 - l7)), (0, .long l0), (3, .int l3), (4, .int l4), (5, .int l5), (6, .int l6), (7, .int l7), (8, .int l8), (9, .int l9)]) (q := 12) C dX7_turned_302 rfl rfl rfl (by rw [hKN]; decide) rfl ?_
              refine g_goto (pc' := 191) C dX7_turned_305 (by decide) ?_
              refine g_sub (lv' := [(0, .long l0), (3, .int l3), (4, .int l4), (5, .int l5), (6, .int l6), (7, .int l7), (8, .int l8), (9, .int l9), (10, .long (l10 ||| ((1 : Int64) <<< ((((q84 - l7) + ((4 : Int32) * (q85 - l8))) + ((16 : Int32) * (q86 - l9))).toInt64 &&& 63)))), (12, .int (l12 + (1 : Int32)))]) [5, 6, 7, 8, 9, 10, 11, 12, 1, 0] rfl ?_
              exact ih _ _ _ hf hx
            refine g_icmp_ne (tgt := 273) C dX7_turned_266 (by decide) rfl (fun c88 => ?_) (fun c88 => ?_)
            · refine g_iconst (v := 0) C (by decide) dX7_turned_273 rfl ?_
              exact g_topI (by rw [if_neg c88]) j87
            · refine g_iconst (v := 1) C (by decide) dX7_turned_269 rfl ?_
              refine g_goto (pc' := 274) C dX7_turned_270 (by decide) ?_
              exact g_topI (by rw [if_pos c88]) j87
          refine g_icmp_ne (tgt := 249) C dX7_turned_242 (by decide) rfl (fun c90 => ?_) (fun c90 => ?_)
          · refine g_iconst (v := 0) C (by decide) dX7_turned_249 rfl ?_
            exact g_topI (by rw [if_neg c90]) j89
          · refine g_iconst (v := 1) C (by decide) dX7_turned_245 rfl ?_
            refine g_goto (pc' := 250) C dX7_turned_246 (by decide) ?_
            exact g_topI (by rw [if_pos c90]) j89
        refine g_icmp_ne (tgt := 225) C dX7_turned_218 (by decide) rfl (fun c92 => ?_) (fun c92 => ?_)
        · refine g_iconst (v := 0) C (by decide) dX7_turned_225 rfl ?_
          exact g_topI (by rw [if_neg c92]) j91
        · refine g_iconst (v := 1) C (by decide) dX7_turned_221 rfl ?_
          refine g_goto (pc' := 226) C dX7_turned_222 (by decide) ?_
          exact g_topI (by rw [if_pos c92]) j91
      · replace hf := ift c83 hf
        refine g_goto (pc' := 302) C dX7_turned_207 (by decide) ?_
        refine g_iinc (v := l12 + (1 : Int32)) (lv' := [(12, .int (l12 + (1 : Int32))), (0, .long l0), (3, .int l3), (4, .int l4), (5, .int l5), (6, .int l6), (7, .int l7), (8, .int l8), (9, .int l9), (10, .long l10)]) (q := 9) C dX7_turned_302 rfl rfl rfl (by rw [hKN]; decide) rfl ?_
        refine g_goto (pc' := 191) C dX7_turned_305 (by decide) ?_
        refine g_sub (lv' := [(0, .long l0), (3, .int l3), (4, .int l4), (5, .int l5), (6, .int l6), (7, .int l7), (8, .int l8), (9, .int l9), (10, .long l10), (12, .int (l12 + (1 : Int32)))]) [1, 2, 3, 4, 5, 6, 7, 8, 9, 0] rfl ?_
        exact ih _ _ _ hf hx
set_option maxHeartbeats 2000000 in
set_option maxRecDepth 20000 in
theorem c_X7_turned {l : Launch} {E : Ex} {n : Nat} {σ : AH}   {s : Int64} {row : Int32} {signs : Int32} {fu : Nat} (res : Int64) (hf : f_X7_turned fu s row signs = some res) : Con l E yX7_turned (.code yX7_turned cX7_turned 16 (some .long) :: TT) ({ frames := 1, cells := 0, slots := 0, locals := 23 } : Room) 0 0 [.long s, .int row, .int signs] σ n (some (.long res)) σ n := by
  refine con_intro (by decide +kernel) (Nat.le_of_ble_eq_true rfl) ?_
  intro K C hKR hKL hKE hKN hKQ
  subst hKL
  subst hKE
  have C : Cx K RX7 "turned" cX7_turned (some .long) := C
  show G K 0 0 0 [(0, .long s), (2, .int row), (3, .int signs)] [] σ n
  unfold f_X7_turned at hf
  refine g_iload_n C rfl (q := 1) rfl dX7_turned_0 rfl ?_
  refine g_iconst (v := 2) C (by decide) dX7_turned_1 rfl ?_
  refine g_idiv C (by decide) dX7_turned_2 rfl ?_
  refine g_istore (i := 4) (lv' := [(4, .int (row / (2 : Int32))), (0, .long s), (2, .int row), (3, .int signs)]) C dX7_turned_3 rfl (by rw [hKN]; decide) rfl ?_
  refine g_iload_n C rfl (q := 2) rfl dX7_turned_5 rfl ?_
  refine g_iconst (v := 2) C (by decide) dX7_turned_6 rfl ?_
  refine g_irem C (by decide) dX7_turned_7 rfl ?_
  refine g_if_ne (tgt := 20) C dX7_turned_8 (by decide) rfl (fun c1 => ?_) (fun c1 => ?_)
  · replace hf := iff' c1 hf
    refine g_iload C (q := 0) rfl dX7_turned_20 rfl ?_
    refine g_iconst (v := 2) C (by decide) dX7_turned_22 rfl ?_
    refine g_iadd C dX7_turned_23 rfl ?_
    refine g_iconst (v := 3) C (by decide) dX7_turned_24 rfl ?_
    refine g_irem C (by decide) dX7_turned_25 rfl ?_
    refine g_istore (i := 5) (lv' := [(5, .int (((row / (2 : Int32)) + (2 : Int32)) - ((row / (2 : Int32)) + (2 : Int32)) / (3 : Int32) * (3 : Int32))), (4, .int (row / (2 : Int32))), (0, .long s), (2, .int row), (3, .int signs)]) C dX7_turned_26 rfl (by rw [hKN]; decide) rfl ?_
    refine g_iconst (v := 3) C (by decide) dX7_turned_28 rfl ?_
    refine g_iload C (q := 1) rfl dX7_turned_29 rfl ?_
    refine g_isub C dX7_turned_31 rfl ?_
    refine g_iload C (q := 0) rfl dX7_turned_32 rfl ?_
    refine g_isub C dX7_turned_34 rfl ?_
    refine g_istore (i := 6) (lv' := [(6, .int (((3 : Int32) - (row / (2 : Int32))) - (((row / (2 : Int32)) + (2 : Int32)) - ((row / (2 : Int32)) + (2 : Int32)) / (3 : Int32) * (3 : Int32)))), (5, .int (((row / (2 : Int32)) + (2 : Int32)) - ((row / (2 : Int32)) + (2 : Int32)) / (3 : Int32) * (3 : Int32))), (4, .int (row / (2 : Int32))), (0, .long s), (2, .int row), (3, .int signs)]) C dX7_turned_35 rfl (by rw [hKN]; decide) rfl ?_
    refine g_iconst (v := 3) C (by decide) dX7_turned_37 rfl ?_
    refine g_istore (i := 7) (lv' := [(7, .int (3 : Int32)), (6, .int (((3 : Int32) - (row / (2 : Int32))) - (((row / (2 : Int32)) + (2 : Int32)) - ((row / (2 : Int32)) + (2 : Int32)) / (3 : Int32) * (3 : Int32)))), (5, .int (((row / (2 : Int32)) + (2 : Int32)) - ((row / (2 : Int32)) + (2 : Int32)) / (3 : Int32) * (3 : Int32))), (4, .int (row / (2 : Int32))), (0, .long s), (2, .int row), (3, .int signs)]) C dX7_turned_38 rfl (by rw [hKN]; decide) rfl ?_
    refine g_iconst (v := 3) C (by decide) dX7_turned_40 rfl ?_
    refine g_istore (i := 8) (lv' := [(8, .int (3 : Int32)), (7, .int (3 : Int32)), (6, .int (((3 : Int32) - (row / (2 : Int32))) - (((row / (2 : Int32)) + (2 : Int32)) - ((row / (2 : Int32)) + (2 : Int32)) / (3 : Int32) * (3 : Int32)))), (5, .int (((row / (2 : Int32)) + (2 : Int32)) - ((row / (2 : Int32)) + (2 : Int32)) / (3 : Int32) * (3 : Int32))), (4, .int (row / (2 : Int32))), (0, .long s), (2, .int row), (3, .int signs)]) C dX7_turned_41 rfl (by rw [hKN]; decide) rfl ?_
    refine g_iconst (v := 3) C (by decide) dX7_turned_43 rfl ?_
    refine g_istore (i := 9) (lv' := [(9, .int (3 : Int32)), (8, .int (3 : Int32)), (7, .int (3 : Int32)), (6, .int (((3 : Int32) - (row / (2 : Int32))) - (((row / (2 : Int32)) + (2 : Int32)) - ((row / (2 : Int32)) + (2 : Int32)) / (3 : Int32) * (3 : Int32)))), (5, .int (((row / (2 : Int32)) + (2 : Int32)) - ((row / (2 : Int32)) + (2 : Int32)) / (3 : Int32) * (3 : Int32))), (4, .int (row / (2 : Int32))), (0, .long s), (2, .int row), (3, .int signs)]) C dX7_turned_44 rfl (by rw [hKN]; decide) rfl ?_
    refine g_iconst (v := 0) C (by decide) dX7_turned_46 rfl ?_
    refine g_istore (i := 10) (lv' := [(10, .int (0 : Int32)), (9, .int (3 : Int32)), (8, .int (3 : Int32)), (7, .int (3 : Int32)), (6, .int (((3 : Int32) - (row / (2 : Int32))) - (((row / (2 : Int32)) + (2 : Int32)) - ((row / (2 : Int32)) + (2 : Int32)) / (3 : Int32) * (3 : Int32)))), (5, .int (((row / (2 : Int32)) + (2 : Int32)) - ((row / (2 : Int32)) + (2 : Int32)) / (3 : Int32) * (3 : Int32))), (4, .int (row / (2 : Int32))), (0, .long s), (2, .int row), (3, .int signs)]) C dX7_turned_47 rfl (by rw [hKN]; decide) rfl ?_
    refine g_sub (lv' := [(0, .long s), (3, .int signs), (4, .int (row / (2 : Int32))), (5, .int (((row / (2 : Int32)) + (2 : Int32)) - ((row / (2 : Int32)) + (2 : Int32)) / (3 : Int32) * (3 : Int32))), (6, .int (((3 : Int32) - (row / (2 : Int32))) - (((row / (2 : Int32)) + (2 : Int32)) - ((row / (2 : Int32)) + (2 : Int32)) / (3 : Int32) * (3 : Int32)))), (7, .int (3 : Int32)), (8, .int (3 : Int32)), (9, .int (3 : Int32)), (10, .int (0 : Int32))]) [7, 9, 6, 5, 4, 3, 2, 1, 0] rfl ?_
    obtain ⟨q56, hq56, hf⟩ := bd hf
    refine g_X7_turned_49 (l0 := s) (l3 := signs) (l4 := row / (2 : Int32)) (l5 := ((row / (2 : Int32)) + (2 : Int32)) - ((row / (2 : Int32)) + (2 : Int32)) / (3 : Int32) * (3 : Int32)) (l6 := ((3 : Int32) - (row / (2 : Int32))) - (((row / (2 : Int32)) + (2 : Int32)) - ((row / (2 : Int32)) + (2 : Int32)) / (3 : Int32) * (3 : Int32))) C hKR hKN _ _ _ _ _ _ hq56 ?_
    refine g_lconst (v := 0) C (by decide) dX7_turned_185 rfl ?_
    refine g_lstore (i := 10) (lv' := [(10, .long (0 : Int64)), (0, .long s), (3, .int signs), (4, .int (row / (2 : Int32))), (5, .int (((row / (2 : Int32)) + (2 : Int32)) - ((row / (2 : Int32)) + (2 : Int32)) / (3 : Int32) * (3 : Int32))), (6, .int (((3 : Int32) - (row / (2 : Int32))) - (((row / (2 : Int32)) + (2 : Int32)) - ((row / (2 : Int32)) + (2 : Int32)) / (3 : Int32) * (3 : Int32)))), (7, .int q56.1), (8, .int q56.2.1), (9, .int q56.2.2)]) C dX7_turned_186 rfl (by rw [hKN]; decide) rfl ?_
    refine g_iconst (v := 0) C (by decide) dX7_turned_188 rfl ?_
    refine g_istore (i := 12) (lv' := [(12, .int (0 : Int32)), (10, .long (0 : Int64)), (0, .long s), (3, .int signs), (4, .int (row / (2 : Int32))), (5, .int (((row / (2 : Int32)) + (2 : Int32)) - ((row / (2 : Int32)) + (2 : Int32)) / (3 : Int32) * (3 : Int32))), (6, .int (((3 : Int32) - (row / (2 : Int32))) - (((row / (2 : Int32)) + (2 : Int32)) - ((row / (2 : Int32)) + (2 : Int32)) / (3 : Int32) * (3 : Int32)))), (7, .int q56.1), (8, .int q56.2.1), (9, .int q56.2.2)]) C dX7_turned_189 rfl (by rw [hKN]; decide) rfl ?_
    refine g_sub (lv' := [(0, .long s), (3, .int signs), (4, .int (row / (2 : Int32))), (5, .int (((row / (2 : Int32)) + (2 : Int32)) - ((row / (2 : Int32)) + (2 : Int32)) / (3 : Int32) * (3 : Int32))), (6, .int (((3 : Int32) - (row / (2 : Int32))) - (((row / (2 : Int32)) + (2 : Int32)) - ((row / (2 : Int32)) + (2 : Int32)) / (3 : Int32) * (3 : Int32)))), (7, .int q56.1), (8, .int q56.2.1), (9, .int q56.2.2), (10, .long (0 : Int64)), (12, .int (0 : Int32))]) [2, 3, 4, 5, 6, 7, 8, 9, 1, 0] rfl ?_
    obtain ⟨q93, hq93, hf⟩ := bd hf
    refine g_X7_turned_191 (l0 := s) (l3 := signs) (l4 := row / (2 : Int32)) (l5 := ((row / (2 : Int32)) + (2 : Int32)) - ((row / (2 : Int32)) + (2 : Int32)) / (3 : Int32) * (3 : Int32)) (l6 := ((3 : Int32) - (row / (2 : Int32))) - (((row / (2 : Int32)) + (2 : Int32)) - ((row / (2 : Int32)) + (2 : Int32)) / (3 : Int32) * (3 : Int32))) (l7 := q56.1) (l8 := q56.2.1) (l9 := q56.2.2) C hKR hKN _ _ _ _ hq93 ?_
    refine g_lload C (q := 0) rfl dX7_turned_308 rfl ?_
    obtain rfl := Option.some.inj hf
    exact g_lret C hKQ dX7_turned_310
  · replace hf := ift c1 hf
    refine g_iload C (q := 0) rfl dX7_turned_11 rfl ?_
    refine g_iconst (v := 1) C (by decide) dX7_turned_13 rfl ?_
    refine g_iadd C dX7_turned_14 rfl ?_
    refine g_iconst (v := 3) C (by decide) dX7_turned_15 rfl ?_
    refine g_irem C (by decide) dX7_turned_16 rfl ?_
    refine g_goto (pc' := 26) C dX7_turned_17 (by decide) ?_
    refine g_istore (i := 5) (lv' := [(5, .int (((row / (2 : Int32)) + (1 : Int32)) - ((row / (2 : Int32)) + (1 : Int32)) / (3 : Int32) * (3 : Int32))), (4, .int (row / (2 : Int32))), (0, .long s), (2, .int row), (3, .int signs)]) C dX7_turned_26 rfl (by rw [hKN]; decide) rfl ?_
    refine g_iconst (v := 3) C (by decide) dX7_turned_28 rfl ?_
    refine g_iload C (q := 1) rfl dX7_turned_29 rfl ?_
    refine g_isub C dX7_turned_31 rfl ?_
    refine g_iload C (q := 0) rfl dX7_turned_32 rfl ?_
    refine g_isub C dX7_turned_34 rfl ?_
    refine g_istore (i := 6) (lv' := [(6, .int (((3 : Int32) - (row / (2 : Int32))) - (((row / (2 : Int32)) + (1 : Int32)) - ((row / (2 : Int32)) + (1 : Int32)) / (3 : Int32) * (3 : Int32)))), (5, .int (((row / (2 : Int32)) + (1 : Int32)) - ((row / (2 : Int32)) + (1 : Int32)) / (3 : Int32) * (3 : Int32))), (4, .int (row / (2 : Int32))), (0, .long s), (2, .int row), (3, .int signs)]) C dX7_turned_35 rfl (by rw [hKN]; decide) rfl ?_
    refine g_iconst (v := 3) C (by decide) dX7_turned_37 rfl ?_
    refine g_istore (i := 7) (lv' := [(7, .int (3 : Int32)), (6, .int (((3 : Int32) - (row / (2 : Int32))) - (((row / (2 : Int32)) + (1 : Int32)) - ((row / (2 : Int32)) + (1 : Int32)) / (3 : Int32) * (3 : Int32)))), (5, .int (((row / (2 : Int32)) + (1 : Int32)) - ((row / (2 : Int32)) + (1 : Int32)) / (3 : Int32) * (3 : Int32))), (4, .int (row / (2 : Int32))), (0, .long s), (2, .int row), (3, .int signs)]) C dX7_turned_38 rfl (by rw [hKN]; decide) rfl ?_
    refine g_iconst (v := 3) C (by decide) dX7_turned_40 rfl ?_
    refine g_istore (i := 8) (lv' := [(8, .int (3 : Int32)), (7, .int (3 : Int32)), (6, .int (((3 : Int32) - (row / (2 : Int32))) - (((row / (2 : Int32)) + (1 : Int32)) - ((row / (2 : Int32)) + (1 : Int32)) / (3 : Int32) * (3 : Int32)))), (5, .int (((row / (2 : Int32)) + (1 : Int32)) - ((row / (2 : Int32)) + (1 : Int32)) / (3 : Int32) * (3 : Int32))), (4, .int (row / (2 : Int32))), (0, .long s), (2, .int row), (3, .int signs)]) C dX7_turned_41 rfl (by rw [hKN]; decide) rfl ?_
    refine g_iconst (v := 3) C (by decide) dX7_turned_43 rfl ?_
    refine g_istore (i := 9) (lv' := [(9, .int (3 : Int32)), (8, .int (3 : Int32)), (7, .int (3 : Int32)), (6, .int (((3 : Int32) - (row / (2 : Int32))) - (((row / (2 : Int32)) + (1 : Int32)) - ((row / (2 : Int32)) + (1 : Int32)) / (3 : Int32) * (3 : Int32)))), (5, .int (((row / (2 : Int32)) + (1 : Int32)) - ((row / (2 : Int32)) + (1 : Int32)) / (3 : Int32) * (3 : Int32))), (4, .int (row / (2 : Int32))), (0, .long s), (2, .int row), (3, .int signs)]) C dX7_turned_44 rfl (by rw [hKN]; decide) rfl ?_
    refine g_iconst (v := 0) C (by decide) dX7_turned_46 rfl ?_
    refine g_istore (i := 10) (lv' := [(10, .int (0 : Int32)), (9, .int (3 : Int32)), (8, .int (3 : Int32)), (7, .int (3 : Int32)), (6, .int (((3 : Int32) - (row / (2 : Int32))) - (((row / (2 : Int32)) + (1 : Int32)) - ((row / (2 : Int32)) + (1 : Int32)) / (3 : Int32) * (3 : Int32)))), (5, .int (((row / (2 : Int32)) + (1 : Int32)) - ((row / (2 : Int32)) + (1 : Int32)) / (3 : Int32) * (3 : Int32))), (4, .int (row / (2 : Int32))), (0, .long s), (2, .int row), (3, .int signs)]) C dX7_turned_47 rfl (by rw [hKN]; decide) rfl ?_
    refine g_sub (lv' := [(0, .long s), (3, .int signs), (4, .int (row / (2 : Int32))), (5, .int (((row / (2 : Int32)) + (1 : Int32)) - ((row / (2 : Int32)) + (1 : Int32)) / (3 : Int32) * (3 : Int32))), (6, .int (((3 : Int32) - (row / (2 : Int32))) - (((row / (2 : Int32)) + (1 : Int32)) - ((row / (2 : Int32)) + (1 : Int32)) / (3 : Int32) * (3 : Int32)))), (7, .int (3 : Int32)), (8, .int (3 : Int32)), (9, .int (3 : Int32)), (10, .int (0 : Int32))]) [7, 9, 6, 5, 4, 3, 2, 1, 0] rfl ?_
    obtain ⟨q94, hq94, hf⟩ := bd hf
    refine g_X7_turned_49 (l0 := s) (l3 := signs) (l4 := row / (2 : Int32)) (l5 := ((row / (2 : Int32)) + (1 : Int32)) - ((row / (2 : Int32)) + (1 : Int32)) / (3 : Int32) * (3 : Int32)) (l6 := ((3 : Int32) - (row / (2 : Int32))) - (((row / (2 : Int32)) + (1 : Int32)) - ((row / (2 : Int32)) + (1 : Int32)) / (3 : Int32) * (3 : Int32))) C hKR hKN _ _ _ _ _ _ hq94 ?_
    refine g_lconst (v := 0) C (by decide) dX7_turned_185 rfl ?_
    refine g_lstore (i := 10) (lv' := [(10, .long (0 : Int64)), (0, .long s), (3, .int signs), (4, .int (row / (2 : Int32))), (5, .int (((row / (2 : Int32)) + (1 : Int32)) - ((row / (2 : Int32)) + (1 : Int32)) / (3 : Int32) * (3 : Int32))), (6, .int (((3 : Int32) - (row / (2 : Int32))) - (((row / (2 : Int32)) + (1 : Int32)) - ((row / (2 : Int32)) + (1 : Int32)) / (3 : Int32) * (3 : Int32)))), (7, .int q94.1), (8, .int q94.2.1), (9, .int q94.2.2)]) C dX7_turned_186 rfl (by rw [hKN]; decide) rfl ?_
    refine g_iconst (v := 0) C (by decide) dX7_turned_188 rfl ?_
    refine g_istore (i := 12) (lv' := [(12, .int (0 : Int32)), (10, .long (0 : Int64)), (0, .long s), (3, .int signs), (4, .int (row / (2 : Int32))), (5, .int (((row / (2 : Int32)) + (1 : Int32)) - ((row / (2 : Int32)) + (1 : Int32)) / (3 : Int32) * (3 : Int32))), (6, .int (((3 : Int32) - (row / (2 : Int32))) - (((row / (2 : Int32)) + (1 : Int32)) - ((row / (2 : Int32)) + (1 : Int32)) / (3 : Int32) * (3 : Int32)))), (7, .int q94.1), (8, .int q94.2.1), (9, .int q94.2.2)]) C dX7_turned_189 rfl (by rw [hKN]; decide) rfl ?_
    refine g_sub (lv' := [(0, .long s), (3, .int signs), (4, .int (row / (2 : Int32))), (5, .int (((row / (2 : Int32)) + (1 : Int32)) - ((row / (2 : Int32)) + (1 : Int32)) / (3 : Int32) * (3 : Int32))), (6, .int (((3 : Int32) - (row / (2 : Int32))) - (((row / (2 : Int32)) + (1 : Int32)) - ((row / (2 : Int32)) + (1 : Int32)) / (3 : Int32) * (3 : Int32)))), (7, .int q94.1), (8, .int q94.2.1), (9, .int q94.2.2), (10, .long (0 : Int64)), (12, .int (0 : Int32))]) [2, 3, 4, 5, 6, 7, 8, 9, 1, 0] rfl ?_
    obtain ⟨q95, hq95, hf⟩ := bd hf
    refine g_X7_turned_191 (l0 := s) (l3 := signs) (l4 := row / (2 : Int32)) (l5 := ((row / (2 : Int32)) + (1 : Int32)) - ((row / (2 : Int32)) + (1 : Int32)) / (3 : Int32) * (3 : Int32)) (l6 := ((3 : Int32) - (row / (2 : Int32))) - (((row / (2 : Int32)) + (1 : Int32)) - ((row / (2 : Int32)) + (1 : Int32)) / (3 : Int32) * (3 : Int32))) (l7 := q94.1) (l8 := q94.2.1) (l9 := q94.2.2) C hKR hKN _ _ _ _ hq95 ?_
    refine g_lload C (q := 0) rfl dX7_turned_308 rfl ?_
    obtain rfl := Option.some.inj hf
    exact g_lret C hKQ dX7_turned_310
def f_X7_moved_6  (l0 : Int64) (l2 : Int32) (l3 : Int32) (l4 : Int32) : Nat → Int64 → Int32 → Option (Int64 ⊕ Int64)
  | 0, _, _ => none
  | fu + 1, l5, l7 => (if (64 : Int32) ≤ l7 then some (.inr l5) else ((f_X7_has l0 l7).bind fun q14 => (if q14 = 0 then f_X7_moved_6 l0 l2 l3 l4 fu l5 (l7 + (1 : Int32)) else (if (3 : Int32) < ((l7 - l7 / (4 : Int32) * (4 : Int32)) + l2) then some (.inl (0 : Int64)) else (if (3 : Int32) < (((l7 / (4 : Int32)) - (l7 / (4 : Int32)) / (4 : Int32) * (4 : Int32)) + l3) then some (.inl (0 : Int64)) else (if ((l7 / (16 : Int32)) + l4) ≤ (3 : Int32) then f_X7_moved_6 l0 l2 l3 l4 fu (l5 ||| ((1 : Int64) <<< (((((l7 - l7 / (4 : Int32) * (4 : Int32)) + l2) + ((4 : Int32) * (((l7 / (4 : Int32)) - (l7 / (4 : Int32)) / (4 : Int32) * (4 : Int32)) + l3))) + ((16 : Int32) * ((l7 / (16 : Int32)) + l4))).toInt64 &&& 63))) (l7 + (1 : Int32)) else some (.inl (0 : Int64))))))))
def f_X7_moved (fu : Nat) (s : Int64) (x : Int32) (y : Int32) (z : Int32) : Option Int64 := (sumB (f_X7_moved_6 s x y z fu (0 : Int64) (0 : Int32)) id fun t20 => some t20)
set_option maxHeartbeats 2000000 in
set_option maxRecDepth 20000 in
theorem g_X7_moved_6 {K : KX} {n : Nat} {σ : AH}  {l0 : Int64} {l2 : Int32} {l3 : Int32} {l4 : Int32} (C : Cx K RX7 "moved" cX7_moved (some .long)) (hKR : kR K = ({ frames := 1, cells := 0, slots := 0, locals := 22 } : Room)) (hKN : kN K = 11) : ∀ (fu : Nat) (l5 : Int64) (l7 : Int32) (res : (Int64 ⊕ Int64)), f_X7_moved_6 l0 l2 l3 l4 fu l5 l7 = some res → (∀ t, res = .inl t → KQ K 0 0 (some (.long t)) σ n) → (∀ t, res = .inr t → G K 0 0 99 [(5, .long t)] [] σ n) → G K 0 0 6 [(0, .long l0), (2, .int l2), (3, .int l3), (4, .int l4), (5, .long l5), (7, .int l7)] [] σ n := by
  intro fu
  induction fu with
  | zero =>
    intro l5 l7 res hf
    exact absurd hf (by simp [f_X7_moved_6])
  | succ fu ih =>
    intro l5 l7 res hf hret hx
    rw [f_X7_moved_6] at hf
    refine g_iload C (q := 5) rfl dX7_moved_6 rfl ?_
    refine g_bipush (v := 64) C (by decide) dX7_moved_8 rfl ?_
    refine g_icmp_ge (tgt := 99) C dX7_moved_10 (by decide) rfl (fun c13 => ?_) (fun c13 => ?_)
    · replace hf := ift c13 hf
      obtain rfl := Option.some.inj hf
      refine g_sub (lv' := [(5, .long l5)]) [4] rfl ?_
      exact hx l5 rfl
    · replace hf := iff' c13 hf
      refine g_lload_n C rfl (q := 0) rfl dX7_moved_13 rfl ?_
      refine g_iload C (q := 5) rfl dX7_moved_14 rfl ?_
      obtain ⟨q14, hq14, hf⟩ := bd hf
      refine g_callS0 (st' := []) (as := [.long l0, .int l7]) (st2 := [.int q14]) (k := 2) C ⟨wm_RX7_82, ws_X7_has, wi_RX7, wk_X7_has, by decide +kernel⟩ (c_X7_has (l := kL K) (E := kE K)  _ hq14) (by rw [hKR]; exact ⟨rfl, rfl, ⟨by decide, by decide⟩, Nat.le_refl _, Nat.le_refl _⟩) rfl rfl (by simp) rfl dX7_moved_16 rfl ?_
      refine g_if_ne (tgt := 25) C dX7_moved_19 (by decide) rfl (fun c15 => ?_) (fun c15 => ?_)
      · replace hf := iff' c15 hf
        refine g_iload C (q := 5) rfl dX7_moved_25 rfl ?_
        refine g_iconst (v := 4) C (by decide) dX7_moved_27 rfl ?_
        refine g_irem C (by decide) dX7_moved_28 rfl ?_
        refine g_iload_n C rfl (q := 1) rfl dX7_moved_29 rfl ?_
        refine g_iadd C dX7_moved_30 rfl ?_
        refine g_istore (i := 8) (lv' := [(8, .int ((l7 - l7 / (4 : Int32) * (4 : Int32)) + l2)), (0, .long l0), (2, .int l2), (3, .int l3), (4, .int l4), (5, .long l5), (7, .int l7)]) C dX7_moved_31 rfl (by rw [hKN]; decide) rfl ?_
        refine g_iload C (q := 6) rfl dX7_moved_33 rfl ?_
        refine g_iconst (v := 4) C (by decide) dX7_moved_35 rfl ?_
        refine g_idiv C (by decide) dX7_moved_36 rfl ?_
        refine g_iconst (v := 4) C (by decide) dX7_moved_37 rfl ?_
        refine g_irem C (by decide) dX7_moved_38 rfl ?_
        refine g_iload_n C rfl (q := 3) rfl dX7_moved_39 rfl ?_
        refine g_iadd C dX7_moved_40 rfl ?_
        refine g_istore (i := 9) (lv' := [(9, .int (((l7 / (4 : Int32)) - (l7 / (4 : Int32)) / (4 : Int32) * (4 : Int32)) + l3)), (8, .int ((l7 - l7 / (4 : Int32) * (4 : Int32)) + l2)), (0, .long l0), (2, .int l2), (3, .int l3), (4, .int l4), (5, .long l5), (7, .int l7)]) C dX7_moved_41 rfl (by rw [hKN]; decide) rfl ?_
        refine g_iload C (q := 7) rfl dX7_moved_43 rfl ?_
        refine g_bipush (v := 16) C (by decide) dX7_moved_45 rfl ?_
        refine g_idiv C (by decide) dX7_moved_47 rfl ?_
        refine g_iload C (q := 5) rfl dX7_moved_48 rfl ?_
        refine g_iadd C dX7_moved_50 rfl ?_
        refine g_istore (i := 10) (lv' := [(10, .int ((l7 / (16 : Int32)) + l4)), (9, .int (((l7 / (4 : Int32)) - (l7 / (4 : Int32)) / (4 : Int32) * (4 : Int32)) + l3)), (8, .int ((l7 - l7 / (4 : Int32) * (4 : Int32)) + l2)), (0, .long l0), (2, .int l2), (3, .int l3), (4, .int l4), (5, .long l5), (7, .int l7)]) C dX7_moved_51 rfl (by rw [hKN]; decide) rfl ?_
        refine g_iload C (q := 2) rfl dX7_moved_53 rfl ?_
        refine g_iconst (v := 3) C (by decide) dX7_moved_55 rfl ?_
        refine g_icmp_gt (tgt := 71) C dX7_moved_56 (by decide) rfl (fun c16 => ?_) (fun c16 => ?_)
        · replace hf := ift c16 hf
          refine g_lconst (v := 0) C (by decide) dX7_moved_71 rfl ?_
          obtain rfl := Option.some.inj hf
          exact g_lret C (hret (0 : Int64) rfl) dX7_moved_72
        · replace hf := iff' c16 hf
          refine g_iload C (q := 1) rfl dX7_moved_59 rfl ?_
          refine g_iconst (v := 3) C (by decide) dX7_moved_61 rfl ?_
          refine g_icmp_gt (tgt := 71) C dX7_moved_62 (by decide) rfl (fun c17 => ?_) (fun c17 => ?_)
          · replace hf := ift c17 hf
            refine g_lconst (v := 0) C (by decide) dX7_moved_71 rfl ?_
            obtain rfl := Option.some.inj hf
            exact g_lret C (hret (0 : Int64) rfl) dX7_moved_72
          · replace hf := iff' c17 hf
            refine g_iload C (q := 0) rfl dX7_moved_65 rfl ?_
            refine g_iconst (v := 3) C (by decide) dX7_moved_67 rfl ?_
            refine g_icmp_le (tgt := 73) C dX7_moved_68 (by decide) rfl (fun c18 => ?_) (fun c18 => ?_)
            · replace hf := ift c18 hf
              refine g_lload C (q := 7) rfl dX7_moved_73 rfl ?_
              refine g_lconst (v := 1) C (by decide) dX7_moved_75 rfl ?_
              refine g_iload C (q := 2) rfl dX7_moved_76 rfl ?_
              refine g_iconst (v := 4) C (by decide) dX7_moved_78 rfl ?_
              refine g_iload C (q := 1) rfl dX7_moved_79 rfl ?_
              refine g_imul C dX7_moved_81 rfl ?_
              refine g_iadd C dX7_moved_82 rfl ?_
              refine g_bipush (v := 16) C (by decide) dX7_moved_83 rfl ?_
              refine g_iload C (q := 0) rfl dX7_moved_85 rfl ?_
              refine g_imul C dX7_moved_87 rfl ?_
              refine g_iadd C dX7_moved_88 rfl ?_
              refine g_lshl C dX7_moved_89 rfl ?_
              refine g_lor C dX7_moved_90 rfl ?_
              refine g_lstore (i := 5) (lv' := [(5, .long (l5 ||| ((1 : Int64) <<< (((((l7 - l7 / (4 : Int32) * (4 : Int32)) + l2) + ((4 : Int32) * (((l7 / (4 : Int32)) - (l7 / (4 : Int32)) / (4 : Int32) * (4 : Int32)) + l3))) + ((16 : Int32) * ((l7 / (16 : Int32)) + l4))).toInt64 &&& 63)))), (10, .int ((l7 / (16 : Int32)) + l4)), (9, .int (((l7 / (4 : Int32)) - (l7 / (4 : Int32)) / (4 : Int32) * (4 : Int32)) + l3)), (8, .int ((l7 - l7 / (4 : Int32) * (4 : Int32)) + l2)), (0, .long l0), (2, .int l2), (3, .int l3), (4, .int l4), (7, .int l7)]) C dX7_moved_91 rfl (by rw [hKN]; decide) rfl ?_
              refine g_iinc (v := l7 + (1 : Int32)) (lv' := [(7, .int (l7 + (1 : Int32))), (5, .long (l5 ||| ((1 : Int64) <<< (((((l7 - l7 / (4 : Int32) * (4 : Int32)) + l2) + ((4 : Int32) * (((l7 / (4 : Int32)) - (l7 / (4 : Int32)) / (4 : Int32) * (4 : Int32)) + l3))) + ((16 : Int32) * ((l7 / (16 : Int32)) + l4))).toInt64 &&& 63)))), (10, .int ((l7 / (16 : Int32)) + l4)), (9, .int (((l7 / (4 : Int32)) - (l7 / (4 : Int32)) / (4 : Int32) * (4 : Int32)) + l3)), (8, .int ((l7 - l7 / (4 : Int32) * (4 : Int32)) + l2)), (0, .long l0), (2, .int l2), (3, .int l3), (4, .int l4)]) (q := 8) C dX7_moved_93 rfl rfl rfl (by rw [hKN]; decide) rfl ?_
              refine g_goto (pc' := 6) C dX7_moved_96 (by decide) ?_
              refine g_sub (lv' := [(0, .long l0), (2, .int l2), (3, .int l3), (4, .int l4), (5, .long (l5 ||| ((1 : Int64) <<< (((((l7 - l7 / (4 : Int32) * (4 : Int32)) + l2) + ((4 : Int32) * (((l7 / (4 : Int32)) - (l7 / (4 : Int32)) / (4 : Int32) * (4 : Int32)) + l3))) + ((16 : Int32) * ((l7 / (16 : Int32)) + l4))).toInt64 &&& 63)))), (7, .int (l7 + (1 : Int32)))]) [5, 6, 7, 8, 1, 0] rfl ?_
              exact ih _ _ _ hf hret hx
            · replace hf := iff' c18 hf
              refine g_lconst (v := 0) C (by decide) dX7_moved_71 rfl ?_
              obtain rfl := Option.some.inj hf
              exact g_lret C (hret (0 : Int64) rfl) dX7_moved_72
      · replace hf := ift c15 hf
        refine g_goto (pc' := 93) C dX7_moved_22 (by decide) ?_
        refine g_iinc (v := l7 + (1 : Int32)) (lv' := [(7, .int (l7 + (1 : Int32))), (0, .long l0), (2, .int l2), (3, .int l3), (4, .int l4), (5, .long l5)]) (q := 5) C dX7_moved_93 rfl rfl rfl (by rw [hKN]; decide) rfl ?_
        refine g_goto (pc' := 6) C dX7_moved_96 (by decide) ?_
        refine g_sub (lv' := [(0, .long l0), (2, .int l2), (3, .int l3), (4, .int l4), (5, .long l5), (7, .int (l7 + (1 : Int32)))]) [1, 2, 3, 4, 5, 0] rfl ?_
        exact ih _ _ _ hf hret hx
set_option maxHeartbeats 2000000 in
set_option maxRecDepth 20000 in
theorem c_X7_moved {l : Launch} {E : Ex} {n : Nat} {σ : AH}   {s : Int64} {x : Int32} {y : Int32} {z : Int32} {fu : Nat} (res : Int64) (hf : f_X7_moved fu s x y z = some res) : Con l E yX7_moved (.code yX7_moved cX7_moved 11 (some .long) :: TT) ({ frames := 1, cells := 0, slots := 0, locals := 22 } : Room) 0 0 [.long s, .int x, .int y, .int z] σ n (some (.long res)) σ n := by
  refine con_intro (by decide +kernel) (Nat.le_of_ble_eq_true rfl) ?_
  intro K C hKR hKL hKE hKN hKQ
  subst hKL
  subst hKE
  have C : Cx K RX7 "moved" cX7_moved (some .long) := C
  show G K 0 0 0 [(0, .long s), (2, .int x), (3, .int y), (4, .int z)] [] σ n
  unfold f_X7_moved at hf
  refine g_lconst (v := 0) C (by decide) dX7_moved_0 rfl ?_
  refine g_lstore (i := 5) (lv' := [(5, .long (0 : Int64)), (0, .long s), (2, .int x), (3, .int y), (4, .int z)]) C dX7_moved_1 rfl (by rw [hKN]; decide) rfl ?_
  refine g_iconst (v := 0) C (by decide) dX7_moved_3 rfl ?_
  refine g_istore (i := 7) (lv' := [(7, .int (0 : Int32)), (5, .long (0 : Int64)), (0, .long s), (2, .int x), (3, .int y), (4, .int z)]) C dX7_moved_4 rfl (by rw [hKN]; decide) rfl ?_
  refine g_sub (lv' := [(0, .long s), (2, .int x), (3, .int y), (4, .int z), (5, .long (0 : Int64)), (7, .int (0 : Int32))]) [2, 3, 4, 5, 1, 0] rfl ?_
  obtain ⟨q19, hq19, hf1, hf2⟩ := sb hf
  refine g_X7_moved_6 (l0 := s) (l2 := x) (l3 := y) (l4 := z) C hKR hKN _ _ _ q19 hq19 (fun t20 et20 => ?_) (fun t20 et20 => ?_)
  · obtain rfl := hf1 _ et20
    exact hKQ
  · have hf := hf2 _ et20
    refine g_lload C (q := 0) rfl dX7_moved_99 rfl ?_
    obtain rfl := Option.some.inj hf
    exact g_lret C hKQ dX7_moved_101
def f_X7_insert_3 (z : Nat) (l1 : Int32) (l2 : Int32) (l3 : Int64) (row : Nat → Int64) : Nat → Int32 → Option Int32
  | 0, _ => none
  | fu + 1, l5 => (if (l1 + l2) ≤ l5 then some l5 else (if inB l5 z = true then ((f_X7_isLess (row l5.toNatClampNeg) l3).bind fun q11 => (if q11 = 0 then some l5 else f_X7_insert_3 z l1 l2 l3 row fu (l5 + (1 : Int32)))) else none))
def f_X7_insert_52 (z : Nat) (l5 : Int32) : Nat → Int32 → (Nat → Int64) → Option (Nat → Int64)
  | 0, _, _ => none
  | fu + 1, l6, row => (if l6 ≤ l5 then some row else (if inB (l6 - (1 : Int32)) z = true then (if inB l6 z = true then f_X7_insert_52 z l5 fu (l6 + (-1 : Int32)) (va_up row l6.toNatClampNeg (row (l6 - (1 : Int32)).toNatClampNeg)) else none) else none))
def f_X7_insert (fu : Nat) (z : Nat) (row : Nat → Int64) (begin : Int32) (many : Int32) (v : Int64) : Option (Int32 × (Nat → Int64)) := ((f_X7_insert_3 z begin many v row fu begin).bind fun q13 => (if (begin + many) ≤ q13 then ((f_X7_insert_52 z q13 fu (begin + many) row).bind fun q24 => (if inB q13 z = true then some (many + (1 : Int32), va_up q24 q13.toNatClampNeg v) else none)) else (if inB q13 z = true then (if (row q13.toNatClampNeg) = v then some (many, row) else ((f_X7_insert_52 z q13 fu (begin + many) row).bind fun q28 => (if inB q13 z = true then some (many + (1 : Int32), va_up q28 q13.toNatClampNeg v) else none))) else none)))
set_option maxHeartbeats 2000000 in
set_option maxRecDepth 20000 in
theorem g_X7_insert_3 {K : KX} {n : Nat} {σ : AH} {a : Nat} {z : Nat}  {l1 : Int32} {l2 : Int32} {l3 : Int64} {row : Nat → Int64} (C : Cx K RX7 "insert" cX7_insert (some .int)) (hKR : kR K = ({ frames := 1, cells := 0, slots := 0, locals := 23 } : Room)) (hKN : kN K = 7) : ∀ (fu : Nat) (l5 : Int32) (res : Int32), f_X7_insert_3 z l1 l2 l3 row fu l5 = some res → G K 0 0 28 [(0, .ref a), (1, .int l1), (2, .int l2), (3, .long l3), (5, .int res)] [] (wA σ a z row) n → G K 0 0 3 [(0, .ref a), (1, .int l1), (2, .int l2), (3, .long l3), (5, .int l5)] [] (wA σ a z row) n := by
  intro fu
  induction fu with
  | zero =>
    intro l5 res hf
    exact absurd hf (by simp [f_X7_insert_3])
  | succ fu ih =>
    intro l5 res hf hx
    rw [f_X7_insert_3] at hf
    refine g_iload C (q := 4) rfl dX7_insert_3 rfl ?_
    refine g_iload_n C rfl (q := 1) rfl dX7_insert_5 rfl ?_
    refine g_iload_n C rfl (q := 2) rfl dX7_insert_6 rfl ?_
    refine g_iadd C dX7_insert_7 rfl ?_
    refine g_icmp_ge (tgt := 28) C dX7_insert_8 (by decide) rfl (fun c9 => ?_) (fun c9 => ?_)
    · replace hf := ift c9 hf
      obtain rfl := Option.some.inj hf
      exact hx
    · replace hf := iff' c9 hf
      refine g_aload_n C rfl (q := 0) rfl dX7_insert_11 rfl ?_
      refine g_iload C (q := 4) rfl dX7_insert_12 rfl ?_
      obtain ⟨g10, hf⟩ := gd hf
      refine g_lald C (wL_at0 rfl) (inB_in g10) dX7_insert_14 rfl ?_
      refine g_lload_n C rfl (q := 3) rfl dX7_insert_15 rfl ?_
      obtain ⟨q11, hq11, hf⟩ := bd hf
      refine g_callS0 (st' := []) (as := [.long (row l5.toNatClampNeg), .long l3]) (st2 := [.int q11]) (k := 2) C ⟨wm_RX7_108, ws_X7_isLess, wi_RX7, wk_X7_isLess, by decide +kernel⟩ (c_X7_isLess (l := kL K) (E := kE K)  _ hq11) (by rw [hKR]; exact ⟨rfl, rfl, ⟨by decide, by decide⟩, Nat.le_refl _, Nat.le_refl _⟩) rfl rfl (by simp) rfl dX7_insert_16 rfl ?_
      refine g_if_eq (tgt := 28) C dX7_insert_19 (by decide) rfl (fun c12 => ?_) (fun c12 => ?_)
      · replace hf := ift c12 hf
        obtain rfl := Option.some.inj hf
        exact hx
      · replace hf := iff' c12 hf
        refine g_iinc (v := l5 + (1 : Int32)) (lv' := [(5, .int (l5 + (1 : Int32))), (0, .ref a), (1, .int l1), (2, .int l2), (3, .long l3)]) (q := 4) C dX7_insert_22 rfl rfl rfl (by rw [hKN]; decide) rfl ?_
        refine g_goto (pc' := 3) C dX7_insert_25 (by decide) ?_
        refine g_sub (lv' := [(0, .ref a), (1, .int l1), (2, .int l2), (3, .long l3), (5, .int (l5 + (1 : Int32)))]) [1, 2, 3, 4, 0] rfl ?_
        exact ih _ _ hf hx
set_option maxHeartbeats 2000000 in
set_option maxRecDepth 20000 in
theorem g_X7_insert_52 {K : KX} {n : Nat} {σ : AH} {a : Nat} {z : Nat}  {l2 : Int32} {l3 : Int64} {l5 : Int32} (C : Cx K RX7 "insert" cX7_insert (some .int)) (hKR : kR K = ({ frames := 1, cells := 0, slots := 0, locals := 23 } : Room)) (hKN : kN K = 7) : ∀ (fu : Nat) (l6 : Int32) (row : Nat → Int64) (res : (Nat → Int64)), f_X7_insert_52 z l5 fu l6 row = some res → G K 0 0 75 [(0, .ref a), (2, .int l2), (3, .long l3), (5, .int l5)] [] (wA σ a z res) n → G K 0 0 52 [(0, .ref a), (2, .int l2), (3, .long l3), (5, .int l5), (6, .int l6)] [] (wA σ a z row) n := by
  intro fu
  induction fu with
  | zero =>
    intro l6 row res hf
    exact absurd hf (by simp [f_X7_insert_52])
  | succ fu ih =>
    intro l6 row res hf hx
    rw [f_X7_insert_52] at hf
    refine g_iload C (q := 4) rfl dX7_insert_52 rfl ?_
    refine g_iload C (q := 3) rfl dX7_insert_54 rfl ?_
    refine g_icmp_le (tgt := 75) C dX7_insert_56 (by decide) rfl (fun c21 => ?_) (fun c21 => ?_)
    · replace hf := ift c21 hf
      obtain rfl := Option.some.inj hf
      refine g_sub (lv' := [(0, .ref a), (2, .int l2), (3, .long l3), (5, .int l5)]) [0, 1, 2, 3] rfl ?_
      exact hx
    · replace hf := iff' c21 hf
      refine g_aload_n C rfl (q := 0) rfl dX7_insert_59 rfl ?_
      refine g_iload C (q := 4) rfl dX7_insert_60 rfl ?_
      refine g_aload_n C rfl (q := 0) rfl dX7_insert_62 rfl ?_
      refine g_iload C (q := 4) rfl dX7_insert_63 rfl ?_
      refine g_iconst (v := 1) C (by decide) dX7_insert_65 rfl ?_
      refine g_isub C dX7_insert_66 rfl ?_
      obtain ⟨g22, hf⟩ := gd hf
      refine g_lald C (wL_at0 rfl) (inB_in g22) dX7_insert_67 rfl ?_
      obtain ⟨g23, hf⟩ := gd hf
      refine g_last (h' := (wA σ a z (va_up row l6.toNatClampNeg (row (l6 - (1 : Int32)).toNatClampNeg)))) C (wL_at0 rfl) (inB_in g23) (wL_up0 (Nat.le_of_ble_eq_true rfl) rfl) dX7_insert_68 rfl ?_
      refine g_iinc (v := l6 + (-1 : Int32)) (lv' := [(6, .int (l6 + (-1 : Int32))), (0, .ref a), (2, .int l2), (3, .long l3), (5, .int l5)]) (q := 4) C dX7_insert_69 rfl rfl rfl (by rw [hKN]; decide) rfl ?_
      refine g_goto (pc' := 52) C dX7_insert_72 (by decide) ?_
      refine g_sub (lv' := [(0, .ref a), (2, .int l2), (3, .long l3), (5, .int l5), (6, .int (l6 + (-1 : Int32)))]) [1, 2, 3, 4, 0] rfl ?_
      exact ih _ _ _ hf hx
set_option maxHeartbeats 2000000 in
set_option maxRecDepth 20000 in
theorem c_X7_insert {l : Launch} {E : Ex} {n : Nat} {σ : AH} {a : Nat} {z : Nat}  {row : Nat → Int64} {begin : Int32} {many : Int32} {v : Int64} {fu : Nat} (res : (Int32 × (Nat → Int64))) (hf : f_X7_insert fu z row begin many v = some res) : Con l E yX7_insert (.code yX7_insert cX7_insert 7 (some .int) :: TT) ({ frames := 1, cells := 0, slots := 0, locals := 23 } : Room) 0 0 [.ref a, .int begin, .int many, .long v] (wA σ a z row) n (some (.int res.1)) (wA σ a z res.2) n := by
  refine con_intro (by decide +kernel) (Nat.le_of_ble_eq_true rfl) ?_
  intro K C hKR hKL hKE hKN hKQ
  subst hKL
  subst hKE
  have C : Cx K RX7 "insert" cX7_insert (some .int) := C
  show G K 0 0 0 [(0, .ref a), (1, .int begin), (2, .int many), (3, .long v)] [] (wA σ a z row) n
  unfold f_X7_insert at hf
  refine g_iload_n C rfl (q := 1) rfl dX7_insert_0 rfl ?_
  refine g_istore (i := 5) (lv' := [(5, .int begin), (0, .ref a), (1, .int begin), (2, .int many), (3, .long v)]) C dX7_insert_1 rfl (by rw [hKN]; decide) rfl ?_
  refine g_sub (lv' := [(0, .ref a), (1, .int begin), (2, .int many), (3, .long v), (5, .int begin)]) [1, 2, 3, 4, 0] rfl ?_
  obtain ⟨q13, hq13, hf⟩ := bd hf
  refine g_X7_insert_3 (l1 := begin) (l2 := many) (l3 := v) (row := row) C hKR hKN _ _ _ hq13 ?_
  refine g_iload C (q := 4) rfl dX7_insert_28 rfl ?_
  refine g_iload_n C rfl (q := 1) rfl dX7_insert_30 rfl ?_
  refine g_iload_n C rfl (q := 2) rfl dX7_insert_31 rfl ?_
  refine g_iadd C dX7_insert_32 rfl ?_
  refine g_icmp_ge (tgt := 47) C dX7_insert_33 (by decide) rfl (fun c14 => ?_) (fun c14 => ?_)
  · replace hf := ift c14 hf
    refine g_iload_n C rfl (q := 1) rfl dX7_insert_47 rfl ?_
    refine g_iload_n C rfl (q := 2) rfl dX7_insert_48 rfl ?_
    refine g_iadd C dX7_insert_49 rfl ?_
    refine g_istore (i := 6) (lv' := [(6, .int (begin + many)), (0, .ref a), (1, .int begin), (2, .int many), (3, .long v), (5, .int q13)]) C dX7_insert_50 rfl (by rw [hKN]; decide) rfl ?_
    refine g_sub (lv' := [(0, .ref a), (2, .int many), (3, .long v), (5, .int q13), (6, .int (begin + many))]) [1, 3, 4, 5, 0] rfl ?_
    obtain ⟨q24, hq24, hf⟩ := bd hf
    refine g_X7_insert_52 (l2 := many) (l3 := v) (l5 := q13) C hKR hKN _ _ _ _ hq24 ?_
    refine g_aload_n C rfl (q := 0) rfl dX7_insert_75 rfl ?_
    refine g_iload C (q := 3) rfl dX7_insert_76 rfl ?_
    refine g_lload_n C rfl (q := 2) rfl dX7_insert_78 rfl ?_
    obtain ⟨g25, hf⟩ := gd hf
    refine g_last (h' := (wA σ a z (va_up q24 q13.toNatClampNeg v))) C (wL_at0 rfl) (inB_in g25) (wL_up0 (Nat.le_of_ble_eq_true rfl) rfl) dX7_insert_79 rfl ?_
    refine g_iload_n C rfl (q := 1) rfl dX7_insert_80 rfl ?_
    refine g_iconst (v := 1) C (by decide) dX7_insert_81 rfl ?_
    refine g_iadd C dX7_insert_82 rfl ?_
    obtain rfl := Option.some.inj hf
    exact g_iret C hKQ dX7_insert_83
  · replace hf := iff' c14 hf
    refine g_aload_n C rfl (q := 0) rfl dX7_insert_36 rfl ?_
    refine g_iload C (q := 4) rfl dX7_insert_37 rfl ?_
    obtain ⟨g26, hf⟩ := gd hf
    refine g_lald C (wL_at0 rfl) (inB_in g26) dX7_insert_39 rfl ?_
    refine g_lload_n C rfl (q := 3) rfl dX7_insert_40 rfl ?_
    refine g_lif_ne (tgt := 47) C dX7_insert_41 rfl dX7_insert_42 (by decide) rfl (fun c27 => ?_) (fun c27 => ?_)
    · replace hf := iff' c27 hf
      refine g_iload_n C rfl (q := 1) rfl dX7_insert_47 rfl ?_
      refine g_iload_n C rfl (q := 2) rfl dX7_insert_48 rfl ?_
      refine g_iadd C dX7_insert_49 rfl ?_
      refine g_istore (i := 6) (lv' := [(6, .int (begin + many)), (0, .ref a), (1, .int begin), (2, .int many), (3, .long v), (5, .int q13)]) C dX7_insert_50 rfl (by rw [hKN]; decide) rfl ?_
      refine g_sub (lv' := [(0, .ref a), (2, .int many), (3, .long v), (5, .int q13), (6, .int (begin + many))]) [1, 3, 4, 5, 0] rfl ?_
      obtain ⟨q28, hq28, hf⟩ := bd hf
      refine g_X7_insert_52 (l2 := many) (l3 := v) (l5 := q13) C hKR hKN _ _ _ _ hq28 ?_
      refine g_aload_n C rfl (q := 0) rfl dX7_insert_75 rfl ?_
      refine g_iload C (q := 3) rfl dX7_insert_76 rfl ?_
      refine g_lload_n C rfl (q := 2) rfl dX7_insert_78 rfl ?_
      obtain ⟨g29, hf⟩ := gd hf
      refine g_last (h' := (wA σ a z (va_up q28 q13.toNatClampNeg v))) C (wL_at0 rfl) (inB_in g29) (wL_up0 (Nat.le_of_ble_eq_true rfl) rfl) dX7_insert_79 rfl ?_
      refine g_iload_n C rfl (q := 1) rfl dX7_insert_80 rfl ?_
      refine g_iconst (v := 1) C (by decide) dX7_insert_81 rfl ?_
      refine g_iadd C dX7_insert_82 rfl ?_
      obtain rfl := Option.some.inj hf
      exact g_iret C hKQ dX7_insert_83
    · replace hf := ift c27 hf
      refine g_iload_n C rfl (q := 2) rfl dX7_insert_45 rfl ?_
      obtain rfl := Option.some.inj hf
      exact g_iret C hKQ dX7_insert_46
