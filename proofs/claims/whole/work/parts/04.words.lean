/-- the tables' words that stay true as the machine goes on -/
def WL : List Cond := lw_tbl.filter goodWord
theorem wl_in {w : Cond} (h : w ∈ lw_tbl) (hg : goodWord w = true) : w ∈ WL := List.mem_filter.mpr ⟨h, hg⟩
theorem wl_good : ∀ w ∈ WL, goodWord w = true := fun _ h => (List.mem_filter.mp h).2
theorem wt_1 {w : Cond} (h : w ∈ tables_1_1) : w ∈ lw_tbl := List.mem_append_right _ (show w ∈ tables_1 from List.mem_append_left _ h)
theorem wt_2 {w : Cond} (h : w ∈ tables_1_2) : w ∈ lw_tbl := List.mem_append_right _ (show w ∈ tables_1 from List.mem_append_right _ (List.mem_append_left _ h))
theorem wt_3 {w : Cond} (h : w ∈ tables_1_3) : w ∈ lw_tbl := List.mem_append_right _ (show w ∈ tables_1 from List.mem_append_right _ (List.mem_append_right _ (List.mem_append_left _ h)))
theorem wt_4 {w : Cond} (h : w ∈ tables_1_4) : w ∈ lw_tbl := List.mem_append_right _ (show w ∈ tables_1 from List.mem_append_right _ (List.mem_append_right _ (List.mem_append_right _ (List.mem_append_left _ h))))
theorem wt_5 {w : Cond} (h : w ∈ tables_1_5) : w ∈ lw_tbl := List.mem_append_right _ (show w ∈ tables_1 from List.mem_append_right _ (List.mem_append_right _ (List.mem_append_right _ (List.mem_append_right _ (List.mem_append_left _ h)))))
theorem wt_6 {w : Cond} (h : w ∈ tables_1_6) : w ∈ lw_tbl := List.mem_append_right _ (show w ∈ tables_1 from List.mem_append_right _ (List.mem_append_right _ (List.mem_append_right _ (List.mem_append_right _ (List.mem_append_right _ (List.mem_append_left _ h))))))
theorem wt_7 {w : Cond} (h : w ∈ tables_1_7) : w ∈ lw_tbl := List.mem_append_right _ (show w ∈ tables_1 from List.mem_append_right _ (List.mem_append_right _ (List.mem_append_right _ (List.mem_append_right _ (List.mem_append_right _ (List.mem_append_right _ (List.mem_append_left _ h)))))))
theorem wt_8 {w : Cond} (h : w ∈ tables_1_8) : w ∈ lw_tbl := List.mem_append_right _ (show w ∈ tables_1 from List.mem_append_right _ (List.mem_append_right _ (List.mem_append_right _ (List.mem_append_right _ (List.mem_append_right _ (List.mem_append_right _ (List.mem_append_right _ (List.mem_append_left _ h))))))))
theorem wt_9 {w : Cond} (h : w ∈ tables_1_9) : w ∈ lw_tbl := List.mem_append_right _ (show w ∈ tables_1 from List.mem_append_right _ (List.mem_append_right _ (List.mem_append_right _ (List.mem_append_right _ (List.mem_append_right _ (List.mem_append_right _ (List.mem_append_right _ (List.mem_append_right _ (h)))))))))
theorem wp_1 {q : MethodName × Nat} (h : q ∈ lw_privs_1) : q ∈ lw_privs := show q ∈ lw_privs from List.mem_append_left _ h
theorem wp_2 {q : MethodName × Nat} (h : q ∈ lw_privs_2) : q ∈ lw_privs := show q ∈ lw_privs from List.mem_append_right _ (List.mem_append_left _ h)
theorem wp_3 {q : MethodName × Nat} (h : q ∈ lw_privs_3) : q ∈ lw_privs := show q ∈ lw_privs from List.mem_append_right _ (List.mem_append_right _ (List.mem_append_left _ h))
theorem wp_4 {q : MethodName × Nat} (h : q ∈ lw_privs_4) : q ∈ lw_privs := show q ∈ lw_privs from List.mem_append_right _ (List.mem_append_right _ (List.mem_append_right _ (List.mem_append_left _ h)))
theorem wp_5 {q : MethodName × Nat} (h : q ∈ lw_privs_5) : q ∈ lw_privs := show q ∈ lw_privs from List.mem_append_right _ (List.mem_append_right _ (List.mem_append_right _ (List.mem_append_right _ (List.mem_append_left _ h))))
theorem wp_6 {q : MethodName × Nat} (h : q ∈ lw_privs_6) : q ∈ lw_privs := show q ∈ lw_privs from List.mem_append_right _ (List.mem_append_right _ (List.mem_append_right _ (List.mem_append_right _ (List.mem_append_right _ (List.mem_append_left _ h)))))
theorem wp_7 {q : MethodName × Nat} (h : q ∈ lw_privs_7) : q ∈ lw_privs := show q ∈ lw_privs from List.mem_append_right _ (List.mem_append_right _ (List.mem_append_right _ (List.mem_append_right _ (List.mem_append_right _ (List.mem_append_right _ (h))))))
theorem wps {q : MethodName × Nat} (h : q ∈ lw_privs) : Cond.selects q.1.cls q.1 q.1 ∈ lw_tbl := List.mem_append_left _ (List.mem_map.mpr ⟨q, h, rfl⟩)
theorem k_0 : Cond.code yX0_init cX0_init 1 none ∈ WL := wl_in (wt_1 (List.mem_of_getElem? (i := 107) rfl)) rfl
theorem k_1 : Cond.methodLink RX0 3 objectInit ∈ WL := wl_in (wt_1 (List.mem_of_getElem? (i := 108) rfl)) rfl
theorem k_2 : Cond.instanceMethod objectInit ∈ WL := wl_in (wt_1 (List.mem_of_getElem? (i := 34) rfl)) rfl
theorem k_3 : Cond.code objectInit ⟨#[0xb1]⟩ 1 none ∈ WL := wl_in (wt_1 (List.mem_of_getElem? (i := 35) rfl)) rfl
theorem k_4 : Cond.arrayClass .int ∈ WL := wl_in (wt_1 (List.mem_of_getElem? (i := 63) rfl)) rfl
theorem k_5 : Cond.fieldLink RX0 11 "GivenAway$Acts" "rows" "[I" ∈ WL := wl_in (wt_1 (List.mem_of_getElem? (i := 109) rfl)) rfl
theorem k_6 : Cond.code yX0_clear cX0_clear 1 none ∈ WL := wl_in (wt_4 (List.mem_of_getElem? (i := 164) rfl)) rfl
theorem k_7 : Cond.fieldLink RX0 17 "GivenAway$Acts" "first" "I" ∈ WL := wl_in (wt_1 (List.mem_of_getElem? (i := 110) rfl)) rfl
theorem k_8 : Cond.fieldLink RX0 21 "GivenAway$Acts" "size" "I" ∈ WL := wl_in (wt_1 (List.mem_of_getElem? (i := 111) rfl)) rfl
theorem k_9 : Cond.code yX0_startOf cX0_startOf 2 (some .int) ∈ WL := wl_in (wt_2 (List.mem_of_getElem? (i := 132) rfl)) rfl
theorem k_10 : Cond.code yX0_push cX0_push 2 none ∈ WL := wl_in (wt_2 (List.mem_of_getElem? (i := 128) rfl)) rfl
theorem k_11 : Cond.methodLink RX0 28 arraycopyName ∈ WL := wl_in (wt_2 (List.mem_of_getElem? (i := 133) rfl)) rfl
theorem k_12 : Cond.native arraycopyName ∈ WL := wl_in (wt_2 (List.mem_of_getElem? (i := 135) rfl)) rfl
theorem k_13 : Cond.static arraycopyName ∈ WL := wl_in (wt_2 (List.mem_of_getElem? (i := 134) rfl)) rfl
theorem k_14 : Cond.initialized "java/lang/System" ∈ WL := wl_in (wt_1 (List.mem_of_getElem? (i := 25) rfl)) rfl
theorem k_15 : Cond.methodLink RX0 24 yX0_startOf ∈ WL := wl_in (wt_2 (List.mem_of_getElem? (i := 129) rfl)) rfl
theorem k_16 : Cond.instanceMethod yX0_startOf ∈ WL := wl_in (wt_2 (List.mem_of_getElem? (i := 131) rfl)) rfl
theorem k_17 : Cond.selects RX0 yX0_startOf yX0_startOf ∈ WL := wl_in (wps (wp_1 (List.mem_of_getElem? (i := 2) rfl))) rfl
theorem k_18 : Cond.initialized RX0 ∈ WL := wl_in (wt_1 (List.mem_of_getElem? (i := 5) rfl)) rfl
theorem k_19 : Cond.code yX0_pop cX0_pop 2 none ∈ WL := wl_in (wt_2 (List.mem_of_getElem? (i := 238) rfl)) rfl
theorem k_20 : Cond.code yX0_copyFrom cX0_copyFrom 2 none ∈ WL := wl_in (wt_3 (List.mem_of_getElem? (i := 43) rfl)) rfl
theorem k_21 : Cond.code yX7_init cX7_init 1 none ∈ WL := wl_in (wt_1 (List.mem_of_getElem? (i := 125) rfl)) rfl
theorem k_22 : Cond.methodLink RX7 3 objectInit ∈ WL := wl_in (wt_1 (List.mem_of_getElem? (i := 126) rfl)) rfl
theorem k_23 : Cond.fieldLink RX7 9 "GivenAway$Seen" "brides" "[I" ∈ WL := wl_in (wt_1 (List.mem_of_getElem? (i := 127) rfl)) rfl
theorem k_24 : Cond.fieldLink RX7 15 "GivenAway$Seen" "inDays" "[I" ∈ WL := wl_in (wt_1 (List.mem_of_getElem? (i := 128) rfl)) rfl
theorem k_25 : Cond.fieldLink RX7 18 "GivenAway$Seen" "ones" "[I" ∈ WL := wl_in (wt_1 (List.mem_of_getElem? (i := 129) rfl)) rfl
theorem k_26 : Cond.fieldLink RX7 21 "GivenAway$Seen" "others" "[I" ∈ WL := wl_in (wt_1 (List.mem_of_getElem? (i := 130) rfl)) rfl
theorem k_27 : Cond.arrayClass .boolean ∈ WL := wl_in (wt_1 (List.mem_of_getElem? (i := 147) rfl)) rfl
theorem k_28 : Cond.fieldLink RX7 24 "GivenAway$Seen" "mores" "[Z" ∈ WL := wl_in (wt_1 (List.mem_of_getElem? (i := 131) rfl)) rfl
theorem k_29 : Cond.code yX2_init cX2_init 2 none ∈ WL := wl_in (wt_1 (List.mem_of_getElem? (i := 152) rfl)) rfl
theorem k_30 : Cond.methodLink RX2 5 objectInit ∈ WL := wl_in (wt_1 (List.mem_of_getElem? (i := 153) rfl)) rfl
theorem k_31 : Cond.fieldLink RX2 11 "GivenAway$Dale" "cells" "[I" ∈ WL := wl_in (wt_1 (List.mem_of_getElem? (i := 159) rfl)) rfl
theorem k_32 : Cond.fieldLink RX2 17 "GivenAway$Dale" "values" "[I" ∈ WL := wl_in (wt_1 (List.mem_of_getElem? (i := 161) rfl)) rfl
theorem k_33 : Cond.fieldLink RX2 20 "GivenAway$Dale" "leaderWeights" "[I" ∈ WL := wl_in (wt_1 (List.mem_of_getElem? (i := 162) rfl)) rfl
theorem k_34 : Cond.fieldLink RX2 23 "GivenAway$Dale" "plan" "LGivenAway$Plan;" ∈ WL := wl_in (wt_1 (List.mem_of_getElem? (i := 155) rfl)) rfl
theorem k_35 : Cond.methodLink RX1 3 objectInit ∈ WL := wl_in (wt_1 (List.mem_of_getElem? (i := 102) rfl)) rfl
theorem k_36 : Cond.classLink RX1 9 RX0 ∈ WL := wl_in (wt_1 (List.mem_of_getElem? (i := 103) rfl)) rfl
theorem k_37 : Cond.instantiable RX0 3 ∈ WL := wl_in (wt_1 (List.mem_of_getElem? (i := 104) rfl)) rfl
theorem k_38 : Cond.fieldLink RX1 12 "GivenAway$Book" "acts" "LGivenAway$Acts;" ∈ WL := wl_in (wt_1 (List.mem_of_getElem? (i := 174) rfl)) rfl
theorem k_39 : Cond.classLink RX1 18 RX7 ∈ WL := wl_in (wt_1 (List.mem_of_getElem? (i := 121) rfl)) rfl
theorem k_40 : Cond.instantiable RX7 6 ∈ WL := wl_in (wt_1 (List.mem_of_getElem? (i := 122) rfl)) rfl
theorem k_41 : Cond.initialized RX7 ∈ WL := wl_in (wt_1 (List.mem_of_getElem? (i := 6) rfl)) rfl
theorem k_42 : Cond.fieldLink RX1 21 "GivenAway$Book" "seen" "LGivenAway$Seen;" ∈ WL := wl_in (wt_1 (List.mem_of_getElem? (i := 176) rfl)) rfl
theorem k_43 : Cond.fieldLink RX1 25 "GivenAway$Book" "refused" "[I" ∈ WL := wl_in (wt_1 (List.mem_of_getElem? (i := 178) rfl)) rfl
theorem k_44 : Cond.classLink RX1 29 RX2 ∈ WL := wl_in (wt_1 (List.mem_of_getElem? (i := 148) rfl)) rfl
theorem k_45 : Cond.instantiable RX2 4 ∈ WL := wl_in (wt_1 (List.mem_of_getElem? (i := 149) rfl)) rfl
theorem k_46 : Cond.initialized RX2 ∈ WL := wl_in (wt_1 (List.mem_of_getElem? (i := 7) rfl)) rfl
theorem k_47 : Cond.fieldLink RX1 34 "GivenAway$Book" "dale" "LGivenAway$Dale;" ∈ WL := wl_in (wt_1 (List.mem_of_getElem? (i := 172) rfl)) rfl
theorem k_48 : Cond.instanceMethod yX0_init ∈ WL := wl_in (wt_1 (List.mem_of_getElem? (i := 106) rfl)) rfl
theorem k_49 : Cond.instanceMethod yX7_init ∈ WL := wl_in (wt_1 (List.mem_of_getElem? (i := 124) rfl)) rfl
theorem k_50 : Cond.methodLink RX1 31 yX2_init ∈ WL := wl_in (wt_1 (List.mem_of_getElem? (i := 150) rfl)) rfl
theorem k_51 : Cond.instanceMethod yX2_init ∈ WL := wl_in (wt_1 (List.mem_of_getElem? (i := 151) rfl)) rfl
theorem k_52 : Cond.code yX1_init cX1_init 2 none ∈ WL := wl_in (wt_1 (List.mem_of_getElem? (i := 101) rfl)) rfl
theorem k_53 : Cond.code yX1_keepAct cX1_keepAct 1 none ∈ WL := wl_in (wt_2 (List.mem_of_getElem? (i := 124) rfl)) rfl
theorem k_54 : Cond.fieldLink RX1 38 "GivenAway$Dale" "cells" "[I" ∈ WL := wl_in (wt_1 (List.mem_of_getElem? (i := 160) rfl)) rfl
theorem k_55 : Cond.methodLink RX1 41 yX0_push ∈ WL := wl_in (wt_2 (List.mem_of_getElem? (i := 125) rfl)) rfl
theorem k_56 : Cond.instanceMethod yX0_push ∈ WL := wl_in (wt_2 (List.mem_of_getElem? (i := 126) rfl)) rfl
theorem k_57 : Cond.selects RX0 yX0_push yX0_push ∈ WL := wl_in (wt_2 (List.mem_of_getElem? (i := 127) rfl)) rfl
theorem k_58 : Cond.code yX1_undoAct cX1_undoAct 1 (some .int) ∈ WL := wl_in (wt_2 (List.mem_of_getElem? (i := 234) rfl)) rfl
theorem k_59 : Cond.fieldLink RX1 45 "GivenAway$Acts" "size" "I" ∈ WL := wl_in (wt_1 (List.mem_of_getElem? (i := 112) rfl)) rfl
theorem k_60 : Cond.methodLink RX1 49 yX0_pop ∈ WL := wl_in (wt_2 (List.mem_of_getElem? (i := 235) rfl)) rfl
theorem k_61 : Cond.instanceMethod yX0_pop ∈ WL := wl_in (wt_2 (List.mem_of_getElem? (i := 236) rfl)) rfl
theorem k_62 : Cond.selects RX0 yX0_pop yX0_pop ∈ WL := wl_in (wt_2 (List.mem_of_getElem? (i := 237) rfl)) rfl
theorem k_63 : Cond.code yX2_copyFrom cX2_copyFrom 2 none ∈ WL := wl_in (wt_3 (List.mem_of_getElem? (i := 10) rfl)) rfl
theorem k_64 : Cond.methodLink RX2 32 arraycopyName ∈ WL := wl_in (wt_3 (List.mem_of_getElem? (i := 11) rfl)) rfl
theorem k_65 : Cond.code yX7_clear cX7_clear 1 none ∈ WL := wl_in (wt_3 (List.mem_of_getElem? (i := 30) rfl)) rfl
theorem k_66 : Cond.fieldLink RX7 28 "GivenAway$Seen" "size" "I" ∈ WL := wl_in (wt_1 (List.mem_of_getElem? (i := 132) rfl)) rfl
theorem k_67 : Cond.code yX7_add cX7_add 6 none ∈ WL := wl_in (wt_3 (List.mem_of_getElem? (i := 52) rfl)) rfl
theorem k_68 : Cond.code yX7_copyFrom cX7_copyFrom 3 none ∈ WL := wl_in (wt_3 (List.mem_of_getElem? (i := 47) rfl)) rfl
theorem k_69 : Cond.methodLink RX7 32 yX7_clear ∈ WL := wl_in (wt_3 (List.mem_of_getElem? (i := 48) rfl)) rfl
theorem k_70 : Cond.instanceMethod yX7_clear ∈ WL := wl_in (wt_3 (List.mem_of_getElem? (i := 28) rfl)) rfl
theorem k_71 : Cond.selects RX7 yX7_clear yX7_clear ∈ WL := wl_in (wt_3 (List.mem_of_getElem? (i := 29) rfl)) rfl
theorem k_72 : Cond.methodLink RX7 35 yX7_add ∈ WL := wl_in (wt_3 (List.mem_of_getElem? (i := 49) rfl)) rfl
theorem k_73 : Cond.instanceMethod yX7_add ∈ WL := wl_in (wt_3 (List.mem_of_getElem? (i := 50) rfl)) rfl
theorem k_74 : Cond.selects RX7 yX7_add yX7_add ∈ WL := wl_in (wt_3 (List.mem_of_getElem? (i := 51) rfl)) rfl
theorem k_75 : Cond.methodLink RX1 62 arraycopyName ∈ WL := wl_in (wt_3 (List.mem_of_getElem? (i := 53) rfl)) rfl
theorem k_76 : Cond.methodLink RX1 52 yX2_copyFrom ∈ WL := wl_in (wt_3 (List.mem_of_getElem? (i := 39) rfl)) rfl
theorem k_77 : Cond.instanceMethod yX2_copyFrom ∈ WL := wl_in (wt_3 (List.mem_of_getElem? (i := 8) rfl)) rfl
theorem k_78 : Cond.selects RX2 yX2_copyFrom yX2_copyFrom ∈ WL := wl_in (wt_3 (List.mem_of_getElem? (i := 9) rfl)) rfl
theorem k_79 : Cond.methodLink RX1 56 yX0_copyFrom ∈ WL := wl_in (wt_3 (List.mem_of_getElem? (i := 40) rfl)) rfl
theorem k_80 : Cond.instanceMethod yX0_copyFrom ∈ WL := wl_in (wt_3 (List.mem_of_getElem? (i := 41) rfl)) rfl
theorem k_81 : Cond.selects RX0 yX0_copyFrom yX0_copyFrom ∈ WL := wl_in (wt_3 (List.mem_of_getElem? (i := 42) rfl)) rfl
theorem k_82 : Cond.methodLink RX1 59 yX7_copyFrom ∈ WL := wl_in (wt_3 (List.mem_of_getElem? (i := 44) rfl)) rfl
theorem k_83 : Cond.instanceMethod yX7_copyFrom ∈ WL := wl_in (wt_3 (List.mem_of_getElem? (i := 45) rfl)) rfl
theorem k_84 : Cond.selects RX7 yX7_copyFrom yX7_copyFrom ∈ WL := wl_in (wt_3 (List.mem_of_getElem? (i := 46) rfl)) rfl
theorem k_85 : Cond.code yX1_copyFrom cX1_copyFrom 2 none ∈ WL := wl_in (wt_3 (List.mem_of_getElem? (i := 38) rfl)) rfl
theorem k_86 : Cond.code yX5_clear cX5_clear 1 none ∈ WL := wl_in (wt_3 (List.mem_of_getElem? (i := 144) rfl)) rfl
theorem k_87 : Cond.fieldLink RX5 18 "GivenAway$Rule" "told" "Z" ∈ WL := wl_in (wt_1 (List.mem_of_getElem? (i := 48) rfl)) rfl
theorem k_88 : Cond.fieldLink RX5 22 "GivenAway$Rule" "length" "I" ∈ WL := wl_in (wt_1 (List.mem_of_getElem? (i := 52) rfl)) rfl
theorem k_89 : Cond.code yX3_clear cX3_clear 1 none ∈ WL := wl_in (wt_3 (List.mem_of_getElem? (i := 140) rfl)) rfl
theorem k_90 : Cond.fieldLink RX3 25 "GivenAway$Plan" "people" "I" ∈ WL := wl_in (wt_1 (List.mem_of_getElem? (i := 64) rfl)) rfl
theorem k_91 : Cond.fieldLink RX3 29 "GivenAway$Plan" "brides" "I" ∈ WL := wl_in (wt_1 (List.mem_of_getElem? (i := 70) rfl)) rfl
theorem k_92 : Cond.fieldLink RX3 18 "GivenAway$Plan" "weighs" "LGivenAway$Rule;" ∈ WL := wl_in (wt_1 (List.mem_of_getElem? (i := 80) rfl)) rfl
theorem k_93 : Cond.fieldLink RX3 22 "GivenAway$Plan" "mourns" "LGivenAway$Rule;" ∈ WL := wl_in (wt_1 (List.mem_of_getElem? (i := 83) rfl)) rfl
theorem k_94 : Cond.methodLink RX3 32 yX5_clear ∈ WL := wl_in (wt_3 (List.mem_of_getElem? (i := 141) rfl)) rfl
theorem k_95 : Cond.instanceMethod yX5_clear ∈ WL := wl_in (wt_3 (List.mem_of_getElem? (i := 142) rfl)) rfl
theorem k_96 : Cond.selects RX5 yX5_clear yX5_clear ∈ WL := wl_in (wt_3 (List.mem_of_getElem? (i := 143) rfl)) rfl
theorem k_97 : Cond.initialized RX5 ∈ WL := wl_in (wt_1 (List.mem_of_getElem? (i := 3) rfl)) rfl
theorem k_98 : Cond.code yX2_startAnew cX2_startAnew 3 none ∈ WL := wl_in (wt_3 (List.mem_of_getElem? (i := 136) rfl)) rfl
theorem k_99 : Cond.methodLink RX2 27 yX3_clear ∈ WL := wl_in (wt_3 (List.mem_of_getElem? (i := 137) rfl)) rfl
theorem k_100 : Cond.instanceMethod yX3_clear ∈ WL := wl_in (wt_3 (List.mem_of_getElem? (i := 138) rfl)) rfl
theorem k_101 : Cond.selects RX3 yX3_clear yX3_clear ∈ WL := wl_in (wt_3 (List.mem_of_getElem? (i := 139) rfl)) rfl
theorem k_102 : Cond.initialized RX3 ∈ WL := wl_in (wt_1 (List.mem_of_getElem? (i := 2) rfl)) rfl
theorem k_103 : Cond.code yX2_today cX2_today 1 (some .int) ∈ WL := wl_in (wt_2 (List.mem_of_getElem? (i := 116) rfl)) rfl
theorem k_104 : Cond.code yX2_dogCount cX2_dogCount 1 (some .int) ∈ WL := wl_in (wt_3 (List.mem_of_getElem? (i := 16) rfl)) rfl
theorem k_105 : Cond.code yX2_griefOf cX2_griefOf 2 (some .int) ∈ WL := wl_in (wt_2 (List.mem_of_getElem? (i := 164) rfl)) rfl
theorem k_106 : Cond.code yX2_setGrief cX2_setGrief 3 none ∈ WL := wl_in (wt_2 (List.mem_of_getElem? (i := 214) rfl)) rfl
theorem k_107 : Cond.code yX2_trainsOf cX2_trainsOf 2 (some .int) ∈ WL := wl_in (wt_2 (List.mem_of_getElem? (i := 222) rfl)) rfl
theorem k_108 : Cond.code yX2_setTrains cX2_setTrains 3 none ∈ WL := wl_in (wt_4 (List.mem_of_getElem? (i := 67) rfl)) rfl
theorem k_109 : Cond.code yX2_onionsOf cX2_onionsOf 2 (some .int) ∈ WL := wl_in (wt_2 (List.mem_of_getElem? (i := 168) rfl)) rfl
theorem k_110 : Cond.code yX2_setOnions cX2_setOnions 3 none ∈ WL := wl_in (wt_2 (List.mem_of_getElem? (i := 226) rfl)) rfl
theorem k_111 : Cond.code yX2_ledBits cX2_ledBits 2 (some .int) ∈ WL := wl_in (wt_2 (List.mem_of_getElem? (i := 185) rfl)) rfl
theorem k_112 : Cond.code yX2_welcome cX2_welcome 3 none ∈ WL := wl_in (wt_4 (List.mem_of_getElem? (i := 82) rfl)) rfl
theorem k_113 : Cond.code yX2_weddingOf cX2_weddingOf 2 (some .int) ∈ WL := wl_in (wt_2 (List.mem_of_getElem? (i := 147) rfl)) rfl
theorem k_114 : Cond.code yX2_setWedding cX2_setWedding 3 none ∈ WL := wl_in (wt_5 (List.mem_of_getElem? (i := 48) rfl)) rfl
theorem k_115 : Cond.code yX2_isHome cX2_isHome 2 (some .boolean) ∈ WL := wl_in (wt_2 (List.mem_of_getElem? (i := 143) rfl)) rfl
theorem k_116 : Cond.code yX2_whoLed cX2_whoLed 2 (some .int) ∈ WL := wl_in (wt_5 (List.mem_of_getElem? (i := 2) rfl)) rfl
theorem k_117 : Cond.code yX2_leaderWeight cX2_leaderWeight 2 (some .int) ∈ WL := wl_in (wt_5 (List.mem_of_getElem? (i := 168) rfl)) rfl
theorem k_118 : Cond.code yX2_yearsOf cX2_yearsOf 3 (some .int) ∈ WL := wl_in (wt_2 (List.mem_of_getElem? (i := 160) rfl)) rfl
theorem k_119 : Cond.code yX2_setYears cX2_setYears 4 none ∈ WL := wl_in (wt_4 (List.mem_of_getElem? (i := 101) rfl)) rfl
theorem k_120 : Cond.code yX2_bridesTiedTo cX2_bridesTiedTo 4 (some .int) ∈ WL := wl_in (wt_4 (List.mem_of_getElem? (i := 200) rfl)) rfl
theorem k_121 : Cond.fieldLink RX2 38 "GivenAway$Plan" "brides" "I" ∈ WL := wl_in (wt_1 (List.mem_of_getElem? (i := 75) rfl)) rfl
theorem k_122 : Cond.methodLink RX2 42 yX2_yearsOf ∈ WL := wl_in (wt_2 (List.mem_of_getElem? (i := 157) rfl)) rfl
theorem k_123 : Cond.instanceMethod yX2_yearsOf ∈ WL := wl_in (wt_2 (List.mem_of_getElem? (i := 158) rfl)) rfl
theorem k_124 : Cond.selects RX2 yX2_yearsOf yX2_yearsOf ∈ WL := wl_in (wt_2 (List.mem_of_getElem? (i := 159) rfl)) rfl
theorem k_125 : Cond.code yX2_peopleTiedTo cX2_peopleTiedTo 4 (some .int) ∈ WL := wl_in (wt_2 (List.mem_of_getElem? (i := 199) rfl)) rfl
theorem k_126 : Cond.fieldLink RX2 46 "GivenAway$Plan" "people" "I" ∈ WL := wl_in (wt_1 (List.mem_of_getElem? (i := 69) rfl)) rfl
theorem k_127 : Cond.code yX2_peopleBeside cX2_peopleBeside 5 (some .int) ∈ WL := wl_in (wt_6 (List.mem_of_getElem? (i := 9) rfl)) rfl
theorem k_128 : Cond.methodLink RX2 49 yX2_peopleTiedTo ∈ WL := wl_in (wt_2 (List.mem_of_getElem? (i := 196) rfl)) rfl
theorem k_129 : Cond.instanceMethod yX2_peopleTiedTo ∈ WL := wl_in (wt_2 (List.mem_of_getElem? (i := 197) rfl)) rfl
theorem k_130 : Cond.selects RX2 yX2_peopleTiedTo yX2_peopleTiedTo ∈ WL := wl_in (wt_2 (List.mem_of_getElem? (i := 198) rfl)) rfl
theorem k_131 : Cond.code yJ6_bitCount_0f7a4 cJ6_bitCount_0f7a4 1 (some .int) ∈ WL := wl_in (wt_2 (List.mem_of_getElem? (i := 188) rfl)) rfl
theorem k_132 : Cond.constant RJ6 265 (1431655765) ∈ WL := wl_in (wt_2 (List.mem_of_getElem? (i := 189) rfl)) rfl
theorem k_133 : Cond.constant RJ6 266 (858993459) ∈ WL := wl_in (wt_2 (List.mem_of_getElem? (i := 190) rfl)) rfl
theorem k_134 : Cond.constant RJ6 267 (252645135) ∈ WL := wl_in (wt_2 (List.mem_of_getElem? (i := 191) rfl)) rfl
theorem k_135 : Cond.code yX2_tieCount cX2_tieCount 3 (some .int) ∈ WL := wl_in (wt_4 (List.mem_of_getElem? (i := 196) rfl)) rfl
theorem k_136 : Cond.methodLink RX2 53 yX2_bridesTiedTo ∈ WL := wl_in (wt_4 (List.mem_of_getElem? (i := 197) rfl)) rfl
theorem k_137 : Cond.instanceMethod yX2_bridesTiedTo ∈ WL := wl_in (wt_4 (List.mem_of_getElem? (i := 198) rfl)) rfl
theorem k_138 : Cond.selects RX2 yX2_bridesTiedTo yX2_bridesTiedTo ∈ WL := wl_in (wt_4 (List.mem_of_getElem? (i := 199) rfl)) rfl
theorem k_139 : Cond.methodLink RX2 56 yJ6_bitCount_0f7a4 ∈ WL := wl_in (wt_2 (List.mem_of_getElem? (i := 186) rfl)) rfl
theorem k_140 : Cond.static yJ6_bitCount_0f7a4 ∈ WL := wl_in (wt_2 (List.mem_of_getElem? (i := 187) rfl)) rfl
theorem k_141 : Cond.initialized RJ6 ∈ WL := wl_in (wt_1 (List.mem_of_getElem? (i := 27) rfl)) rfl
theorem k_142 : Cond.code yX2_homeBits cX2_homeBits 3 (some .int) ∈ WL := wl_in (wt_4 (List.mem_of_getElem? (i := 204) rfl)) rfl
theorem k_143 : Cond.methodLink RX2 61 yX2_isHome ∈ WL := wl_in (wt_2 (List.mem_of_getElem? (i := 140) rfl)) rfl
theorem k_144 : Cond.instanceMethod yX2_isHome ∈ WL := wl_in (wt_2 (List.mem_of_getElem? (i := 141) rfl)) rfl
theorem k_145 : Cond.selects RX2 yX2_isHome yX2_isHome ∈ WL := wl_in (wt_2 (List.mem_of_getElem? (i := 142) rfl)) rfl
theorem k_146 : Cond.code yX2_griefOfAll cX2_griefOfAll 3 (some .int) ∈ WL := wl_in (wt_4 (List.mem_of_getElem? (i := 208) rfl)) rfl
theorem k_147 : Cond.methodLink RX2 65 yX2_griefOf ∈ WL := wl_in (wt_2 (List.mem_of_getElem? (i := 161) rfl)) rfl
theorem k_148 : Cond.instanceMethod yX2_griefOf ∈ WL := wl_in (wt_2 (List.mem_of_getElem? (i := 162) rfl)) rfl
theorem k_149 : Cond.selects RX2 yX2_griefOf yX2_griefOf ∈ WL := wl_in (wt_2 (List.mem_of_getElem? (i := 163) rfl)) rfl
theorem k_150 : Cond.code yX2_weddingsOn cX2_weddingsOn 4 (some .int) ∈ WL := wl_in (wt_6 (List.mem_of_getElem? (i := 27) rfl)) rfl
theorem k_151 : Cond.methodLink RX2 68 yX2_weddingOf ∈ WL := wl_in (wt_2 (List.mem_of_getElem? (i := 144) rfl)) rfl
theorem k_152 : Cond.instanceMethod yX2_weddingOf ∈ WL := wl_in (wt_2 (List.mem_of_getElem? (i := 145) rfl)) rfl
theorem k_153 : Cond.selects RX2 yX2_weddingOf yX2_weddingOf ∈ WL := wl_in (wt_2 (List.mem_of_getElem? (i := 146) rfl)) rfl
theorem k_154 : Cond.code yX2_hasWeddingBefore cX2_hasWeddingBefore 3 (some .boolean) ∈ WL := wl_in (wt_5 (List.mem_of_getElem? (i := 76) rfl)) rfl
theorem k_155 : Cond.code yX2_rivalsFor cX2_rivalsFor 2 (some .int) ∈ WL := wl_in (wt_2 (List.mem_of_getElem? (i := 195) rfl)) rfl
theorem k_156 : Cond.methodLink RX2 71 Lib.Math.max.name ∈ WL := wl_in (wt_2 (List.mem_of_getElem? (i := 175) rfl)) rfl
theorem k_157 : Cond.static Lib.Math.max.name ∈ WL := wl_in (wt_2 (List.mem_of_getElem? (i := 176) rfl)) rfl
theorem k_158 : Cond.initialized "java/lang/Math" ∈ WL := wl_in (wt_1 (List.mem_of_getElem? (i := 17) rfl)) rfl
theorem k_159 : Cond.code Lib.Math.max.name Lib.Math.max.code 2 (some .int) ∈ WL := wl_in (wt_2 (List.mem_of_getElem? (i := 177) rfl)) rfl
theorem k_160 : Cond.code yX2_kept cX2_kept 2 (some .int) ∈ WL := wl_in (wt_2 (List.mem_of_getElem? (i := 171) rfl)) rfl
theorem k_161 : Cond.methodLink RX2 111 Lib.Math.min.name ∈ WL := wl_in (wt_2 (List.mem_of_getElem? (i := 172) rfl)) rfl
theorem k_162 : Cond.static Lib.Math.min.name ∈ WL := wl_in (wt_2 (List.mem_of_getElem? (i := 173) rfl)) rfl
theorem k_163 : Cond.code Lib.Math.min.name Lib.Math.min.code 2 (some .int) ∈ WL := wl_in (wt_2 (List.mem_of_getElem? (i := 174) rfl)) rfl
theorem k_164 : Cond.fieldLink RX2 105 "GivenAway$Plan" "kinds" "[I" ∈ WL := wl_in (wt_1 (List.mem_of_getElem? (i := 79) rfl)) rfl
theorem k_165 : Cond.methodLink RX2 84 yX2_onionsOf ∈ WL := wl_in (wt_2 (List.mem_of_getElem? (i := 165) rfl)) rfl
theorem k_166 : Cond.instanceMethod yX2_onionsOf ∈ WL := wl_in (wt_2 (List.mem_of_getElem? (i := 166) rfl)) rfl
theorem k_167 : Cond.selects RX2 yX2_onionsOf yX2_onionsOf ∈ WL := wl_in (wt_2 (List.mem_of_getElem? (i := 167) rfl)) rfl
theorem k_168 : Cond.methodLink RX2 108 yX2_ledBits ∈ WL := wl_in (wt_2 (List.mem_of_getElem? (i := 182) rfl)) rfl
theorem k_169 : Cond.instanceMethod yX2_ledBits ∈ WL := wl_in (wt_2 (List.mem_of_getElem? (i := 183) rfl)) rfl
theorem k_170 : Cond.selects RX2 yX2_ledBits yX2_ledBits ∈ WL := wl_in (wt_2 (List.mem_of_getElem? (i := 184) rfl)) rfl
theorem k_171 : Cond.methodLink RX2 94 yX2_today ∈ WL := wl_in (wt_2 (List.mem_of_getElem? (i := 148) rfl)) rfl
theorem k_172 : Cond.instanceMethod yX2_today ∈ WL := wl_in (wt_2 (List.mem_of_getElem? (i := 114) rfl)) rfl
theorem k_173 : Cond.selects RX2 yX2_today yX2_today ∈ WL := wl_in (wt_2 (List.mem_of_getElem? (i := 115) rfl)) rfl
theorem k_174 : Cond.code yX2_setValuesOf cX2_setValuesOf 2 none ∈ WL := wl_in (wt_2 (List.mem_of_getElem? (i := 181) rfl)) rfl
theorem k_175 : Cond.code yX5_joined cX5_joined 3 (some .int) ∈ WL := wl_in (wt_2 (List.mem_of_getElem? (i := 206) rfl)) rfl
theorem k_176 : Cond.code yX5_workOut cX5_workOut 5 (some .int) ∈ WL := wl_in (wt_2 (List.mem_of_getElem? (i := 203) rfl)) rfl
theorem k_177 : Cond.fieldLink RX5 9 "GivenAway$Rule" "row" "[I" ∈ WL := wl_in (wt_1 (List.mem_of_getElem? (i := 51) rfl)) rfl
theorem k_178 : Cond.fieldLink RX5 15 "GivenAway$Rule" "stack" "[I" ∈ WL := wl_in (wt_1 (List.mem_of_getElem? (i := 53) rfl)) rfl
theorem k_179 : Cond.methodLink RX5 26 yX5_joined ∈ WL := wl_in (wt_2 (List.mem_of_getElem? (i := 204) rfl)) rfl
theorem k_180 : Cond.static yX5_joined ∈ WL := wl_in (wt_2 (List.mem_of_getElem? (i := 205) rfl)) rfl
theorem k_181 : Cond.fieldLink RX2 76 "GivenAway$Plan" "weighs" "LGivenAway$Rule;" ∈ WL := wl_in (wt_1 (List.mem_of_getElem? (i := 82) rfl)) rfl
theorem k_182 : Cond.fieldLink RX2 80 "GivenAway$Rule" "told" "Z" ∈ WL := wl_in (wt_1 (List.mem_of_getElem? (i := 50) rfl)) rfl
theorem k_183 : Cond.methodLink RX2 87 yX2_kept ∈ WL := wl_in (wt_2 (List.mem_of_getElem? (i := 169) rfl)) rfl
theorem k_184 : Cond.static yX2_kept ∈ WL := wl_in (wt_2 (List.mem_of_getElem? (i := 170) rfl)) rfl
theorem k_185 : Cond.methodLink RX2 90 yX2_setValuesOf ∈ WL := wl_in (wt_2 (List.mem_of_getElem? (i := 178) rfl)) rfl
theorem k_186 : Cond.instanceMethod yX2_setValuesOf ∈ WL := wl_in (wt_2 (List.mem_of_getElem? (i := 180) rfl)) rfl
theorem k_187 : Cond.selects RX2 yX2_setValuesOf yX2_setValuesOf ∈ WL := wl_in (wps (wp_1 (List.mem_of_getElem? (i := 3) rfl))) rfl
theorem k_188 : Cond.methodLink RX2 98 yX2_rivalsFor ∈ WL := wl_in (wt_2 (List.mem_of_getElem? (i := 192) rfl)) rfl
theorem k_189 : Cond.instanceMethod yX2_rivalsFor ∈ WL := wl_in (wt_2 (List.mem_of_getElem? (i := 193) rfl)) rfl
theorem k_190 : Cond.selects RX2 yX2_rivalsFor yX2_rivalsFor ∈ WL := wl_in (wt_2 (List.mem_of_getElem? (i := 194) rfl)) rfl
theorem k_191 : Cond.methodLink RX2 101 yX5_workOut ∈ WL := wl_in (wt_2 (List.mem_of_getElem? (i := 200) rfl)) rfl
theorem k_192 : Cond.instanceMethod yX5_workOut ∈ WL := wl_in (wt_2 (List.mem_of_getElem? (i := 201) rfl)) rfl
theorem k_193 : Cond.selects RX5 yX5_workOut yX5_workOut ∈ WL := wl_in (wt_2 (List.mem_of_getElem? (i := 202) rfl)) rfl
theorem k_194 : Cond.code yX2_weigh cX2_weigh 4 (some .int) ∈ WL := wl_in (wt_2 (List.mem_of_getElem? (i := 156) rfl)) rfl
theorem k_195 : Cond.methodLink RX2 114 yX2_weigh ∈ WL := wl_in (wt_2 (List.mem_of_getElem? (i := 153) rfl)) rfl
theorem k_196 : Cond.instanceMethod yX2_weigh ∈ WL := wl_in (wt_2 (List.mem_of_getElem? (i := 154) rfl)) rfl
theorem k_197 : Cond.selects RX2 yX2_weigh yX2_weigh ∈ WL := wl_in (wt_2 (List.mem_of_getElem? (i := 155) rfl)) rfl
theorem k_198 : Cond.code yX2_heaviestFor cX2_heaviestFor 6 (some .int) ∈ WL := wl_in (wt_2 (List.mem_of_getElem? (i := 152) rfl)) rfl
theorem k_199 : Cond.methodLink RX2 127 yX2_setGrief ∈ WL := wl_in (wt_2 (List.mem_of_getElem? (i := 211) rfl)) rfl
theorem k_200 : Cond.instanceMethod yX2_setGrief ∈ WL := wl_in (wt_2 (List.mem_of_getElem? (i := 212) rfl)) rfl
theorem k_201 : Cond.selects RX2 yX2_setGrief yX2_setGrief ∈ WL := wl_in (wt_2 (List.mem_of_getElem? (i := 213) rfl)) rfl
theorem k_202 : Cond.code yX2_giveAway cX2_giveAway 4 none ∈ WL := wl_in (wt_2 (List.mem_of_getElem? (i := 210) rfl)) rfl
theorem k_203 : Cond.fieldLink RX2 133 "GivenAway$Plan" "mourns" "LGivenAway$Rule;" ∈ WL := wl_in (wt_1 (List.mem_of_getElem? (i := 85) rfl)) rfl
theorem k_204 : Cond.methodLink RX2 136 yX2_trainsOf ∈ WL := wl_in (wt_2 (List.mem_of_getElem? (i := 219) rfl)) rfl
theorem k_205 : Cond.instanceMethod yX2_trainsOf ∈ WL := wl_in (wt_2 (List.mem_of_getElem? (i := 220) rfl)) rfl
theorem k_206 : Cond.selects RX2 yX2_trainsOf yX2_trainsOf ∈ WL := wl_in (wt_2 (List.mem_of_getElem? (i := 221) rfl)) rfl
theorem k_207 : Cond.code yX2_mournedBy cX2_mournedBy 2 (some .int) ∈ WL := wl_in (wt_2 (List.mem_of_getElem? (i := 218) rfl)) rfl
theorem k_208 : Cond.methodLink RX2 117 yX2_heaviestFor ∈ WL := wl_in (wt_2 (List.mem_of_getElem? (i := 149) rfl)) rfl
theorem k_209 : Cond.instanceMethod yX2_heaviestFor ∈ WL := wl_in (wt_2 (List.mem_of_getElem? (i := 150) rfl)) rfl
theorem k_210 : Cond.selects RX2 yX2_heaviestFor yX2_heaviestFor ∈ WL := wl_in (wt_2 (List.mem_of_getElem? (i := 151) rfl)) rfl
theorem k_211 : Cond.methodLink RX2 120 yX2_giveAway ∈ WL := wl_in (wt_2 (List.mem_of_getElem? (i := 207) rfl)) rfl
theorem k_212 : Cond.instanceMethod yX2_giveAway ∈ WL := wl_in (wt_2 (List.mem_of_getElem? (i := 209) rfl)) rfl
theorem k_213 : Cond.selects RX2 yX2_giveAway yX2_giveAway ∈ WL := wl_in (wps (wp_1 (List.mem_of_getElem? (i := 4) rfl))) rfl
theorem k_214 : Cond.methodLink RX2 124 yX2_mournedBy ∈ WL := wl_in (wt_2 (List.mem_of_getElem? (i := 215) rfl)) rfl
theorem k_215 : Cond.instanceMethod yX2_mournedBy ∈ WL := wl_in (wt_2 (List.mem_of_getElem? (i := 217) rfl)) rfl
theorem k_216 : Cond.selects RX2 yX2_mournedBy yX2_mournedBy ∈ WL := wl_in (wps (wp_1 (List.mem_of_getElem? (i := 5) rfl))) rfl
theorem k_217 : Cond.methodLink RX2 130 yX2_setOnions ∈ WL := wl_in (wt_2 (List.mem_of_getElem? (i := 223) rfl)) rfl
theorem k_218 : Cond.instanceMethod yX2_setOnions ∈ WL := wl_in (wt_2 (List.mem_of_getElem? (i := 224) rfl)) rfl
theorem k_219 : Cond.selects RX2 yX2_setOnions yX2_setOnions ∈ WL := wl_in (wt_2 (List.mem_of_getElem? (i := 225) rfl)) rfl
theorem k_220 : Cond.code yX2_passDay cX2_passDay 2 none ∈ WL := wl_in (wt_2 (List.mem_of_getElem? (i := 139) rfl)) rfl
theorem k_221 : Cond.code yX5_init cX5_init 1 none ∈ WL := wl_in (wt_1 (List.mem_of_getElem? (i := 46) rfl)) rfl
theorem k_222 : Cond.methodLink RX5 3 objectInit ∈ WL := wl_in (wt_1 (List.mem_of_getElem? (i := 47) rfl)) rfl
theorem k_223 : Cond.code yX3_init cX3_init 1 none ∈ WL := wl_in (wt_1 (List.mem_of_getElem? (i := 40) rfl)) rfl
theorem k_224 : Cond.methodLink RX3 3 objectInit ∈ WL := wl_in (wt_1 (List.mem_of_getElem? (i := 41) rfl)) rfl
theorem k_225 : Cond.fieldLink RX3 9 "GivenAway$Plan" "kinds" "[I" ∈ WL := wl_in (wt_1 (List.mem_of_getElem? (i := 76) rfl)) rfl
theorem k_226 : Cond.classLink RX3 15 RX5 ∈ WL := wl_in (wt_1 (List.mem_of_getElem? (i := 42) rfl)) rfl
theorem k_227 : Cond.instantiable RX5 4 ∈ WL := wl_in (wt_1 (List.mem_of_getElem? (i := 43) rfl)) rfl
theorem k_228 : Cond.instanceMethod yX5_init ∈ WL := wl_in (wt_1 (List.mem_of_getElem? (i := 45) rfl)) rfl
theorem k_229 : Cond.code yX8_init cX8_init 2 none ∈ WL := wl_in (wt_1 (List.mem_of_getElem? (i := 201) rfl)) rfl
theorem k_230 : Cond.methodLink RX8 1 objectInit ∈ WL := wl_in (wt_1 (List.mem_of_getElem? (i := 202) rfl)) rfl
theorem k_231 : Cond.fieldLink RX8 7 "GivenAway$Tokens" "text" "[I" ∈ WL := wl_in (wt_1 (List.mem_of_getElem? (i := 203) rfl)) rfl
theorem k_232 : Cond.code yX4_init cX4_init 3 none ∈ WL := wl_in (wt_1 (List.mem_of_getElem? (i := 195) rfl)) rfl
theorem k_233 : Cond.methodLink RX4 3 objectInit ∈ WL := wl_in (wt_1 (List.mem_of_getElem? (i := 196) rfl)) rfl
theorem k_234 : Cond.classLink RX4 9 RX8 ∈ WL := wl_in (wt_1 (List.mem_of_getElem? (i := 197) rfl)) rfl
theorem k_235 : Cond.instantiable RX8 9 ∈ WL := wl_in (wt_1 (List.mem_of_getElem? (i := 198) rfl)) rfl
theorem k_236 : Cond.initialized RX8 ∈ WL := wl_in (wt_1 (List.mem_of_getElem? (i := 9) rfl)) rfl
theorem k_237 : Cond.fieldLink RX4 14 "GivenAway$Reader" "tokens" "LGivenAway$Tokens;" ∈ WL := wl_in (wt_1 (List.mem_of_getElem? (i := 237) rfl)) rfl
theorem k_238 : Cond.fieldLink RX4 20 "GivenAway$Reader" "dale" "LGivenAway$Dale;" ∈ WL := wl_in (wt_1 (List.mem_of_getElem? (i := 238) rfl)) rfl
theorem k_239 : Cond.fieldLink RX4 24 "GivenAway$Dale" "plan" "LGivenAway$Plan;" ∈ WL := wl_in (wt_1 (List.mem_of_getElem? (i := 154) rfl)) rfl
theorem k_240 : Cond.fieldLink RX4 30 "GivenAway$Plan" "weighs" "LGivenAway$Rule;" ∈ WL := wl_in (wt_1 (List.mem_of_getElem? (i := 81) rfl)) rfl
theorem k_241 : Cond.fieldLink RX4 36 "GivenAway$Reader" "rule" "LGivenAway$Rule;" ∈ WL := wl_in (wt_1 (List.mem_of_getElem? (i := 239) rfl)) rfl
theorem k_242 : Cond.methodLink RX4 11 yX8_init ∈ WL := wl_in (wt_1 (List.mem_of_getElem? (i := 199) rfl)) rfl
theorem k_243 : Cond.instanceMethod yX8_init ∈ WL := wl_in (wt_1 (List.mem_of_getElem? (i := 200) rfl)) rfl
theorem k_244 : Cond.code yX8_isLetter cX8_isLetter 1 (some .boolean) ∈ WL := wl_in (wt_3 (List.mem_of_getElem? (i := 160) rfl)) rfl
theorem k_245 : Cond.code yJ0_coder_7d493 cJ0_coder_7d493 1 (some .byte) ∈ WL := wl_in (wt_3 (List.mem_of_getElem? (i := 182) rfl)) rfl
theorem k_246 : Cond.fieldLink RJ0 38 "java/lang/String" "COMPACT_STRINGS" "Z" ∈ WL := wl_in (wt_3 (List.mem_of_getElem? (i := 183) rfl)) rfl
theorem k_247 : Cond.fieldLink RJ0 15 "java/lang/String" "coder" "B" ∈ WL := wl_in (wt_9 (List.mem_of_getElem? (i := 129) rfl)) rfl
theorem k_248 : Cond.code yJ0_length_8abf5 cJ0_length_8abf5 1 (some .int) ∈ WL := wl_in (wt_3 (List.mem_of_getElem? (i := 178) rfl)) rfl
theorem k_249 : Cond.fieldLink RJ0 9 "java/lang/String" "value" "[B" ∈ WL := wl_in (wt_9 (List.mem_of_getElem? (i := 128) rfl)) rfl
theorem k_250 : Cond.methodLink RJ0 335 yJ0_coder_7d493 ∈ WL := wl_in (wt_3 (List.mem_of_getElem? (i := 179) rfl)) rfl
theorem k_251 : Cond.instanceMethod yJ0_coder_7d493 ∈ WL := wl_in (wt_3 (List.mem_of_getElem? (i := 180) rfl)) rfl
theorem k_252 : Cond.selects RJ0 yJ0_coder_7d493 yJ0_coder_7d493 ∈ WL := wl_in (wt_3 (List.mem_of_getElem? (i := 181) rfl)) rfl
theorem k_253 : Cond.initialized RJ0 ∈ WL := wl_in (wt_1 (List.mem_of_getElem? (i := 20) rfl)) rfl
theorem k_254 : Cond.code yJ0_isLatin1_aae02 cJ0_isLatin1_aae02 1 (some .boolean) ∈ WL := wl_in (wt_3 (List.mem_of_getElem? (i := 192) rfl)) rfl
theorem k_255 : Cond.code yJ3_checkIndex_8e157 cJ3_checkIndex_8e157 3 (some .int) ∈ WL := wl_in (wt_3 (List.mem_of_getElem? (i := 203) rfl)) rfl
theorem k_256 : Cond.code yJ0_checkIndex_df160 cJ0_checkIndex_df160 2 none ∈ WL := wl_in (wt_3 (List.mem_of_getElem? (i := 198) rfl)) rfl
theorem k_257 : Cond.fieldLink RJ0 1053 "jdk/internal/util/Preconditions" "SIOOBE_FORMATTER" "Ljava/util/function/BiFunction;" ∈ WL := wl_in (wt_3 (List.mem_of_getElem? (i := 199) rfl)) rfl
theorem k_258 : Cond.methodLink RJ0 1059 yJ3_checkIndex_8e157 ∈ WL := wl_in (wt_3 (List.mem_of_getElem? (i := 201) rfl)) rfl
theorem k_259 : Cond.static yJ3_checkIndex_8e157 ∈ WL := wl_in (wt_3 (List.mem_of_getElem? (i := 202) rfl)) rfl
theorem k_260 : Cond.initialized RJ3 ∈ WL := wl_in (wt_1 (List.mem_of_getElem? (i := 22) rfl)) rfl
theorem k_261 : Cond.code yJ1_charAt_3b067 cJ1_charAt_3b067 2 (some .char) ∈ WL := wl_in (wt_3 (List.mem_of_getElem? (i := 195) rfl)) rfl
theorem k_262 : Cond.methodLink RJ1 9 yJ0_checkIndex_df160 ∈ WL := wl_in (wt_3 (List.mem_of_getElem? (i := 196) rfl)) rfl
theorem k_263 : Cond.static yJ0_checkIndex_df160 ∈ WL := wl_in (wt_3 (List.mem_of_getElem? (i := 197) rfl)) rfl
theorem k_264 : Cond.code yJ2_length_9d52b cJ2_length_9d52b 1 (some .int) ∈ WL := wl_in (wt_3 (List.mem_of_getElem? (i := 212) rfl)) rfl
theorem k_265 : Cond.code yJ2_checkIndex_2214a cJ2_checkIndex_2214a 2 none ∈ WL := wl_in (wt_3 (List.mem_of_getElem? (i := 209) rfl)) rfl
theorem k_266 : Cond.methodLink RJ2 48 yJ2_length_9d52b ∈ WL := wl_in (wt_3 (List.mem_of_getElem? (i := 210) rfl)) rfl
theorem k_267 : Cond.static yJ2_length_9d52b ∈ WL := wl_in (wt_3 (List.mem_of_getElem? (i := 211) rfl)) rfl
theorem k_268 : Cond.initialized RJ2 ∈ WL := wl_in (wt_1 (List.mem_of_getElem? (i := 23) rfl)) rfl
theorem k_269 : Cond.methodLink RJ2 414 yJ0_checkIndex_df160 ∈ WL := wl_in (wt_3 (List.mem_of_getElem? (i := 213) rfl)) rfl
theorem k_270 : Cond.code yJ2_getChar_3b067 cJ2_getChar_3b067 2 (some .char) ∈ WL := wl_in (wt_3 (List.mem_of_getElem? (i := 216) rfl)) rfl
theorem k_271 : Cond.fieldLink RJ2 44 "java/lang/StringUTF16" "$assertionsDisabled" "Z" ∈ WL := wl_in (wt_3 (List.mem_of_getElem? (i := 217) rfl)) rfl
theorem k_272 : Cond.fieldLink RJ2 59 "java/lang/StringUTF16" "HI_BYTE_SHIFT" "I" ∈ WL := wl_in (wt_3 (List.mem_of_getElem? (i := 219) rfl)) rfl
theorem k_273 : Cond.fieldLink RJ2 63 "java/lang/StringUTF16" "LO_BYTE_SHIFT" "I" ∈ WL := wl_in (wt_3 (List.mem_of_getElem? (i := 221) rfl)) rfl
theorem k_274 : Cond.code yJ2_charAt_3b067 cJ2_charAt_3b067 2 (some .char) ∈ WL := wl_in (wt_3 (List.mem_of_getElem? (i := 206) rfl)) rfl
theorem k_275 : Cond.methodLink RJ2 67 yJ2_checkIndex_2214a ∈ WL := wl_in (wt_3 (List.mem_of_getElem? (i := 207) rfl)) rfl
theorem k_276 : Cond.static yJ2_checkIndex_2214a ∈ WL := wl_in (wt_3 (List.mem_of_getElem? (i := 208) rfl)) rfl
theorem k_277 : Cond.methodLink RJ2 71 yJ2_getChar_3b067 ∈ WL := wl_in (wt_3 (List.mem_of_getElem? (i := 214) rfl)) rfl
theorem k_278 : Cond.static yJ2_getChar_3b067 ∈ WL := wl_in (wt_3 (List.mem_of_getElem? (i := 215) rfl)) rfl
theorem k_279 : Cond.methodLink RJ0 492 yJ0_isLatin1_aae02 ∈ WL := wl_in (wt_3 (List.mem_of_getElem? (i := 189) rfl)) rfl
theorem k_280 : Cond.instanceMethod yJ0_isLatin1_aae02 ∈ WL := wl_in (wt_3 (List.mem_of_getElem? (i := 190) rfl)) rfl
theorem k_281 : Cond.selects RJ0 yJ0_isLatin1_aae02 yJ0_isLatin1_aae02 ∈ WL := wl_in (wt_3 (List.mem_of_getElem? (i := 191) rfl)) rfl
theorem k_282 : Cond.methodLink RJ0 495 yJ1_charAt_3b067 ∈ WL := wl_in (wt_3 (List.mem_of_getElem? (i := 193) rfl)) rfl
theorem k_283 : Cond.static yJ1_charAt_3b067 ∈ WL := wl_in (wt_3 (List.mem_of_getElem? (i := 194) rfl)) rfl
theorem k_284 : Cond.initialized RJ1 ∈ WL := wl_in (wt_1 (List.mem_of_getElem? (i := 21) rfl)) rfl
theorem k_285 : Cond.methodLink RJ0 498 yJ2_charAt_3b067 ∈ WL := wl_in (wt_3 (List.mem_of_getElem? (i := 204) rfl)) rfl
theorem k_286 : Cond.static yJ2_charAt_3b067 ∈ WL := wl_in (wt_3 (List.mem_of_getElem? (i := 205) rfl)) rfl
theorem k_287 : Cond.code yJ0_charAt_5068e cJ0_charAt_5068e 2 (some .char) ∈ WL := wl_in (wt_3 (List.mem_of_getElem? (i := 188) rfl)) rfl
theorem k_288 : Cond.fieldLink RX10 82 "GivenAway$Word" "letters" "Ljava/lang/String;" ∈ WL := wl_in (wt_9 (List.mem_of_getElem? (i := 127) rfl)) rfl
theorem k_289 : Cond.methodLink RX10 100 yJ0_length_8abf5 ∈ WL := wl_in (wt_3 (List.mem_of_getElem? (i := 175) rfl)) rfl
theorem k_290 : Cond.instanceMethod yJ0_length_8abf5 ∈ WL := wl_in (wt_3 (List.mem_of_getElem? (i := 176) rfl)) rfl
theorem k_291 : Cond.selects RJ0 yJ0_length_8abf5 yJ0_length_8abf5 ∈ WL := wl_in (wt_3 (List.mem_of_getElem? (i := 177) rfl)) rfl
theorem k_292 : Cond.methodLink RX10 106 yJ0_charAt_5068e ∈ WL := wl_in (wt_3 (List.mem_of_getElem? (i := 185) rfl)) rfl
theorem k_293 : Cond.instanceMethod yJ0_charAt_5068e ∈ WL := wl_in (wt_3 (List.mem_of_getElem? (i := 186) rfl)) rfl
theorem k_294 : Cond.selects RJ0 yJ0_charAt_5068e yJ0_charAt_5068e ∈ WL := wl_in (wt_3 (List.mem_of_getElem? (i := 187) rfl)) rfl
theorem k_295 : Cond.code yX10_stands cX10_stands 5 (some .boolean) ∈ WL := wl_in (wt_3 (List.mem_of_getElem? (i := 174) rfl)) rfl
theorem k_296 : Cond.fieldLink RX10 93 "GivenAway$Word" "ALL" "[LGivenAway$Word;" ∈ WL := wl_in (wt_3 (List.mem_of_getElem? (i := 168) rfl)) rfl
theorem k_297 : Cond.methodLink RX10 96 yX10_stands ∈ WL := wl_in (wt_3 (List.mem_of_getElem? (i := 170) rfl)) rfl
theorem k_298 : Cond.instanceMethod yX10_stands ∈ WL := wl_in (wt_3 (List.mem_of_getElem? (i := 172) rfl)) rfl
theorem k_299 : Cond.selects RX10 yX10_stands yX10_stands ∈ WL := wl_in (wps (wp_1 (List.mem_of_getElem? (i := 8) rfl))) rfl
theorem k_300 : Cond.initialized RX10 ∈ WL := wl_in (wt_1 (List.mem_of_getElem? (i := 19) rfl)) rfl
theorem k_301 : Cond.code yX10_find cX10_find 4 (some (.object "GivenAway$Word")) ∈ WL := wl_in (wt_3 (List.mem_of_getElem? (i := 167) rfl)) rfl
theorem k_302 : Cond.fieldLink RX8 46 "GivenAway$Tokens" "kind" "I" ∈ WL := wl_in (wt_1 (List.mem_of_getElem? (i := 207) rfl)) rfl
theorem k_303 : Cond.fieldLink RX8 23 "GivenAway$Tokens" "end" "I" ∈ WL := wl_in (wt_1 (List.mem_of_getElem? (i := 205) rfl)) rfl
theorem k_304 : Cond.fieldLink RX8 19 "GivenAway$Tokens" "length" "I" ∈ WL := wl_in (wt_1 (List.mem_of_getElem? (i := 204) rfl)) rfl
theorem k_305 : Cond.fieldLink RX8 29 "GivenAway$Tokens" "place" "I" ∈ WL := wl_in (wt_1 (List.mem_of_getElem? (i := 209) rfl)) rfl
theorem k_306 : Cond.fieldLink RX8 32 "GivenAway$Tokens" "word" "LGivenAway$Word;" ∈ WL := wl_in (wt_1 (List.mem_of_getElem? (i := 215) rfl)) rfl
theorem k_307 : Cond.methodLink RX8 49 yX8_isLetter ∈ WL := wl_in (wt_3 (List.mem_of_getElem? (i := 158) rfl)) rfl
theorem k_308 : Cond.static yX8_isLetter ∈ WL := wl_in (wt_3 (List.mem_of_getElem? (i := 159) rfl)) rfl
theorem k_309 : Cond.methodLink RX8 70 yX10_find ∈ WL := wl_in (wt_3 (List.mem_of_getElem? (i := 165) rfl)) rfl
theorem k_310 : Cond.static yX10_find ∈ WL := wl_in (wt_3 (List.mem_of_getElem? (i := 166) rfl)) rfl
theorem k_311 : Cond.code yX8_takeWord cX8_takeWord 1 none ∈ WL := wl_in (wt_3 (List.mem_of_getElem? (i := 164) rfl)) rfl
theorem k_312 : Cond.code yX8_isDigit cX8_isDigit 1 (some .boolean) ∈ WL := wl_in (wt_3 (List.mem_of_getElem? (i := 225) rfl)) rfl
theorem k_313 : Cond.code yX8_takeNumber cX8_takeNumber 2 none ∈ WL := wl_in (wt_3 (List.mem_of_getElem? (i := 229) rfl)) rfl
theorem k_314 : Cond.fieldLink RX8 39 "GivenAway$Tokens" "tooLong" "Z" ∈ WL := wl_in (wt_1 (List.mem_of_getElem? (i := 212) rfl)) rfl
theorem k_315 : Cond.fieldLink RX8 36 "GivenAway$Tokens" "number" "I" ∈ WL := wl_in (wt_1 (List.mem_of_getElem? (i := 210) rfl)) rfl
theorem k_316 : Cond.methodLink RX8 56 yX8_isDigit ∈ WL := wl_in (wt_3 (List.mem_of_getElem? (i := 223) rfl)) rfl
theorem k_317 : Cond.static yX8_isDigit ∈ WL := wl_in (wt_3 (List.mem_of_getElem? (i := 224) rfl)) rfl
theorem k_318 : Cond.code yJ1_canEncode_9a6ad cJ1_canEncode_9a6ad 1 (some .boolean) ∈ WL := wl_in (wt_4 (List.mem_of_getElem? (i := 5) rfl)) rfl
theorem k_319 : Cond.code yJ1_indexOfChar_4cfef cJ1_indexOfChar_4cfef 6 (some .int) ∈ WL := wl_in (wt_4 (List.mem_of_getElem? (i := 10) rfl)) rfl
theorem k_320 : Cond.code yJ1_indexOf_4cfef cJ1_indexOf_4cfef 4 (some .int) ∈ WL := wl_in (wt_4 (List.mem_of_getElem? (i := 2) rfl)) rfl
theorem k_321 : Cond.methodLink RJ1 92 Lib.Math.max.name ∈ WL := wl_in (wt_4 (List.mem_of_getElem? (i := 6) rfl)) rfl
theorem k_322 : Cond.methodLink RJ1 38 Lib.Math.min.name ∈ WL := wl_in (wt_4 (List.mem_of_getElem? (i := 7) rfl)) rfl
theorem k_323 : Cond.methodLink RJ1 88 yJ1_canEncode_9a6ad ∈ WL := wl_in (wt_4 (List.mem_of_getElem? (i := 3) rfl)) rfl
theorem k_324 : Cond.static yJ1_canEncode_9a6ad ∈ WL := wl_in (wt_4 (List.mem_of_getElem? (i := 4) rfl)) rfl
theorem k_325 : Cond.methodLink RJ1 95 yJ1_indexOfChar_4cfef ∈ WL := wl_in (wt_4 (List.mem_of_getElem? (i := 8) rfl)) rfl
theorem k_326 : Cond.static yJ1_indexOfChar_4cfef ∈ WL := wl_in (wt_4 (List.mem_of_getElem? (i := 9) rfl)) rfl
theorem k_327 : Cond.code yJ3_checkFromToIndex_8c36e cJ3_checkFromToIndex_8c36e 4 (some .int) ∈ WL := wl_in (wt_4 (List.mem_of_getElem? (i := 28) rfl)) rfl
theorem k_328 : Cond.code yJ0_checkBoundsBeginEnd_23922 cJ0_checkBoundsBeginEnd_23922 3 none ∈ WL := wl_in (wt_4 (List.mem_of_getElem? (i := 25) rfl)) rfl
theorem k_329 : Cond.methodLink RJ0 1062 yJ3_checkFromToIndex_8c36e ∈ WL := wl_in (wt_4 (List.mem_of_getElem? (i := 26) rfl)) rfl
theorem k_330 : Cond.static yJ3_checkFromToIndex_8c36e ∈ WL := wl_in (wt_4 (List.mem_of_getElem? (i := 27) rfl)) rfl
theorem k_331 : Cond.code yJ2_checkBoundsBeginEnd_d044e cJ2_checkBoundsBeginEnd_d044e 3 none ∈ WL := wl_in (wt_4 (List.mem_of_getElem? (i := 22) rfl)) rfl
theorem k_332 : Cond.methodLink RJ2 241 yJ0_checkBoundsBeginEnd_23922 ∈ WL := wl_in (wt_4 (List.mem_of_getElem? (i := 23) rfl)) rfl
theorem k_333 : Cond.static yJ0_checkBoundsBeginEnd_23922 ∈ WL := wl_in (wt_4 (List.mem_of_getElem? (i := 24) rfl)) rfl
theorem k_334 : Cond.code yJ2_indexOfCharUnsafe_4cfef cJ2_indexOfCharUnsafe_4cfef 5 (some .int) ∈ WL := wl_in (wt_4 (List.mem_of_getElem? (i := 31) rfl)) rfl
theorem k_335 : Cond.methodLink RJ2 96 yJ2_checkBoundsBeginEnd_d044e ∈ WL := wl_in (wt_4 (List.mem_of_getElem? (i := 20) rfl)) rfl
theorem k_336 : Cond.static yJ2_checkBoundsBeginEnd_d044e ∈ WL := wl_in (wt_4 (List.mem_of_getElem? (i := 21) rfl)) rfl
theorem k_337 : Cond.methodLink RJ2 244 yJ2_indexOfCharUnsafe_4cfef ∈ WL := wl_in (wt_4 (List.mem_of_getElem? (i := 29) rfl)) rfl
theorem k_338 : Cond.static yJ2_indexOfCharUnsafe_4cfef ∈ WL := wl_in (wt_4 (List.mem_of_getElem? (i := 30) rfl)) rfl
theorem k_339 : Cond.code yJ2_indexOfChar_4cfef cJ2_indexOfChar_4cfef 4 (some .int) ∈ WL := wl_in (wt_4 (List.mem_of_getElem? (i := 19) rfl)) rfl
theorem k_340 : Cond.code yJ11_isValidCodePoint_9a6ad cJ11_isValidCodePoint_9a6ad 2 (some .boolean) ∈ WL := wl_in (wt_4 (List.mem_of_getElem? (i := 37) rfl)) rfl
theorem k_341 : Cond.code yJ11_highSurrogate_5068e cJ11_highSurrogate_5068e 1 (some .char) ∈ WL := wl_in (wt_4 (List.mem_of_getElem? (i := 40) rfl)) rfl
theorem k_342 : Cond.constant RJ11 110 (55232) ∈ WL := wl_in (wt_4 (List.mem_of_getElem? (i := 41) rfl)) rfl
theorem k_343 : Cond.code yJ11_lowSurrogate_5068e cJ11_lowSurrogate_5068e 1 (some .char) ∈ WL := wl_in (wt_4 (List.mem_of_getElem? (i := 44) rfl)) rfl
theorem k_344 : Cond.constant RJ11 76 (56320) ∈ WL := wl_in (wt_4 (List.mem_of_getElem? (i := 45) rfl)) rfl
theorem k_345 : Cond.methodLink RJ2 164 yJ11_isValidCodePoint_9a6ad ∈ WL := wl_in (wt_4 (List.mem_of_getElem? (i := 35) rfl)) rfl
theorem k_346 : Cond.static yJ11_isValidCodePoint_9a6ad ∈ WL := wl_in (wt_4 (List.mem_of_getElem? (i := 36) rfl)) rfl
theorem k_347 : Cond.initialized RJ11 ∈ WL := wl_in (wt_1 (List.mem_of_getElem? (i := 24) rfl)) rfl
theorem k_348 : Cond.methodLink RJ2 157 yJ11_highSurrogate_5068e ∈ WL := wl_in (wt_4 (List.mem_of_getElem? (i := 38) rfl)) rfl
theorem k_349 : Cond.static yJ11_highSurrogate_5068e ∈ WL := wl_in (wt_4 (List.mem_of_getElem? (i := 39) rfl)) rfl
theorem k_350 : Cond.methodLink RJ2 161 yJ11_lowSurrogate_5068e ∈ WL := wl_in (wt_4 (List.mem_of_getElem? (i := 42) rfl)) rfl
theorem k_351 : Cond.static yJ11_lowSurrogate_5068e ∈ WL := wl_in (wt_4 (List.mem_of_getElem? (i := 43) rfl)) rfl
theorem k_352 : Cond.code yJ2_indexOfSupplementary_4cfef cJ2_indexOfSupplementary_4cfef 7 (some .int) ∈ WL := wl_in (wt_4 (List.mem_of_getElem? (i := 34) rfl)) rfl
theorem k_353 : Cond.methodLink RJ2 224 Lib.Math.max.name ∈ WL := wl_in (wt_4 (List.mem_of_getElem? (i := 14) rfl)) rfl
theorem k_354 : Cond.methodLink RJ2 183 Lib.Math.min.name ∈ WL := wl_in (wt_4 (List.mem_of_getElem? (i := 15) rfl)) rfl
theorem k_355 : Cond.constant RJ2 227 (65536) ∈ WL := wl_in (wt_4 (List.mem_of_getElem? (i := 16) rfl)) rfl
theorem k_356 : Cond.methodLink RJ2 228 yJ2_indexOfChar_4cfef ∈ WL := wl_in (wt_4 (List.mem_of_getElem? (i := 17) rfl)) rfl
theorem k_357 : Cond.static yJ2_indexOfChar_4cfef ∈ WL := wl_in (wt_4 (List.mem_of_getElem? (i := 18) rfl)) rfl
theorem k_358 : Cond.methodLink RJ2 232 yJ2_indexOfSupplementary_4cfef ∈ WL := wl_in (wt_4 (List.mem_of_getElem? (i := 32) rfl)) rfl
theorem k_359 : Cond.static yJ2_indexOfSupplementary_4cfef ∈ WL := wl_in (wt_4 (List.mem_of_getElem? (i := 33) rfl)) rfl
theorem k_360 : Cond.code yJ2_indexOf_4cfef cJ2_indexOf_4cfef 4 (some .int) ∈ WL := wl_in (wt_4 (List.mem_of_getElem? (i := 13) rfl)) rfl
theorem k_361 : Cond.methodLink RJ0 505 yJ0_length_8abf5 ∈ WL := wl_in (wt_3 (List.mem_of_getElem? (i := 239) rfl)) rfl
theorem k_362 : Cond.methodLink RJ0 637 yJ1_indexOf_4cfef ∈ WL := wl_in (wt_4 (List.mem_of_getElem? (i := 0) rfl)) rfl
theorem k_363 : Cond.static yJ1_indexOf_4cfef ∈ WL := wl_in (wt_4 (List.mem_of_getElem? (i := 1) rfl)) rfl
theorem k_364 : Cond.methodLink RJ0 640 yJ2_indexOf_4cfef ∈ WL := wl_in (wt_4 (List.mem_of_getElem? (i := 11) rfl)) rfl
theorem k_365 : Cond.static yJ2_indexOf_4cfef ∈ WL := wl_in (wt_4 (List.mem_of_getElem? (i := 12) rfl)) rfl
theorem k_366 : Cond.code yJ0_indexOf_7cf53 cJ0_indexOf_7cf53 3 (some .int) ∈ WL := wl_in (wt_3 (List.mem_of_getElem? (i := 238) rfl)) rfl
theorem k_367 : Cond.methodLink RJ0 633 yJ0_indexOf_7cf53 ∈ WL := wl_in (wt_3 (List.mem_of_getElem? (i := 235) rfl)) rfl
theorem k_368 : Cond.instanceMethod yJ0_indexOf_7cf53 ∈ WL := wl_in (wt_3 (List.mem_of_getElem? (i := 236) rfl)) rfl
theorem k_369 : Cond.selects RJ0 yJ0_indexOf_7cf53 yJ0_indexOf_7cf53 ∈ WL := wl_in (wt_3 (List.mem_of_getElem? (i := 237) rfl)) rfl
theorem k_370 : Cond.code yJ0_indexOf_0f7a4 cJ0_indexOf_0f7a4 2 (some .int) ∈ WL := wl_in (wt_3 (List.mem_of_getElem? (i := 234) rfl)) rfl
theorem k_371 : Cond.fieldLink RX8 43 "GivenAway$Tokens" "sign" "I" ∈ WL := wl_in (wt_1 (List.mem_of_getElem? (i := 216) rfl)) rfl
theorem k_372 : Cond.methodLink RX8 53 yX8_takeWord ∈ WL := wl_in (wt_3 (List.mem_of_getElem? (i := 161) rfl)) rfl
theorem k_373 : Cond.instanceMethod yX8_takeWord ∈ WL := wl_in (wt_3 (List.mem_of_getElem? (i := 163) rfl)) rfl
theorem k_374 : Cond.selects RX8 yX8_takeWord yX8_takeWord ∈ WL := wl_in (wps (wp_1 (List.mem_of_getElem? (i := 7) rfl))) rfl
theorem k_375 : Cond.methodLink RX8 59 yX8_takeNumber ∈ WL := wl_in (wt_3 (List.mem_of_getElem? (i := 226) rfl)) rfl
theorem k_376 : Cond.instanceMethod yX8_takeNumber ∈ WL := wl_in (wt_3 (List.mem_of_getElem? (i := 228) rfl)) rfl
theorem k_377 : Cond.selects RX8 yX8_takeNumber yX8_takeNumber ∈ WL := wl_in (wps (wp_1 (List.mem_of_getElem? (i := 9) rfl))) rfl
theorem k_378 : Cond.methodLink RX8 64 yJ0_indexOf_0f7a4 ∈ WL := wl_in (wt_3 (List.mem_of_getElem? (i := 231) rfl)) rfl
theorem k_379 : Cond.instanceMethod yJ0_indexOf_0f7a4 ∈ WL := wl_in (wt_3 (List.mem_of_getElem? (i := 232) rfl)) rfl
theorem k_380 : Cond.selects RJ0 yJ0_indexOf_0f7a4 yJ0_indexOf_0f7a4 ∈ WL := wl_in (wt_3 (List.mem_of_getElem? (i := 233) rfl)) rfl
theorem k_381 : Cond.code yX8_advance cX8_advance 2 none ∈ WL := wl_in (wt_3 (List.mem_of_getElem? (i := 157) rfl)) rfl
theorem k_382 : Cond.methodLink RX8 13 Lib.Math.min.name ∈ WL := wl_in (wt_3 (List.mem_of_getElem? (i := 153) rfl)) rfl
theorem k_383 : Cond.methodLink RX8 26 yX8_advance ∈ WL := wl_in (wt_3 (List.mem_of_getElem? (i := 154) rfl)) rfl
theorem k_384 : Cond.instanceMethod yX8_advance ∈ WL := wl_in (wt_3 (List.mem_of_getElem? (i := 155) rfl)) rfl
theorem k_385 : Cond.selects RX8 yX8_advance yX8_advance ∈ WL := wl_in (wt_3 (List.mem_of_getElem? (i := 156) rfl)) rfl
theorem k_386 : Cond.code yX8_start cX8_start 2 none ∈ WL := wl_in (wt_3 (List.mem_of_getElem? (i := 152) rfl)) rfl
theorem k_387 : Cond.code yX4_refuseToken cX4_refuseToken 2 (some .boolean) ∈ WL := wl_in (wt_4 (List.mem_of_getElem? (i := 49) rfl)) rfl
theorem k_388 : Cond.fieldLink RX4 39 "GivenAway$Reader" "fault" "I" ∈ WL := wl_in (wt_2 (List.mem_of_getElem? (i := 3) rfl)) rfl
theorem k_389 : Cond.code yX4_isNumber cX4_isNumber 1 (some .boolean) ∈ WL := wl_in (wt_4 (List.mem_of_getElem? (i := 62) rfl)) rfl
theorem k_390 : Cond.fieldLink RX4 50 "GivenAway$Tokens" "kind" "I" ∈ WL := wl_in (wt_1 (List.mem_of_getElem? (i := 206) rfl)) rfl
theorem k_391 : Cond.fieldLink RX4 164 "GivenAway$Tokens" "tooLong" "Z" ∈ WL := wl_in (wt_1 (List.mem_of_getElem? (i := 213) rfl)) rfl
theorem k_392 : Cond.methodLink RX4 57 yX4_refuseToken ∈ WL := wl_in (wt_4 (List.mem_of_getElem? (i := 46) rfl)) rfl
theorem k_393 : Cond.instanceMethod yX4_refuseToken ∈ WL := wl_in (wt_4 (List.mem_of_getElem? (i := 48) rfl)) rfl
theorem k_394 : Cond.selects RX4 yX4_refuseToken yX4_refuseToken ∈ WL := wl_in (wps (wp_1 (List.mem_of_getElem? (i := 10) rfl))) rfl
theorem k_395 : Cond.initialized RX4 ∈ WL := wl_in (wt_1 (List.mem_of_getElem? (i := 8) rfl)) rfl
theorem k_396 : Cond.fieldLink RX4 143 "GivenAway$Tokens" "number" "I" ∈ WL := wl_in (wt_1 (List.mem_of_getElem? (i := 211) rfl)) rfl
theorem k_397 : Cond.fieldLink RX4 114 "GivenAway$Reader" "taken" "I" ∈ WL := wl_in (wt_2 (List.mem_of_getElem? (i := 2) rfl)) rfl
theorem k_398 : Cond.methodLink RX4 167 yX4_isNumber ∈ WL := wl_in (wt_4 (List.mem_of_getElem? (i := 59) rfl)) rfl
theorem k_399 : Cond.instanceMethod yX4_isNumber ∈ WL := wl_in (wt_4 (List.mem_of_getElem? (i := 61) rfl)) rfl
theorem k_400 : Cond.selects RX4 yX4_isNumber yX4_isNumber ∈ WL := wl_in (wps (wp_1 (List.mem_of_getElem? (i := 13) rfl))) rfl
theorem k_401 : Cond.methodLink RX4 103 yX8_advance ∈ WL := wl_in (wt_4 (List.mem_of_getElem? (i := 54) rfl)) rfl
theorem k_402 : Cond.code yX4_takeNumber cX4_takeNumber 3 (some .boolean) ∈ WL := wl_in (wt_4 (List.mem_of_getElem? (i := 58) rfl)) rfl
theorem k_403 : Cond.fieldLink RX4 170 "GivenAway$Tokens" "sign" "I" ∈ WL := wl_in (wt_1 (List.mem_of_getElem? (i := 217) rfl)) rfl
theorem k_404 : Cond.code yX4_takeSign cX4_takeSign 2 (some .boolean) ∈ WL := wl_in (wt_4 (List.mem_of_getElem? (i := 72) rfl)) rfl
theorem k_405 : Cond.fieldLink RX4 100 "GivenAway$Plan" "people" "I" ∈ WL := wl_in (wt_1 (List.mem_of_getElem? (i := 66) rfl)) rfl
theorem k_406 : Cond.fieldLink RX4 106 "GivenAway$Plan" "kinds" "[I" ∈ WL := wl_in (wt_1 (List.mem_of_getElem? (i := 77) rfl)) rfl
theorem k_407 : Cond.methodLink RX4 110 yX4_takeNumber ∈ WL := wl_in (wt_4 (List.mem_of_getElem? (i := 55) rfl)) rfl
theorem k_408 : Cond.instanceMethod yX4_takeNumber ∈ WL := wl_in (wt_4 (List.mem_of_getElem? (i := 57) rfl)) rfl
theorem k_409 : Cond.selects RX4 yX4_takeNumber yX4_takeNumber ∈ WL := wl_in (wps (wp_1 (List.mem_of_getElem? (i := 12) rfl))) rfl
theorem k_410 : Cond.methodLink RX4 117 yX2_setGrief ∈ WL := wl_in (wt_4 (List.mem_of_getElem? (i := 63) rfl)) rfl
theorem k_411 : Cond.methodLink RX4 121 yX2_setTrains ∈ WL := wl_in (wt_4 (List.mem_of_getElem? (i := 64) rfl)) rfl
theorem k_412 : Cond.instanceMethod yX2_setTrains ∈ WL := wl_in (wt_4 (List.mem_of_getElem? (i := 65) rfl)) rfl
theorem k_413 : Cond.selects RX2 yX2_setTrains yX2_setTrains ∈ WL := wl_in (wt_4 (List.mem_of_getElem? (i := 66) rfl)) rfl
theorem k_414 : Cond.methodLink RX4 124 yX2_setOnions ∈ WL := wl_in (wt_4 (List.mem_of_getElem? (i := 68) rfl)) rfl
theorem k_415 : Cond.methodLink RX4 127 yX4_takeSign ∈ WL := wl_in (wt_4 (List.mem_of_getElem? (i := 69) rfl)) rfl
theorem k_416 : Cond.instanceMethod yX4_takeSign ∈ WL := wl_in (wt_4 (List.mem_of_getElem? (i := 71) rfl)) rfl
theorem k_417 : Cond.selects RX4 yX4_takeSign yX4_takeSign ∈ WL := wl_in (wps (wp_1 (List.mem_of_getElem? (i := 14) rfl))) rfl
theorem k_418 : Cond.code yX4_readPerson cX4_readPerson 4 (some .boolean) ∈ WL := wl_in (wt_4 (List.mem_of_getElem? (i := 53) rfl)) rfl
theorem k_419 : Cond.fieldLink RX4 131 "GivenAway$Plan" "brides" "I" ∈ WL := wl_in (wt_1 (List.mem_of_getElem? (i := 71) rfl)) rfl
theorem k_420 : Cond.methodLink RX4 134 yX2_welcome ∈ WL := wl_in (wt_4 (List.mem_of_getElem? (i := 79) rfl)) rfl
theorem k_421 : Cond.instanceMethod yX2_welcome ∈ WL := wl_in (wt_4 (List.mem_of_getElem? (i := 80) rfl)) rfl
theorem k_422 : Cond.selects RX2 yX2_welcome yX2_welcome ∈ WL := wl_in (wt_4 (List.mem_of_getElem? (i := 81) rfl)) rfl
theorem k_423 : Cond.code yX4_readBride cX4_readBride 3 (some .boolean) ∈ WL := wl_in (wt_4 (List.mem_of_getElem? (i := 78) rfl)) rfl
theorem k_424 : Cond.code yX4_isKnown cX4_isKnown 2 (some .boolean) ∈ WL := wl_in (wt_4 (List.mem_of_getElem? (i := 96) rfl)) rfl
theorem k_425 : Cond.methodLink RX4 140 yX4_isKnown ∈ WL := wl_in (wt_4 (List.mem_of_getElem? (i := 93) rfl)) rfl
theorem k_426 : Cond.instanceMethod yX4_isKnown ∈ WL := wl_in (wt_4 (List.mem_of_getElem? (i := 95) rfl)) rfl
theorem k_427 : Cond.selects RX4 yX4_isKnown yX4_isKnown ∈ WL := wl_in (wps (wp_2 (List.mem_of_getElem? (i := 2) rfl))) rfl
theorem k_428 : Cond.code yX4_takeKnown cX4_takeKnown 2 (some .boolean) ∈ WL := wl_in (wt_4 (List.mem_of_getElem? (i := 92) rfl)) rfl
theorem k_429 : Cond.fieldLink RX4 43 "GivenAway$Reader" "ties" "I" ∈ WL := wl_in (wt_2 (List.mem_of_getElem? (i := 1) rfl)) rfl
theorem k_430 : Cond.methodLink RX4 137 yX4_takeKnown ∈ WL := wl_in (wt_4 (List.mem_of_getElem? (i := 89) rfl)) rfl
theorem k_431 : Cond.instanceMethod yX4_takeKnown ∈ WL := wl_in (wt_4 (List.mem_of_getElem? (i := 91) rfl)) rfl
theorem k_432 : Cond.selects RX4 yX4_takeKnown yX4_takeKnown ∈ WL := wl_in (wps (wp_2 (List.mem_of_getElem? (i := 1) rfl))) rfl
theorem k_433 : Cond.methodLink RX4 146 yX2_yearsOf ∈ WL := wl_in (wt_4 (List.mem_of_getElem? (i := 97) rfl)) rfl
theorem k_434 : Cond.methodLink RX4 150 yX2_setYears ∈ WL := wl_in (wt_4 (List.mem_of_getElem? (i := 98) rfl)) rfl
theorem k_435 : Cond.instanceMethod yX2_setYears ∈ WL := wl_in (wt_4 (List.mem_of_getElem? (i := 99) rfl)) rfl
theorem k_436 : Cond.selects RX2 yX2_setYears yX2_setYears ∈ WL := wl_in (wt_4 (List.mem_of_getElem? (i := 100) rfl)) rfl
theorem k_437 : Cond.code yX4_readTie cX4_readTie 3 (some .boolean) ∈ WL := wl_in (wt_4 (List.mem_of_getElem? (i := 88) rfl)) rfl
theorem k_438 : Cond.code yX5_add cX5_add 2 none ∈ WL := wl_in (wt_4 (List.mem_of_getElem? (i := 149) rfl)) rfl
theorem k_439 : Cond.code yX4_startsExpression cX4_startsExpression 1 (some .boolean) ∈ WL := wl_in (wt_4 (List.mem_of_getElem? (i := 115) rfl)) rfl
theorem k_440 : Cond.code yX4_isValue cX4_isValue 2 (some .boolean) ∈ WL := wl_in (wt_4 (List.mem_of_getElem? (i := 145) rfl)) rfl
theorem k_441 : Cond.fieldLink RX4 210 "GivenAway$Word" "value" "I" ∈ WL := wl_in (wt_9 (List.mem_of_getElem? (i := 131) rfl)) rfl
theorem k_442 : Cond.fieldLink RX4 158 "GivenAway$Reader" "knownValues" "I" ∈ WL := wl_in (wt_2 (List.mem_of_getElem? (i := 0) rfl)) rfl
theorem k_443 : Cond.fieldLink RX4 53 "GivenAway$Tokens" "word" "LGivenAway$Word;" ∈ WL := wl_in (wt_1 (List.mem_of_getElem? (i := 214) rfl)) rfl
theorem k_444 : Cond.fieldLink RX4 188 "GivenAway$Word" "AND" "LGivenAway$Word;" ∈ WL := wl_in (wt_4 (List.mem_of_getElem? (i := 150) rfl)) rfl
theorem k_445 : Cond.methodLink RX4 185 yX4_readNot ∈ WL := wl_in (wt_4 (List.mem_of_getElem? (i := 120) rfl)) rfl
theorem k_446 : Cond.instanceMethod yX4_readNot ∈ WL := wl_in (wt_4 (List.mem_of_getElem? (i := 122) rfl)) rfl
theorem k_447 : Cond.selects RX4 yX4_readNot yX4_readNot ∈ WL := wl_in (wps (wp_2 (List.mem_of_getElem? (i := 7) rfl))) rfl
theorem k_448 : Cond.methodLink RX4 182 yX5_add ∈ WL := wl_in (wt_4 (List.mem_of_getElem? (i := 146) rfl)) rfl
theorem k_449 : Cond.instanceMethod yX5_add ∈ WL := wl_in (wt_4 (List.mem_of_getElem? (i := 147) rfl)) rfl
theorem k_450 : Cond.selects RX5 yX5_add yX5_add ∈ WL := wl_in (wt_4 (List.mem_of_getElem? (i := 148) rfl)) rfl
theorem k_451 : Cond.code yX4_readEither cX4_readEither 4 (some .boolean) ∈ WL := wl_in (wt_4 (List.mem_of_getElem? (i := 111) rfl)) rfl
theorem k_452 : Cond.fieldLink RX4 179 "GivenAway$Word" "OR" "LGivenAway$Word;" ∈ WL := wl_in (wt_4 (List.mem_of_getElem? (i := 152) rfl)) rfl
theorem k_453 : Cond.methodLink RX4 173 yX4_startsExpression ∈ WL := wl_in (wt_4 (List.mem_of_getElem? (i := 112) rfl)) rfl
theorem k_454 : Cond.instanceMethod yX4_startsExpression ∈ WL := wl_in (wt_4 (List.mem_of_getElem? (i := 114) rfl)) rfl
theorem k_455 : Cond.selects RX4 yX4_startsExpression yX4_startsExpression ∈ WL := wl_in (wps (wp_2 (List.mem_of_getElem? (i := 5) rfl))) rfl
theorem k_456 : Cond.methodLink RX4 176 yX4_readBoth ∈ WL := wl_in (wt_4 (List.mem_of_getElem? (i := 116) rfl)) rfl
theorem k_457 : Cond.instanceMethod yX4_readBoth ∈ WL := wl_in (wt_4 (List.mem_of_getElem? (i := 118) rfl)) rfl
theorem k_458 : Cond.selects RX4 yX4_readBoth yX4_readBoth ∈ WL := wl_in (wps (wp_2 (List.mem_of_getElem? (i := 6) rfl))) rfl
theorem k_459 : Cond.code yX4_readNot cX4_readNot 5 (some .boolean) ∈ WL := wl_in (wt_4 (List.mem_of_getElem? (i := 123) rfl)) rfl
theorem k_460 : Cond.fieldLink RX4 191 "GivenAway$Word" "NOT" "LGivenAway$Word;" ∈ WL := wl_in (wt_4 (List.mem_of_getElem? (i := 124) rfl)) rfl
theorem k_461 : Cond.methodLink RX4 194 yX4_readTest ∈ WL := wl_in (wt_4 (List.mem_of_getElem? (i := 126) rfl)) rfl
theorem k_462 : Cond.instanceMethod yX4_readTest ∈ WL := wl_in (wt_4 (List.mem_of_getElem? (i := 128) rfl)) rfl
theorem k_463 : Cond.selects RX4 yX4_readTest yX4_readTest ∈ WL := wl_in (wps (wp_2 (List.mem_of_getElem? (i := 8) rfl))) rfl
theorem k_464 : Cond.code yX4_readPart cX4_readPart 2 (some .boolean) ∈ WL := wl_in (wt_4 (List.mem_of_getElem? (i := 141) rfl)) rfl
theorem k_465 : Cond.methodLink RX4 161 yX4_readEither ∈ WL := wl_in (wt_4 (List.mem_of_getElem? (i := 108) rfl)) rfl
theorem k_466 : Cond.instanceMethod yX4_readEither ∈ WL := wl_in (wt_4 (List.mem_of_getElem? (i := 110) rfl)) rfl
theorem k_467 : Cond.selects RX4 yX4_readEither yX4_readEither ∈ WL := wl_in (wps (wp_2 (List.mem_of_getElem? (i := 4) rfl))) rfl
theorem k_468 : Cond.methodLink RX4 206 yX4_isValue ∈ WL := wl_in (wt_4 (List.mem_of_getElem? (i := 142) rfl)) rfl
theorem k_469 : Cond.instanceMethod yX4_isValue ∈ WL := wl_in (wt_4 (List.mem_of_getElem? (i := 144) rfl)) rfl
theorem k_470 : Cond.selects RX4 yX4_isValue yX4_isValue ∈ WL := wl_in (wps (wp_2 (List.mem_of_getElem? (i := 12) rfl))) rfl
theorem k_471 : Cond.code yX4_readProduct cX4_readProduct 5 (some .boolean) ∈ WL := wl_in (wt_4 (List.mem_of_getElem? (i := 137) rfl)) rfl
theorem k_472 : Cond.methodLink RX4 203 yX4_readPart ∈ WL := wl_in (wt_4 (List.mem_of_getElem? (i := 138) rfl)) rfl
theorem k_473 : Cond.instanceMethod yX4_readPart ∈ WL := wl_in (wt_4 (List.mem_of_getElem? (i := 140) rfl)) rfl
theorem k_474 : Cond.selects RX4 yX4_readPart yX4_readPart ∈ WL := wl_in (wps (wp_2 (List.mem_of_getElem? (i := 11) rfl))) rfl
theorem k_475 : Cond.code yX4_readSum cX4_readSum 5 (some .boolean) ∈ WL := wl_in (wt_4 (List.mem_of_getElem? (i := 133) rfl)) rfl
theorem k_476 : Cond.methodLink RX4 200 yX4_readProduct ∈ WL := wl_in (wt_4 (List.mem_of_getElem? (i := 134) rfl)) rfl
theorem k_477 : Cond.instanceMethod yX4_readProduct ∈ WL := wl_in (wt_4 (List.mem_of_getElem? (i := 136) rfl)) rfl
theorem k_478 : Cond.selects RX4 yX4_readProduct yX4_readProduct ∈ WL := wl_in (wps (wp_2 (List.mem_of_getElem? (i := 10) rfl))) rfl
theorem k_479 : Cond.code yX4_readTest cX4_readTest 4 (some .boolean) ∈ WL := wl_in (wt_4 (List.mem_of_getElem? (i := 129) rfl)) rfl
theorem k_480 : Cond.methodLink RX4 197 yX4_readSum ∈ WL := wl_in (wt_4 (List.mem_of_getElem? (i := 130) rfl)) rfl
theorem k_481 : Cond.instanceMethod yX4_readSum ∈ WL := wl_in (wt_4 (List.mem_of_getElem? (i := 132) rfl)) rfl
theorem k_482 : Cond.selects RX4 yX4_readSum yX4_readSum ∈ WL := wl_in (wps (wp_2 (List.mem_of_getElem? (i := 9) rfl))) rfl
theorem k_483 : Cond.code yX4_readBoth cX4_readBoth 4 (some .boolean) ∈ WL := wl_in (wt_4 (List.mem_of_getElem? (i := 119) rfl)) rfl
theorem k_484 : Cond.fieldLink RX4 154 "GivenAway$Rule" "told" "Z" ∈ WL := wl_in (wt_1 (List.mem_of_getElem? (i := 49) rfl)) rfl
theorem k_485 : Cond.code yX4_readRule cX4_readRule 3 (some .boolean) ∈ WL := wl_in (wt_4 (List.mem_of_getElem? (i := 107) rfl)) rfl
theorem k_486 : Cond.fieldLink RX4 61 "GivenAway$Word" "personKind" "I" ∈ WL := wl_in (wt_9 (List.mem_of_getElem? (i := 130) rfl)) rfl
theorem k_487 : Cond.fieldLink RX4 69 "GivenAway$Word" "BRIDE" "LGivenAway$Word;" ∈ WL := wl_in (wt_4 (List.mem_of_getElem? (i := 73) rfl)) rfl
theorem k_488 : Cond.fieldLink RX4 76 "GivenAway$Word" "TIE" "LGivenAway$Word;" ∈ WL := wl_in (wt_4 (List.mem_of_getElem? (i := 83) rfl)) rfl
theorem k_489 : Cond.fieldLink RX4 82 "GivenAway$Word" "WEIGHS" "LGivenAway$Word;" ∈ WL := wl_in (wt_4 (List.mem_of_getElem? (i := 102) rfl)) rfl
theorem k_490 : Cond.fieldLink RX4 91 "GivenAway$Word" "MOURNS" "LGivenAway$Word;" ∈ WL := wl_in (wt_4 (List.mem_of_getElem? (i := 154) rfl)) rfl
theorem k_491 : Cond.fieldLink RX4 94 "GivenAway$Plan" "mourns" "LGivenAway$Rule;" ∈ WL := wl_in (wt_1 (List.mem_of_getElem? (i := 84) rfl)) rfl
theorem k_492 : Cond.methodLink RX4 46 yX8_start ∈ WL := wl_in (wt_3 (List.mem_of_getElem? (i := 149) rfl)) rfl
theorem k_493 : Cond.instanceMethod yX8_start ∈ WL := wl_in (wt_3 (List.mem_of_getElem? (i := 150) rfl)) rfl
theorem k_494 : Cond.selects RX8 yX8_start yX8_start ∈ WL := wl_in (wt_3 (List.mem_of_getElem? (i := 151) rfl)) rfl
theorem k_495 : Cond.methodLink RX4 66 yX4_readPerson ∈ WL := wl_in (wt_4 (List.mem_of_getElem? (i := 50) rfl)) rfl
theorem k_496 : Cond.instanceMethod yX4_readPerson ∈ WL := wl_in (wt_4 (List.mem_of_getElem? (i := 52) rfl)) rfl
theorem k_497 : Cond.selects RX4 yX4_readPerson yX4_readPerson ∈ WL := wl_in (wps (wp_1 (List.mem_of_getElem? (i := 11) rfl))) rfl
theorem k_498 : Cond.methodLink RX4 72 yX4_readBride ∈ WL := wl_in (wt_4 (List.mem_of_getElem? (i := 75) rfl)) rfl
theorem k_499 : Cond.instanceMethod yX4_readBride ∈ WL := wl_in (wt_4 (List.mem_of_getElem? (i := 77) rfl)) rfl
theorem k_500 : Cond.selects RX4 yX4_readBride yX4_readBride ∈ WL := wl_in (wps (wp_1 (List.mem_of_getElem? (i := 15) rfl))) rfl
theorem k_501 : Cond.methodLink RX4 79 yX4_readTie ∈ WL := wl_in (wt_4 (List.mem_of_getElem? (i := 85) rfl)) rfl
theorem k_502 : Cond.instanceMethod yX4_readTie ∈ WL := wl_in (wt_4 (List.mem_of_getElem? (i := 87) rfl)) rfl
theorem k_503 : Cond.selects RX4 yX4_readTie yX4_readTie ∈ WL := wl_in (wps (wp_2 (List.mem_of_getElem? (i := 0) rfl))) rfl
theorem k_504 : Cond.methodLink RX4 87 yX4_readRule ∈ WL := wl_in (wt_4 (List.mem_of_getElem? (i := 104) rfl)) rfl
theorem k_505 : Cond.instanceMethod yX4_readRule ∈ WL := wl_in (wt_4 (List.mem_of_getElem? (i := 106) rfl)) rfl
theorem k_506 : Cond.selects RX4 yX4_readRule yX4_readRule ∈ WL := wl_in (wps (wp_2 (List.mem_of_getElem? (i := 3) rfl))) rfl
theorem k_507 : Cond.code yX4_readDale cX4_readDale 5 (some .int) ∈ WL := wl_in (wt_3 (List.mem_of_getElem? (i := 148) rfl)) rfl
theorem k_508 : Cond.code yX4_place cX4_place 1 (some .int) ∈ WL := wl_in (wt_4 (List.mem_of_getElem? (i := 159) rfl)) rfl
theorem k_509 : Cond.fieldLink RX4 97 "GivenAway$Tokens" "place" "I" ∈ WL := wl_in (wt_1 (List.mem_of_getElem? (i := 208) rfl)) rfl
theorem k_510 : Cond.code yX6_init cX6_init 2 none ∈ WL := wl_in (wt_2 (List.mem_of_getElem? (i := 48) rfl)) rfl
theorem k_511 : Cond.methodLink RX6 3 objectInit ∈ WL := wl_in (wt_2 (List.mem_of_getElem? (i := 49) rfl)) rfl
theorem k_512 : Cond.fieldLink RX6 9 "GivenAway$Scales" "weights" "[I" ∈ WL := wl_in (wt_2 (List.mem_of_getElem? (i := 51) rfl)) rfl
theorem k_513 : Cond.fieldLink RX6 15 "GivenAway$Scales" "mostBeside" "[I" ∈ WL := wl_in (wt_2 (List.mem_of_getElem? (i := 52) rfl)) rfl
theorem k_514 : Cond.fieldLink RX6 18 "GivenAway$Scales" "now" "LGivenAway$Dale;" ∈ WL := wl_in (wt_2 (List.mem_of_getElem? (i := 50) rfl)) rfl
theorem k_515 : Cond.fieldLink RX6 22 "GivenAway$Dale" "plan" "LGivenAway$Plan;" ∈ WL := wl_in (wt_1 (List.mem_of_getElem? (i := 156) rfl)) rfl
theorem k_516 : Cond.fieldLink RX6 28 "GivenAway$Plan" "people" "I" ∈ WL := wl_in (wt_1 (List.mem_of_getElem? (i := 65) rfl)) rfl
theorem k_517 : Cond.methodLink RX6 34 yX2_weigh ∈ WL := wl_in (wt_5 (List.mem_of_getElem? (i := 118) rfl)) rfl
theorem k_518 : Cond.code yX6_weighFor cX6_weighFor 3 none ∈ WL := wl_in (wt_5 (List.mem_of_getElem? (i := 117) rfl)) rfl
theorem k_519 : Cond.code yX6_weightOf cX6_weightOf 3 (some .int) ∈ WL := wl_in (wt_5 (List.mem_of_getElem? (i := 122) rfl)) rfl
theorem k_520 : Cond.methodLink RX6 38 yX6_weighFor ∈ WL := wl_in (wt_5 (List.mem_of_getElem? (i := 114) rfl)) rfl
theorem k_521 : Cond.instanceMethod yX6_weighFor ∈ WL := wl_in (wt_5 (List.mem_of_getElem? (i := 116) rfl)) rfl
theorem k_522 : Cond.selects RX6 yX6_weighFor yX6_weighFor ∈ WL := wl_in (wps (wp_3 (List.mem_of_getElem? (i := 2) rfl))) rfl
theorem k_523 : Cond.initialized RX6 ∈ WL := wl_in (wt_1 (List.mem_of_getElem? (i := 11) rfl)) rfl
theorem k_524 : Cond.methodLink RX6 42 yX6_weightOf ∈ WL := wl_in (wt_5 (List.mem_of_getElem? (i := 119) rfl)) rfl
theorem k_525 : Cond.instanceMethod yX6_weightOf ∈ WL := wl_in (wt_5 (List.mem_of_getElem? (i := 121) rfl)) rfl
theorem k_526 : Cond.selects RX6 yX6_weightOf yX6_weightOf ∈ WL := wl_in (wps (wp_3 (List.mem_of_getElem? (i := 3) rfl))) rfl
theorem k_527 : Cond.code yX6_rankOf cX6_rankOf 6 (some .int) ∈ WL := wl_in (wt_5 (List.mem_of_getElem? (i := 113) rfl)) rfl
theorem k_528 : Cond.code yX6_weightOfSet cX6_weightOfSet 5 (some .int) ∈ WL := wl_in (wt_5 (List.mem_of_getElem? (i := 227) rfl)) rfl
theorem k_529 : Cond.code yX6_pulls cX6_pulls 4 (some .boolean) ∈ WL := wl_in (wt_5 (List.mem_of_getElem? (i := 223) rfl)) rfl
theorem k_530 : Cond.methodLink RX6 45 yX6_weightOfSet ∈ WL := wl_in (wt_5 (List.mem_of_getElem? (i := 224) rfl)) rfl
theorem k_531 : Cond.instanceMethod yX6_weightOfSet ∈ WL := wl_in (wt_5 (List.mem_of_getElem? (i := 226) rfl)) rfl
theorem k_532 : Cond.selects RX6 yX6_weightOfSet yX6_weightOfSet ∈ WL := wl_in (wps (wp_3 (List.mem_of_getElem? (i := 11) rfl))) rfl
theorem k_533 : Cond.methodLink RX6 48 yX2_peopleTiedTo ∈ WL := wl_in (wt_5 (List.mem_of_getElem? (i := 218) rfl)) rfl
theorem k_534 : Cond.methodLink RX6 52 yJ6_bitCount_0f7a4 ∈ WL := wl_in (wt_5 (List.mem_of_getElem? (i := 219) rfl)) rfl
theorem k_535 : Cond.methodLink RX6 57 yX6_pulls ∈ WL := wl_in (wt_5 (List.mem_of_getElem? (i := 220) rfl)) rfl
theorem k_536 : Cond.instanceMethod yX6_pulls ∈ WL := wl_in (wt_5 (List.mem_of_getElem? (i := 222) rfl)) rfl
theorem k_537 : Cond.selects RX6 yX6_pulls yX6_pulls ∈ WL := wl_in (wps (wp_3 (List.mem_of_getElem? (i := 10) rfl))) rfl
theorem k_538 : Cond.code yX6_fewestThatPull cX6_fewestThatPull 7 (some .int) ∈ WL := wl_in (wt_5 (List.mem_of_getElem? (i := 217) rfl)) rfl
theorem k_539 : Cond.code yX6_setsDecidedBy cX6_setsDecidedBy 8 (some .int) ∈ WL := wl_in (wt_5 (List.mem_of_getElem? (i := 238) rfl)) rfl
theorem k_540 : Cond.fieldLink RX6 61 "GivenAway$Plan" "brides" "I" ∈ WL := wl_in (wt_1 (List.mem_of_getElem? (i := 74) rfl)) rfl
theorem k_541 : Cond.code yX6_weighForAll cX6_weighForAll 2 none ∈ WL := wl_in (wt_5 (List.mem_of_getElem? (i := 183) rfl)) rfl
theorem k_542 : Cond.code yX6_isFree cX6_isFree 4 (some .boolean) ∈ WL := wl_in (wt_5 (List.mem_of_getElem? (i := 196) rfl)) rfl
theorem k_543 : Cond.code yX6_mostWith cX6_mostWith 5 (some .int) ∈ WL := wl_in (wt_5 (List.mem_of_getElem? (i := 192) rfl)) rfl
theorem k_544 : Cond.methodLink RX6 74 Lib.Math.max.name ∈ WL := wl_in (wt_5 (List.mem_of_getElem? (i := 197) rfl)) rfl
theorem k_545 : Cond.methodLink RX6 71 yX6_isFree ∈ WL := wl_in (wt_5 (List.mem_of_getElem? (i := 193) rfl)) rfl
theorem k_546 : Cond.instanceMethod yX6_isFree ∈ WL := wl_in (wt_5 (List.mem_of_getElem? (i := 195) rfl)) rfl
theorem k_547 : Cond.selects RX6 yX6_isFree yX6_isFree ∈ WL := wl_in (wps (wp_3 (List.mem_of_getElem? (i := 8) rfl))) rfl
theorem k_548 : Cond.methodLink RX6 64 yX2_isHome ∈ WL := wl_in (wt_5 (List.mem_of_getElem? (i := 188) rfl)) rfl
theorem k_549 : Cond.methodLink RX6 68 yX6_mostWith ∈ WL := wl_in (wt_5 (List.mem_of_getElem? (i := 189) rfl)) rfl
theorem k_550 : Cond.instanceMethod yX6_mostWith ∈ WL := wl_in (wt_5 (List.mem_of_getElem? (i := 191) rfl)) rfl
theorem k_551 : Cond.selects RX6 yX6_mostWith yX6_mostWith ∈ WL := wl_in (wps (wp_3 (List.mem_of_getElem? (i := 7) rfl))) rfl
theorem k_552 : Cond.code yX6_fillFrom cX6_fillFrom 5 none ∈ WL := wl_in (wt_5 (List.mem_of_getElem? (i := 187) rfl)) rfl
theorem k_553 : Cond.methodLink RX6 79 yX6_weighForAll ∈ WL := wl_in (wt_5 (List.mem_of_getElem? (i := 180) rfl)) rfl
theorem k_554 : Cond.instanceMethod yX6_weighForAll ∈ WL := wl_in (wt_5 (List.mem_of_getElem? (i := 182) rfl)) rfl
theorem k_555 : Cond.selects RX6 yX6_weighForAll yX6_weighForAll ∈ WL := wl_in (wps (wp_3 (List.mem_of_getElem? (i := 5) rfl))) rfl
theorem k_556 : Cond.methodLink RX6 82 yX6_fillFrom ∈ WL := wl_in (wt_5 (List.mem_of_getElem? (i := 184) rfl)) rfl
theorem k_557 : Cond.instanceMethod yX6_fillFrom ∈ WL := wl_in (wt_5 (List.mem_of_getElem? (i := 186) rfl)) rfl
theorem k_558 : Cond.selects RX6 yX6_fillFrom yX6_fillFrom ∈ WL := wl_in (wps (wp_3 (List.mem_of_getElem? (i := 6) rfl))) rfl
theorem k_559 : Cond.code yX6_mostTogether cX6_mostTogether 1 (some .int) ∈ WL := wl_in (wt_5 (List.mem_of_getElem? (i := 179) rfl)) rfl
theorem k_560 : Cond.code yX6_firstThatFits cX6_firstThatFits 5 (some .int) ∈ WL := wl_in (wt_5 (List.mem_of_getElem? (i := 206) rfl)) rfl
theorem k_561 : Cond.methodLink RX6 85 yX6_mostTogether ∈ WL := wl_in (wt_5 (List.mem_of_getElem? (i := 202) rfl)) rfl
theorem k_562 : Cond.instanceMethod yX6_mostTogether ∈ WL := wl_in (wt_5 (List.mem_of_getElem? (i := 177) rfl)) rfl
theorem k_563 : Cond.selects RX6 yX6_mostTogether yX6_mostTogether ∈ WL := wl_in (wt_5 (List.mem_of_getElem? (i := 178) rfl)) rfl
theorem k_564 : Cond.methodLink RX6 89 yX6_firstThatFits ∈ WL := wl_in (wt_5 (List.mem_of_getElem? (i := 203) rfl)) rfl
theorem k_565 : Cond.instanceMethod yX6_firstThatFits ∈ WL := wl_in (wt_5 (List.mem_of_getElem? (i := 205) rfl)) rfl
theorem k_566 : Cond.selects RX6 yX6_firstThatFits yX6_firstThatFits ∈ WL := wl_in (wps (wp_3 (List.mem_of_getElem? (i := 9) rfl))) rfl
theorem k_567 : Cond.code yX6_chosenFor cX6_chosenFor 6 (some .int) ∈ WL := wl_in (wt_5 (List.mem_of_getElem? (i := 201) rfl)) rfl
theorem k_568 : Cond.code yX7_farthest cX7_farthest 3 (some .int) ∈ WL := wl_in (wt_6 (List.mem_of_getElem? (i := 67) rfl)) rfl
theorem k_569 : Cond.methodLink RX7 39 Lib.Math.max.name ∈ WL := wl_in (wt_6 (List.mem_of_getElem? (i := 68) rfl)) rfl
theorem k_570 : Cond.methodLink RX7 49 yX2_weigh ∈ WL := wl_in (wt_6 (List.mem_of_getElem? (i := 77) rfl)) rfl
theorem k_571 : Cond.code yX7_isMore cX7_isMore 3 (some .boolean) ∈ WL := wl_in (wt_6 (List.mem_of_getElem? (i := 76) rfl)) rfl
theorem k_572 : Cond.methodLink RX7 45 yX7_isMore ∈ WL := wl_in (wt_6 (List.mem_of_getElem? (i := 73) rfl)) rfl
theorem k_573 : Cond.instanceMethod yX7_isMore ∈ WL := wl_in (wt_6 (List.mem_of_getElem? (i := 75) rfl)) rfl
theorem k_574 : Cond.selects RX7 yX7_isMore yX7_isMore ∈ WL := wl_in (wps (wp_3 (List.mem_of_getElem? (i := 14) rfl))) rfl
theorem k_575 : Cond.code yX7_holdsIn cX7_holdsIn 4 (some .boolean) ∈ WL := wl_in (wt_6 (List.mem_of_getElem? (i := 72) rfl)) rfl
theorem k_576 : Cond.code yX9_init cX9_init 4 none ∈ WL := wl_in (wt_2 (List.mem_of_getElem? (i := 23) rfl)) rfl
theorem k_577 : Cond.methodLink RX9 3 objectInit ∈ WL := wl_in (wt_2 (List.mem_of_getElem? (i := 24) rfl)) rfl
theorem k_578 : Cond.fieldLink RX9 9 "GivenAway$WhatIf" "noted" "[I" ∈ WL := wl_in (wt_2 (List.mem_of_getElem? (i := 28) rfl)) rfl
theorem k_579 : Cond.fieldLink RX9 15 "GivenAway$WhatIf" "played" "[I" ∈ WL := wl_in (wt_2 (List.mem_of_getElem? (i := 29) rfl)) rfl
theorem k_580 : Cond.fieldLink RX9 18 "GivenAway$WhatIf" "now" "LGivenAway$Dale;" ∈ WL := wl_in (wt_2 (List.mem_of_getElem? (i := 25) rfl)) rfl
theorem k_581 : Cond.fieldLink RX9 22 "GivenAway$WhatIf" "trial" "LGivenAway$Dale;" ∈ WL := wl_in (wt_2 (List.mem_of_getElem? (i := 26) rfl)) rfl
theorem k_582 : Cond.fieldLink RX9 25 "GivenAway$WhatIf" "seen" "LGivenAway$Seen;" ∈ WL := wl_in (wt_2 (List.mem_of_getElem? (i := 27) rfl)) rfl
theorem k_583 : Cond.methodLink RX9 29 yX2_copyFrom ∈ WL := wl_in (wt_3 (List.mem_of_getElem? (i := 7) rfl)) rfl
theorem k_584 : Cond.methodLink RX9 35 yX2_passDay ∈ WL := wl_in (wt_3 (List.mem_of_getElem? (i := 12) rfl)) rfl
theorem k_585 : Cond.instanceMethod yX2_passDay ∈ WL := wl_in (wt_2 (List.mem_of_getElem? (i := 137) rfl)) rfl
theorem k_586 : Cond.selects RX2 yX2_passDay yX2_passDay ∈ WL := wl_in (wt_2 (List.mem_of_getElem? (i := 138) rfl)) rfl
theorem k_587 : Cond.code yX9_letPass cX9_letPass 3 none ∈ WL := wl_in (wt_3 (List.mem_of_getElem? (i := 6) rfl)) rfl
theorem k_588 : Cond.methodLink RX9 38 yX2_today ∈ WL := wl_in (wt_5 (List.mem_of_getElem? (i := 72) rfl)) rfl
theorem k_589 : Cond.methodLink RX9 42 yX2_hasWeddingBefore ∈ WL := wl_in (wt_5 (List.mem_of_getElem? (i := 73) rfl)) rfl
theorem k_590 : Cond.instanceMethod yX2_hasWeddingBefore ∈ WL := wl_in (wt_5 (List.mem_of_getElem? (i := 74) rfl)) rfl
theorem k_591 : Cond.selects RX2 yX2_hasWeddingBefore yX2_hasWeddingBefore ∈ WL := wl_in (wt_5 (List.mem_of_getElem? (i := 75) rfl)) rfl
theorem k_592 : Cond.code yX9_foresee cX9_foresee 3 none ∈ WL := wl_in (wt_5 (List.mem_of_getElem? (i := 71) rfl)) rfl
theorem k_593 : Cond.methodLink RX9 46 yX9_foresee ∈ WL := wl_in (wt_5 (List.mem_of_getElem? (i := 68) rfl)) rfl
theorem k_594 : Cond.instanceMethod yX9_foresee ∈ WL := wl_in (wt_5 (List.mem_of_getElem? (i := 70) rfl)) rfl
theorem k_595 : Cond.selects RX9 yX9_foresee yX9_foresee ∈ WL := wl_in (wps (wp_3 (List.mem_of_getElem? (i := 0) rfl))) rfl
theorem k_596 : Cond.initialized RX9 ∈ WL := wl_in (wt_1 (List.mem_of_getElem? (i := 10) rfl)) rfl
theorem k_597 : Cond.methodLink RX9 49 yX2_whoLed ∈ WL := wl_in (wt_5 (List.mem_of_getElem? (i := 77) rfl)) rfl
theorem k_598 : Cond.instanceMethod yX2_whoLed ∈ WL := wl_in (wt_5 (List.mem_of_getElem? (i := 0) rfl)) rfl
theorem k_599 : Cond.selects RX2 yX2_whoLed yX2_whoLed ∈ WL := wl_in (wt_5 (List.mem_of_getElem? (i := 1) rfl)) rfl
theorem k_600 : Cond.code yX9_leaderNow cX9_leaderNow 2 (some .int) ∈ WL := wl_in (wt_5 (List.mem_of_getElem? (i := 67) rfl)) rfl
theorem k_601 : Cond.code yX9_newlyLed cX9_newlyLed 2 (some .int) ∈ WL := wl_in (wt_5 (List.mem_of_getElem? (i := 100) rfl)) rfl
theorem k_602 : Cond.methodLink RX9 53 yX2_ledBits ∈ WL := wl_in (wt_5 (List.mem_of_getElem? (i := 101) rfl)) rfl
theorem k_603 : Cond.methodLink RX9 56 yJ6_bitCount_0f7a4 ∈ WL := wl_in (wt_5 (List.mem_of_getElem? (i := 102) rfl)) rfl
theorem k_604 : Cond.methodLink RX9 61 yX2_isHome ∈ WL := wl_in (wt_5 (List.mem_of_getElem? (i := 134) rfl)) rfl
theorem k_605 : Cond.methodLink RX9 64 yX2_setTrains ∈ WL := wl_in (wt_5 (List.mem_of_getElem? (i := 135) rfl)) rfl
theorem k_606 : Cond.code yX9_leastTrains cX9_leastTrains 4 (some .int) ∈ WL := wl_in (wt_5 (List.mem_of_getElem? (i := 133) rfl)) rfl
theorem k_607 : Cond.fieldLink RX9 68 "GivenAway$Dale" "plan" "LGivenAway$Plan;" ∈ WL := wl_in (wt_1 (List.mem_of_getElem? (i := 158) rfl)) rfl
theorem k_608 : Cond.fieldLink RX9 72 "GivenAway$Plan" "brides" "I" ∈ WL := wl_in (wt_1 (List.mem_of_getElem? (i := 73) rfl)) rfl
theorem k_609 : Cond.methodLink RX9 78 yX2_setYears ∈ WL := wl_in (wt_5 (List.mem_of_getElem? (i := 147) rfl)) rfl
theorem k_610 : Cond.code yX9_otherwiseWithout cX9_otherwiseWithout 4 (some .int) ∈ WL := wl_in (wt_5 (List.mem_of_getElem? (i := 146) rfl)) rfl
theorem k_611 : Cond.methodLink RX9 91 yX2_setWedding ∈ WL := wl_in (wt_5 (List.mem_of_getElem? (i := 164) rfl)) rfl
theorem k_612 : Cond.instanceMethod yX2_setWedding ∈ WL := wl_in (wt_5 (List.mem_of_getElem? (i := 46) rfl)) rfl
theorem k_613 : Cond.selects RX2 yX2_setWedding yX2_setWedding ∈ WL := wl_in (wt_5 (List.mem_of_getElem? (i := 47) rfl)) rfl
theorem k_614 : Cond.methodLink RX9 94 yX2_leaderWeight ∈ WL := wl_in (wt_5 (List.mem_of_getElem? (i := 165) rfl)) rfl
theorem k_615 : Cond.instanceMethod yX2_leaderWeight ∈ WL := wl_in (wt_5 (List.mem_of_getElem? (i := 166) rfl)) rfl
theorem k_616 : Cond.selects RX2 yX2_leaderWeight yX2_leaderWeight ∈ WL := wl_in (wt_5 (List.mem_of_getElem? (i := 167) rfl)) rfl
theorem k_617 : Cond.code yX9_weightOfLeaderOn cX9_weightOfLeaderOn 4 (some .int) ∈ WL := wl_in (wt_5 (List.mem_of_getElem? (i := 163) rfl)) rfl
theorem k_618 : Cond.methodLink RX9 82 Lib.Math.min.name ∈ WL := wl_in (wt_5 (List.mem_of_getElem? (i := 159) rfl)) rfl
theorem k_619 : Cond.methodLink RX9 88 yX9_weightOfLeaderOn ∈ WL := wl_in (wt_5 (List.mem_of_getElem? (i := 160) rfl)) rfl
theorem k_620 : Cond.instanceMethod yX9_weightOfLeaderOn ∈ WL := wl_in (wt_5 (List.mem_of_getElem? (i := 162) rfl)) rfl
theorem k_621 : Cond.selects RX9 yX9_weightOfLeaderOn yX9_weightOfLeaderOn ∈ WL := wl_in (wps (wp_3 (List.mem_of_getElem? (i := 4) rfl))) rfl
theorem k_622 : Cond.code yX9_findBestDay cX9_findBestDay 8 (some .int) ∈ WL := wl_in (wt_5 (List.mem_of_getElem? (i := 158) rfl)) rfl
theorem k_623 : Cond.methodLink RX9 97 yX7_farthest ∈ WL := wl_in (wt_6 (List.mem_of_getElem? (i := 64) rfl)) rfl
theorem k_624 : Cond.instanceMethod yX7_farthest ∈ WL := wl_in (wt_6 (List.mem_of_getElem? (i := 65) rfl)) rfl
theorem k_625 : Cond.selects RX7 yX7_farthest yX7_farthest ∈ WL := wl_in (wt_6 (List.mem_of_getElem? (i := 66) rfl)) rfl
theorem k_626 : Cond.methodLink RX9 102 yX7_holdsIn ∈ WL := wl_in (wt_6 (List.mem_of_getElem? (i := 69) rfl)) rfl
theorem k_627 : Cond.instanceMethod yX7_holdsIn ∈ WL := wl_in (wt_6 (List.mem_of_getElem? (i := 70) rfl)) rfl
theorem k_628 : Cond.selects RX7 yX7_holdsIn yX7_holdsIn ∈ WL := wl_in (wt_6 (List.mem_of_getElem? (i := 71) rfl)) rfl
theorem k_629 : Cond.code yX9_isSeenInTrial cX9_isSeenInTrial 3 (some .boolean) ∈ WL := wl_in (wt_6 (List.mem_of_getElem? (i := 63) rfl)) rfl
theorem k_630 : Cond.methodLink RX9 106 yX9_isSeenInTrial ∈ WL := wl_in (wt_6 (List.mem_of_getElem? (i := 60) rfl)) rfl
theorem k_631 : Cond.instanceMethod yX9_isSeenInTrial ∈ WL := wl_in (wt_6 (List.mem_of_getElem? (i := 62) rfl)) rfl
theorem k_632 : Cond.selects RX9 yX9_isSeenInTrial yX9_isSeenInTrial ∈ WL := wl_in (wps (wp_3 (List.mem_of_getElem? (i := 13) rfl))) rfl
theorem k_633 : Cond.code yX9_seenAsItIs cX9_seenAsItIs 1 (some .boolean) ∈ WL := wl_in (wt_6 (List.mem_of_getElem? (i := 85) rfl)) rfl
theorem k_634 : Cond.code yX9_suppose cX9_suppose 4 (some .boolean) ∈ WL := wl_in (wt_6 (List.mem_of_getElem? (i := 57) rfl)) rfl
theorem k_635 : Cond.methodLink RX9 110 yX2_setOnions ∈ WL := wl_in (wt_6 (List.mem_of_getElem? (i := 58) rfl)) rfl
theorem k_636 : Cond.methodLink RX9 113 yX2_onionsOf ∈ WL := wl_in (wt_6 (List.mem_of_getElem? (i := 59) rfl)) rfl
theorem k_637 : Cond.fieldLink RX9 116 "GivenAway$Plan" "people" "I" ∈ WL := wl_in (wt_1 (List.mem_of_getElem? (i := 68) rfl)) rfl
theorem k_638 : Cond.methodLink RX9 119 yX9_suppose ∈ WL := wl_in (wt_6 (List.mem_of_getElem? (i := 54) rfl)) rfl
theorem k_639 : Cond.instanceMethod yX9_suppose ∈ WL := wl_in (wt_6 (List.mem_of_getElem? (i := 56) rfl)) rfl
theorem k_640 : Cond.selects RX9 yX9_suppose yX9_suppose ∈ WL := wl_in (wps (wp_3 (List.mem_of_getElem? (i := 12) rfl))) rfl
theorem k_641 : Cond.code yX9_hiddenCount cX9_hiddenCount 3 (some .int) ∈ WL := wl_in (wt_6 (List.mem_of_getElem? (i := 53) rfl)) rfl
theorem k_642 : Cond.code yX9_firstHidden cX9_firstHidden 2 (some .int) ∈ WL := wl_in (wt_6 (List.mem_of_getElem? (i := 81) rfl)) rfl
theorem k_643 : Cond.code yX9_noteLeaders cX9_noteLeaders 2 none ∈ WL := wl_in (wt_6 (List.mem_of_getElem? (i := 100) rfl)) rfl
theorem k_644 : Cond.methodLink RX9 122 yX9_noteLeaders ∈ WL := wl_in (wt_6 (List.mem_of_getElem? (i := 97) rfl)) rfl
theorem k_645 : Cond.instanceMethod yX9_noteLeaders ∈ WL := wl_in (wt_6 (List.mem_of_getElem? (i := 99) rfl)) rfl
theorem k_646 : Cond.selects RX9 yX9_noteLeaders yX9_noteLeaders ∈ WL := wl_in (wps (wp_3 (List.mem_of_getElem? (i := 15) rfl))) rfl
theorem k_647 : Cond.code yX9_weighNext cX9_weighNext 6 (some .int) ∈ WL := wl_in (wt_6 (List.mem_of_getElem? (i := 96) rfl)) rfl
theorem k_648 : Cond.code yX9_choose cX9_choose 3 none ∈ WL := wl_in (wt_6 (List.mem_of_getElem? (i := 120) rfl)) rfl
theorem k_649 : Cond.methodLink RX9 128 yX2_trainsOf ∈ WL := wl_in (wt_6 (List.mem_of_getElem? (i := 121) rfl)) rfl
theorem k_650 : Cond.methodLink RX9 125 yX9_choose ∈ WL := wl_in (wt_6 (List.mem_of_getElem? (i := 117) rfl)) rfl
theorem k_651 : Cond.instanceMethod yX9_choose ∈ WL := wl_in (wt_6 (List.mem_of_getElem? (i := 119) rfl)) rfl
theorem k_652 : Cond.selects RX9 yX9_choose yX9_choose ∈ WL := wl_in (wps (wp_4 (List.mem_of_getElem? (i := 1) rfl))) rfl
theorem k_653 : Cond.code yX9_playAll cX9_playAll 6 none ∈ WL := wl_in (wt_6 (List.mem_of_getElem? (i := 116) rfl)) rfl
theorem k_654 : Cond.code yX9_gainOf cX9_gainOf 3 (some .int) ∈ WL := wl_in (wt_6 (List.mem_of_getElem? (i := 132) rfl)) rfl
theorem k_655 : Cond.code yX9_rests cX9_rests 8 (some .boolean) ∈ WL := wl_in (wt_6 (List.mem_of_getElem? (i := 129) rfl)) rfl
theorem k_656 : Cond.methodLink RX9 131 yX9_gainOf ∈ WL := wl_in (wt_6 (List.mem_of_getElem? (i := 130) rfl)) rfl
theorem k_657 : Cond.static yX9_gainOf ∈ WL := wl_in (wt_6 (List.mem_of_getElem? (i := 131) rfl)) rfl
theorem k_658 : Cond.code yX9_restingCount cX9_restingCount 5 (some .int) ∈ WL := wl_in (wt_6 (List.mem_of_getElem? (i := 125) rfl)) rfl
theorem k_659 : Cond.methodLink RX9 135 yX9_rests ∈ WL := wl_in (wt_6 (List.mem_of_getElem? (i := 126) rfl)) rfl
theorem k_660 : Cond.instanceMethod yX9_rests ∈ WL := wl_in (wt_6 (List.mem_of_getElem? (i := 128) rfl)) rfl
theorem k_661 : Cond.selects RX9 yX9_rests yX9_rests ∈ WL := wl_in (wps (wp_4 (List.mem_of_getElem? (i := 2) rfl))) rfl
theorem k_662 : Cond.code yX9_firstResting cX9_firstResting 4 (some .int) ∈ WL := wl_in (wt_6 (List.mem_of_getElem? (i := 136) rfl)) rfl
theorem k_663 : Cond.code yX9_draw cX9_draw 2 (some .int) ∈ WL := wl_in (wt_6 (List.mem_of_getElem? (i := 155) rfl)) rfl
theorem k_664 : Cond.fieldLink RX9 139 "GivenAway$WhatIf" "seed" "I" ∈ WL := wl_in (wt_2 (List.mem_of_getElem? (i := 30) rfl)) rfl
theorem k_665 : Cond.constant RX9 157 (1103515245) ∈ WL := wl_in (wt_6 (List.mem_of_getElem? (i := 156) rfl)) rfl
theorem k_666 : Cond.methodLink RX9 145 yX9_draw ∈ WL := wl_in (wt_6 (List.mem_of_getElem? (i := 152) rfl)) rfl
theorem k_667 : Cond.instanceMethod yX9_draw ∈ WL := wl_in (wt_6 (List.mem_of_getElem? (i := 154) rfl)) rfl
theorem k_668 : Cond.selects RX9 yX9_draw yX9_draw ∈ WL := wl_in (wps (wp_4 (List.mem_of_getElem? (i := 4) rfl))) rfl
theorem k_669 : Cond.methodLink RX9 148 yX2_griefOf ∈ WL := wl_in (wt_6 (List.mem_of_getElem? (i := 157) rfl)) rfl
theorem k_670 : Cond.methodLink RX9 151 yX2_setGrief ∈ WL := wl_in (wt_6 (List.mem_of_getElem? (i := 158) rfl)) rfl
theorem k_671 : Cond.methodLink RX9 154 yX2_weddingOf ∈ WL := wl_in (wt_6 (List.mem_of_getElem? (i := 159) rfl)) rfl
theorem k_672 : Cond.code yX9_takeChance cX9_takeChance 3 none ∈ WL := wl_in (wt_6 (List.mem_of_getElem? (i := 151) rfl)) rfl
theorem k_673 : Cond.methodLink RX9 142 yX9_takeChance ∈ WL := wl_in (wt_6 (List.mem_of_getElem? (i := 148) rfl)) rfl
theorem k_674 : Cond.instanceMethod yX9_takeChance ∈ WL := wl_in (wt_6 (List.mem_of_getElem? (i := 150) rfl)) rfl
theorem k_675 : Cond.selects RX9 yX9_takeChance yX9_takeChance ∈ WL := wl_in (wps (wp_4 (List.mem_of_getElem? (i := 3) rfl))) rfl
theorem k_676 : Cond.code yX9_drawYears cX9_drawYears 4 none ∈ WL := wl_in (wt_6 (List.mem_of_getElem? (i := 147) rfl)) rfl
theorem k_677 : Cond.methodLink RX11 1 objectInit ∈ WL := wl_in (wt_1 (List.mem_of_getElem? (i := 33) rfl)) rfl
theorem k_678 : Cond.fieldLink RX11 9 "GivenAway" "tape" "[I" ∈ WL := wl_in (wt_2 (List.mem_of_getElem? (i := 60) rfl)) rfl
theorem k_679 : Cond.classLink RX11 13 RX3 ∈ WL := wl_in (wt_1 (List.mem_of_getElem? (i := 36) rfl)) rfl
theorem k_680 : Cond.instantiable RX3 5 ∈ WL := wl_in (wt_1 (List.mem_of_getElem? (i := 37) rfl)) rfl
theorem k_681 : Cond.fieldLink RX11 16 "GivenAway" "spare" "LGivenAway$Plan;" ∈ WL := wl_in (wt_2 (List.mem_of_getElem? (i := 63) rfl)) rfl
theorem k_682 : Cond.classLink RX11 20 RX1 ∈ WL := wl_in (wt_1 (List.mem_of_getElem? (i := 97) rfl)) rfl
theorem k_683 : Cond.instantiable RX1 4 ∈ WL := wl_in (wt_1 (List.mem_of_getElem? (i := 98) rfl)) rfl
theorem k_684 : Cond.initialized RX1 ∈ WL := wl_in (wt_1 (List.mem_of_getElem? (i := 4) rfl)) rfl
theorem k_685 : Cond.fieldLink RX11 25 "GivenAway" "book" "LGivenAway$Book;" ∈ WL := wl_in (wt_2 (List.mem_of_getElem? (i := 64) rfl)) rfl
theorem k_686 : Cond.fieldLink RX11 29 "GivenAway" "picture" "LGivenAway$Book;" ∈ WL := wl_in (wt_2 (List.mem_of_getElem? (i := 65) rfl)) rfl
theorem k_687 : Cond.fieldLink RX11 32 "GivenAway$Book" "dale" "LGivenAway$Dale;" ∈ WL := wl_in (wt_1 (List.mem_of_getElem? (i := 173) rfl)) rfl
theorem k_688 : Cond.fieldLink RX11 36 "GivenAway" "now" "LGivenAway$Dale;" ∈ WL := wl_in (wt_2 (List.mem_of_getElem? (i := 67) rfl)) rfl
theorem k_689 : Cond.classLink RX11 39 RX2 ∈ WL := wl_in (wt_1 (List.mem_of_getElem? (i := 189) rfl)) rfl
theorem k_690 : Cond.fieldLink RX11 42 "GivenAway" "trial" "LGivenAway$Dale;" ∈ WL := wl_in (wt_2 (List.mem_of_getElem? (i := 68) rfl)) rfl
theorem k_691 : Cond.classLink RX11 45 RX4 ∈ WL := wl_in (wt_1 (List.mem_of_getElem? (i := 191) rfl)) rfl
theorem k_692 : Cond.instantiable RX4 7 ∈ WL := wl_in (wt_1 (List.mem_of_getElem? (i := 192) rfl)) rfl
theorem k_693 : Cond.fieldLink RX11 50 "GivenAway" "reader" "LGivenAway$Reader;" ∈ WL := wl_in (wt_2 (List.mem_of_getElem? (i := 69) rfl)) rfl
theorem k_694 : Cond.classLink RX11 54 RX9 ∈ WL := wl_in (wt_2 (List.mem_of_getElem? (i := 19) rfl)) rfl
theorem k_695 : Cond.instantiable RX9 6 ∈ WL := wl_in (wt_2 (List.mem_of_getElem? (i := 20) rfl)) rfl
theorem k_696 : Cond.fieldLink RX11 56 "GivenAway$Book" "seen" "LGivenAway$Seen;" ∈ WL := wl_in (wt_1 (List.mem_of_getElem? (i := 177) rfl)) rfl
theorem k_697 : Cond.fieldLink RX11 63 "GivenAway" "whatIf" "LGivenAway$WhatIf;" ∈ WL := wl_in (wt_2 (List.mem_of_getElem? (i := 70) rfl)) rfl
theorem k_698 : Cond.classLink RX11 67 RX6 ∈ WL := wl_in (wt_2 (List.mem_of_getElem? (i := 44) rfl)) rfl
theorem k_699 : Cond.instantiable RX6 3 ∈ WL := wl_in (wt_2 (List.mem_of_getElem? (i := 45) rfl)) rfl
theorem k_700 : Cond.fieldLink RX11 72 "GivenAway" "scales" "LGivenAway$Scales;" ∈ WL := wl_in (wt_2 (List.mem_of_getElem? (i := 71) rfl)) rfl
theorem k_701 : Cond.fieldLink RX11 76 "GivenAway" "faultPlace" "I" ∈ WL := wl_in (wt_2 (List.mem_of_getElem? (i := 62) rfl)) rfl
theorem k_702 : Cond.instanceMethod yX3_init ∈ WL := wl_in (wt_1 (List.mem_of_getElem? (i := 39) rfl)) rfl
theorem k_703 : Cond.methodLink RX11 22 yX1_init ∈ WL := wl_in (wt_1 (List.mem_of_getElem? (i := 99) rfl)) rfl
theorem k_704 : Cond.instanceMethod yX1_init ∈ WL := wl_in (wt_1 (List.mem_of_getElem? (i := 100) rfl)) rfl
theorem k_705 : Cond.methodLink RX11 41 yX2_init ∈ WL := wl_in (wt_1 (List.mem_of_getElem? (i := 190) rfl)) rfl
theorem k_706 : Cond.methodLink RX11 47 yX4_init ∈ WL := wl_in (wt_1 (List.mem_of_getElem? (i := 193) rfl)) rfl
theorem k_707 : Cond.instanceMethod yX4_init ∈ WL := wl_in (wt_1 (List.mem_of_getElem? (i := 194) rfl)) rfl
theorem k_708 : Cond.methodLink RX11 60 yX9_init ∈ WL := wl_in (wt_2 (List.mem_of_getElem? (i := 21) rfl)) rfl
theorem k_709 : Cond.instanceMethod yX9_init ∈ WL := wl_in (wt_2 (List.mem_of_getElem? (i := 22) rfl)) rfl
theorem k_710 : Cond.methodLink RX11 69 yX6_init ∈ WL := wl_in (wt_2 (List.mem_of_getElem? (i := 46) rfl)) rfl
theorem k_711 : Cond.instanceMethod yX6_init ∈ WL := wl_in (wt_2 (List.mem_of_getElem? (i := 47) rfl)) rfl
theorem k_712 : Cond.code yX11_init cX11_init 2 none ∈ WL := wl_in (wt_1 (List.mem_of_getElem? (i := 32) rfl)) rfl
theorem k_713 : Cond.code yX11_feedNumber cX11_feedNumber 3 none ∈ WL := wl_in (wt_2 (List.mem_of_getElem? (i := 104) rfl)) rfl
theorem k_714 : Cond.fieldLink RX11 80 "GivenAway" "taped" "I" ∈ WL := wl_in (wt_2 (List.mem_of_getElem? (i := 61) rfl)) rfl
theorem k_715 : Cond.code yX11_feed cX11_feed 6 (some .int) ∈ WL := wl_in (wt_2 (List.mem_of_getElem? (i := 100) rfl)) rfl
theorem k_716 : Cond.methodLink RX11 83 yX11_feedNumber ∈ WL := wl_in (wt_2 (List.mem_of_getElem? (i := 101) rfl)) rfl
theorem k_717 : Cond.instanceMethod yX11_feedNumber ∈ WL := wl_in (wt_2 (List.mem_of_getElem? (i := 103) rfl)) rfl
theorem k_718 : Cond.selects RX11 yX11_feedNumber yX11_feedNumber ∈ WL := wl_in (wps (wp_1 (List.mem_of_getElem? (i := 0) rfl))) rfl
theorem k_719 : Cond.initialized RX11 ∈ WL := wl_in (wt_1 (List.mem_of_getElem? (i := 1) rfl)) rfl
theorem k_720 : Cond.code yX11_refuse cX11_refuse 2 (some .int) ∈ WL := wl_in (wt_2 (List.mem_of_getElem? (i := 120) rfl)) rfl
theorem k_721 : Cond.fieldLink RX11 159 "GivenAway$Book" "refused" "[I" ∈ WL := wl_in (wt_1 (List.mem_of_getElem? (i := 179) rfl)) rfl
theorem k_722 : Cond.classLink RX11 87 "java/lang/IllegalArgumentException" ∈ WL := wl_in (wt_3 (List.mem_of_getElem? (i := 66) rfl)) rfl
theorem k_723 : Cond.initialized "java/lang/IllegalArgumentException" ∈ WL := wl_in (wt_1 (List.mem_of_getElem? (i := 16) rfl)) rfl
theorem k_724 : Cond.fieldLink RX11 108 "GivenAway$Dale" "plan" "LGivenAway$Plan;" ∈ WL := wl_in (wt_1 (List.mem_of_getElem? (i := 157) rfl)) rfl
theorem k_725 : Cond.fieldLink RX11 114 "GivenAway$Book" "acts" "LGivenAway$Acts;" ∈ WL := wl_in (wt_1 (List.mem_of_getElem? (i := 175) rfl)) rfl
theorem k_726 : Cond.fieldLink RX11 126 "GivenAway" "pictured" "Z" ∈ WL := wl_in (wt_2 (List.mem_of_getElem? (i := 66) rfl)) rfl
theorem k_727 : Cond.methodLink RX11 94 yX2_startAnew ∈ WL := wl_in (wt_3 (List.mem_of_getElem? (i := 133) rfl)) rfl
theorem k_728 : Cond.instanceMethod yX2_startAnew ∈ WL := wl_in (wt_3 (List.mem_of_getElem? (i := 134) rfl)) rfl
theorem k_729 : Cond.selects RX2 yX2_startAnew yX2_startAnew ∈ WL := wl_in (wt_3 (List.mem_of_getElem? (i := 135) rfl)) rfl
theorem k_730 : Cond.methodLink RX11 97 yX4_readDale ∈ WL := wl_in (wt_3 (List.mem_of_getElem? (i := 145) rfl)) rfl
theorem k_731 : Cond.instanceMethod yX4_readDale ∈ WL := wl_in (wt_3 (List.mem_of_getElem? (i := 146) rfl)) rfl
theorem k_732 : Cond.selects RX4 yX4_readDale yX4_readDale ∈ WL := wl_in (wt_3 (List.mem_of_getElem? (i := 147) rfl)) rfl
theorem k_733 : Cond.methodLink RX11 101 yX4_place ∈ WL := wl_in (wt_4 (List.mem_of_getElem? (i := 156) rfl)) rfl
theorem k_734 : Cond.instanceMethod yX4_place ∈ WL := wl_in (wt_4 (List.mem_of_getElem? (i := 157) rfl)) rfl
theorem k_735 : Cond.selects RX4 yX4_place yX4_place ∈ WL := wl_in (wt_4 (List.mem_of_getElem? (i := 158) rfl)) rfl
theorem k_736 : Cond.methodLink RX11 105 yX11_refuse ∈ WL := wl_in (wt_2 (List.mem_of_getElem? (i := 117) rfl)) rfl
theorem k_737 : Cond.instanceMethod yX11_refuse ∈ WL := wl_in (wt_2 (List.mem_of_getElem? (i := 119) rfl)) rfl
theorem k_738 : Cond.selects RX11 yX11_refuse yX11_refuse ∈ WL := wl_in (wps (wp_1 (List.mem_of_getElem? (i := 1) rfl))) rfl
theorem k_739 : Cond.methodLink RX11 111 yX2_copyFrom ∈ WL := wl_in (wt_4 (List.mem_of_getElem? (i := 160) rfl)) rfl
theorem k_740 : Cond.methodLink RX11 118 yX0_clear ∈ WL := wl_in (wt_4 (List.mem_of_getElem? (i := 161) rfl)) rfl
theorem k_741 : Cond.instanceMethod yX0_clear ∈ WL := wl_in (wt_4 (List.mem_of_getElem? (i := 162) rfl)) rfl
theorem k_742 : Cond.selects RX0 yX0_clear yX0_clear ∈ WL := wl_in (wt_4 (List.mem_of_getElem? (i := 163) rfl)) rfl
theorem k_743 : Cond.methodLink RX11 123 yX7_clear ∈ WL := wl_in (wt_3 (List.mem_of_getElem? (i := 27) rfl)) rfl
theorem k_744 : Cond.code yX11_dale cX11_dale 3 (some .int) ∈ WL := wl_in (wt_3 (List.mem_of_getElem? (i := 65) rfl)) rfl
theorem k_745 : Cond.code yX11_fault cX11_fault 1 (some .int) ∈ WL := wl_in (wt_2 (List.mem_of_getElem? (i := 108) rfl)) rfl
theorem k_746 : Cond.code yX11_needWhat cX11_needWhat 3 none ∈ WL := wl_in (wt_4 (List.mem_of_getElem? (i := 176) rfl)) rfl
theorem k_747 : Cond.classLink RX11 323 "java/util/NoSuchElementException" ∈ WL := wl_in (wt_4 (List.mem_of_getElem? (i := 177) rfl)) rfl
theorem k_748 : Cond.initialized "java/util/NoSuchElementException" ∈ WL := wl_in (wt_1 (List.mem_of_getElem? (i := 26) rfl)) rfl
theorem k_749 : Cond.fieldLink RX11 134 "GivenAway$Plan" "people" "I" ∈ WL := wl_in (wt_1 (List.mem_of_getElem? (i := 67) rfl)) rfl
theorem k_750 : Cond.fieldLink RX11 137 "GivenAway$Plan" "brides" "I" ∈ WL := wl_in (wt_1 (List.mem_of_getElem? (i := 72) rfl)) rfl
theorem k_751 : Cond.fieldLink RX11 155 "GivenAway$Acts" "size" "I" ∈ WL := wl_in (wt_1 (List.mem_of_getElem? (i := 113) rfl)) rfl
theorem k_752 : Cond.fieldLink RX11 158 "GivenAway$Seen" "size" "I" ∈ WL := wl_in (wt_1 (List.mem_of_getElem? (i := 133) rfl)) rfl
theorem k_753 : Cond.methodLink RX11 130 yX11_needWhat ∈ WL := wl_in (wt_4 (List.mem_of_getElem? (i := 173) rfl)) rfl
theorem k_754 : Cond.instanceMethod yX11_needWhat ∈ WL := wl_in (wt_4 (List.mem_of_getElem? (i := 175) rfl)) rfl
theorem k_755 : Cond.selects RX11 yX11_needWhat yX11_needWhat ∈ WL := wl_in (wps (wp_2 (List.mem_of_getElem? (i := 13) rfl))) rfl
theorem k_756 : Cond.methodLink RX11 140 yX2_tieCount ∈ WL := wl_in (wt_4 (List.mem_of_getElem? (i := 193) rfl)) rfl
theorem k_757 : Cond.instanceMethod yX2_tieCount ∈ WL := wl_in (wt_4 (List.mem_of_getElem? (i := 194) rfl)) rfl
theorem k_758 : Cond.selects RX2 yX2_tieCount yX2_tieCount ∈ WL := wl_in (wt_4 (List.mem_of_getElem? (i := 195) rfl)) rfl
theorem k_759 : Cond.methodLink RX11 143 yX2_today ∈ WL := wl_in (wt_2 (List.mem_of_getElem? (i := 113) rfl)) rfl
theorem k_760 : Cond.methodLink RX11 146 yX2_homeBits ∈ WL := wl_in (wt_4 (List.mem_of_getElem? (i := 201) rfl)) rfl
theorem k_761 : Cond.instanceMethod yX2_homeBits ∈ WL := wl_in (wt_4 (List.mem_of_getElem? (i := 202) rfl)) rfl
theorem k_762 : Cond.selects RX2 yX2_homeBits yX2_homeBits ∈ WL := wl_in (wt_4 (List.mem_of_getElem? (i := 203) rfl)) rfl
theorem k_763 : Cond.methodLink RX11 149 yX2_dogCount ∈ WL := wl_in (wt_3 (List.mem_of_getElem? (i := 13) rfl)) rfl
theorem k_764 : Cond.instanceMethod yX2_dogCount ∈ WL := wl_in (wt_3 (List.mem_of_getElem? (i := 14) rfl)) rfl
theorem k_765 : Cond.selects RX2 yX2_dogCount yX2_dogCount ∈ WL := wl_in (wt_3 (List.mem_of_getElem? (i := 15) rfl)) rfl
theorem k_766 : Cond.methodLink RX11 152 yX2_griefOfAll ∈ WL := wl_in (wt_4 (List.mem_of_getElem? (i := 205) rfl)) rfl
theorem k_767 : Cond.instanceMethod yX2_griefOfAll ∈ WL := wl_in (wt_4 (List.mem_of_getElem? (i := 206) rfl)) rfl
theorem k_768 : Cond.selects RX2 yX2_griefOfAll yX2_griefOfAll ∈ WL := wl_in (wt_4 (List.mem_of_getElem? (i := 207) rfl)) rfl
theorem k_769 : Cond.code yX11_count cX11_count 2 (some .int) ∈ WL := wl_in (wt_4 (List.mem_of_getElem? (i := 172) rfl)) rfl
theorem k_770 : Cond.code yX11_needPerson cX11_needPerson 2 none ∈ WL := wl_in (wt_4 (List.mem_of_getElem? (i := 219) rfl)) rfl
theorem k_771 : Cond.fieldLink RX11 165 "GivenAway$Plan" "kinds" "[I" ∈ WL := wl_in (wt_1 (List.mem_of_getElem? (i := 78) rfl)) rfl
theorem k_772 : Cond.methodLink RX11 162 yX11_needPerson ∈ WL := wl_in (wt_4 (List.mem_of_getElem? (i := 216) rfl)) rfl
theorem k_773 : Cond.instanceMethod yX11_needPerson ∈ WL := wl_in (wt_4 (List.mem_of_getElem? (i := 218) rfl)) rfl
theorem k_774 : Cond.selects RX11 yX11_needPerson yX11_needPerson ∈ WL := wl_in (wps (wp_2 (List.mem_of_getElem? (i := 14) rfl))) rfl
theorem k_775 : Cond.methodLink RX11 168 yX2_griefOf ∈ WL := wl_in (wt_4 (List.mem_of_getElem? (i := 221) rfl)) rfl
theorem k_776 : Cond.methodLink RX11 171 yX2_trainsOf ∈ WL := wl_in (wt_4 (List.mem_of_getElem? (i := 222) rfl)) rfl
theorem k_777 : Cond.methodLink RX11 174 yX2_onionsOf ∈ WL := wl_in (wt_4 (List.mem_of_getElem? (i := 223) rfl)) rfl
theorem k_778 : Cond.methodLink RX11 177 yX2_ledBits ∈ WL := wl_in (wt_4 (List.mem_of_getElem? (i := 224) rfl)) rfl
theorem k_779 : Cond.methodLink RX11 180 yX2_bridesTiedTo ∈ WL := wl_in (wt_4 (List.mem_of_getElem? (i := 225) rfl)) rfl
theorem k_780 : Cond.code yX11_person cX11_person 3 (some .int) ∈ WL := wl_in (wt_4 (List.mem_of_getElem? (i := 215) rfl)) rfl
theorem k_781 : Cond.code yX11_needBride cX11_needBride 2 none ∈ WL := wl_in (wt_4 (List.mem_of_getElem? (i := 236) rfl)) rfl
theorem k_782 : Cond.methodLink RX11 183 yX11_needBride ∈ WL := wl_in (wt_4 (List.mem_of_getElem? (i := 233) rfl)) rfl
theorem k_783 : Cond.instanceMethod yX11_needBride ∈ WL := wl_in (wt_4 (List.mem_of_getElem? (i := 235) rfl)) rfl
theorem k_784 : Cond.selects RX11 yX11_needBride yX11_needBride ∈ WL := wl_in (wps (wp_2 (List.mem_of_getElem? (i := 15) rfl))) rfl
theorem k_785 : Cond.methodLink RX11 186 yX2_weddingOf ∈ WL := wl_in (wt_4 (List.mem_of_getElem? (i := 238) rfl)) rfl
theorem k_786 : Cond.methodLink RX11 189 yX2_isHome ∈ WL := wl_in (wt_3 (List.mem_of_getElem? (i := 21) rfl)) rfl
theorem k_787 : Cond.methodLink RX11 193 yX2_whoLed ∈ WL := wl_in (wt_4 (List.mem_of_getElem? (i := 239) rfl)) rfl
theorem k_788 : Cond.methodLink RX11 196 yX2_peopleTiedTo ∈ WL := wl_in (wt_3 (List.mem_of_getElem? (i := 22) rfl)) rfl
theorem k_789 : Cond.methodLink RX11 199 yX2_heaviestFor ∈ WL := wl_in (wt_5 (List.mem_of_getElem? (i := 3) rfl)) rfl
theorem k_790 : Cond.methodLink RX11 202 yX2_rivalsFor ∈ WL := wl_in (wt_5 (List.mem_of_getElem? (i := 4) rfl)) rfl
theorem k_791 : Cond.code yX11_bride cX11_bride 3 (some .int) ∈ WL := wl_in (wt_4 (List.mem_of_getElem? (i := 232) rfl)) rfl
theorem k_792 : Cond.code yX11_years cX11_years 3 (some .int) ∈ WL := wl_in (wt_5 (List.mem_of_getElem? (i := 11) rfl)) rfl
theorem k_793 : Cond.methodLink RX11 205 yX2_yearsOf ∈ WL := wl_in (wt_5 (List.mem_of_getElem? (i := 12) rfl)) rfl
theorem k_794 : Cond.methodLink RX11 209 yX2_weigh ∈ WL := wl_in (wt_5 (List.mem_of_getElem? (i := 20) rfl)) rfl
theorem k_795 : Cond.code yX11_weight cX11_weight 3 (some .int) ∈ WL := wl_in (wt_5 (List.mem_of_getElem? (i := 19) rfl)) rfl
theorem k_796 : Cond.methodLink RX11 212 yX1_keepAct ∈ WL := wl_in (wt_2 (List.mem_of_getElem? (i := 121) rfl)) rfl
theorem k_797 : Cond.instanceMethod yX1_keepAct ∈ WL := wl_in (wt_2 (List.mem_of_getElem? (i := 122) rfl)) rfl
theorem k_798 : Cond.selects RX1 yX1_keepAct yX1_keepAct ∈ WL := wl_in (wt_2 (List.mem_of_getElem? (i := 123) rfl)) rfl
theorem k_799 : Cond.methodLink RX11 215 yX2_passDay ∈ WL := wl_in (wt_2 (List.mem_of_getElem? (i := 136) rfl)) rfl
theorem k_800 : Cond.code yX11_days cX11_days 3 (some .int) ∈ WL := wl_in (wt_2 (List.mem_of_getElem? (i := 112) rfl)) rfl
theorem k_801 : Cond.methodLink RX11 218 yX2_setTrains ∈ WL := wl_in (wt_5 (List.mem_of_getElem? (i := 28) rfl)) rfl
theorem k_802 : Cond.code yX11_train cX11_train 4 (some .int) ∈ WL := wl_in (wt_5 (List.mem_of_getElem? (i := 27) rfl)) rfl
theorem k_803 : Cond.methodLink RX11 221 Lib.Math.min.name ∈ WL := wl_in (wt_5 (List.mem_of_getElem? (i := 36) rfl)) rfl
theorem k_804 : Cond.methodLink RX11 226 yX2_setOnions ∈ WL := wl_in (wt_5 (List.mem_of_getElem? (i := 37) rfl)) rfl
theorem k_805 : Cond.code yX11_onions cX11_onions 3 (some .int) ∈ WL := wl_in (wt_5 (List.mem_of_getElem? (i := 35) rfl)) rfl
theorem k_806 : Cond.methodLink RX11 229 yX2_setWedding ∈ WL := wl_in (wt_5 (List.mem_of_getElem? (i := 45) rfl)) rfl
theorem k_807 : Cond.code yX11_putOff cX11_putOff 4 (some .int) ∈ WL := wl_in (wt_5 (List.mem_of_getElem? (i := 44) rfl)) rfl
theorem k_808 : Cond.methodLink RX11 232 yX2_setYears ∈ WL := wl_in (wt_5 (List.mem_of_getElem? (i := 56) rfl)) rfl
theorem k_809 : Cond.code yX11_tie cX11_tie 5 (some .int) ∈ WL := wl_in (wt_5 (List.mem_of_getElem? (i := 55) rfl)) rfl
theorem k_810 : Cond.methodLink RX11 236 yX1_undoAct ∈ WL := wl_in (wt_2 (List.mem_of_getElem? (i := 231) rfl)) rfl
theorem k_811 : Cond.instanceMethod yX1_undoAct ∈ WL := wl_in (wt_2 (List.mem_of_getElem? (i := 232) rfl)) rfl
theorem k_812 : Cond.selects RX1 yX1_undoAct yX1_undoAct ∈ WL := wl_in (wt_2 (List.mem_of_getElem? (i := 233) rfl)) rfl
theorem k_813 : Cond.code yX11_undo cX11_undo 1 (some .int) ∈ WL := wl_in (wt_2 (List.mem_of_getElem? (i := 230) rfl)) rfl
theorem k_814 : Cond.methodLink RX11 239 yX9_leaderNow ∈ WL := wl_in (wt_5 (List.mem_of_getElem? (i := 64) rfl)) rfl
theorem k_815 : Cond.instanceMethod yX9_leaderNow ∈ WL := wl_in (wt_5 (List.mem_of_getElem? (i := 65) rfl)) rfl
theorem k_816 : Cond.selects RX9 yX9_leaderNow yX9_leaderNow ∈ WL := wl_in (wt_5 (List.mem_of_getElem? (i := 66) rfl)) rfl
theorem k_817 : Cond.code yX11_leader cX11_leader 2 (some .int) ∈ WL := wl_in (wt_5 (List.mem_of_getElem? (i := 63) rfl)) rfl
theorem k_818 : Cond.code yX11_needForesight cX11_needForesight 2 none ∈ WL := wl_in (wt_5 (List.mem_of_getElem? (i := 88) rfl)) rfl
theorem k_819 : Cond.methodLink RX11 242 yX11_needForesight ∈ WL := wl_in (wt_5 (List.mem_of_getElem? (i := 85) rfl)) rfl
theorem k_820 : Cond.instanceMethod yX11_needForesight ∈ WL := wl_in (wt_5 (List.mem_of_getElem? (i := 87) rfl)) rfl
theorem k_821 : Cond.selects RX11 yX11_needForesight yX11_needForesight ∈ WL := wl_in (wps (wp_3 (List.mem_of_getElem? (i := 1) rfl))) rfl
theorem k_822 : Cond.methodLink RX11 245 yX9_letPass ∈ WL := wl_in (wt_3 (List.mem_of_getElem? (i := 3) rfl)) rfl
theorem k_823 : Cond.instanceMethod yX9_letPass ∈ WL := wl_in (wt_3 (List.mem_of_getElem? (i := 4) rfl)) rfl
theorem k_824 : Cond.selects RX9 yX9_letPass yX9_letPass ∈ WL := wl_in (wt_3 (List.mem_of_getElem? (i := 5) rfl)) rfl
theorem k_825 : Cond.code yX11_then cX11_then 3 (some .int) ∈ WL := wl_in (wt_5 (List.mem_of_getElem? (i := 84) rfl)) rfl
theorem k_826 : Cond.methodLink RX11 248 yX9_newlyLed ∈ WL := wl_in (wt_5 (List.mem_of_getElem? (i := 97) rfl)) rfl
theorem k_827 : Cond.instanceMethod yX9_newlyLed ∈ WL := wl_in (wt_5 (List.mem_of_getElem? (i := 98) rfl)) rfl
theorem k_828 : Cond.selects RX9 yX9_newlyLed yX9_newlyLed ∈ WL := wl_in (wt_5 (List.mem_of_getElem? (i := 99) rfl)) rfl
theorem k_829 : Cond.code yX11_led cX11_led 3 (some .int) ∈ WL := wl_in (wt_5 (List.mem_of_getElem? (i := 96) rfl)) rfl
theorem k_830 : Cond.code yX11_dog cX11_dog 1 (some .int) ∈ WL := wl_in (wt_3 (List.mem_of_getElem? (i := 2) rfl)) rfl
theorem k_831 : Cond.methodLink RX11 251 yX6_rankOf ∈ WL := wl_in (wt_5 (List.mem_of_getElem? (i := 110) rfl)) rfl
theorem k_832 : Cond.instanceMethod yX6_rankOf ∈ WL := wl_in (wt_5 (List.mem_of_getElem? (i := 111) rfl)) rfl
theorem k_833 : Cond.selects RX6 yX6_rankOf yX6_rankOf ∈ WL := wl_in (wt_5 (List.mem_of_getElem? (i := 112) rfl)) rfl
theorem k_834 : Cond.code yX11_rank cX11_rank 3 (some .int) ∈ WL := wl_in (wt_5 (List.mem_of_getElem? (i := 109) rfl)) rfl
theorem k_835 : Cond.methodLink RX11 254 yX9_leastTrains ∈ WL := wl_in (wt_5 (List.mem_of_getElem? (i := 130) rfl)) rfl
theorem k_836 : Cond.instanceMethod yX9_leastTrains ∈ WL := wl_in (wt_5 (List.mem_of_getElem? (i := 131) rfl)) rfl
theorem k_837 : Cond.selects RX9 yX9_leastTrains yX9_leastTrains ∈ WL := wl_in (wt_5 (List.mem_of_getElem? (i := 132) rfl)) rfl
theorem k_838 : Cond.code yX11_toTrain cX11_toTrain 3 (some .int) ∈ WL := wl_in (wt_5 (List.mem_of_getElem? (i := 129) rfl)) rfl
theorem k_839 : Cond.methodLink RX11 257 yX9_otherwiseWithout ∈ WL := wl_in (wt_5 (List.mem_of_getElem? (i := 143) rfl)) rfl
theorem k_840 : Cond.instanceMethod yX9_otherwiseWithout ∈ WL := wl_in (wt_5 (List.mem_of_getElem? (i := 144) rfl)) rfl
theorem k_841 : Cond.selects RX9 yX9_otherwiseWithout yX9_otherwiseWithout ∈ WL := wl_in (wt_5 (List.mem_of_getElem? (i := 145) rfl)) rfl
theorem k_842 : Cond.code yX11_instead cX11_instead 2 (some .int) ∈ WL := wl_in (wt_5 (List.mem_of_getElem? (i := 142) rfl)) rfl
theorem k_843 : Cond.methodLink RX11 260 yX9_findBestDay ∈ WL := wl_in (wt_5 (List.mem_of_getElem? (i := 155) rfl)) rfl
theorem k_844 : Cond.instanceMethod yX9_findBestDay ∈ WL := wl_in (wt_5 (List.mem_of_getElem? (i := 156) rfl)) rfl
theorem k_845 : Cond.selects RX9 yX9_findBestDay yX9_findBestDay ∈ WL := wl_in (wt_5 (List.mem_of_getElem? (i := 157) rfl)) rfl
theorem k_846 : Cond.code yX11_bestDay cX11_bestDay 3 (some .int) ∈ WL := wl_in (wt_5 (List.mem_of_getElem? (i := 154) rfl)) rfl
theorem k_847 : Cond.methodLink RX11 264 yX6_mostTogether ∈ WL := wl_in (wt_5 (List.mem_of_getElem? (i := 176) rfl)) rfl
theorem k_848 : Cond.methodLink RX11 267 yX6_chosenFor ∈ WL := wl_in (wt_5 (List.mem_of_getElem? (i := 198) rfl)) rfl
theorem k_849 : Cond.instanceMethod yX6_chosenFor ∈ WL := wl_in (wt_5 (List.mem_of_getElem? (i := 199) rfl)) rfl
theorem k_850 : Cond.selects RX6 yX6_chosenFor yX6_chosenFor ∈ WL := wl_in (wt_5 (List.mem_of_getElem? (i := 200) rfl)) rfl
theorem k_851 : Cond.code yX11_choice cX11_choice 2 (some .int) ∈ WL := wl_in (wt_5 (List.mem_of_getElem? (i := 175) rfl)) rfl
theorem k_852 : Cond.code yX11_unloved cX11_unloved 3 (some .int) ∈ WL := wl_in (wt_3 (List.mem_of_getElem? (i := 20) rfl)) rfl
theorem k_853 : Cond.methodLink RX11 270 yX6_fewestThatPull ∈ WL := wl_in (wt_5 (List.mem_of_getElem? (i := 214) rfl)) rfl
theorem k_854 : Cond.instanceMethod yX6_fewestThatPull ∈ WL := wl_in (wt_5 (List.mem_of_getElem? (i := 215) rfl)) rfl
theorem k_855 : Cond.selects RX6 yX6_fewestThatPull yX6_fewestThatPull ∈ WL := wl_in (wt_5 (List.mem_of_getElem? (i := 216) rfl)) rfl
theorem k_856 : Cond.code yX11_tug cX11_tug 2 (some .int) ∈ WL := wl_in (wt_5 (List.mem_of_getElem? (i := 213) rfl)) rfl
theorem k_857 : Cond.methodLink RX11 273 yX6_setsDecidedBy ∈ WL := wl_in (wt_5 (List.mem_of_getElem? (i := 235) rfl)) rfl
theorem k_858 : Cond.instanceMethod yX6_setsDecidedBy ∈ WL := wl_in (wt_5 (List.mem_of_getElem? (i := 236) rfl)) rfl
theorem k_859 : Cond.selects RX6 yX6_setsDecidedBy yX6_setsDecidedBy ∈ WL := wl_in (wt_5 (List.mem_of_getElem? (i := 237) rfl)) rfl
theorem k_860 : Cond.code yX11_decisive cX11_decisive 3 (some .int) ∈ WL := wl_in (wt_5 (List.mem_of_getElem? (i := 234) rfl)) rfl
theorem k_861 : Cond.code yX11_steps cX11_steps 5 (some .int) ∈ WL := wl_in (wt_6 (List.mem_of_getElem? (i := 5) rfl)) rfl
theorem k_862 : Cond.methodLink RX11 276 yX2_peopleBeside ∈ WL := wl_in (wt_6 (List.mem_of_getElem? (i := 6) rfl)) rfl
theorem k_863 : Cond.instanceMethod yX2_peopleBeside ∈ WL := wl_in (wt_6 (List.mem_of_getElem? (i := 7) rfl)) rfl
theorem k_864 : Cond.selects RX2 yX2_peopleBeside yX2_peopleBeside ∈ WL := wl_in (wt_6 (List.mem_of_getElem? (i := 8) rfl)) rfl
theorem k_865 : Cond.code yX11_busiest cX11_busiest 6 (some .int) ∈ WL := wl_in (wt_6 (List.mem_of_getElem? (i := 16) rfl)) rfl
theorem k_866 : Cond.methodLink RX11 279 yX2_weddingsOn ∈ WL := wl_in (wt_6 (List.mem_of_getElem? (i := 24) rfl)) rfl
theorem k_867 : Cond.instanceMethod yX2_weddingsOn ∈ WL := wl_in (wt_6 (List.mem_of_getElem? (i := 25) rfl)) rfl
theorem k_868 : Cond.selects RX2 yX2_weddingsOn yX2_weddingsOn ∈ WL := wl_in (wt_6 (List.mem_of_getElem? (i := 26) rfl)) rfl
theorem k_869 : Cond.code yX11_crowd cX11_crowd 7 (some .int) ∈ WL := wl_in (wt_6 (List.mem_of_getElem? (i := 23) rfl)) rfl
theorem k_870 : Cond.code yX11_common cX11_common 3 (some .int) ∈ WL := wl_in (wt_6 (List.mem_of_getElem? (i := 34) rfl)) rfl
theorem k_871 : Cond.methodLink RX11 282 yX7_add ∈ WL := wl_in (wt_6 (List.mem_of_getElem? (i := 42) rfl)) rfl
theorem k_872 : Cond.code yX11_see cX11_see 6 (some .int) ∈ WL := wl_in (wt_6 (List.mem_of_getElem? (i := 41) rfl)) rfl
theorem k_873 : Cond.methodLink RX11 286 yX9_hiddenCount ∈ WL := wl_in (wt_6 (List.mem_of_getElem? (i := 50) rfl)) rfl
theorem k_874 : Cond.instanceMethod yX9_hiddenCount ∈ WL := wl_in (wt_6 (List.mem_of_getElem? (i := 51) rfl)) rfl
theorem k_875 : Cond.selects RX9 yX9_hiddenCount yX9_hiddenCount ∈ WL := wl_in (wt_6 (List.mem_of_getElem? (i := 52) rfl)) rfl
theorem k_876 : Cond.methodLink RX11 289 yX9_firstHidden ∈ WL := wl_in (wt_6 (List.mem_of_getElem? (i := 78) rfl)) rfl
theorem k_877 : Cond.instanceMethod yX9_firstHidden ∈ WL := wl_in (wt_6 (List.mem_of_getElem? (i := 79) rfl)) rfl
theorem k_878 : Cond.selects RX9 yX9_firstHidden yX9_firstHidden ∈ WL := wl_in (wt_6 (List.mem_of_getElem? (i := 80) rfl)) rfl
theorem k_879 : Cond.methodLink RX11 292 yX9_seenAsItIs ∈ WL := wl_in (wt_6 (List.mem_of_getElem? (i := 82) rfl)) rfl
theorem k_880 : Cond.instanceMethod yX9_seenAsItIs ∈ WL := wl_in (wt_6 (List.mem_of_getElem? (i := 83) rfl)) rfl
theorem k_881 : Cond.selects RX9 yX9_seenAsItIs yX9_seenAsItIs ∈ WL := wl_in (wt_6 (List.mem_of_getElem? (i := 84) rfl)) rfl
theorem k_882 : Cond.code yX11_hidden cX11_hidden 2 (some .int) ∈ WL := wl_in (wt_6 (List.mem_of_getElem? (i := 49) rfl)) rfl
theorem k_883 : Cond.methodLink RX11 296 yX9_weighNext ∈ WL := wl_in (wt_6 (List.mem_of_getElem? (i := 93) rfl)) rfl
theorem k_884 : Cond.instanceMethod yX9_weighNext ∈ WL := wl_in (wt_6 (List.mem_of_getElem? (i := 94) rfl)) rfl
theorem k_885 : Cond.selects RX9 yX9_weighNext yX9_weighNext ∈ WL := wl_in (wt_6 (List.mem_of_getElem? (i := 95) rfl)) rfl
theorem k_886 : Cond.code yX11_next cX11_next 2 (some .int) ∈ WL := wl_in (wt_6 (List.mem_of_getElem? (i := 92) rfl)) rfl
theorem k_887 : Cond.code yX11_forget cX11_forget 1 none ∈ WL := wl_in (wt_3 (List.mem_of_getElem? (i := 26) rfl)) rfl
theorem k_888 : Cond.code yX11_needRivals cX11_needRivals 5 none ∈ WL := wl_in (wt_6 (List.mem_of_getElem? (i := 111) rfl)) rfl
theorem k_889 : Cond.methodLink RX11 300 yX11_needRivals ∈ WL := wl_in (wt_6 (List.mem_of_getElem? (i := 108) rfl)) rfl
theorem k_890 : Cond.instanceMethod yX11_needRivals ∈ WL := wl_in (wt_6 (List.mem_of_getElem? (i := 110) rfl)) rfl
theorem k_891 : Cond.selects RX11 yX11_needRivals yX11_needRivals ∈ WL := wl_in (wps (wp_4 (List.mem_of_getElem? (i := 0) rfl))) rfl
theorem k_892 : Cond.methodLink RX11 303 yX9_playAll ∈ WL := wl_in (wt_6 (List.mem_of_getElem? (i := 113) rfl)) rfl
theorem k_893 : Cond.instanceMethod yX9_playAll ∈ WL := wl_in (wt_6 (List.mem_of_getElem? (i := 114) rfl)) rfl
theorem k_894 : Cond.selects RX9 yX9_playAll yX9_playAll ∈ WL := wl_in (wt_6 (List.mem_of_getElem? (i := 115) rfl)) rfl
theorem k_895 : Cond.methodLink RX11 306 yX9_restingCount ∈ WL := wl_in (wt_6 (List.mem_of_getElem? (i := 122) rfl)) rfl
theorem k_896 : Cond.instanceMethod yX9_restingCount ∈ WL := wl_in (wt_6 (List.mem_of_getElem? (i := 123) rfl)) rfl
theorem k_897 : Cond.selects RX9 yX9_restingCount yX9_restingCount ∈ WL := wl_in (wt_6 (List.mem_of_getElem? (i := 124) rfl)) rfl
theorem k_898 : Cond.methodLink RX11 309 yX9_firstResting ∈ WL := wl_in (wt_6 (List.mem_of_getElem? (i := 133) rfl)) rfl
theorem k_899 : Cond.instanceMethod yX9_firstResting ∈ WL := wl_in (wt_6 (List.mem_of_getElem? (i := 134) rfl)) rfl
theorem k_900 : Cond.selects RX9 yX9_firstResting yX9_firstResting ∈ WL := wl_in (wt_6 (List.mem_of_getElem? (i := 135) rfl)) rfl
theorem k_901 : Cond.code yX11_game cX11_game 5 (some .int) ∈ WL := wl_in (wt_6 (List.mem_of_getElem? (i := 107) rfl)) rfl
theorem k_902 : Cond.methodLink RX11 312 yX9_drawYears ∈ WL := wl_in (wt_6 (List.mem_of_getElem? (i := 144) rfl)) rfl
theorem k_903 : Cond.instanceMethod yX9_drawYears ∈ WL := wl_in (wt_6 (List.mem_of_getElem? (i := 145) rfl)) rfl
theorem k_904 : Cond.selects RX9 yX9_drawYears yX9_drawYears ∈ WL := wl_in (wt_6 (List.mem_of_getElem? (i := 146) rfl)) rfl
theorem k_905 : Cond.methodLink RX11 315 yJ6_bitCount_0f7a4 ∈ WL := wl_in (wt_6 (List.mem_of_getElem? (i := 160) rfl)) rfl
theorem k_906 : Cond.code yX11_drawn cX11_drawn 4 (some .int) ∈ WL := wl_in (wt_6 (List.mem_of_getElem? (i := 143) rfl)) rfl
theorem k_907 : Cond.methodLink RX11 320 yX1_copyFrom ∈ WL := wl_in (wt_3 (List.mem_of_getElem? (i := 35) rfl)) rfl
theorem k_908 : Cond.instanceMethod yX1_copyFrom ∈ WL := wl_in (wt_3 (List.mem_of_getElem? (i := 36) rfl)) rfl
theorem k_909 : Cond.selects RX1 yX1_copyFrom yX1_copyFrom ∈ WL := wl_in (wt_3 (List.mem_of_getElem? (i := 37) rfl)) rfl
theorem k_910 : Cond.code yX11_image cX11_image 1 none ∈ WL := wl_in (wt_3 (List.mem_of_getElem? (i := 34) rfl)) rfl
theorem k_911 : Cond.code yX11_restore cX11_restore 1 (some .boolean) ∈ WL := wl_in (wt_3 (List.mem_of_getElem? (i := 57) rfl)) rfl
theorem k_912 : Cond.methodLink RX12 3 objectInit ∈ WL := wl_in (wt_6 (List.mem_of_getElem? (i := 166) rfl)) rfl
theorem k_913 : Cond.classLink RX12 9 RJ0 ∈ WL := wl_in (wt_6 (List.mem_of_getElem? (i := 167) rfl)) rfl
theorem k_914 : Cond.fieldLink RX12 19 "GivenAwayModel" "kinds" "[Ljava/lang/String;" ∈ WL := wl_in (wt_6 (List.mem_of_getElem? (i := 181) rfl)) rfl
theorem k_915 : Cond.fieldLink RX12 39 "GivenAwayModel" "ofWeighs" "[Ljava/lang/String;" ∈ WL := wl_in (wt_6 (List.mem_of_getElem? (i := 182) rfl)) rfl
theorem k_916 : Cond.fieldLink RX12 42 "GivenAwayModel" "ofMourns" "[Ljava/lang/String;" ∈ WL := wl_in (wt_6 (List.mem_of_getElem? (i := 183) rfl)) rfl
theorem k_917 : Cond.fieldLink RX12 45 "GivenAwayModel" "values" "[Ljava/lang/String;" ∈ WL := wl_in (wt_6 (List.mem_of_getElem? (i := 184) rfl)) rfl
theorem k_918 : Cond.fieldLink RX12 48 "GivenAwayModel" "told" "[I" ∈ WL := wl_in (wt_6 (List.mem_of_getElem? (i := 186) rfl)) rfl
theorem k_919 : Cond.fieldLink RX12 52 "GivenAwayModel" "kind" "[I" ∈ WL := wl_in (wt_6 (List.mem_of_getElem? (i := 187) rfl)) rfl
theorem k_920 : Cond.fieldLink RX12 54 "GivenAwayModel" "griefTold" "[I" ∈ WL := wl_in (wt_6 (List.mem_of_getElem? (i := 188) rfl)) rfl
theorem k_921 : Cond.fieldLink RX12 57 "GivenAwayModel" "trainsTold" "[I" ∈ WL := wl_in (wt_6 (List.mem_of_getElem? (i := 189) rfl)) rfl
theorem k_922 : Cond.fieldLink RX12 60 "GivenAwayModel" "onionsTold" "[I" ∈ WL := wl_in (wt_6 (List.mem_of_getElem? (i := 190) rfl)) rfl
theorem k_923 : Cond.fieldLink RX12 63 "GivenAwayModel" "wedTold" "[I" ∈ WL := wl_in (wt_6 (List.mem_of_getElem? (i := 191) rfl)) rfl
theorem k_924 : Cond.fieldLink RX12 66 "GivenAwayModel" "tieTold" "[I" ∈ WL := wl_in (wt_6 (List.mem_of_getElem? (i := 192) rfl)) rfl
theorem k_925 : Cond.fieldLink RX12 69 "GivenAwayModel" "signsWeighs" "[I" ∈ WL := wl_in (wt_6 (List.mem_of_getElem? (i := 193) rfl)) rfl
theorem k_926 : Cond.fieldLink RX12 72 "GivenAwayModel" "signsMourns" "[I" ∈ WL := wl_in (wt_6 (List.mem_of_getElem? (i := 194) rfl)) rfl
theorem k_927 : Cond.fieldLink RX12 75 "GivenAwayModel" "status" "[I" ∈ WL := wl_in (wt_6 (List.mem_of_getElem? (i := 195) rfl)) rfl
theorem k_928 : Cond.fieldLink RX12 78 "GivenAwayModel" "tape" "[I" ∈ WL := wl_in (wt_6 (List.mem_of_getElem? (i := 196) rfl)) rfl
theorem k_929 : Cond.fieldLink RX12 81 "GivenAwayModel" "faultPlace" "I" ∈ WL := wl_in (wt_6 (List.mem_of_getElem? (i := 206) rfl)) rfl
theorem k_930 : Cond.fieldLink RX12 85 "GivenAwayModel" "grief" "[I" ∈ WL := wl_in (wt_6 (List.mem_of_getElem? (i := 208) rfl)) rfl
theorem k_931 : Cond.fieldLink RX12 87 "GivenAwayModel" "trained" "[I" ∈ WL := wl_in (wt_6 (List.mem_of_getElem? (i := 209) rfl)) rfl
theorem k_932 : Cond.fieldLink RX12 90 "GivenAwayModel" "onion" "[I" ∈ WL := wl_in (wt_6 (List.mem_of_getElem? (i := 210) rfl)) rfl
theorem k_933 : Cond.fieldLink RX12 93 "GivenAwayModel" "ledBy" "[I" ∈ WL := wl_in (wt_6 (List.mem_of_getElem? (i := 211) rfl)) rfl
theorem k_934 : Cond.fieldLink RX12 96 "GivenAwayModel" "wed" "[I" ∈ WL := wl_in (wt_6 (List.mem_of_getElem? (i := 212) rfl)) rfl
theorem k_935 : Cond.fieldLink RX12 99 "GivenAwayModel" "home" "[I" ∈ WL := wl_in (wt_6 (List.mem_of_getElem? (i := 213) rfl)) rfl
theorem k_936 : Cond.fieldLink RX12 102 "GivenAwayModel" "leads" "[I" ∈ WL := wl_in (wt_6 (List.mem_of_getElem? (i := 214) rfl)) rfl
theorem k_937 : Cond.fieldLink RX12 105 "GivenAwayModel" "tied" "[I" ∈ WL := wl_in (wt_6 (List.mem_of_getElem? (i := 215) rfl)) rfl
theorem k_938 : Cond.fieldLink RX12 108 "GivenAwayModel" "past" "[I" ∈ WL := wl_in (wt_6 (List.mem_of_getElem? (i := 216) rfl)) rfl
theorem k_939 : Cond.fieldLink RX12 111 "GivenAwayModel" "asked" "[I" ∈ WL := wl_in (wt_6 (List.mem_of_getElem? (i := 221) rfl)) rfl
theorem k_940 : Cond.fieldLink RX12 114 "GivenAwayModel" "stack" "[I" ∈ WL := wl_in (wt_6 (List.mem_of_getElem? (i := 222) rfl)) rfl
theorem k_941 : Cond.fieldLink RX12 117 "GivenAwayModel" "weighed" "[I" ∈ WL := wl_in (wt_6 (List.mem_of_getElem? (i := 223) rfl)) rfl
theorem k_942 : Cond.fieldLink RX12 120 "GivenAwayModel" "rowThen" "[I" ∈ WL := wl_in (wt_6 (List.mem_of_getElem? (i := 224) rfl)) rfl
theorem k_943 : Cond.fieldLink RX12 123 "GivenAwayModel" "leadersNow" "[I" ∈ WL := wl_in (wt_6 (List.mem_of_getElem? (i := 225) rfl)) rfl
theorem k_944 : Cond.fieldLink RX12 126 "GivenAwayModel" "mostBy" "[I" ∈ WL := wl_in (wt_6 (List.mem_of_getElem? (i := 226) rfl)) rfl
theorem k_945 : Cond.fieldLink RX12 129 "GivenAwayModel" "seenBride" "[I" ∈ WL := wl_in (wt_6 (List.mem_of_getElem? (i := 227) rfl)) rfl
theorem k_946 : Cond.fieldLink RX12 132 "GivenAwayModel" "seenIn" "[I" ∈ WL := wl_in (wt_6 (List.mem_of_getElem? (i := 228) rfl)) rfl
theorem k_947 : Cond.fieldLink RX12 135 "GivenAwayModel" "seenOne" "[I" ∈ WL := wl_in (wt_6 (List.mem_of_getElem? (i := 229) rfl)) rfl
theorem k_948 : Cond.fieldLink RX12 138 "GivenAwayModel" "seenOther" "[I" ∈ WL := wl_in (wt_6 (List.mem_of_getElem? (i := 230) rfl)) rfl
theorem k_949 : Cond.fieldLink RX12 141 "GivenAwayModel" "rowSeen" "[I" ∈ WL := wl_in (wt_6 (List.mem_of_getElem? (i := 231) rfl)) rfl
theorem k_950 : Cond.fieldLink RX12 144 "GivenAwayModel" "seenMore" "[Z" ∈ WL := wl_in (wt_6 (List.mem_of_getElem? (i := 232) rfl)) rfl
theorem k_951 : Cond.fieldLink RX12 148 "GivenAwayModel" "fits" "[I" ∈ WL := wl_in (wt_6 (List.mem_of_getElem? (i := 233) rfl)) rfl
theorem k_952 : Cond.fieldLink RX12 151 "GivenAwayModel" "leadersThen" "[I" ∈ WL := wl_in (wt_6 (List.mem_of_getElem? (i := 234) rfl)) rfl
theorem k_953 : Cond.fieldLink RX12 154 "GivenAwayModel" "gains" "[I" ∈ WL := wl_in (wt_6 (List.mem_of_getElem? (i := 236) rfl)) rfl
theorem k_954 : Cond.fieldLink RX12 157 "GivenAwayModel" "rowGame" "[I" ∈ WL := wl_in (wt_6 (List.mem_of_getElem? (i := 237) rfl)) rfl
theorem k_955 : Cond.fieldLink RX12 160 "GivenAwayModel" "imageRow" "[I" ∈ WL := wl_in (wt_7 (List.mem_of_getElem? (i := 2) rfl)) rfl
theorem k_956 : Cond.fieldLink RX12 163 "GivenAwayModel" "pastThen" "[I" ∈ WL := wl_in (wt_7 (List.mem_of_getElem? (i := 3) rfl)) rfl
theorem k_957 : Cond.fieldLink RX12 166 "GivenAwayModel" "seenBrideThen" "[I" ∈ WL := wl_in (wt_7 (List.mem_of_getElem? (i := 4) rfl)) rfl
theorem k_958 : Cond.fieldLink RX12 169 "GivenAwayModel" "seenInThen" "[I" ∈ WL := wl_in (wt_7 (List.mem_of_getElem? (i := 5) rfl)) rfl
theorem k_959 : Cond.fieldLink RX12 172 "GivenAwayModel" "seenOneThen" "[I" ∈ WL := wl_in (wt_7 (List.mem_of_getElem? (i := 6) rfl)) rfl
theorem k_960 : Cond.fieldLink RX12 175 "GivenAwayModel" "seenOtherThen" "[I" ∈ WL := wl_in (wt_7 (List.mem_of_getElem? (i := 7) rfl)) rfl
theorem k_961 : Cond.fieldLink RX12 178 "GivenAwayModel" "statusThen" "[I" ∈ WL := wl_in (wt_7 (List.mem_of_getElem? (i := 8) rfl)) rfl
theorem k_962 : Cond.fieldLink RX12 181 "GivenAwayModel" "seenMoreThen" "[Z" ∈ WL := wl_in (wt_7 (List.mem_of_getElem? (i := 9) rfl)) rfl
theorem k_963 : Cond.code yX12_init cX12_init 1 none ∈ WL := wl_in (wt_6 (List.mem_of_getElem? (i := 165) rfl)) rfl
theorem k_964 : Cond.code yX12_thrown cX12_thrown 1 (some .int) ∈ WL := wl_in (wt_7 (List.mem_of_getElem? (i := 152) rfl)) rfl
theorem k_965 : Cond.fieldLink RX12 184 "GivenAwayModel" "code" "I" ∈ WL := wl_in (wt_6 (List.mem_of_getElem? (i := 185) rfl)) rfl
theorem k_966 : Cond.code yX12_fail cX12_fail 2 (some .int) ∈ WL := wl_in (wt_7 (List.mem_of_getElem? (i := 164) rfl)) rfl
theorem k_967 : Cond.code yX12_isIn cX12_isIn 6 (some .boolean) ∈ WL := wl_in (wt_8 (List.mem_of_getElem? (i := 77) rfl)) rfl
theorem k_968 : Cond.code yX12_isOf cX12_isOf 2 (some .boolean) ∈ WL := wl_in (wt_8 (List.mem_of_getElem? (i := 225) rfl)) rfl
theorem k_969 : Cond.code yX12_bitsOf cX12_bitsOf 3 (some .int) ∈ WL := wl_in (wt_8 (List.mem_of_getElem? (i := 58) rfl)) rfl
theorem k_970 : Cond.code yX12_isPerson cX12_isPerson 2 (some .boolean) ∈ WL := wl_in (wt_8 (List.mem_of_getElem? (i := 74) rfl)) rfl
theorem k_971 : Cond.methodLink RX12 187 yX12_isIn ∈ WL := wl_in (wt_8 (List.mem_of_getElem? (i := 75) rfl)) rfl
theorem k_972 : Cond.static yX12_isIn ∈ WL := wl_in (wt_8 (List.mem_of_getElem? (i := 76) rfl)) rfl
theorem k_973 : Cond.initialized RX12 ∈ WL := wl_in (wt_1 (List.mem_of_getElem? (i := 12) rfl)) rfl
theorem k_974 : Cond.code yX12_isBride cX12_isBride 2 (some .boolean) ∈ WL := wl_in (wt_8 (List.mem_of_getElem? (i := 85) rfl)) rfl
theorem k_975 : Cond.code yX12_feed cX12_feed 8 (some .int) ∈ WL := wl_in (wt_7 (List.mem_of_getElem? (i := 156) rfl)) rfl
theorem k_976 : Cond.fieldLink RX12 191 "GivenAwayModel" "taped" "I" ∈ WL := wl_in (wt_6 (List.mem_of_getElem? (i := 197) rfl)) rfl
theorem k_977 : Cond.code yX12_byteAt cX12_byteAt 2 (some .int) ∈ WL := wl_in (wt_7 (List.mem_of_getElem? (i := 172) rfl)) rfl
theorem k_978 : Cond.fieldLink RX12 194 "GivenAwayModel" "size" "I" ∈ WL := wl_in (wt_6 (List.mem_of_getElem? (i := 199) rfl)) rfl
theorem k_979 : Cond.code yX12_isLetter cX12_isLetter 1 (some .boolean) ∈ WL := wl_in (wt_7 (List.mem_of_getElem? (i := 175) rfl)) rfl
theorem k_980 : Cond.code yX12_isDigit cX12_isDigit 1 (some .boolean) ∈ WL := wl_in (wt_7 (List.mem_of_getElem? (i := 178) rfl)) rfl
theorem k_981 : Cond.code yX12_isMark cX12_isMark 1 (some .boolean) ∈ WL := wl_in (wt_7 (List.mem_of_getElem? (i := 183) rfl)) rfl
theorem k_982 : Cond.fieldLink RX12 197 "GivenAwayModel" "at" "I" ∈ WL := wl_in (wt_6 (List.mem_of_getElem? (i := 198) rfl)) rfl
theorem k_983 : Cond.fieldLink RX12 204 "GivenAwayModel" "begins" "I" ∈ WL := wl_in (wt_6 (List.mem_of_getElem? (i := 202) rfl)) rfl
theorem k_984 : Cond.fieldLink RX12 207 "GivenAwayModel" "token" "I" ∈ WL := wl_in (wt_6 (List.mem_of_getElem? (i := 200) rfl)) rfl
theorem k_985 : Cond.fieldLink RX12 217 "GivenAwayModel" "number" "I" ∈ WL := wl_in (wt_6 (List.mem_of_getElem? (i := 201) rfl)) rfl
theorem k_986 : Cond.constant RX12 220 (100000) ∈ WL := wl_in (wt_7 (List.mem_of_getElem? (i := 179) rfl)) rfl
theorem k_987 : Cond.methodLink RX12 221 Lib.Math.min.name ∈ WL := wl_in (wt_7 (List.mem_of_getElem? (i := 180) rfl)) rfl
theorem k_988 : Cond.fieldLink RX12 230 "GivenAwayModel" "stops" "I" ∈ WL := wl_in (wt_6 (List.mem_of_getElem? (i := 203) rfl)) rfl
theorem k_989 : Cond.methodLink RX12 200 yX12_byteAt ∈ WL := wl_in (wt_7 (List.mem_of_getElem? (i := 169) rfl)) rfl
theorem k_990 : Cond.instanceMethod yX12_byteAt ∈ WL := wl_in (wt_7 (List.mem_of_getElem? (i := 171) rfl)) rfl
theorem k_991 : Cond.selects RX12 yX12_byteAt yX12_byteAt ∈ WL := wl_in (wps (wp_4 (List.mem_of_getElem? (i := 7) rfl))) rfl
theorem k_992 : Cond.methodLink RX12 210 yX12_isLetter ∈ WL := wl_in (wt_7 (List.mem_of_getElem? (i := 173) rfl)) rfl
theorem k_993 : Cond.static yX12_isLetter ∈ WL := wl_in (wt_7 (List.mem_of_getElem? (i := 174) rfl)) rfl
theorem k_994 : Cond.methodLink RX12 214 yX12_isDigit ∈ WL := wl_in (wt_7 (List.mem_of_getElem? (i := 176) rfl)) rfl
theorem k_995 : Cond.static yX12_isDigit ∈ WL := wl_in (wt_7 (List.mem_of_getElem? (i := 177) rfl)) rfl
theorem k_996 : Cond.methodLink RX12 227 yX12_isMark ∈ WL := wl_in (wt_7 (List.mem_of_getElem? (i := 181) rfl)) rfl
theorem k_997 : Cond.static yX12_isMark ∈ WL := wl_in (wt_7 (List.mem_of_getElem? (i := 182) rfl)) rfl
theorem k_998 : Cond.code yX12_stepOn cX12_stepOn 2 none ∈ WL := wl_in (wt_7 (List.mem_of_getElem? (i := 168) rfl)) rfl
theorem k_999 : Cond.code yX12_wrong cX12_wrong 2 none ∈ WL := wl_in (wt_7 (List.mem_of_getElem? (i := 203) rfl)) rfl
theorem k_1000 : Cond.fieldLink RX12 233 "GivenAwayModel" "bad" "I" ∈ WL := wl_in (wt_6 (List.mem_of_getElem? (i := 204) rfl)) rfl
theorem k_1001 : Cond.fieldLink RX12 236 "GivenAwayModel" "badPlace" "I" ∈ WL := wl_in (wt_6 (List.mem_of_getElem? (i := 205) rfl)) rfl
theorem k_1002 : Cond.methodLink RX12 239 yJ0_length_8abf5 ∈ WL := wl_in (wt_7 (List.mem_of_getElem? (i := 196) rfl)) rfl
theorem k_1003 : Cond.methodLink RX12 243 yJ0_charAt_5068e ∈ WL := wl_in (wt_7 (List.mem_of_getElem? (i := 197) rfl)) rfl
theorem k_1004 : Cond.code yX12_is cX12_is 4 (some .boolean) ∈ WL := wl_in (wt_7 (List.mem_of_getElem? (i := 195) rfl)) rfl
theorem k_1005 : Cond.methodLink RX12 247 yX12_is ∈ WL := wl_in (wt_7 (List.mem_of_getElem? (i := 192) rfl)) rfl
theorem k_1006 : Cond.instanceMethod yX12_is ∈ WL := wl_in (wt_7 (List.mem_of_getElem? (i := 194) rfl)) rfl
theorem k_1007 : Cond.selects RX12 yX12_is yX12_is ∈ WL := wl_in (wps (wp_4 (List.mem_of_getElem? (i := 10) rfl))) rfl
theorem k_1008 : Cond.code yX12_which cX12_which 3 (some .int) ∈ WL := wl_in (wt_7 (List.mem_of_getElem? (i := 191) rfl)) rfl
theorem k_1009 : Cond.code yX12_isMarked cX12_isMarked 2 (some .boolean) ∈ WL := wl_in (wt_7 (List.mem_of_getElem? (i := 211) rfl)) rfl
theorem k_1010 : Cond.methodLink RX12 251 yX12_isMarked ∈ WL := wl_in (wt_7 (List.mem_of_getElem? (i := 208) rfl)) rfl
theorem k_1011 : Cond.instanceMethod yX12_isMarked ∈ WL := wl_in (wt_7 (List.mem_of_getElem? (i := 210) rfl)) rfl
theorem k_1012 : Cond.selects RX12 yX12_isMarked yX12_isMarked ∈ WL := wl_in (wps (wp_4 (List.mem_of_getElem? (i := 13) rfl))) rfl
theorem k_1013 : Cond.methodLink RX12 254 yX12_wrong ∈ WL := wl_in (wt_7 (List.mem_of_getElem? (i := 200) rfl)) rfl
theorem k_1014 : Cond.instanceMethod yX12_wrong ∈ WL := wl_in (wt_7 (List.mem_of_getElem? (i := 202) rfl)) rfl
theorem k_1015 : Cond.selects RX12 yX12_wrong yX12_wrong ∈ WL := wl_in (wps (wp_4 (List.mem_of_getElem? (i := 11) rfl))) rfl
theorem k_1016 : Cond.methodLink RX12 258 yX12_stepOn ∈ WL := wl_in (wt_7 (List.mem_of_getElem? (i := 165) rfl)) rfl
theorem k_1017 : Cond.instanceMethod yX12_stepOn ∈ WL := wl_in (wt_7 (List.mem_of_getElem? (i := 167) rfl)) rfl
theorem k_1018 : Cond.selects RX12 yX12_stepOn yX12_stepOn ∈ WL := wl_in (wps (wp_4 (List.mem_of_getElem? (i := 6) rfl))) rfl
theorem k_1019 : Cond.code yX12_mark cX12_mark 2 none ∈ WL := wl_in (wt_8 (List.mem_of_getElem? (i := 8) rfl)) rfl
theorem k_1020 : Cond.code yX12_numberNow cX12_numberNow 3 (some .int) ∈ WL := wl_in (wt_8 (List.mem_of_getElem? (i := 0) rfl)) rfl
theorem k_1021 : Cond.methodLink RX12 261 yX12_numberNow ∈ WL := wl_in (wt_7 (List.mem_of_getElem? (i := 237) rfl)) rfl
theorem k_1022 : Cond.instanceMethod yX12_numberNow ∈ WL := wl_in (wt_7 (List.mem_of_getElem? (i := 239) rfl)) rfl
theorem k_1023 : Cond.selects RX12 yX12_numberNow yX12_numberNow ∈ WL := wl_in (wps (wp_5 (List.mem_of_getElem? (i := 4) rfl))) rfl
theorem k_1024 : Cond.code yX12_readNumber cX12_readNumber 4 (some .int) ∈ WL := wl_in (wt_7 (List.mem_of_getElem? (i := 236) rfl)) rfl
theorem k_1025 : Cond.code yX12_oneNow cX12_oneNow 3 (some .int) ∈ WL := wl_in (wt_8 (List.mem_of_getElem? (i := 32) rfl)) rfl
theorem k_1026 : Cond.code yX12_lay cX12_lay 4 none ∈ WL := wl_in (wt_8 (List.mem_of_getElem? (i := 4) rfl)) rfl
theorem k_1027 : Cond.fieldLink RX12 264 "GivenAwayModel" "ofMourning" "Z" ∈ WL := wl_in (wt_6 (List.mem_of_getElem? (i := 207) rfl)) rfl
theorem k_1028 : Cond.methodLink RX12 295 yX12_readNot ∈ WL := wl_in (wt_7 (List.mem_of_getElem? (i := 216) rfl)) rfl
theorem k_1029 : Cond.instanceMethod yX12_readNot ∈ WL := wl_in (wt_7 (List.mem_of_getElem? (i := 218) rfl)) rfl
theorem k_1030 : Cond.selects RX12 yX12_readNot yX12_readNot ∈ WL := wl_in (wps (wp_4 (List.mem_of_getElem? (i := 15) rfl))) rfl
theorem k_1031 : Cond.methodLink RX12 271 yX12_lay ∈ WL := wl_in (wt_8 (List.mem_of_getElem? (i := 1) rfl)) rfl
theorem k_1032 : Cond.instanceMethod yX12_lay ∈ WL := wl_in (wt_8 (List.mem_of_getElem? (i := 3) rfl)) rfl
theorem k_1033 : Cond.selects RX12 yX12_lay yX12_lay ∈ WL := wl_in (wps (wp_5 (List.mem_of_getElem? (i := 5) rfl))) rfl
theorem k_1034 : Cond.code yX12_readExpression cX12_readExpression 3 none ∈ WL := wl_in (wt_7 (List.mem_of_getElem? (i := 207) rfl)) rfl
theorem k_1035 : Cond.methodLink RX12 300 yX12_readAnd ∈ WL := wl_in (wt_7 (List.mem_of_getElem? (i := 212) rfl)) rfl
theorem k_1036 : Cond.instanceMethod yX12_readAnd ∈ WL := wl_in (wt_7 (List.mem_of_getElem? (i := 214) rfl)) rfl
theorem k_1037 : Cond.selects RX12 yX12_readAnd yX12_readAnd ∈ WL := wl_in (wps (wp_4 (List.mem_of_getElem? (i := 14) rfl))) rfl
theorem k_1038 : Cond.code yX12_readNot cX12_readNot 4 none ∈ WL := wl_in (wt_7 (List.mem_of_getElem? (i := 219) rfl)) rfl
theorem k_1039 : Cond.methodLink RX12 292 yX12_readSum ∈ WL := wl_in (wt_7 (List.mem_of_getElem? (i := 221) rfl)) rfl
theorem k_1040 : Cond.instanceMethod yX12_readSum ∈ WL := wl_in (wt_7 (List.mem_of_getElem? (i := 223) rfl)) rfl
theorem k_1041 : Cond.selects RX12 yX12_readSum yX12_readSum ∈ WL := wl_in (wps (wp_5 (List.mem_of_getElem? (i := 0) rfl))) rfl
theorem k_1042 : Cond.code yX12_readPart cX12_readPart 3 none ∈ WL := wl_in (wt_7 (List.mem_of_getElem? (i := 232) rfl)) rfl
theorem k_1043 : Cond.methodLink RX12 268 yX12_readNumber ∈ WL := wl_in (wt_7 (List.mem_of_getElem? (i := 233) rfl)) rfl
theorem k_1044 : Cond.instanceMethod yX12_readNumber ∈ WL := wl_in (wt_7 (List.mem_of_getElem? (i := 235) rfl)) rfl
theorem k_1045 : Cond.selects RX12 yX12_readNumber yX12_readNumber ∈ WL := wl_in (wps (wp_5 (List.mem_of_getElem? (i := 3) rfl))) rfl
theorem k_1046 : Cond.methodLink RX12 274 yX12_which ∈ WL := wl_in (wt_7 (List.mem_of_getElem? (i := 188) rfl)) rfl
theorem k_1047 : Cond.instanceMethod yX12_which ∈ WL := wl_in (wt_7 (List.mem_of_getElem? (i := 190) rfl)) rfl
theorem k_1048 : Cond.selects RX12 yX12_which yX12_which ∈ WL := wl_in (wps (wp_4 (List.mem_of_getElem? (i := 9) rfl))) rfl
theorem k_1049 : Cond.methodLink RX12 278 yX12_mark ∈ WL := wl_in (wt_8 (List.mem_of_getElem? (i := 5) rfl)) rfl
theorem k_1050 : Cond.instanceMethod yX12_mark ∈ WL := wl_in (wt_8 (List.mem_of_getElem? (i := 7) rfl)) rfl
theorem k_1051 : Cond.selects RX12 yX12_mark yX12_mark ∈ WL := wl_in (wps (wp_5 (List.mem_of_getElem? (i := 6) rfl))) rfl
theorem k_1052 : Cond.methodLink RX12 281 yX12_readExpression ∈ WL := wl_in (wt_7 (List.mem_of_getElem? (i := 204) rfl)) rfl
theorem k_1053 : Cond.instanceMethod yX12_readExpression ∈ WL := wl_in (wt_7 (List.mem_of_getElem? (i := 206) rfl)) rfl
theorem k_1054 : Cond.selects RX12 yX12_readExpression yX12_readExpression ∈ WL := wl_in (wps (wp_4 (List.mem_of_getElem? (i := 12) rfl))) rfl
theorem k_1055 : Cond.code yX12_readProduct cX12_readProduct 3 none ∈ WL := wl_in (wt_7 (List.mem_of_getElem? (i := 228) rfl)) rfl
theorem k_1056 : Cond.methodLink RX12 284 yX12_readPart ∈ WL := wl_in (wt_7 (List.mem_of_getElem? (i := 229) rfl)) rfl
theorem k_1057 : Cond.instanceMethod yX12_readPart ∈ WL := wl_in (wt_7 (List.mem_of_getElem? (i := 231) rfl)) rfl
theorem k_1058 : Cond.selects RX12 yX12_readPart yX12_readPart ∈ WL := wl_in (wps (wp_5 (List.mem_of_getElem? (i := 2) rfl))) rfl
theorem k_1059 : Cond.code yX12_readSum cX12_readSum 3 none ∈ WL := wl_in (wt_7 (List.mem_of_getElem? (i := 224) rfl)) rfl
theorem k_1060 : Cond.methodLink RX12 287 yX12_readProduct ∈ WL := wl_in (wt_7 (List.mem_of_getElem? (i := 225) rfl)) rfl
theorem k_1061 : Cond.instanceMethod yX12_readProduct ∈ WL := wl_in (wt_7 (List.mem_of_getElem? (i := 227) rfl)) rfl
theorem k_1062 : Cond.selects RX12 yX12_readProduct yX12_readProduct ∈ WL := wl_in (wps (wp_5 (List.mem_of_getElem? (i := 1) rfl))) rfl
theorem k_1063 : Cond.code yX12_readAnd cX12_readAnd 2 none ∈ WL := wl_in (wt_7 (List.mem_of_getElem? (i := 215) rfl)) rfl
theorem k_1064 : Cond.code yX12_another cX12_another 3 (some .boolean) ∈ WL := wl_in (wt_8 (List.mem_of_getElem? (i := 18) rfl)) rfl
theorem k_1065 : Cond.methodLink RX12 305 yX12_another ∈ WL := wl_in (wt_8 (List.mem_of_getElem? (i := 15) rfl)) rfl
theorem k_1066 : Cond.instanceMethod yX12_another ∈ WL := wl_in (wt_8 (List.mem_of_getElem? (i := 17) rfl)) rfl
theorem k_1067 : Cond.selects RX12 yX12_another yX12_another ∈ WL := wl_in (wps (wp_5 (List.mem_of_getElem? (i := 8) rfl))) rfl
theorem k_1068 : Cond.code yX12_sayPerson cX12_sayPerson 3 none ∈ WL := wl_in (wt_8 (List.mem_of_getElem? (i := 14) rfl)) rfl
theorem k_1069 : Cond.code yX12_sayBride cX12_sayBride 1 none ∈ WL := wl_in (wt_8 (List.mem_of_getElem? (i := 23) rfl)) rfl
theorem k_1070 : Cond.methodLink RX12 309 yX12_oneNow ∈ WL := wl_in (wt_8 (List.mem_of_getElem? (i := 29) rfl)) rfl
theorem k_1071 : Cond.instanceMethod yX12_oneNow ∈ WL := wl_in (wt_8 (List.mem_of_getElem? (i := 31) rfl)) rfl
theorem k_1072 : Cond.selects RX12 yX12_oneNow yX12_oneNow ∈ WL := wl_in (wps (wp_5 (List.mem_of_getElem? (i := 11) rfl))) rfl
theorem k_1073 : Cond.code yX12_sayTie cX12_sayTie 5 none ∈ WL := wl_in (wt_8 (List.mem_of_getElem? (i := 28) rfl)) rfl
theorem k_1074 : Cond.methodLink RX12 316 yX12_sayPerson ∈ WL := wl_in (wt_8 (List.mem_of_getElem? (i := 11) rfl)) rfl
theorem k_1075 : Cond.instanceMethod yX12_sayPerson ∈ WL := wl_in (wt_8 (List.mem_of_getElem? (i := 13) rfl)) rfl
theorem k_1076 : Cond.selects RX12 yX12_sayPerson yX12_sayPerson ∈ WL := wl_in (wps (wp_5 (List.mem_of_getElem? (i := 7) rfl))) rfl
theorem k_1077 : Cond.methodLink RX12 321 yX12_sayBride ∈ WL := wl_in (wt_8 (List.mem_of_getElem? (i := 20) rfl)) rfl
theorem k_1078 : Cond.instanceMethod yX12_sayBride ∈ WL := wl_in (wt_8 (List.mem_of_getElem? (i := 22) rfl)) rfl
theorem k_1079 : Cond.selects RX12 yX12_sayBride yX12_sayBride ∈ WL := wl_in (wps (wp_5 (List.mem_of_getElem? (i := 9) rfl))) rfl
theorem k_1080 : Cond.methodLink RX12 326 yX12_sayTie ∈ WL := wl_in (wt_8 (List.mem_of_getElem? (i := 25) rfl)) rfl
theorem k_1081 : Cond.instanceMethod yX12_sayTie ∈ WL := wl_in (wt_8 (List.mem_of_getElem? (i := 27) rfl)) rfl
theorem k_1082 : Cond.selects RX12 yX12_sayTie yX12_sayTie ∈ WL := wl_in (wps (wp_5 (List.mem_of_getElem? (i := 10) rfl))) rfl
theorem k_1083 : Cond.code yX12_readLine cX12_readLine 4 (some .int) ∈ WL := wl_in (wt_7 (List.mem_of_getElem? (i := 187) rfl)) rfl
theorem k_1084 : Cond.code yX12_takeHalf cX12_takeHalf 2 none ∈ WL := wl_in (wt_8 (List.mem_of_getElem? (i := 39) rfl)) rfl
theorem k_1085 : Cond.fieldLink RX12 342 "GivenAwayModel" "day" "I" ∈ WL := wl_in (wt_6 (List.mem_of_getElem? (i := 217) rfl)) rfl
theorem k_1086 : Cond.fieldLink RX12 344 "GivenAwayModel" "dogs" "I" ∈ WL := wl_in (wt_6 (List.mem_of_getElem? (i := 218) rfl)) rfl
theorem k_1087 : Cond.fieldLink RX12 347 "GivenAwayModel" "acts" "I" ∈ WL := wl_in (wt_6 (List.mem_of_getElem? (i := 219) rfl)) rfl
theorem k_1088 : Cond.fieldLink RX12 350 "GivenAwayModel" "seen" "I" ∈ WL := wl_in (wt_6 (List.mem_of_getElem? (i := 220) rfl)) rfl
theorem k_1089 : Cond.fieldLink RX12 353 "GivenAwayModel" "hasImage" "Z" ∈ WL := wl_in (wt_6 (List.mem_of_getElem? (i := 239) rfl)) rfl
theorem k_1090 : Cond.methodLink RX12 338 yX12_takeHalf ∈ WL := wl_in (wt_8 (List.mem_of_getElem? (i := 37) rfl)) rfl
theorem k_1091 : Cond.static yX12_takeHalf ∈ WL := wl_in (wt_8 (List.mem_of_getElem? (i := 38) rfl)) rfl
theorem k_1092 : Cond.code yX12_takeOver cX12_takeOver 3 none ∈ WL := wl_in (wt_8 (List.mem_of_getElem? (i := 36) rfl)) rfl
theorem k_1093 : Cond.methodLink RX12 329 yX12_fail ∈ WL := wl_in (wt_7 (List.mem_of_getElem? (i := 161) rfl)) rfl
theorem k_1094 : Cond.instanceMethod yX12_fail ∈ WL := wl_in (wt_7 (List.mem_of_getElem? (i := 163) rfl)) rfl
theorem k_1095 : Cond.selects RX12 yX12_fail yX12_fail ∈ WL := wl_in (wps (wp_4 (List.mem_of_getElem? (i := 5) rfl))) rfl
theorem k_1096 : Cond.methodLink RX12 332 yX12_readLine ∈ WL := wl_in (wt_7 (List.mem_of_getElem? (i := 184) rfl)) rfl
theorem k_1097 : Cond.instanceMethod yX12_readLine ∈ WL := wl_in (wt_7 (List.mem_of_getElem? (i := 186) rfl)) rfl
theorem k_1098 : Cond.selects RX12 yX12_readLine yX12_readLine ∈ WL := wl_in (wps (wp_4 (List.mem_of_getElem? (i := 8) rfl))) rfl
theorem k_1099 : Cond.methodLink RX12 335 yX12_takeOver ∈ WL := wl_in (wt_8 (List.mem_of_getElem? (i := 33) rfl)) rfl
theorem k_1100 : Cond.instanceMethod yX12_takeOver ∈ WL := wl_in (wt_8 (List.mem_of_getElem? (i := 35) rfl)) rfl
theorem k_1101 : Cond.selects RX12 yX12_takeOver yX12_takeOver ∈ WL := wl_in (wps (wp_5 (List.mem_of_getElem? (i := 12) rfl))) rfl
theorem k_1102 : Cond.code yX12_dale cX12_dale 3 (some .int) ∈ WL := wl_in (wt_7 (List.mem_of_getElem? (i := 160) rfl)) rfl
theorem k_1103 : Cond.code yX12_fault cX12_fault 1 (some .int) ∈ WL := wl_in (wt_8 (List.mem_of_getElem? (i := 43) rfl)) rfl
theorem k_1104 : Cond.code yX12_pack cX12_pack 5 none ∈ WL := wl_in (wt_8 (List.mem_of_getElem? (i := 134) rfl)) rfl
theorem k_1105 : Cond.code yX12_unpack cX12_unpack 5 none ∈ WL := wl_in (wt_8 (List.mem_of_getElem? (i := 181) rfl)) rfl
theorem k_1106 : Cond.code yX12_reckon cX12_reckon 3 (some .int) ∈ WL := wl_in (wt_8 (List.mem_of_getElem? (i := 109) rfl)) rfl
theorem k_1107 : Cond.code yX12_valueNow cX12_valueNow 6 (some .int) ∈ WL := wl_in (wt_8 (List.mem_of_getElem? (i := 106) rfl)) rfl
theorem k_1108 : Cond.methodLink RX12 356 yX12_reckon ∈ WL := wl_in (wt_8 (List.mem_of_getElem? (i := 107) rfl)) rfl
theorem k_1109 : Cond.static yX12_reckon ∈ WL := wl_in (wt_8 (List.mem_of_getElem? (i := 108) rfl)) rfl
theorem k_1110 : Cond.code yX12_ask cX12_ask 2 none ∈ WL := wl_in (wt_8 (List.mem_of_getElem? (i := 101) rfl)) rfl
theorem k_1111 : Cond.methodLink RX12 360 yX12_bitsOf ∈ WL := wl_in (wt_8 (List.mem_of_getElem? (i := 56) rfl)) rfl
theorem k_1112 : Cond.static yX12_bitsOf ∈ WL := wl_in (wt_8 (List.mem_of_getElem? (i := 57) rfl)) rfl
theorem k_1113 : Cond.code yX12_tiedTo cX12_tiedTo 4 (some .int) ∈ WL := wl_in (wt_8 (List.mem_of_getElem? (i := 89) rfl)) rfl
theorem k_1114 : Cond.code yX12_tiesOf cX12_tiesOf 4 (some .int) ∈ WL := wl_in (wt_8 (List.mem_of_getElem? (i := 55) rfl)) rfl
theorem k_1115 : Cond.methodLink RX12 366 Lib.Math.max.name ∈ WL := wl_in (wt_8 (List.mem_of_getElem? (i := 102) rfl)) rfl
theorem k_1116 : Cond.methodLink RX12 363 yX12_ask ∈ WL := wl_in (wt_8 (List.mem_of_getElem? (i := 98) rfl)) rfl
theorem k_1117 : Cond.instanceMethod yX12_ask ∈ WL := wl_in (wt_8 (List.mem_of_getElem? (i := 100) rfl)) rfl
theorem k_1118 : Cond.selects RX12 yX12_ask yX12_ask ∈ WL := wl_in (wps (wp_6 (List.mem_of_getElem? (i := 6) rfl))) rfl
theorem k_1119 : Cond.methodLink RX12 369 yX12_tiedTo ∈ WL := wl_in (wt_8 (List.mem_of_getElem? (i := 86) rfl)) rfl
theorem k_1120 : Cond.instanceMethod yX12_tiedTo ∈ WL := wl_in (wt_8 (List.mem_of_getElem? (i := 88) rfl)) rfl
theorem k_1121 : Cond.selects RX12 yX12_tiedTo yX12_tiedTo ∈ WL := wl_in (wps (wp_6 (List.mem_of_getElem? (i := 3) rfl))) rfl
theorem k_1122 : Cond.methodLink RX12 372 yX12_valueNow ∈ WL := wl_in (wt_8 (List.mem_of_getElem? (i := 103) rfl)) rfl
theorem k_1123 : Cond.instanceMethod yX12_valueNow ∈ WL := wl_in (wt_8 (List.mem_of_getElem? (i := 105) rfl)) rfl
theorem k_1124 : Cond.selects RX12 yX12_valueNow yX12_valueNow ∈ WL := wl_in (wps (wp_6 (List.mem_of_getElem? (i := 7) rfl))) rfl
theorem k_1125 : Cond.code yX12_weightOf cX12_weightOf 5 (some .int) ∈ WL := wl_in (wt_8 (List.mem_of_getElem? (i := 97) rfl)) rfl
theorem k_1126 : Cond.methodLink RX12 376 yX12_weightOf ∈ WL := wl_in (wt_8 (List.mem_of_getElem? (i := 94) rfl)) rfl
theorem k_1127 : Cond.instanceMethod yX12_weightOf ∈ WL := wl_in (wt_8 (List.mem_of_getElem? (i := 96) rfl)) rfl
theorem k_1128 : Cond.selects RX12 yX12_weightOf yX12_weightOf ∈ WL := wl_in (wps (wp_6 (List.mem_of_getElem? (i := 5) rfl))) rfl
theorem k_1129 : Cond.code yX12_heaviest cX12_heaviest 6 (some .int) ∈ WL := wl_in (wt_8 (List.mem_of_getElem? (i := 93) rfl)) rfl
theorem k_1130 : Cond.methodLink RX12 379 yX12_heaviest ∈ WL := wl_in (wt_8 (List.mem_of_getElem? (i := 90) rfl)) rfl
theorem k_1131 : Cond.instanceMethod yX12_heaviest ∈ WL := wl_in (wt_8 (List.mem_of_getElem? (i := 92) rfl)) rfl
theorem k_1132 : Cond.selects RX12 yX12_heaviest yX12_heaviest ∈ WL := wl_in (wps (wp_6 (List.mem_of_getElem? (i := 4) rfl))) rfl
theorem k_1133 : Cond.code yX12_leaderNow cX12_leaderNow 3 (some .int) ∈ WL := wl_in (wt_8 (List.mem_of_getElem? (i := 150) rfl)) rfl
theorem k_1134 : Cond.methodLink RX12 382 yX12_leaderNow ∈ WL := wl_in (wt_8 (List.mem_of_getElem? (i := 147) rfl)) rfl
theorem k_1135 : Cond.instanceMethod yX12_leaderNow ∈ WL := wl_in (wt_8 (List.mem_of_getElem? (i := 149) rfl)) rfl
theorem k_1136 : Cond.selects RX12 yX12_leaderNow yX12_leaderNow ∈ WL := wl_in (wps (wp_6 (List.mem_of_getElem? (i := 14) rfl))) rfl
theorem k_1137 : Cond.code yX12_lead cX12_lead 3 none ∈ WL := wl_in (wt_8 (List.mem_of_getElem? (i := 146) rfl)) rfl
theorem k_1138 : Cond.code yX12_mournsOf cX12_mournsOf 2 (some .int) ∈ WL := wl_in (wt_8 (List.mem_of_getElem? (i := 154) rfl)) rfl
theorem k_1139 : Cond.methodLink RX12 385 yX12_lead ∈ WL := wl_in (wt_8 (List.mem_of_getElem? (i := 143) rfl)) rfl
theorem k_1140 : Cond.instanceMethod yX12_lead ∈ WL := wl_in (wt_8 (List.mem_of_getElem? (i := 145) rfl)) rfl
theorem k_1141 : Cond.selects RX12 yX12_lead yX12_lead ∈ WL := wl_in (wps (wp_6 (List.mem_of_getElem? (i := 13) rfl))) rfl
theorem k_1142 : Cond.methodLink RX12 388 yX12_mournsOf ∈ WL := wl_in (wt_8 (List.mem_of_getElem? (i := 151) rfl)) rfl
theorem k_1143 : Cond.instanceMethod yX12_mournsOf ∈ WL := wl_in (wt_8 (List.mem_of_getElem? (i := 153) rfl)) rfl
theorem k_1144 : Cond.selects RX12 yX12_mournsOf yX12_mournsOf ∈ WL := wl_in (wps (wp_6 (List.mem_of_getElem? (i := 15) rfl))) rfl
theorem k_1145 : Cond.code yX12_aDay cX12_aDay 2 none ∈ WL := wl_in (wt_8 (List.mem_of_getElem? (i := 142) rfl)) rfl
theorem k_1146 : Cond.methodLink RX12 391 yX12_aDay ∈ WL := wl_in (wt_8 (List.mem_of_getElem? (i := 139) rfl)) rfl
theorem k_1147 : Cond.instanceMethod yX12_aDay ∈ WL := wl_in (wt_8 (List.mem_of_getElem? (i := 141) rfl)) rfl
theorem k_1148 : Cond.selects RX12 yX12_aDay yX12_aDay ∈ WL := wl_in (wps (wp_6 (List.mem_of_getElem? (i := 12) rfl))) rfl
theorem k_1149 : Cond.code yX12_goOn cX12_goOn 3 none ∈ WL := wl_in (wt_8 (List.mem_of_getElem? (i := 138) rfl)) rfl
theorem k_1150 : Cond.code yX12_atHome cX12_atHome 3 (some .int) ∈ WL := wl_in (wt_8 (List.mem_of_getElem? (i := 62) rfl)) rfl
theorem k_1151 : Cond.code yX12_allGrief cX12_allGrief 3 (some .int) ∈ WL := wl_in (wt_8 (List.mem_of_getElem? (i := 66) rfl)) rfl
theorem k_1152 : Cond.code yX12_tieMany cX12_tieMany 3 (some .int) ∈ WL := wl_in (wt_8 (List.mem_of_getElem? (i := 51) rfl)) rfl
theorem k_1153 : Cond.methodLink RX12 394 yX12_tiesOf ∈ WL := wl_in (wt_8 (List.mem_of_getElem? (i := 52) rfl)) rfl
theorem k_1154 : Cond.instanceMethod yX12_tiesOf ∈ WL := wl_in (wt_8 (List.mem_of_getElem? (i := 54) rfl)) rfl
theorem k_1155 : Cond.selects RX12 yX12_tiesOf yX12_tiesOf ∈ WL := wl_in (wps (wp_5 (List.mem_of_getElem? (i := 14) rfl))) rfl
theorem k_1156 : Cond.methodLink RX12 397 yX12_tieMany ∈ WL := wl_in (wt_8 (List.mem_of_getElem? (i := 48) rfl)) rfl
theorem k_1157 : Cond.instanceMethod yX12_tieMany ∈ WL := wl_in (wt_8 (List.mem_of_getElem? (i := 50) rfl)) rfl
theorem k_1158 : Cond.selects RX12 yX12_tieMany yX12_tieMany ∈ WL := wl_in (wps (wp_5 (List.mem_of_getElem? (i := 13) rfl))) rfl
theorem k_1159 : Cond.methodLink RX12 400 yX12_atHome ∈ WL := wl_in (wt_8 (List.mem_of_getElem? (i := 59) rfl)) rfl
theorem k_1160 : Cond.instanceMethod yX12_atHome ∈ WL := wl_in (wt_8 (List.mem_of_getElem? (i := 61) rfl)) rfl
theorem k_1161 : Cond.selects RX12 yX12_atHome yX12_atHome ∈ WL := wl_in (wps (wp_5 (List.mem_of_getElem? (i := 15) rfl))) rfl
theorem k_1162 : Cond.methodLink RX12 403 yX12_allGrief ∈ WL := wl_in (wt_8 (List.mem_of_getElem? (i := 63) rfl)) rfl
theorem k_1163 : Cond.instanceMethod yX12_allGrief ∈ WL := wl_in (wt_8 (List.mem_of_getElem? (i := 65) rfl)) rfl
theorem k_1164 : Cond.selects RX12 yX12_allGrief yX12_allGrief ∈ WL := wl_in (wps (wp_6 (List.mem_of_getElem? (i := 0) rfl))) rfl
theorem k_1165 : Cond.code yX12_count cX12_count 2 (some .int) ∈ WL := wl_in (wt_8 (List.mem_of_getElem? (i := 47) rfl)) rfl
theorem k_1166 : Cond.code yX12_person cX12_person 3 (some .int) ∈ WL := wl_in (wt_8 (List.mem_of_getElem? (i := 70) rfl)) rfl
theorem k_1167 : Cond.methodLink RX12 406 yX12_isPerson ∈ WL := wl_in (wt_8 (List.mem_of_getElem? (i := 71) rfl)) rfl
theorem k_1168 : Cond.instanceMethod yX12_isPerson ∈ WL := wl_in (wt_8 (List.mem_of_getElem? (i := 73) rfl)) rfl
theorem k_1169 : Cond.selects RX12 yX12_isPerson yX12_isPerson ∈ WL := wl_in (wps (wp_6 (List.mem_of_getElem? (i := 1) rfl))) rfl
theorem k_1170 : Cond.methodLink RX12 409 yX12_isBride ∈ WL := wl_in (wt_8 (List.mem_of_getElem? (i := 82) rfl)) rfl
theorem k_1171 : Cond.instanceMethod yX12_isBride ∈ WL := wl_in (wt_8 (List.mem_of_getElem? (i := 84) rfl)) rfl
theorem k_1172 : Cond.selects RX12 yX12_isBride yX12_isBride ∈ WL := wl_in (wps (wp_6 (List.mem_of_getElem? (i := 2) rfl))) rfl
theorem k_1173 : Cond.code yX12_bride cX12_bride 3 (some .int) ∈ WL := wl_in (wt_8 (List.mem_of_getElem? (i := 81) rfl)) rfl
theorem k_1174 : Cond.code yX12_years cX12_years 3 (some .int) ∈ WL := wl_in (wt_8 (List.mem_of_getElem? (i := 113) rfl)) rfl
theorem k_1175 : Cond.code yX12_weight cX12_weight 3 (some .int) ∈ WL := wl_in (wt_8 (List.mem_of_getElem? (i := 117) rfl)) rfl
theorem k_1176 : Cond.code yX12_refuse cX12_refuse 2 (some .int) ∈ WL := wl_in (wt_8 (List.mem_of_getElem? (i := 126) rfl)) rfl
theorem k_1177 : Cond.code yX12_keep cX12_keep 2 none ∈ WL := wl_in (wt_8 (List.mem_of_getElem? (i := 130) rfl)) rfl
theorem k_1178 : Cond.methodLink RX12 412 yX12_pack ∈ WL := wl_in (wt_8 (List.mem_of_getElem? (i := 131) rfl)) rfl
theorem k_1179 : Cond.instanceMethod yX12_pack ∈ WL := wl_in (wt_8 (List.mem_of_getElem? (i := 133) rfl)) rfl
theorem k_1180 : Cond.selects RX12 yX12_pack yX12_pack ∈ WL := wl_in (wps (wp_6 (List.mem_of_getElem? (i := 10) rfl))) rfl
theorem k_1181 : Cond.constantLong RX12 416 (20) ∈ WL := wl_in (wt_8 (List.mem_of_getElem? (i := 122) rfl)) rfl
theorem k_1182 : Cond.methodLink RX12 418 yX12_refuse ∈ WL := wl_in (wt_8 (List.mem_of_getElem? (i := 123) rfl)) rfl
theorem k_1183 : Cond.instanceMethod yX12_refuse ∈ WL := wl_in (wt_8 (List.mem_of_getElem? (i := 125) rfl)) rfl
theorem k_1184 : Cond.selects RX12 yX12_refuse yX12_refuse ∈ WL := wl_in (wps (wp_6 (List.mem_of_getElem? (i := 8) rfl))) rfl
theorem k_1185 : Cond.methodLink RX12 421 yX12_keep ∈ WL := wl_in (wt_8 (List.mem_of_getElem? (i := 127) rfl)) rfl
theorem k_1186 : Cond.instanceMethod yX12_keep ∈ WL := wl_in (wt_8 (List.mem_of_getElem? (i := 129) rfl)) rfl
theorem k_1187 : Cond.selects RX12 yX12_keep yX12_keep ∈ WL := wl_in (wps (wp_6 (List.mem_of_getElem? (i := 9) rfl))) rfl
theorem k_1188 : Cond.methodLink RX12 424 yX12_goOn ∈ WL := wl_in (wt_8 (List.mem_of_getElem? (i := 135) rfl)) rfl
theorem k_1189 : Cond.instanceMethod yX12_goOn ∈ WL := wl_in (wt_8 (List.mem_of_getElem? (i := 137) rfl)) rfl
theorem k_1190 : Cond.selects RX12 yX12_goOn yX12_goOn ∈ WL := wl_in (wps (wp_6 (List.mem_of_getElem? (i := 11) rfl))) rfl
theorem k_1191 : Cond.code yX12_days cX12_days 2 (some .int) ∈ WL := wl_in (wt_8 (List.mem_of_getElem? (i := 121) rfl)) rfl
theorem k_1192 : Cond.constantLong RX12 427 (9) ∈ WL := wl_in (wt_8 (List.mem_of_getElem? (i := 159) rfl)) rfl
theorem k_1193 : Cond.code yX12_train cX12_train 4 (some .int) ∈ WL := wl_in (wt_8 (List.mem_of_getElem? (i := 158) rfl)) rfl
theorem k_1194 : Cond.code yX12_onions cX12_onions 3 (some .int) ∈ WL := wl_in (wt_8 (List.mem_of_getElem? (i := 163) rfl)) rfl
theorem k_1195 : Cond.constantLong RX12 429 (999) ∈ WL := wl_in (wt_8 (List.mem_of_getElem? (i := 168) rfl)) rfl
theorem k_1196 : Cond.code yX12_putOff cX12_putOff 4 (some .int) ∈ WL := wl_in (wt_8 (List.mem_of_getElem? (i := 167) rfl)) rfl
theorem k_1197 : Cond.constantLong RX12 431 (40) ∈ WL := wl_in (wt_8 (List.mem_of_getElem? (i := 173) rfl)) rfl
theorem k_1198 : Cond.code yX12_tie cX12_tie 5 (some .int) ∈ WL := wl_in (wt_8 (List.mem_of_getElem? (i := 172) rfl)) rfl
theorem k_1199 : Cond.code yX12_undo cX12_undo 1 (some .int) ∈ WL := wl_in (wt_8 (List.mem_of_getElem? (i := 177) rfl)) rfl
theorem k_1200 : Cond.methodLink RX12 433 yX12_unpack ∈ WL := wl_in (wt_8 (List.mem_of_getElem? (i := 178) rfl)) rfl
theorem k_1201 : Cond.instanceMethod yX12_unpack ∈ WL := wl_in (wt_8 (List.mem_of_getElem? (i := 180) rfl)) rfl
theorem k_1202 : Cond.selects RX12 yX12_unpack yX12_unpack ∈ WL := wl_in (wps (wp_7 (List.mem_of_getElem? (i := 0) rfl))) rfl
theorem k_1203 : Cond.code yX12_leaderOf cX12_leaderOf 3 (some .int) ∈ WL := wl_in (wt_8 (List.mem_of_getElem? (i := 189) rfl)) rfl
theorem k_1204 : Cond.methodLink RX12 436 yX12_leaderOf ∈ WL := wl_in (wt_8 (List.mem_of_getElem? (i := 186) rfl)) rfl
theorem k_1205 : Cond.instanceMethod yX12_leaderOf ∈ WL := wl_in (wt_8 (List.mem_of_getElem? (i := 188) rfl)) rfl
theorem k_1206 : Cond.selects RX12 yX12_leaderOf yX12_leaderOf ∈ WL := wl_in (wps (wp_7 (List.mem_of_getElem? (i := 1) rfl))) rfl
theorem k_1207 : Cond.code yX12_leader cX12_leader 2 (some .int) ∈ WL := wl_in (wt_8 (List.mem_of_getElem? (i := 185) rfl)) rfl
theorem k_1208 : Cond.constantLong RX12 439 (60) ∈ WL := wl_in (wt_8 (List.mem_of_getElem? (i := 194) rfl)) rfl
theorem k_1209 : Cond.code yX12_then cX12_then 4 (some .int) ∈ WL := wl_in (wt_8 (List.mem_of_getElem? (i := 193) rfl)) rfl
theorem k_1210 : Cond.code yX12_ledIn cX12_ledIn 5 (some .int) ∈ WL := wl_in (wt_8 (List.mem_of_getElem? (i := 202) rfl)) rfl
theorem k_1211 : Cond.methodLink RX12 441 yX12_ledIn ∈ WL := wl_in (wt_8 (List.mem_of_getElem? (i := 199) rfl)) rfl
theorem k_1212 : Cond.instanceMethod yX12_ledIn ∈ WL := wl_in (wt_8 (List.mem_of_getElem? (i := 201) rfl)) rfl
theorem k_1213 : Cond.selects RX12 yX12_ledIn yX12_ledIn ∈ WL := wl_in (wps (wp_7 (List.mem_of_getElem? (i := 2) rfl))) rfl
theorem k_1214 : Cond.code yX12_led cX12_led 3 (some .int) ∈ WL := wl_in (wt_8 (List.mem_of_getElem? (i := 198) rfl)) rfl
theorem k_1215 : Cond.code yX12_dog cX12_dog 3 (some .int) ∈ WL := wl_in (wt_8 (List.mem_of_getElem? (i := 206) rfl)) rfl
theorem k_1216 : Cond.code yX12_rank cX12_rank 7 (some .int) ∈ WL := wl_in (wt_8 (List.mem_of_getElem? (i := 210) rfl)) rfl
theorem k_1217 : Cond.code yX12_toTrain cX12_toTrain 6 (some .int) ∈ WL := wl_in (wt_8 (List.mem_of_getElem? (i := 214) rfl)) rfl
theorem k_1218 : Cond.code yX12_tellLeaders cX12_tellLeaders 2 none ∈ WL := wl_in (wt_8 (List.mem_of_getElem? (i := 222) rfl)) rfl
theorem k_1219 : Cond.methodLink RX12 444 yX12_tellLeaders ∈ WL := wl_in (wt_8 (List.mem_of_getElem? (i := 219) rfl)) rfl
theorem k_1220 : Cond.instanceMethod yX12_tellLeaders ∈ WL := wl_in (wt_8 (List.mem_of_getElem? (i := 221) rfl)) rfl
theorem k_1221 : Cond.selects RX12 yX12_tellLeaders yX12_tellLeaders ∈ WL := wl_in (wps (wp_7 (List.mem_of_getElem? (i := 3) rfl))) rfl
theorem k_1222 : Cond.methodLink RX12 447 yX12_isOf ∈ WL := wl_in (wt_8 (List.mem_of_getElem? (i := 223) rfl)) rfl
theorem k_1223 : Cond.static yX12_isOf ∈ WL := wl_in (wt_8 (List.mem_of_getElem? (i := 224) rfl)) rfl
theorem k_1224 : Cond.code yX12_instead cX12_instead 5 (some .int) ∈ WL := wl_in (wt_8 (List.mem_of_getElem? (i := 218) rfl)) rfl
theorem k_1225 : Cond.code yX12_weightOn cX12_weightOn 4 (some .int) ∈ WL := wl_in (wt_8 (List.mem_of_getElem? (i := 233) rfl)) rfl
theorem k_1226 : Cond.methodLink RX12 450 yX12_weightOn ∈ WL := wl_in (wt_8 (List.mem_of_getElem? (i := 230) rfl)) rfl
theorem k_1227 : Cond.instanceMethod yX12_weightOn ∈ WL := wl_in (wt_8 (List.mem_of_getElem? (i := 232) rfl)) rfl
theorem k_1228 : Cond.selects RX12 yX12_weightOn yX12_weightOn ∈ WL := wl_in (wps (wp_7 (List.mem_of_getElem? (i := 4) rfl))) rfl
theorem k_1229 : Cond.code yX12_bestDay cX12_bestDay 7 (some .int) ∈ WL := wl_in (wt_8 (List.mem_of_getElem? (i := 229) rfl)) rfl
theorem k_1230 : Cond.code yX12_with cX12_with 4 (some .int) ∈ WL := wl_in (wt_9 (List.mem_of_getElem? (i := 6) rfl)) rfl
theorem k_1231 : Cond.code yX12_mayLead cX12_mayLead 4 (some .boolean) ∈ WL := wl_in (wt_9 (List.mem_of_getElem? (i := 10) rfl)) rfl
theorem k_1232 : Cond.methodLink RX12 453 yX12_with ∈ WL := wl_in (wt_9 (List.mem_of_getElem? (i := 3) rfl)) rfl
theorem k_1233 : Cond.instanceMethod yX12_with ∈ WL := wl_in (wt_9 (List.mem_of_getElem? (i := 5) rfl)) rfl
theorem k_1234 : Cond.selects RX12 yX12_with yX12_with ∈ WL := wl_in (wps (wp_7 (List.mem_of_getElem? (i := 6) rfl))) rfl
theorem k_1235 : Cond.methodLink RX12 456 yX12_mayLead ∈ WL := wl_in (wt_9 (List.mem_of_getElem? (i := 7) rfl)) rfl
theorem k_1236 : Cond.instanceMethod yX12_mayLead ∈ WL := wl_in (wt_9 (List.mem_of_getElem? (i := 9) rfl)) rfl
theorem k_1237 : Cond.selects RX12 yX12_mayLead yX12_mayLead ∈ WL := wl_in (wps (wp_7 (List.mem_of_getElem? (i := 7) rfl))) rfl
theorem k_1238 : Cond.code yX12_tellMost cX12_tellMost 6 none ∈ WL := wl_in (wt_9 (List.mem_of_getElem? (i := 2) rfl)) rfl
theorem k_1239 : Cond.constantLong RX12 460 (-1) ∈ WL := wl_in (wt_8 (List.mem_of_getElem? (i := 238) rfl)) rfl
theorem k_1240 : Cond.methodLink RX12 462 yX12_tellMost ∈ WL := wl_in (wt_8 (List.mem_of_getElem? (i := 239) rfl)) rfl
theorem k_1241 : Cond.instanceMethod yX12_tellMost ∈ WL := wl_in (wt_9 (List.mem_of_getElem? (i := 1) rfl)) rfl
theorem k_1242 : Cond.selects RX12 yX12_tellMost yX12_tellMost ∈ WL := wl_in (wps (wp_7 (List.mem_of_getElem? (i := 5) rfl))) rfl
theorem k_1243 : Cond.code yX12_choice cX12_choice 6 (some .int) ∈ WL := wl_in (wt_8 (List.mem_of_getElem? (i := 237) rfl)) rfl
theorem k_1244 : Cond.code yX12_unloved cX12_unloved 3 (some .int) ∈ WL := wl_in (wt_9 (List.mem_of_getElem? (i := 14) rfl)) rfl
theorem k_1245 : Cond.code yX12_weights cX12_weights 5 (some .int) ∈ WL := wl_in (wt_9 (List.mem_of_getElem? (i := 22) rfl)) rfl
theorem k_1246 : Cond.methodLink RX12 465 yX12_weights ∈ WL := wl_in (wt_9 (List.mem_of_getElem? (i := 19) rfl)) rfl
theorem k_1247 : Cond.instanceMethod yX12_weights ∈ WL := wl_in (wt_9 (List.mem_of_getElem? (i := 21) rfl)) rfl
theorem k_1248 : Cond.selects RX12 yX12_weights yX12_weights ∈ WL := wl_in (wps (wp_7 (List.mem_of_getElem? (i := 8) rfl))) rfl
theorem k_1249 : Cond.code yX12_tug cX12_tug 6 (some .int) ∈ WL := wl_in (wt_9 (List.mem_of_getElem? (i := 18) rfl)) rfl
theorem k_1250 : Cond.code yX12_decisive cX12_decisive 7 (some .int) ∈ WL := wl_in (wt_9 (List.mem_of_getElem? (i := 26) rfl)) rfl
theorem k_1251 : Cond.code yX12_steps cX12_steps 8 (some .int) ∈ WL := wl_in (wt_9 (List.mem_of_getElem? (i := 30) rfl)) rfl
theorem k_1252 : Cond.code yX12_busiest cX12_busiest 6 (some .int) ∈ WL := wl_in (wt_9 (List.mem_of_getElem? (i := 34) rfl)) rfl
theorem k_1253 : Cond.code yX12_crowd cX12_crowd 7 (some .int) ∈ WL := wl_in (wt_9 (List.mem_of_getElem? (i := 38) rfl)) rfl
theorem k_1254 : Cond.code yX12_common cX12_common 3 (some .int) ∈ WL := wl_in (wt_9 (List.mem_of_getElem? (i := 42) rfl)) rfl
theorem k_1255 : Cond.code yX12_see cX12_see 6 (some .int) ∈ WL := wl_in (wt_9 (List.mem_of_getElem? (i := 46) rfl)) rfl
theorem k_1256 : Cond.code yX12_isAsSeen cX12_isAsSeen 4 (some .boolean) ∈ WL := wl_in (wt_9 (List.mem_of_getElem? (i := 55) rfl)) rfl
theorem k_1257 : Cond.fieldLink RX12 468 "GivenAwayModel" "fitMany" "I" ∈ WL := wl_in (wt_6 (List.mem_of_getElem? (i := 235) rfl)) rfl
theorem k_1258 : Cond.methodLink RX12 471 yX12_isAsSeen ∈ WL := wl_in (wt_9 (List.mem_of_getElem? (i := 52) rfl)) rfl
theorem k_1259 : Cond.instanceMethod yX12_isAsSeen ∈ WL := wl_in (wt_9 (List.mem_of_getElem? (i := 54) rfl)) rfl
theorem k_1260 : Cond.selects RX12 yX12_isAsSeen yX12_isAsSeen ∈ WL := wl_in (wps (wp_7 (List.mem_of_getElem? (i := 9) rfl))) rfl
theorem k_1261 : Cond.code yX12_tellFits cX12_tellFits 4 none ∈ WL := wl_in (wt_9 (List.mem_of_getElem? (i := 59) rfl)) rfl
theorem k_1262 : Cond.constantLong RX12 475 (2) ∈ WL := wl_in (wt_9 (List.mem_of_getElem? (i := 51) rfl)) rfl
theorem k_1263 : Cond.methodLink RX12 477 yX12_tellFits ∈ WL := wl_in (wt_9 (List.mem_of_getElem? (i := 56) rfl)) rfl
theorem k_1264 : Cond.instanceMethod yX12_tellFits ∈ WL := wl_in (wt_9 (List.mem_of_getElem? (i := 58) rfl)) rfl
theorem k_1265 : Cond.selects RX12 yX12_tellFits yX12_tellFits ∈ WL := wl_in (wps (wp_7 (List.mem_of_getElem? (i := 10) rfl))) rfl
theorem k_1266 : Cond.code yX12_hidden cX12_hidden 2 (some .int) ∈ WL := wl_in (wt_9 (List.mem_of_getElem? (i := 50) rfl)) rfl
theorem k_1267 : Cond.code yX12_unlike cX12_unlike 6 (some .int) ∈ WL := wl_in (wt_9 (List.mem_of_getElem? (i := 67) rfl)) rfl
theorem k_1268 : Cond.methodLink RX12 480 yX12_unlike ∈ WL := wl_in (wt_9 (List.mem_of_getElem? (i := 64) rfl)) rfl
theorem k_1269 : Cond.instanceMethod yX12_unlike ∈ WL := wl_in (wt_9 (List.mem_of_getElem? (i := 66) rfl)) rfl
theorem k_1270 : Cond.selects RX12 yX12_unlike yX12_unlike ∈ WL := wl_in (wps (wp_7 (List.mem_of_getElem? (i := 11) rfl))) rfl
theorem k_1271 : Cond.code yX12_next cX12_next 6 (some .int) ∈ WL := wl_in (wt_9 (List.mem_of_getElem? (i := 63) rfl)) rfl
theorem k_1272 : Cond.code yX12_forget cX12_forget 1 none ∈ WL := wl_in (wt_9 (List.mem_of_getElem? (i := 71) rfl)) rfl
theorem k_1273 : Cond.code yX12_choose cX12_choose 3 none ∈ WL := wl_in (wt_9 (List.mem_of_getElem? (i := 83) rfl)) rfl
theorem k_1274 : Cond.methodLink RX12 483 yX12_choose ∈ WL := wl_in (wt_9 (List.mem_of_getElem? (i := 80) rfl)) rfl
theorem k_1275 : Cond.instanceMethod yX12_choose ∈ WL := wl_in (wt_9 (List.mem_of_getElem? (i := 82) rfl)) rfl
theorem k_1276 : Cond.selects RX12 yX12_choose yX12_choose ∈ WL := wl_in (wps (wp_7 (List.mem_of_getElem? (i := 13) rfl))) rfl
theorem k_1277 : Cond.code yX12_tellGains cX12_tellGains 6 none ∈ WL := wl_in (wt_9 (List.mem_of_getElem? (i := 79) rfl)) rfl
theorem k_1278 : Cond.methodLink RX12 487 yX12_tellGains ∈ WL := wl_in (wt_9 (List.mem_of_getElem? (i := 76) rfl)) rfl
theorem k_1279 : Cond.instanceMethod yX12_tellGains ∈ WL := wl_in (wt_9 (List.mem_of_getElem? (i := 78) rfl)) rfl
theorem k_1280 : Cond.selects RX12 yX12_tellGains yX12_tellGains ∈ WL := wl_in (wps (wp_7 (List.mem_of_getElem? (i := 12) rfl))) rfl
theorem k_1281 : Cond.code yX12_game cX12_game 8 (some .int) ∈ WL := wl_in (wt_9 (List.mem_of_getElem? (i := 75) rfl)) rfl
theorem k_1282 : Cond.code yX12_drawOf cX12_drawOf 2 (some .int) ∈ WL := wl_in (wt_9 (List.mem_of_getElem? (i := 95) rfl)) rfl
theorem k_1283 : Cond.fieldLink RX12 491 "GivenAwayModel" "seedNow" "I" ∈ WL := wl_in (wt_6 (List.mem_of_getElem? (i := 238) rfl)) rfl
theorem k_1284 : Cond.constant RX12 494 (1103515245) ∈ WL := wl_in (wt_9 (List.mem_of_getElem? (i := 96) rfl)) rfl
theorem k_1285 : Cond.code yX12_something cX12_something 3 none ∈ WL := wl_in (wt_9 (List.mem_of_getElem? (i := 91) rfl)) rfl
theorem k_1286 : Cond.methodLink RX12 495 yX12_drawOf ∈ WL := wl_in (wt_9 (List.mem_of_getElem? (i := 92) rfl)) rfl
theorem k_1287 : Cond.instanceMethod yX12_drawOf ∈ WL := wl_in (wt_9 (List.mem_of_getElem? (i := 94) rfl)) rfl
theorem k_1288 : Cond.selects RX12 yX12_drawOf yX12_drawOf ∈ WL := wl_in (wps (wp_7 (List.mem_of_getElem? (i := 15) rfl))) rfl
theorem k_1289 : Cond.methodLink RX12 498 yX12_something ∈ WL := wl_in (wt_9 (List.mem_of_getElem? (i := 88) rfl)) rfl
theorem k_1290 : Cond.instanceMethod yX12_something ∈ WL := wl_in (wt_9 (List.mem_of_getElem? (i := 90) rfl)) rfl
theorem k_1291 : Cond.selects RX12 yX12_something yX12_something ∈ WL := wl_in (wps (wp_7 (List.mem_of_getElem? (i := 14) rfl))) rfl
theorem k_1292 : Cond.code yX12_drawn cX12_drawn 6 (some .int) ∈ WL := wl_in (wt_9 (List.mem_of_getElem? (i := 87) rfl)) rfl
theorem k_1293 : Cond.code yX12_copyTo cX12_copyTo 3 none ∈ WL := wl_in (wt_9 (List.mem_of_getElem? (i := 103) rfl)) rfl
theorem k_1294 : Cond.fieldLink RX12 501 "GivenAwayModel" "actsThen" "I" ∈ WL := wl_in (wt_7 (List.mem_of_getElem? (i := 0) rfl)) rfl
theorem k_1295 : Cond.fieldLink RX12 504 "GivenAwayModel" "seenThen" "I" ∈ WL := wl_in (wt_7 (List.mem_of_getElem? (i := 1) rfl)) rfl
theorem k_1296 : Cond.methodLink RX12 507 yX12_copyTo ∈ WL := wl_in (wt_9 (List.mem_of_getElem? (i := 101) rfl)) rfl
theorem k_1297 : Cond.static yX12_copyTo ∈ WL := wl_in (wt_9 (List.mem_of_getElem? (i := 102) rfl)) rfl
theorem k_1298 : Cond.code yX12_image cX12_image 2 none ∈ WL := wl_in (wt_9 (List.mem_of_getElem? (i := 100) rfl)) rfl
theorem k_1299 : Cond.code yX12_restore cX12_restore 2 (some .boolean) ∈ WL := wl_in (wt_9 (List.mem_of_getElem? (i := 107) rfl)) rfl
theorem k_1300 : Cond.code yJ9_max_7cf53 cJ9_max_7cf53 2 (some .int) ∈ WL := wl_in (wt_2 (List.mem_of_getElem? (i := 177) rfl)) rfl
theorem k_1301 : Cond.code yJ9_min_7cf53 cJ9_min_7cf53 2 (some .int) ∈ WL := wl_in (wt_2 (List.mem_of_getElem? (i := 174) rfl)) rfl
theorem k_1302 : Cond.classLink RL 13 "java/lang/IllegalArgumentException" ∈ WL := wl_in (wt_3 (List.mem_of_getElem? (i := 61) rfl)) rfl
theorem k_1303 : Cond.methodLink RL 7 yX11_dale ∈ WL := wl_in (wt_3 (List.mem_of_getElem? (i := 62) rfl)) rfl
theorem k_1304 : Cond.instanceMethod yX11_dale ∈ WL := wl_in (wt_3 (List.mem_of_getElem? (i := 63) rfl)) rfl
theorem k_1305 : Cond.selects RX11 yX11_dale yX11_dale ∈ WL := wl_in (wt_3 (List.mem_of_getElem? (i := 64) rfl)) rfl
theorem k_1306 : Cond.codeWith yL_dale cL_dale 4 (some .int) [(0, 9, 12, 13)] ∈ WL := wl_in (wt_3 (List.mem_of_getElem? (i := 60) rfl)) rfl
theorem k_1307 : Cond.classLink RL 18 "java/util/NoSuchElementException" ∈ WL := wl_in (wt_4 (List.mem_of_getElem? (i := 168) rfl)) rfl
theorem k_1308 : Cond.methodLink RL 15 yX11_count ∈ WL := wl_in (wt_4 (List.mem_of_getElem? (i := 169) rfl)) rfl
theorem k_1309 : Cond.instanceMethod yX11_count ∈ WL := wl_in (wt_4 (List.mem_of_getElem? (i := 170) rfl)) rfl
theorem k_1310 : Cond.selects RX11 yX11_count yX11_count ∈ WL := wl_in (wt_4 (List.mem_of_getElem? (i := 171) rfl)) rfl
theorem k_1311 : Cond.codeWith yL_count cL_count 4 (some .int) [(0, 9, 12, 18)] ∈ WL := wl_in (wt_4 (List.mem_of_getElem? (i := 167) rfl)) rfl
theorem k_1312 : Cond.methodLink RL 20 yX11_person ∈ WL := wl_in (wt_4 (List.mem_of_getElem? (i := 212) rfl)) rfl
theorem k_1313 : Cond.instanceMethod yX11_person ∈ WL := wl_in (wt_4 (List.mem_of_getElem? (i := 213) rfl)) rfl
theorem k_1314 : Cond.selects RX11 yX11_person yX11_person ∈ WL := wl_in (wt_4 (List.mem_of_getElem? (i := 214) rfl)) rfl
theorem k_1315 : Cond.codeWith yL_person cL_person 5 (some .int) [(0, 10, 13, 18)] ∈ WL := wl_in (wt_4 (List.mem_of_getElem? (i := 211) rfl)) rfl
theorem k_1316 : Cond.methodLink RL 24 yX11_bride ∈ WL := wl_in (wt_4 (List.mem_of_getElem? (i := 229) rfl)) rfl
theorem k_1317 : Cond.instanceMethod yX11_bride ∈ WL := wl_in (wt_4 (List.mem_of_getElem? (i := 230) rfl)) rfl
theorem k_1318 : Cond.selects RX11 yX11_bride yX11_bride ∈ WL := wl_in (wt_4 (List.mem_of_getElem? (i := 231) rfl)) rfl
theorem k_1319 : Cond.codeWith yL_bride cL_bride 5 (some .int) [(0, 10, 13, 18)] ∈ WL := wl_in (wt_4 (List.mem_of_getElem? (i := 228) rfl)) rfl
theorem k_1320 : Cond.methodLink RL 27 yX11_years ∈ WL := wl_in (wt_5 (List.mem_of_getElem? (i := 8) rfl)) rfl
theorem k_1321 : Cond.instanceMethod yX11_years ∈ WL := wl_in (wt_5 (List.mem_of_getElem? (i := 9) rfl)) rfl
theorem k_1322 : Cond.selects RX11 yX11_years yX11_years ∈ WL := wl_in (wt_5 (List.mem_of_getElem? (i := 10) rfl)) rfl
theorem k_1323 : Cond.codeWith yL_years cL_years 5 (some .int) [(0, 10, 13, 18)] ∈ WL := wl_in (wt_5 (List.mem_of_getElem? (i := 7) rfl)) rfl
theorem k_1324 : Cond.methodLink RL 30 yX11_weight ∈ WL := wl_in (wt_5 (List.mem_of_getElem? (i := 16) rfl)) rfl
theorem k_1325 : Cond.instanceMethod yX11_weight ∈ WL := wl_in (wt_5 (List.mem_of_getElem? (i := 17) rfl)) rfl
theorem k_1326 : Cond.selects RX11 yX11_weight yX11_weight ∈ WL := wl_in (wt_5 (List.mem_of_getElem? (i := 18) rfl)) rfl
theorem k_1327 : Cond.codeWith yL_weight cL_weight 5 (some .int) [(0, 10, 13, 18)] ∈ WL := wl_in (wt_5 (List.mem_of_getElem? (i := 15) rfl)) rfl
theorem k_1328 : Cond.methodLink RL 33 yX11_train ∈ WL := wl_in (wt_5 (List.mem_of_getElem? (i := 24) rfl)) rfl
theorem k_1329 : Cond.instanceMethod yX11_train ∈ WL := wl_in (wt_5 (List.mem_of_getElem? (i := 25) rfl)) rfl
theorem k_1330 : Cond.selects RX11 yX11_train yX11_train ∈ WL := wl_in (wt_5 (List.mem_of_getElem? (i := 26) rfl)) rfl
theorem k_1331 : Cond.codeWith yL_train cL_train 5 (some .int) [(0, 10, 13, 18)] ∈ WL := wl_in (wt_5 (List.mem_of_getElem? (i := 23) rfl)) rfl
theorem k_1332 : Cond.methodLink RL 36 yX11_onions ∈ WL := wl_in (wt_5 (List.mem_of_getElem? (i := 32) rfl)) rfl
theorem k_1333 : Cond.instanceMethod yX11_onions ∈ WL := wl_in (wt_5 (List.mem_of_getElem? (i := 33) rfl)) rfl
theorem k_1334 : Cond.selects RX11 yX11_onions yX11_onions ∈ WL := wl_in (wt_5 (List.mem_of_getElem? (i := 34) rfl)) rfl
theorem k_1335 : Cond.codeWith yL_onions cL_onions 5 (some .int) [(0, 10, 13, 18)] ∈ WL := wl_in (wt_5 (List.mem_of_getElem? (i := 31) rfl)) rfl
theorem k_1336 : Cond.methodLink RL 39 yX11_putOff ∈ WL := wl_in (wt_5 (List.mem_of_getElem? (i := 41) rfl)) rfl
theorem k_1337 : Cond.instanceMethod yX11_putOff ∈ WL := wl_in (wt_5 (List.mem_of_getElem? (i := 42) rfl)) rfl
theorem k_1338 : Cond.selects RX11 yX11_putOff yX11_putOff ∈ WL := wl_in (wt_5 (List.mem_of_getElem? (i := 43) rfl)) rfl
theorem k_1339 : Cond.codeWith yL_putOff cL_putOff 5 (some .int) [(0, 10, 13, 18)] ∈ WL := wl_in (wt_5 (List.mem_of_getElem? (i := 40) rfl)) rfl
theorem k_1340 : Cond.methodLink RL 42 yX11_tie ∈ WL := wl_in (wt_5 (List.mem_of_getElem? (i := 52) rfl)) rfl
theorem k_1341 : Cond.instanceMethod yX11_tie ∈ WL := wl_in (wt_5 (List.mem_of_getElem? (i := 53) rfl)) rfl
theorem k_1342 : Cond.selects RX11 yX11_tie yX11_tie ∈ WL := wl_in (wt_5 (List.mem_of_getElem? (i := 54) rfl)) rfl
theorem k_1343 : Cond.codeWith yL_tie cL_tie 6 (some .int) [(0, 12, 15, 18)] ∈ WL := wl_in (wt_5 (List.mem_of_getElem? (i := 51) rfl)) rfl
theorem k_1344 : Cond.methodLink RL 46 yX11_leader ∈ WL := wl_in (wt_5 (List.mem_of_getElem? (i := 60) rfl)) rfl
theorem k_1345 : Cond.instanceMethod yX11_leader ∈ WL := wl_in (wt_5 (List.mem_of_getElem? (i := 61) rfl)) rfl
theorem k_1346 : Cond.selects RX11 yX11_leader yX11_leader ∈ WL := wl_in (wt_5 (List.mem_of_getElem? (i := 62) rfl)) rfl
theorem k_1347 : Cond.codeWith yL_leader cL_leader 4 (some .int) [(0, 9, 12, 18)] ∈ WL := wl_in (wt_5 (List.mem_of_getElem? (i := 59) rfl)) rfl
theorem k_1348 : Cond.methodLink RL 49 yX11_then ∈ WL := wl_in (wt_5 (List.mem_of_getElem? (i := 81) rfl)) rfl
theorem k_1349 : Cond.instanceMethod yX11_then ∈ WL := wl_in (wt_5 (List.mem_of_getElem? (i := 82) rfl)) rfl
theorem k_1350 : Cond.selects RX11 yX11_then yX11_then ∈ WL := wl_in (wt_5 (List.mem_of_getElem? (i := 83) rfl)) rfl
theorem k_1351 : Cond.codeWith yL_then cL_then 5 (some .int) [(0, 10, 13, 18), (0, 10, 17, 13)] ∈ WL := wl_in (wt_5 (List.mem_of_getElem? (i := 80) rfl)) rfl
theorem k_1352 : Cond.methodLink RL 52 yX11_led ∈ WL := wl_in (wt_5 (List.mem_of_getElem? (i := 93) rfl)) rfl
theorem k_1353 : Cond.instanceMethod yX11_led ∈ WL := wl_in (wt_5 (List.mem_of_getElem? (i := 94) rfl)) rfl
theorem k_1354 : Cond.selects RX11 yX11_led yX11_led ∈ WL := wl_in (wt_5 (List.mem_of_getElem? (i := 95) rfl)) rfl
theorem k_1355 : Cond.codeWith yL_led cL_led 5 (some .int) [(0, 10, 13, 18), (0, 10, 17, 13)] ∈ WL := wl_in (wt_5 (List.mem_of_getElem? (i := 92) rfl)) rfl
theorem k_1356 : Cond.methodLink RL 55 yX11_rank ∈ WL := wl_in (wt_5 (List.mem_of_getElem? (i := 106) rfl)) rfl
theorem k_1357 : Cond.instanceMethod yX11_rank ∈ WL := wl_in (wt_5 (List.mem_of_getElem? (i := 107) rfl)) rfl
theorem k_1358 : Cond.selects RX11 yX11_rank yX11_rank ∈ WL := wl_in (wt_5 (List.mem_of_getElem? (i := 108) rfl)) rfl
theorem k_1359 : Cond.codeWith yL_rank cL_rank 5 (some .int) [(0, 10, 13, 18)] ∈ WL := wl_in (wt_5 (List.mem_of_getElem? (i := 105) rfl)) rfl
theorem k_1360 : Cond.methodLink RL 58 yX11_toTrain ∈ WL := wl_in (wt_5 (List.mem_of_getElem? (i := 126) rfl)) rfl
theorem k_1361 : Cond.instanceMethod yX11_toTrain ∈ WL := wl_in (wt_5 (List.mem_of_getElem? (i := 127) rfl)) rfl
theorem k_1362 : Cond.selects RX11 yX11_toTrain yX11_toTrain ∈ WL := wl_in (wt_5 (List.mem_of_getElem? (i := 128) rfl)) rfl
theorem k_1363 : Cond.codeWith yL_toTrain cL_toTrain 5 (some .int) [(0, 10, 13, 18)] ∈ WL := wl_in (wt_5 (List.mem_of_getElem? (i := 125) rfl)) rfl
theorem k_1364 : Cond.methodLink RL 61 yX11_instead ∈ WL := wl_in (wt_5 (List.mem_of_getElem? (i := 139) rfl)) rfl
theorem k_1365 : Cond.instanceMethod yX11_instead ∈ WL := wl_in (wt_5 (List.mem_of_getElem? (i := 140) rfl)) rfl
theorem k_1366 : Cond.selects RX11 yX11_instead yX11_instead ∈ WL := wl_in (wt_5 (List.mem_of_getElem? (i := 141) rfl)) rfl
theorem k_1367 : Cond.codeWith yL_instead cL_instead 4 (some .int) [(0, 9, 12, 18)] ∈ WL := wl_in (wt_5 (List.mem_of_getElem? (i := 138) rfl)) rfl
theorem k_1368 : Cond.methodLink RL 64 yX11_bestDay ∈ WL := wl_in (wt_5 (List.mem_of_getElem? (i := 151) rfl)) rfl
theorem k_1369 : Cond.instanceMethod yX11_bestDay ∈ WL := wl_in (wt_5 (List.mem_of_getElem? (i := 152) rfl)) rfl
theorem k_1370 : Cond.selects RX11 yX11_bestDay yX11_bestDay ∈ WL := wl_in (wt_5 (List.mem_of_getElem? (i := 153) rfl)) rfl
theorem k_1371 : Cond.codeWith yL_bestDay cL_bestDay 5 (some .int) [(0, 10, 13, 18)] ∈ WL := wl_in (wt_5 (List.mem_of_getElem? (i := 150) rfl)) rfl
theorem k_1372 : Cond.methodLink RL 67 yX11_choice ∈ WL := wl_in (wt_5 (List.mem_of_getElem? (i := 172) rfl)) rfl
theorem k_1373 : Cond.instanceMethod yX11_choice ∈ WL := wl_in (wt_5 (List.mem_of_getElem? (i := 173) rfl)) rfl
theorem k_1374 : Cond.selects RX11 yX11_choice yX11_choice ∈ WL := wl_in (wt_5 (List.mem_of_getElem? (i := 174) rfl)) rfl
theorem k_1375 : Cond.codeWith yL_choice cL_choice 4 (some .int) [(0, 9, 12, 18)] ∈ WL := wl_in (wt_5 (List.mem_of_getElem? (i := 171) rfl)) rfl
theorem k_1376 : Cond.methodLink RL 70 yX11_tug ∈ WL := wl_in (wt_5 (List.mem_of_getElem? (i := 210) rfl)) rfl
theorem k_1377 : Cond.instanceMethod yX11_tug ∈ WL := wl_in (wt_5 (List.mem_of_getElem? (i := 211) rfl)) rfl
theorem k_1378 : Cond.selects RX11 yX11_tug yX11_tug ∈ WL := wl_in (wt_5 (List.mem_of_getElem? (i := 212) rfl)) rfl
theorem k_1379 : Cond.codeWith yL_tug cL_tug 4 (some .int) [(0, 9, 12, 18)] ∈ WL := wl_in (wt_5 (List.mem_of_getElem? (i := 209) rfl)) rfl
theorem k_1380 : Cond.methodLink RL 73 yX11_decisive ∈ WL := wl_in (wt_5 (List.mem_of_getElem? (i := 231) rfl)) rfl
theorem k_1381 : Cond.instanceMethod yX11_decisive ∈ WL := wl_in (wt_5 (List.mem_of_getElem? (i := 232) rfl)) rfl
theorem k_1382 : Cond.selects RX11 yX11_decisive yX11_decisive ∈ WL := wl_in (wt_5 (List.mem_of_getElem? (i := 233) rfl)) rfl
theorem k_1383 : Cond.codeWith yL_decisive cL_decisive 5 (some .int) [(0, 10, 13, 18)] ∈ WL := wl_in (wt_5 (List.mem_of_getElem? (i := 230) rfl)) rfl
theorem k_1384 : Cond.methodLink RL 76 yX11_steps ∈ WL := wl_in (wt_6 (List.mem_of_getElem? (i := 2) rfl)) rfl
theorem k_1385 : Cond.instanceMethod yX11_steps ∈ WL := wl_in (wt_6 (List.mem_of_getElem? (i := 3) rfl)) rfl
theorem k_1386 : Cond.selects RX11 yX11_steps yX11_steps ∈ WL := wl_in (wt_6 (List.mem_of_getElem? (i := 4) rfl)) rfl
theorem k_1387 : Cond.codeWith yL_steps cL_steps 5 (some .int) [(0, 10, 13, 18)] ∈ WL := wl_in (wt_6 (List.mem_of_getElem? (i := 1) rfl)) rfl
theorem k_1388 : Cond.methodLink RL 79 yX11_busiest ∈ WL := wl_in (wt_6 (List.mem_of_getElem? (i := 13) rfl)) rfl
theorem k_1389 : Cond.instanceMethod yX11_busiest ∈ WL := wl_in (wt_6 (List.mem_of_getElem? (i := 14) rfl)) rfl
theorem k_1390 : Cond.selects RX11 yX11_busiest yX11_busiest ∈ WL := wl_in (wt_6 (List.mem_of_getElem? (i := 15) rfl)) rfl
theorem k_1391 : Cond.codeWith yL_busiest cL_busiest 4 (some .int) [(0, 9, 12, 13)] ∈ WL := wl_in (wt_6 (List.mem_of_getElem? (i := 12) rfl)) rfl
theorem k_1392 : Cond.methodLink RL 82 yX11_crowd ∈ WL := wl_in (wt_6 (List.mem_of_getElem? (i := 20) rfl)) rfl
theorem k_1393 : Cond.instanceMethod yX11_crowd ∈ WL := wl_in (wt_6 (List.mem_of_getElem? (i := 21) rfl)) rfl
theorem k_1394 : Cond.selects RX11 yX11_crowd yX11_crowd ∈ WL := wl_in (wt_6 (List.mem_of_getElem? (i := 22) rfl)) rfl
theorem k_1395 : Cond.codeWith yL_crowd cL_crowd 4 (some .int) [(0, 9, 12, 18)] ∈ WL := wl_in (wt_6 (List.mem_of_getElem? (i := 19) rfl)) rfl
theorem k_1396 : Cond.methodLink RL 85 yX11_common ∈ WL := wl_in (wt_6 (List.mem_of_getElem? (i := 31) rfl)) rfl
theorem k_1397 : Cond.instanceMethod yX11_common ∈ WL := wl_in (wt_6 (List.mem_of_getElem? (i := 32) rfl)) rfl
theorem k_1398 : Cond.selects RX11 yX11_common yX11_common ∈ WL := wl_in (wt_6 (List.mem_of_getElem? (i := 33) rfl)) rfl
theorem k_1399 : Cond.codeWith yL_common cL_common 5 (some .int) [(0, 10, 13, 18)] ∈ WL := wl_in (wt_6 (List.mem_of_getElem? (i := 30) rfl)) rfl
theorem k_1400 : Cond.methodLink RL 88 yX11_see ∈ WL := wl_in (wt_6 (List.mem_of_getElem? (i := 38) rfl)) rfl
theorem k_1401 : Cond.instanceMethod yX11_see ∈ WL := wl_in (wt_6 (List.mem_of_getElem? (i := 39) rfl)) rfl
theorem k_1402 : Cond.selects RX11 yX11_see yX11_see ∈ WL := wl_in (wt_6 (List.mem_of_getElem? (i := 40) rfl)) rfl
theorem k_1403 : Cond.codeWith yL_see cL_see 8 (some .int) [(0, 16, 19, 18)] ∈ WL := wl_in (wt_6 (List.mem_of_getElem? (i := 37) rfl)) rfl
theorem k_1404 : Cond.methodLink RL 92 yX11_hidden ∈ WL := wl_in (wt_6 (List.mem_of_getElem? (i := 46) rfl)) rfl
theorem k_1405 : Cond.instanceMethod yX11_hidden ∈ WL := wl_in (wt_6 (List.mem_of_getElem? (i := 47) rfl)) rfl
theorem k_1406 : Cond.selects RX11 yX11_hidden yX11_hidden ∈ WL := wl_in (wt_6 (List.mem_of_getElem? (i := 48) rfl)) rfl
theorem k_1407 : Cond.codeWith yL_hidden cL_hidden 4 (some .int) [(0, 9, 12, 18)] ∈ WL := wl_in (wt_6 (List.mem_of_getElem? (i := 45) rfl)) rfl
theorem k_1408 : Cond.methodLink RL 95 yX11_next ∈ WL := wl_in (wt_6 (List.mem_of_getElem? (i := 89) rfl)) rfl
theorem k_1409 : Cond.instanceMethod yX11_next ∈ WL := wl_in (wt_6 (List.mem_of_getElem? (i := 90) rfl)) rfl
theorem k_1410 : Cond.selects RX11 yX11_next yX11_next ∈ WL := wl_in (wt_6 (List.mem_of_getElem? (i := 91) rfl)) rfl
theorem k_1411 : Cond.codeWith yL_next cL_next 4 (some .int) [(0, 9, 12, 18)] ∈ WL := wl_in (wt_6 (List.mem_of_getElem? (i := 88) rfl)) rfl
theorem k_1412 : Cond.methodLink RL 98 yX11_game ∈ WL := wl_in (wt_6 (List.mem_of_getElem? (i := 104) rfl)) rfl
theorem k_1413 : Cond.instanceMethod yX11_game ∈ WL := wl_in (wt_6 (List.mem_of_getElem? (i := 105) rfl)) rfl
theorem k_1414 : Cond.selects RX11 yX11_game yX11_game ∈ WL := wl_in (wt_6 (List.mem_of_getElem? (i := 106) rfl)) rfl
theorem k_1415 : Cond.codeWith yL_game cL_game 7 (some .int) [(0, 14, 17, 18), (0, 14, 21, 13)] ∈ WL := wl_in (wt_6 (List.mem_of_getElem? (i := 103) rfl)) rfl
theorem k_1416 : Cond.methodLink RL 102 yX11_drawn ∈ WL := wl_in (wt_6 (List.mem_of_getElem? (i := 140) rfl)) rfl
theorem k_1417 : Cond.instanceMethod yX11_drawn ∈ WL := wl_in (wt_6 (List.mem_of_getElem? (i := 141) rfl)) rfl
theorem k_1418 : Cond.selects RX11 yX11_drawn yX11_drawn ∈ WL := wl_in (wt_6 (List.mem_of_getElem? (i := 142) rfl)) rfl
theorem k_1419 : Cond.codeWith yL_drawn cL_drawn 6 (some .int) [(0, 12, 15, 18), (0, 12, 19, 13)] ∈ WL := wl_in (wt_6 (List.mem_of_getElem? (i := 139) rfl)) rfl
theorem k_1420 : Cond.classLink RL 8 RX11 ∈ WL := wl_in (wt_1 (List.mem_of_getElem? (i := 28) rfl)) rfl
theorem k_1421 : Cond.instantiable RX11 12 ∈ WL := wl_in (wt_1 (List.mem_of_getElem? (i := 29) rfl)) rfl
theorem k_1422 : Cond.classLink RL 106 RX12 ∈ WL := wl_in (wt_6 (List.mem_of_getElem? (i := 161) rfl)) rfl
theorem k_1423 : Cond.instantiable RX12 69 ∈ WL := wl_in (wt_6 (List.mem_of_getElem? (i := 162) rfl)) rfl
theorem k_1424 : Cond.arrayClass .long ∈ WL := wl_in (wt_9 (List.mem_of_getElem? (i := 108) rfl)) rfl
theorem k_1425 : Cond.methodLink RL 105 yX11_init ∈ WL := wl_in (wt_1 (List.mem_of_getElem? (i := 30) rfl)) rfl
theorem k_1426 : Cond.instanceMethod yX11_init ∈ WL := wl_in (wt_1 (List.mem_of_getElem? (i := 31) rfl)) rfl
theorem k_1427 : Cond.methodLink RL 108 yX12_init ∈ WL := wl_in (wt_6 (List.mem_of_getElem? (i := 163) rfl)) rfl
theorem k_1428 : Cond.instanceMethod yX12_init ∈ WL := wl_in (wt_6 (List.mem_of_getElem? (i := 164) rfl)) rfl
theorem k_1429 : Cond.methodLink RL 109 yX11_feed ∈ WL := wl_in (wt_2 (List.mem_of_getElem? (i := 97) rfl)) rfl
theorem k_1430 : Cond.instanceMethod yX11_feed ∈ WL := wl_in (wt_2 (List.mem_of_getElem? (i := 98) rfl)) rfl
theorem k_1431 : Cond.selects RX11 yX11_feed yX11_feed ∈ WL := wl_in (wt_2 (List.mem_of_getElem? (i := 99) rfl)) rfl
theorem k_1432 : Cond.methodLink RL 113 yX12_feed ∈ WL := wl_in (wt_7 (List.mem_of_getElem? (i := 153) rfl)) rfl
theorem k_1433 : Cond.instanceMethod yX12_feed ∈ WL := wl_in (wt_7 (List.mem_of_getElem? (i := 154) rfl)) rfl
theorem k_1434 : Cond.selects RX12 yX12_feed yX12_feed ∈ WL := wl_in (wt_7 (List.mem_of_getElem? (i := 155) rfl)) rfl
theorem k_1435 : Cond.methodLink RL 114 yL_dale ∈ WL := wl_in (wt_3 (List.mem_of_getElem? (i := 58) rfl)) rfl
theorem k_1436 : Cond.static yL_dale ∈ WL := wl_in (wt_3 (List.mem_of_getElem? (i := 59) rfl)) rfl
theorem k_1437 : Cond.initialized RL ∈ WL := wl_in (wt_1 (List.mem_of_getElem? (i := 0) rfl)) rfl
theorem k_1438 : Cond.methodLink RL 119 yX12_dale ∈ WL := wl_in (wt_7 (List.mem_of_getElem? (i := 157) rfl)) rfl
theorem k_1439 : Cond.instanceMethod yX12_dale ∈ WL := wl_in (wt_7 (List.mem_of_getElem? (i := 158) rfl)) rfl
theorem k_1440 : Cond.selects RX12 yX12_dale yX12_dale ∈ WL := wl_in (wt_7 (List.mem_of_getElem? (i := 159) rfl)) rfl
theorem k_1441 : Cond.methodLink RL 120 yX12_thrown ∈ WL := wl_in (wt_7 (List.mem_of_getElem? (i := 149) rfl)) rfl
theorem k_1442 : Cond.instanceMethod yX12_thrown ∈ WL := wl_in (wt_7 (List.mem_of_getElem? (i := 150) rfl)) rfl
theorem k_1443 : Cond.selects RX12 yX12_thrown yX12_thrown ∈ WL := wl_in (wt_7 (List.mem_of_getElem? (i := 151) rfl)) rfl
theorem k_1444 : Cond.methodLink RL 124 yX11_fault ∈ WL := wl_in (wt_2 (List.mem_of_getElem? (i := 105) rfl)) rfl
theorem k_1445 : Cond.instanceMethod yX11_fault ∈ WL := wl_in (wt_2 (List.mem_of_getElem? (i := 106) rfl)) rfl
theorem k_1446 : Cond.selects RX11 yX11_fault yX11_fault ∈ WL := wl_in (wt_2 (List.mem_of_getElem? (i := 107) rfl)) rfl
theorem k_1447 : Cond.methodLink RL 127 yX12_fault ∈ WL := wl_in (wt_8 (List.mem_of_getElem? (i := 40) rfl)) rfl
theorem k_1448 : Cond.instanceMethod yX12_fault ∈ WL := wl_in (wt_8 (List.mem_of_getElem? (i := 41) rfl)) rfl
theorem k_1449 : Cond.selects RX12 yX12_fault yX12_fault ∈ WL := wl_in (wt_8 (List.mem_of_getElem? (i := 42) rfl)) rfl
theorem k_1450 : Cond.methodLink RL 128 yL_count ∈ WL := wl_in (wt_4 (List.mem_of_getElem? (i := 165) rfl)) rfl
theorem k_1451 : Cond.static yL_count ∈ WL := wl_in (wt_4 (List.mem_of_getElem? (i := 166) rfl)) rfl
theorem k_1452 : Cond.methodLink RL 130 yX12_count ∈ WL := wl_in (wt_8 (List.mem_of_getElem? (i := 44) rfl)) rfl
theorem k_1453 : Cond.instanceMethod yX12_count ∈ WL := wl_in (wt_8 (List.mem_of_getElem? (i := 45) rfl)) rfl
theorem k_1454 : Cond.selects RX12 yX12_count yX12_count ∈ WL := wl_in (wt_8 (List.mem_of_getElem? (i := 46) rfl)) rfl
theorem k_1455 : Cond.methodLink RL 131 yL_person ∈ WL := wl_in (wt_4 (List.mem_of_getElem? (i := 209) rfl)) rfl
theorem k_1456 : Cond.static yL_person ∈ WL := wl_in (wt_4 (List.mem_of_getElem? (i := 210) rfl)) rfl
theorem k_1457 : Cond.methodLink RL 134 yX12_person ∈ WL := wl_in (wt_8 (List.mem_of_getElem? (i := 67) rfl)) rfl
theorem k_1458 : Cond.instanceMethod yX12_person ∈ WL := wl_in (wt_8 (List.mem_of_getElem? (i := 68) rfl)) rfl
theorem k_1459 : Cond.selects RX12 yX12_person yX12_person ∈ WL := wl_in (wt_8 (List.mem_of_getElem? (i := 69) rfl)) rfl
theorem k_1460 : Cond.methodLink RL 135 yL_bride ∈ WL := wl_in (wt_4 (List.mem_of_getElem? (i := 226) rfl)) rfl
theorem k_1461 : Cond.static yL_bride ∈ WL := wl_in (wt_4 (List.mem_of_getElem? (i := 227) rfl)) rfl
theorem k_1462 : Cond.methodLink RL 137 yX12_bride ∈ WL := wl_in (wt_8 (List.mem_of_getElem? (i := 78) rfl)) rfl
theorem k_1463 : Cond.instanceMethod yX12_bride ∈ WL := wl_in (wt_8 (List.mem_of_getElem? (i := 79) rfl)) rfl
theorem k_1464 : Cond.selects RX12 yX12_bride yX12_bride ∈ WL := wl_in (wt_8 (List.mem_of_getElem? (i := 80) rfl)) rfl
theorem k_1465 : Cond.methodLink RL 138 yL_years ∈ WL := wl_in (wt_5 (List.mem_of_getElem? (i := 5) rfl)) rfl
theorem k_1466 : Cond.static yL_years ∈ WL := wl_in (wt_5 (List.mem_of_getElem? (i := 6) rfl)) rfl
theorem k_1467 : Cond.methodLink RL 140 yX12_years ∈ WL := wl_in (wt_8 (List.mem_of_getElem? (i := 110) rfl)) rfl
theorem k_1468 : Cond.instanceMethod yX12_years ∈ WL := wl_in (wt_8 (List.mem_of_getElem? (i := 111) rfl)) rfl
theorem k_1469 : Cond.selects RX12 yX12_years yX12_years ∈ WL := wl_in (wt_8 (List.mem_of_getElem? (i := 112) rfl)) rfl
theorem k_1470 : Cond.methodLink RL 141 yL_weight ∈ WL := wl_in (wt_5 (List.mem_of_getElem? (i := 13) rfl)) rfl
theorem k_1471 : Cond.static yL_weight ∈ WL := wl_in (wt_5 (List.mem_of_getElem? (i := 14) rfl)) rfl
theorem k_1472 : Cond.methodLink RL 143 yX12_weight ∈ WL := wl_in (wt_8 (List.mem_of_getElem? (i := 114) rfl)) rfl
theorem k_1473 : Cond.instanceMethod yX12_weight ∈ WL := wl_in (wt_8 (List.mem_of_getElem? (i := 115) rfl)) rfl
theorem k_1474 : Cond.selects RX12 yX12_weight yX12_weight ∈ WL := wl_in (wt_8 (List.mem_of_getElem? (i := 116) rfl)) rfl
theorem k_1475 : Cond.methodLink RL 144 yX11_days ∈ WL := wl_in (wt_2 (List.mem_of_getElem? (i := 109) rfl)) rfl
theorem k_1476 : Cond.instanceMethod yX11_days ∈ WL := wl_in (wt_2 (List.mem_of_getElem? (i := 110) rfl)) rfl
theorem k_1477 : Cond.selects RX11 yX11_days yX11_days ∈ WL := wl_in (wt_2 (List.mem_of_getElem? (i := 111) rfl)) rfl
theorem k_1478 : Cond.methodLink RL 147 yX12_days ∈ WL := wl_in (wt_8 (List.mem_of_getElem? (i := 118) rfl)) rfl
theorem k_1479 : Cond.instanceMethod yX12_days ∈ WL := wl_in (wt_8 (List.mem_of_getElem? (i := 119) rfl)) rfl
theorem k_1480 : Cond.selects RX12 yX12_days yX12_days ∈ WL := wl_in (wt_8 (List.mem_of_getElem? (i := 120) rfl)) rfl
theorem k_1481 : Cond.methodLink RL 148 yL_train ∈ WL := wl_in (wt_5 (List.mem_of_getElem? (i := 21) rfl)) rfl
theorem k_1482 : Cond.static yL_train ∈ WL := wl_in (wt_5 (List.mem_of_getElem? (i := 22) rfl)) rfl
theorem k_1483 : Cond.methodLink RL 150 yX12_train ∈ WL := wl_in (wt_8 (List.mem_of_getElem? (i := 155) rfl)) rfl
theorem k_1484 : Cond.instanceMethod yX12_train ∈ WL := wl_in (wt_8 (List.mem_of_getElem? (i := 156) rfl)) rfl
theorem k_1485 : Cond.selects RX12 yX12_train yX12_train ∈ WL := wl_in (wt_8 (List.mem_of_getElem? (i := 157) rfl)) rfl
theorem k_1486 : Cond.methodLink RL 151 yL_onions ∈ WL := wl_in (wt_5 (List.mem_of_getElem? (i := 29) rfl)) rfl
theorem k_1487 : Cond.static yL_onions ∈ WL := wl_in (wt_5 (List.mem_of_getElem? (i := 30) rfl)) rfl
theorem k_1488 : Cond.methodLink RL 153 yX12_onions ∈ WL := wl_in (wt_8 (List.mem_of_getElem? (i := 160) rfl)) rfl
theorem k_1489 : Cond.instanceMethod yX12_onions ∈ WL := wl_in (wt_8 (List.mem_of_getElem? (i := 161) rfl)) rfl
theorem k_1490 : Cond.selects RX12 yX12_onions yX12_onions ∈ WL := wl_in (wt_8 (List.mem_of_getElem? (i := 162) rfl)) rfl
theorem k_1491 : Cond.methodLink RL 154 yL_putOff ∈ WL := wl_in (wt_5 (List.mem_of_getElem? (i := 38) rfl)) rfl
theorem k_1492 : Cond.static yL_putOff ∈ WL := wl_in (wt_5 (List.mem_of_getElem? (i := 39) rfl)) rfl
theorem k_1493 : Cond.methodLink RL 156 yX12_putOff ∈ WL := wl_in (wt_8 (List.mem_of_getElem? (i := 164) rfl)) rfl
theorem k_1494 : Cond.instanceMethod yX12_putOff ∈ WL := wl_in (wt_8 (List.mem_of_getElem? (i := 165) rfl)) rfl
theorem k_1495 : Cond.selects RX12 yX12_putOff yX12_putOff ∈ WL := wl_in (wt_8 (List.mem_of_getElem? (i := 166) rfl)) rfl
theorem k_1496 : Cond.methodLink RL 157 yL_tie ∈ WL := wl_in (wt_5 (List.mem_of_getElem? (i := 49) rfl)) rfl
theorem k_1497 : Cond.static yL_tie ∈ WL := wl_in (wt_5 (List.mem_of_getElem? (i := 50) rfl)) rfl
theorem k_1498 : Cond.methodLink RL 160 yX12_tie ∈ WL := wl_in (wt_8 (List.mem_of_getElem? (i := 169) rfl)) rfl
theorem k_1499 : Cond.instanceMethod yX12_tie ∈ WL := wl_in (wt_8 (List.mem_of_getElem? (i := 170) rfl)) rfl
theorem k_1500 : Cond.selects RX12 yX12_tie yX12_tie ∈ WL := wl_in (wt_8 (List.mem_of_getElem? (i := 171) rfl)) rfl
theorem k_1501 : Cond.methodLink RL 161 yX11_undo ∈ WL := wl_in (wt_2 (List.mem_of_getElem? (i := 227) rfl)) rfl
theorem k_1502 : Cond.instanceMethod yX11_undo ∈ WL := wl_in (wt_2 (List.mem_of_getElem? (i := 228) rfl)) rfl
theorem k_1503 : Cond.selects RX11 yX11_undo yX11_undo ∈ WL := wl_in (wt_2 (List.mem_of_getElem? (i := 229) rfl)) rfl
theorem k_1504 : Cond.methodLink RL 164 yX12_undo ∈ WL := wl_in (wt_8 (List.mem_of_getElem? (i := 174) rfl)) rfl
theorem k_1505 : Cond.instanceMethod yX12_undo ∈ WL := wl_in (wt_8 (List.mem_of_getElem? (i := 175) rfl)) rfl
theorem k_1506 : Cond.selects RX12 yX12_undo yX12_undo ∈ WL := wl_in (wt_8 (List.mem_of_getElem? (i := 176) rfl)) rfl
theorem k_1507 : Cond.methodLink RL 165 yL_leader ∈ WL := wl_in (wt_5 (List.mem_of_getElem? (i := 57) rfl)) rfl
theorem k_1508 : Cond.static yL_leader ∈ WL := wl_in (wt_5 (List.mem_of_getElem? (i := 58) rfl)) rfl
theorem k_1509 : Cond.methodLink RL 167 yX12_leader ∈ WL := wl_in (wt_8 (List.mem_of_getElem? (i := 182) rfl)) rfl
theorem k_1510 : Cond.instanceMethod yX12_leader ∈ WL := wl_in (wt_8 (List.mem_of_getElem? (i := 183) rfl)) rfl
theorem k_1511 : Cond.selects RX12 yX12_leader yX12_leader ∈ WL := wl_in (wt_8 (List.mem_of_getElem? (i := 184) rfl)) rfl
theorem k_1512 : Cond.methodLink RL 168 yL_then ∈ WL := wl_in (wt_5 (List.mem_of_getElem? (i := 78) rfl)) rfl
theorem k_1513 : Cond.static yL_then ∈ WL := wl_in (wt_5 (List.mem_of_getElem? (i := 79) rfl)) rfl
theorem k_1514 : Cond.methodLink RL 170 yX12_then ∈ WL := wl_in (wt_8 (List.mem_of_getElem? (i := 190) rfl)) rfl
theorem k_1515 : Cond.instanceMethod yX12_then ∈ WL := wl_in (wt_8 (List.mem_of_getElem? (i := 191) rfl)) rfl
theorem k_1516 : Cond.selects RX12 yX12_then yX12_then ∈ WL := wl_in (wt_8 (List.mem_of_getElem? (i := 192) rfl)) rfl
theorem k_1517 : Cond.methodLink RL 171 yL_led ∈ WL := wl_in (wt_5 (List.mem_of_getElem? (i := 90) rfl)) rfl
theorem k_1518 : Cond.static yL_led ∈ WL := wl_in (wt_5 (List.mem_of_getElem? (i := 91) rfl)) rfl
theorem k_1519 : Cond.methodLink RL 173 yX12_led ∈ WL := wl_in (wt_8 (List.mem_of_getElem? (i := 195) rfl)) rfl
theorem k_1520 : Cond.instanceMethod yX12_led ∈ WL := wl_in (wt_8 (List.mem_of_getElem? (i := 196) rfl)) rfl
theorem k_1521 : Cond.selects RX12 yX12_led yX12_led ∈ WL := wl_in (wt_8 (List.mem_of_getElem? (i := 197) rfl)) rfl
theorem k_1522 : Cond.methodLink RL 174 yX11_dog ∈ WL := wl_in (wt_2 (List.mem_of_getElem? (i := 239) rfl)) rfl
theorem k_1523 : Cond.instanceMethod yX11_dog ∈ WL := wl_in (wt_3 (List.mem_of_getElem? (i := 0) rfl)) rfl
theorem k_1524 : Cond.selects RX11 yX11_dog yX11_dog ∈ WL := wl_in (wt_3 (List.mem_of_getElem? (i := 1) rfl)) rfl
theorem k_1525 : Cond.methodLink RL 177 yX12_dog ∈ WL := wl_in (wt_8 (List.mem_of_getElem? (i := 203) rfl)) rfl
theorem k_1526 : Cond.instanceMethod yX12_dog ∈ WL := wl_in (wt_8 (List.mem_of_getElem? (i := 204) rfl)) rfl
theorem k_1527 : Cond.selects RX12 yX12_dog yX12_dog ∈ WL := wl_in (wt_8 (List.mem_of_getElem? (i := 205) rfl)) rfl
theorem k_1528 : Cond.methodLink RL 178 yL_rank ∈ WL := wl_in (wt_5 (List.mem_of_getElem? (i := 103) rfl)) rfl
theorem k_1529 : Cond.static yL_rank ∈ WL := wl_in (wt_5 (List.mem_of_getElem? (i := 104) rfl)) rfl
theorem k_1530 : Cond.methodLink RL 180 yX12_rank ∈ WL := wl_in (wt_8 (List.mem_of_getElem? (i := 207) rfl)) rfl
theorem k_1531 : Cond.instanceMethod yX12_rank ∈ WL := wl_in (wt_8 (List.mem_of_getElem? (i := 208) rfl)) rfl
theorem k_1532 : Cond.selects RX12 yX12_rank yX12_rank ∈ WL := wl_in (wt_8 (List.mem_of_getElem? (i := 209) rfl)) rfl
theorem k_1533 : Cond.methodLink RL 181 yL_toTrain ∈ WL := wl_in (wt_5 (List.mem_of_getElem? (i := 123) rfl)) rfl
theorem k_1534 : Cond.static yL_toTrain ∈ WL := wl_in (wt_5 (List.mem_of_getElem? (i := 124) rfl)) rfl
theorem k_1535 : Cond.methodLink RL 183 yX12_toTrain ∈ WL := wl_in (wt_8 (List.mem_of_getElem? (i := 211) rfl)) rfl
theorem k_1536 : Cond.instanceMethod yX12_toTrain ∈ WL := wl_in (wt_8 (List.mem_of_getElem? (i := 212) rfl)) rfl
theorem k_1537 : Cond.selects RX12 yX12_toTrain yX12_toTrain ∈ WL := wl_in (wt_8 (List.mem_of_getElem? (i := 213) rfl)) rfl
theorem k_1538 : Cond.methodLink RL 184 yL_instead ∈ WL := wl_in (wt_5 (List.mem_of_getElem? (i := 136) rfl)) rfl
theorem k_1539 : Cond.static yL_instead ∈ WL := wl_in (wt_5 (List.mem_of_getElem? (i := 137) rfl)) rfl
theorem k_1540 : Cond.methodLink RL 186 yX12_instead ∈ WL := wl_in (wt_8 (List.mem_of_getElem? (i := 215) rfl)) rfl
theorem k_1541 : Cond.instanceMethod yX12_instead ∈ WL := wl_in (wt_8 (List.mem_of_getElem? (i := 216) rfl)) rfl
theorem k_1542 : Cond.selects RX12 yX12_instead yX12_instead ∈ WL := wl_in (wt_8 (List.mem_of_getElem? (i := 217) rfl)) rfl
theorem k_1543 : Cond.methodLink RL 187 yL_bestDay ∈ WL := wl_in (wt_5 (List.mem_of_getElem? (i := 148) rfl)) rfl
theorem k_1544 : Cond.static yL_bestDay ∈ WL := wl_in (wt_5 (List.mem_of_getElem? (i := 149) rfl)) rfl
theorem k_1545 : Cond.methodLink RL 189 yX12_bestDay ∈ WL := wl_in (wt_8 (List.mem_of_getElem? (i := 226) rfl)) rfl
theorem k_1546 : Cond.instanceMethod yX12_bestDay ∈ WL := wl_in (wt_8 (List.mem_of_getElem? (i := 227) rfl)) rfl
theorem k_1547 : Cond.selects RX12 yX12_bestDay yX12_bestDay ∈ WL := wl_in (wt_8 (List.mem_of_getElem? (i := 228) rfl)) rfl
theorem k_1548 : Cond.methodLink RL 190 yL_choice ∈ WL := wl_in (wt_5 (List.mem_of_getElem? (i := 169) rfl)) rfl
theorem k_1549 : Cond.static yL_choice ∈ WL := wl_in (wt_5 (List.mem_of_getElem? (i := 170) rfl)) rfl
theorem k_1550 : Cond.methodLink RL 192 yX12_choice ∈ WL := wl_in (wt_8 (List.mem_of_getElem? (i := 234) rfl)) rfl
theorem k_1551 : Cond.instanceMethod yX12_choice ∈ WL := wl_in (wt_8 (List.mem_of_getElem? (i := 235) rfl)) rfl
theorem k_1552 : Cond.selects RX12 yX12_choice yX12_choice ∈ WL := wl_in (wt_8 (List.mem_of_getElem? (i := 236) rfl)) rfl
theorem k_1553 : Cond.methodLink RL 193 yX11_unloved ∈ WL := wl_in (wt_3 (List.mem_of_getElem? (i := 17) rfl)) rfl
theorem k_1554 : Cond.instanceMethod yX11_unloved ∈ WL := wl_in (wt_3 (List.mem_of_getElem? (i := 18) rfl)) rfl
theorem k_1555 : Cond.selects RX11 yX11_unloved yX11_unloved ∈ WL := wl_in (wt_3 (List.mem_of_getElem? (i := 19) rfl)) rfl
theorem k_1556 : Cond.methodLink RL 196 yX12_unloved ∈ WL := wl_in (wt_9 (List.mem_of_getElem? (i := 11) rfl)) rfl
theorem k_1557 : Cond.instanceMethod yX12_unloved ∈ WL := wl_in (wt_9 (List.mem_of_getElem? (i := 12) rfl)) rfl
theorem k_1558 : Cond.selects RX12 yX12_unloved yX12_unloved ∈ WL := wl_in (wt_9 (List.mem_of_getElem? (i := 13) rfl)) rfl
theorem k_1559 : Cond.methodLink RL 197 yL_tug ∈ WL := wl_in (wt_5 (List.mem_of_getElem? (i := 207) rfl)) rfl
theorem k_1560 : Cond.static yL_tug ∈ WL := wl_in (wt_5 (List.mem_of_getElem? (i := 208) rfl)) rfl
theorem k_1561 : Cond.methodLink RL 199 yX12_tug ∈ WL := wl_in (wt_9 (List.mem_of_getElem? (i := 15) rfl)) rfl
theorem k_1562 : Cond.instanceMethod yX12_tug ∈ WL := wl_in (wt_9 (List.mem_of_getElem? (i := 16) rfl)) rfl
theorem k_1563 : Cond.selects RX12 yX12_tug yX12_tug ∈ WL := wl_in (wt_9 (List.mem_of_getElem? (i := 17) rfl)) rfl
theorem k_1564 : Cond.methodLink RL 200 yL_decisive ∈ WL := wl_in (wt_5 (List.mem_of_getElem? (i := 228) rfl)) rfl
theorem k_1565 : Cond.static yL_decisive ∈ WL := wl_in (wt_5 (List.mem_of_getElem? (i := 229) rfl)) rfl
theorem k_1566 : Cond.methodLink RL 202 yX12_decisive ∈ WL := wl_in (wt_9 (List.mem_of_getElem? (i := 23) rfl)) rfl
theorem k_1567 : Cond.instanceMethod yX12_decisive ∈ WL := wl_in (wt_9 (List.mem_of_getElem? (i := 24) rfl)) rfl
theorem k_1568 : Cond.selects RX12 yX12_decisive yX12_decisive ∈ WL := wl_in (wt_9 (List.mem_of_getElem? (i := 25) rfl)) rfl
theorem k_1569 : Cond.methodLink RL 203 yL_steps ∈ WL := wl_in (wt_5 (List.mem_of_getElem? (i := 239) rfl)) rfl
theorem k_1570 : Cond.static yL_steps ∈ WL := wl_in (wt_6 (List.mem_of_getElem? (i := 0) rfl)) rfl
theorem k_1571 : Cond.methodLink RL 205 yX12_steps ∈ WL := wl_in (wt_9 (List.mem_of_getElem? (i := 27) rfl)) rfl
theorem k_1572 : Cond.instanceMethod yX12_steps ∈ WL := wl_in (wt_9 (List.mem_of_getElem? (i := 28) rfl)) rfl
theorem k_1573 : Cond.selects RX12 yX12_steps yX12_steps ∈ WL := wl_in (wt_9 (List.mem_of_getElem? (i := 29) rfl)) rfl
theorem k_1574 : Cond.methodLink RL 206 yL_busiest ∈ WL := wl_in (wt_6 (List.mem_of_getElem? (i := 10) rfl)) rfl
theorem k_1575 : Cond.static yL_busiest ∈ WL := wl_in (wt_6 (List.mem_of_getElem? (i := 11) rfl)) rfl
theorem k_1576 : Cond.methodLink RL 208 yX12_busiest ∈ WL := wl_in (wt_9 (List.mem_of_getElem? (i := 31) rfl)) rfl
theorem k_1577 : Cond.instanceMethod yX12_busiest ∈ WL := wl_in (wt_9 (List.mem_of_getElem? (i := 32) rfl)) rfl
theorem k_1578 : Cond.selects RX12 yX12_busiest yX12_busiest ∈ WL := wl_in (wt_9 (List.mem_of_getElem? (i := 33) rfl)) rfl
theorem k_1579 : Cond.methodLink RL 209 yL_crowd ∈ WL := wl_in (wt_6 (List.mem_of_getElem? (i := 17) rfl)) rfl
theorem k_1580 : Cond.static yL_crowd ∈ WL := wl_in (wt_6 (List.mem_of_getElem? (i := 18) rfl)) rfl
theorem k_1581 : Cond.methodLink RL 211 yX12_crowd ∈ WL := wl_in (wt_9 (List.mem_of_getElem? (i := 35) rfl)) rfl
theorem k_1582 : Cond.instanceMethod yX12_crowd ∈ WL := wl_in (wt_9 (List.mem_of_getElem? (i := 36) rfl)) rfl
theorem k_1583 : Cond.selects RX12 yX12_crowd yX12_crowd ∈ WL := wl_in (wt_9 (List.mem_of_getElem? (i := 37) rfl)) rfl
theorem k_1584 : Cond.methodLink RL 212 yL_common ∈ WL := wl_in (wt_6 (List.mem_of_getElem? (i := 28) rfl)) rfl
theorem k_1585 : Cond.static yL_common ∈ WL := wl_in (wt_6 (List.mem_of_getElem? (i := 29) rfl)) rfl
theorem k_1586 : Cond.methodLink RL 214 yX12_common ∈ WL := wl_in (wt_9 (List.mem_of_getElem? (i := 39) rfl)) rfl
theorem k_1587 : Cond.instanceMethod yX12_common ∈ WL := wl_in (wt_9 (List.mem_of_getElem? (i := 40) rfl)) rfl
theorem k_1588 : Cond.selects RX12 yX12_common yX12_common ∈ WL := wl_in (wt_9 (List.mem_of_getElem? (i := 41) rfl)) rfl
theorem k_1589 : Cond.methodLink RL 215 yL_see ∈ WL := wl_in (wt_6 (List.mem_of_getElem? (i := 35) rfl)) rfl
theorem k_1590 : Cond.static yL_see ∈ WL := wl_in (wt_6 (List.mem_of_getElem? (i := 36) rfl)) rfl
theorem k_1591 : Cond.methodLink RL 218 yX12_see ∈ WL := wl_in (wt_9 (List.mem_of_getElem? (i := 43) rfl)) rfl
theorem k_1592 : Cond.instanceMethod yX12_see ∈ WL := wl_in (wt_9 (List.mem_of_getElem? (i := 44) rfl)) rfl
theorem k_1593 : Cond.selects RX12 yX12_see yX12_see ∈ WL := wl_in (wt_9 (List.mem_of_getElem? (i := 45) rfl)) rfl
theorem k_1594 : Cond.methodLink RL 219 yL_hidden ∈ WL := wl_in (wt_6 (List.mem_of_getElem? (i := 43) rfl)) rfl
theorem k_1595 : Cond.static yL_hidden ∈ WL := wl_in (wt_6 (List.mem_of_getElem? (i := 44) rfl)) rfl
theorem k_1596 : Cond.methodLink RL 221 yX12_hidden ∈ WL := wl_in (wt_9 (List.mem_of_getElem? (i := 47) rfl)) rfl
theorem k_1597 : Cond.instanceMethod yX12_hidden ∈ WL := wl_in (wt_9 (List.mem_of_getElem? (i := 48) rfl)) rfl
theorem k_1598 : Cond.selects RX12 yX12_hidden yX12_hidden ∈ WL := wl_in (wt_9 (List.mem_of_getElem? (i := 49) rfl)) rfl
theorem k_1599 : Cond.methodLink RL 222 yL_next ∈ WL := wl_in (wt_6 (List.mem_of_getElem? (i := 86) rfl)) rfl
theorem k_1600 : Cond.static yL_next ∈ WL := wl_in (wt_6 (List.mem_of_getElem? (i := 87) rfl)) rfl
theorem k_1601 : Cond.methodLink RL 224 yX12_next ∈ WL := wl_in (wt_9 (List.mem_of_getElem? (i := 60) rfl)) rfl
theorem k_1602 : Cond.instanceMethod yX12_next ∈ WL := wl_in (wt_9 (List.mem_of_getElem? (i := 61) rfl)) rfl
theorem k_1603 : Cond.selects RX12 yX12_next yX12_next ∈ WL := wl_in (wt_9 (List.mem_of_getElem? (i := 62) rfl)) rfl
theorem k_1604 : Cond.methodLink RL 225 yX11_forget ∈ WL := wl_in (wt_3 (List.mem_of_getElem? (i := 23) rfl)) rfl
theorem k_1605 : Cond.instanceMethod yX11_forget ∈ WL := wl_in (wt_3 (List.mem_of_getElem? (i := 24) rfl)) rfl
theorem k_1606 : Cond.selects RX11 yX11_forget yX11_forget ∈ WL := wl_in (wt_3 (List.mem_of_getElem? (i := 25) rfl)) rfl
theorem k_1607 : Cond.methodLink RL 228 yX12_forget ∈ WL := wl_in (wt_9 (List.mem_of_getElem? (i := 68) rfl)) rfl
theorem k_1608 : Cond.instanceMethod yX12_forget ∈ WL := wl_in (wt_9 (List.mem_of_getElem? (i := 69) rfl)) rfl
theorem k_1609 : Cond.selects RX12 yX12_forget yX12_forget ∈ WL := wl_in (wt_9 (List.mem_of_getElem? (i := 70) rfl)) rfl
theorem k_1610 : Cond.methodLink RL 229 yL_game ∈ WL := wl_in (wt_6 (List.mem_of_getElem? (i := 101) rfl)) rfl
theorem k_1611 : Cond.static yL_game ∈ WL := wl_in (wt_6 (List.mem_of_getElem? (i := 102) rfl)) rfl
theorem k_1612 : Cond.methodLink RL 232 yX12_game ∈ WL := wl_in (wt_9 (List.mem_of_getElem? (i := 72) rfl)) rfl
theorem k_1613 : Cond.instanceMethod yX12_game ∈ WL := wl_in (wt_9 (List.mem_of_getElem? (i := 73) rfl)) rfl
theorem k_1614 : Cond.selects RX12 yX12_game yX12_game ∈ WL := wl_in (wt_9 (List.mem_of_getElem? (i := 74) rfl)) rfl
theorem k_1615 : Cond.methodLink RL 233 yL_drawn ∈ WL := wl_in (wt_6 (List.mem_of_getElem? (i := 137) rfl)) rfl
theorem k_1616 : Cond.static yL_drawn ∈ WL := wl_in (wt_6 (List.mem_of_getElem? (i := 138) rfl)) rfl
theorem k_1617 : Cond.methodLink RL 235 yX12_drawn ∈ WL := wl_in (wt_9 (List.mem_of_getElem? (i := 84) rfl)) rfl
theorem k_1618 : Cond.instanceMethod yX12_drawn ∈ WL := wl_in (wt_9 (List.mem_of_getElem? (i := 85) rfl)) rfl
theorem k_1619 : Cond.selects RX12 yX12_drawn yX12_drawn ∈ WL := wl_in (wt_9 (List.mem_of_getElem? (i := 86) rfl)) rfl
theorem k_1620 : Cond.methodLink RL 236 yX11_image ∈ WL := wl_in (wt_3 (List.mem_of_getElem? (i := 31) rfl)) rfl
theorem k_1621 : Cond.instanceMethod yX11_image ∈ WL := wl_in (wt_3 (List.mem_of_getElem? (i := 32) rfl)) rfl
theorem k_1622 : Cond.selects RX11 yX11_image yX11_image ∈ WL := wl_in (wt_3 (List.mem_of_getElem? (i := 33) rfl)) rfl
theorem k_1623 : Cond.methodLink RL 239 yX12_image ∈ WL := wl_in (wt_9 (List.mem_of_getElem? (i := 97) rfl)) rfl
theorem k_1624 : Cond.instanceMethod yX12_image ∈ WL := wl_in (wt_9 (List.mem_of_getElem? (i := 98) rfl)) rfl
theorem k_1625 : Cond.selects RX12 yX12_image yX12_image ∈ WL := wl_in (wt_9 (List.mem_of_getElem? (i := 99) rfl)) rfl
theorem k_1626 : Cond.methodLink RL 240 yX11_restore ∈ WL := wl_in (wt_3 (List.mem_of_getElem? (i := 54) rfl)) rfl
theorem k_1627 : Cond.instanceMethod yX11_restore ∈ WL := wl_in (wt_3 (List.mem_of_getElem? (i := 55) rfl)) rfl
theorem k_1628 : Cond.selects RX11 yX11_restore yX11_restore ∈ WL := wl_in (wt_3 (List.mem_of_getElem? (i := 56) rfl)) rfl
theorem k_1629 : Cond.methodLink RL 244 yX12_restore ∈ WL := wl_in (wt_9 (List.mem_of_getElem? (i := 104) rfl)) rfl
theorem k_1630 : Cond.instanceMethod yX12_restore ∈ WL := wl_in (wt_9 (List.mem_of_getElem? (i := 105) rfl)) rfl
theorem k_1631 : Cond.selects RX12 yX12_restore yX12_restore ∈ WL := wl_in (wt_9 (List.mem_of_getElem? (i := 106) rfl)) rfl
theorem in_wsX00 : ∀ w ∈ wsX00, w ∈ WL := fun w h => wl_in ((show ∀ w ∈ wsX00, w ∈ lw_tbl by decide +kernel) w h) ((show ∀ w ∈ wsX00, goodWord w = true by decide +kernel) w h)
theorem in_wsX10 : ∀ w ∈ wsX10, w ∈ WL := fun w h => wl_in ((show ∀ w ∈ wsX10, w ∈ lw_tbl by decide +kernel) w h) ((show ∀ w ∈ wsX10, goodWord w = true by decide +kernel) w h)
theorem in_wsX20 : ∀ w ∈ wsX20, w ∈ WL := fun w h => wl_in ((show ∀ w ∈ wsX20, w ∈ lw_tbl by decide +kernel) w h) ((show ∀ w ∈ wsX20, goodWord w = true by decide +kernel) w h)
theorem in_wsX30 : ∀ w ∈ wsX30, w ∈ WL := fun w h => wl_in ((show ∀ w ∈ wsX30, w ∈ lw_tbl by decide +kernel) w h) ((show ∀ w ∈ wsX30, goodWord w = true by decide +kernel) w h)
theorem in_wsX40 : ∀ w ∈ wsX40, w ∈ WL := fun w h => wl_in ((show ∀ w ∈ wsX40, w ∈ lw_tbl by decide +kernel) w h) ((show ∀ w ∈ wsX40, goodWord w = true by decide +kernel) w h)
theorem in_wsX50 : ∀ w ∈ wsX50, w ∈ WL := fun w h => wl_in ((show ∀ w ∈ wsX50, w ∈ lw_tbl by decide +kernel) w h) ((show ∀ w ∈ wsX50, goodWord w = true by decide +kernel) w h)
theorem in_wsX60 : ∀ w ∈ wsX60, w ∈ WL := fun w h => wl_in ((show ∀ w ∈ wsX60, w ∈ lw_tbl by decide +kernel) w h) ((show ∀ w ∈ wsX60, goodWord w = true by decide +kernel) w h)
theorem in_wsX70 : ∀ w ∈ wsX70, w ∈ WL := fun w h => wl_in ((show ∀ w ∈ wsX70, w ∈ lw_tbl by decide +kernel) w h) ((show ∀ w ∈ wsX70, goodWord w = true by decide +kernel) w h)
theorem in_wsX80 : ∀ w ∈ wsX80, w ∈ WL := fun w h => wl_in ((show ∀ w ∈ wsX80, w ∈ lw_tbl by decide +kernel) w h) ((show ∀ w ∈ wsX80, goodWord w = true by decide +kernel) w h)
theorem in_wsX90 : ∀ w ∈ wsX90, w ∈ WL := fun w h => wl_in ((show ∀ w ∈ wsX90, w ∈ lw_tbl by decide +kernel) w h) ((show ∀ w ∈ wsX90, goodWord w = true by decide +kernel) w h)
theorem in_wsX100 : ∀ w ∈ wsX100, w ∈ WL := fun w h => wl_in ((show ∀ w ∈ wsX100, w ∈ lw_tbl by decide +kernel) w h) ((show ∀ w ∈ wsX100, goodWord w = true by decide +kernel) w h)
theorem in_wsX110 : ∀ w ∈ wsX110, w ∈ WL := fun w h => wl_in ((show ∀ w ∈ wsX110, w ∈ lw_tbl by decide +kernel) w h) ((show ∀ w ∈ wsX110, goodWord w = true by decide +kernel) w h)
theorem in_wsX120 : ∀ w ∈ wsX120, w ∈ WL := fun w h => wl_in ((show ∀ w ∈ wsX120, w ∈ lw_tbl by decide +kernel) w h) ((show ∀ w ∈ wsX120, goodWord w = true by decide +kernel) w h)
theorem in_wsJx145de0 : ∀ w ∈ wsJx145de0, w ∈ WL := fun w h => wl_in ((show ∀ w ∈ wsJx145de0, w ∈ lw_tbl by decide +kernel) w h) ((show ∀ w ∈ wsJx145de0, goodWord w = true by decide +kernel) w h)
theorem in_wsJx9f9b00 : ∀ w ∈ wsJx9f9b00, w ∈ WL := fun w h => wl_in ((show ∀ w ∈ wsJx9f9b00, w ∈ lw_tbl by decide +kernel) w h) ((show ∀ w ∈ wsJx9f9b00, goodWord w = true by decide +kernel) w h)
theorem in_wsJ110 : ∀ w ∈ wsJ110, w ∈ WL := fun w h => wl_in ((show ∀ w ∈ wsJ110, w ∈ lw_tbl by decide +kernel) w h) ((show ∀ w ∈ wsJ110, goodWord w = true by decide +kernel) w h)
theorem in_wsJxb160c0 : ∀ w ∈ wsJxb160c0, w ∈ WL := fun w h => wl_in ((show ∀ w ∈ wsJxb160c0, w ∈ lw_tbl by decide +kernel) w h) ((show ∀ w ∈ wsJxb160c0, goodWord w = true by decide +kernel) w h)
theorem in_wsJx29ce00 : ∀ w ∈ wsJx29ce00, w ∈ WL := fun w h => wl_in ((show ∀ w ∈ wsJx29ce00, w ∈ lw_tbl by decide +kernel) w h) ((show ∀ w ∈ wsJx29ce00, goodWord w = true by decide +kernel) w h)
theorem in_wsJ60 : ∀ w ∈ wsJ60, w ∈ WL := fun w h => wl_in ((show ∀ w ∈ wsJ60, w ∈ lw_tbl by decide +kernel) w h) ((show ∀ w ∈ wsJ60, goodWord w = true by decide +kernel) w h)
theorem in_wsJ90 : ∀ w ∈ wsJ90, w ∈ WL := fun w h => wl_in ((show ∀ w ∈ wsJ90, w ∈ lw_tbl by decide +kernel) w h) ((show ∀ w ∈ wsJ90, goodWord w = true by decide +kernel) w h)
theorem in_wsJ00 : ∀ w ∈ wsJ00, w ∈ WL := fun w h => wl_in ((show ∀ w ∈ wsJ00, w ∈ lw_tbl by decide +kernel) w h) ((show ∀ w ∈ wsJ00, goodWord w = true by decide +kernel) w h)
theorem in_wsJ10 : ∀ w ∈ wsJ10, w ∈ WL := fun w h => wl_in ((show ∀ w ∈ wsJ10, w ∈ lw_tbl by decide +kernel) w h) ((show ∀ w ∈ wsJ10, goodWord w = true by decide +kernel) w h)
theorem in_wsJ20 : ∀ w ∈ wsJ20, w ∈ WL := fun w h => wl_in ((show ∀ w ∈ wsJ20, w ∈ lw_tbl by decide +kernel) w h) ((show ∀ w ∈ wsJ20, goodWord w = true by decide +kernel) w h)
theorem in_wsJ100 : ∀ w ∈ wsJ100, w ∈ WL := fun w h => wl_in ((show ∀ w ∈ wsJ100, w ∈ lw_tbl by decide +kernel) w h) ((show ∀ w ∈ wsJ100, goodWord w = true by decide +kernel) w h)
theorem in_wsJxfd54e0 : ∀ w ∈ wsJxfd54e0, w ∈ WL := fun w h => wl_in ((show ∀ w ∈ wsJxfd54e0, w ∈ lw_tbl by decide +kernel) w h) ((show ∀ w ∈ wsJxfd54e0, goodWord w = true by decide +kernel) w h)
theorem in_wsJx3cf430 : ∀ w ∈ wsJx3cf430, w ∈ WL := fun w h => wl_in ((show ∀ w ∈ wsJx3cf430, w ∈ lw_tbl by decide +kernel) w h) ((show ∀ w ∈ wsJx3cf430, goodWord w = true by decide +kernel) w h)
theorem in_wsJ30 : ∀ w ∈ wsJ30, w ∈ WL := fun w h => wl_in ((show ∀ w ∈ wsJ30, w ∈ lw_tbl by decide +kernel) w h) ((show ∀ w ∈ wsJ30, goodWord w = true by decide +kernel) w h)
