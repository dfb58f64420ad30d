/-- the words that every method is given: those of the tables that hold in any state of the launch -/
def xT : List Cond := lw_tbl.filter goodWord
theorem xT_ap {w : Cond} (h : w ∈ k2_sels lw_privs) (g : goodWord w = true) : w ∈ xT := List.mem_filter.mpr ⟨List.mem_append_left _ h, g⟩
theorem xT_a1 {w : Cond} (h : w ∈ tables_1_1) (g : goodWord w = true) : w ∈ xT := List.mem_filter.mpr ⟨List.mem_append_right _ (List.mem_append_left _ h), g⟩
theorem xT_a2 {w : Cond} (h : w ∈ tables_1_2) (g : goodWord w = true) : w ∈ xT := List.mem_filter.mpr ⟨List.mem_append_right _ (List.mem_append_right _ (List.mem_append_left _ h)), g⟩
theorem xT_a3 {w : Cond} (h : w ∈ tables_1_3) (g : goodWord w = true) : w ∈ xT := List.mem_filter.mpr ⟨List.mem_append_right _ (List.mem_append_right _ (List.mem_append_right _ (List.mem_append_left _ h))), g⟩
theorem xT_a4 {w : Cond} (h : w ∈ tables_1_4) (g : goodWord w = true) : w ∈ xT := List.mem_filter.mpr ⟨List.mem_append_right _ (List.mem_append_right _ (List.mem_append_right _ (List.mem_append_right _ h))), g⟩
theorem xt_0 : Cond.selects RX3 yX3_weightError yX3_weightError ∈ xT := xT_ap (List.mem_of_getElem? (i := 0) rfl) rfl
theorem xt_1 : Cond.selects RX3 yX3_record yX3_record ∈ xT := xT_ap (List.mem_of_getElem? (i := 1) rfl) rfl
theorem xt_2 : Cond.selects RX0 yX0_forgetPossible yX0_forgetPossible ∈ xT := xT_ap (List.mem_of_getElem? (i := 2) rfl) rfl
theorem xt_3 : Cond.selects RX3 yX3_beliefError yX3_beliefError ∈ xT := xT_ap (List.mem_of_getElem? (i := 3) rfl) rfl
theorem xt_4 : Cond.selects RX2 yX2_look yX2_look ∈ xT := xT_ap (List.mem_of_getElem? (i := 4) rfl) rfl
theorem xt_5 : Cond.selects RX2 yX2_addPlans yX2_addPlans ∈ xT := xT_ap (List.mem_of_getElem? (i := 5) rfl) rfl
theorem xt_6 : Cond.selects RX0 yX0_bestBy yX0_bestBy ∈ xT := xT_ap (List.mem_of_getElem? (i := 6) rfl) rfl
theorem xt_7 : Cond.selects RX0 yX0_worthBy yX0_worthBy ∈ xT := xT_ap (List.mem_of_getElem? (i := 7) rfl) rfl
theorem xt_8 : Cond.selects RX0 yX0_mostByAny yX0_mostByAny ∈ xT := xT_ap (List.mem_of_getElem? (i := 8) rfl) rfl
theorem xt_9 : Cond.selects RX0 yX0_leastByAny yX0_leastByAny ∈ xT := xT_ap (List.mem_of_getElem? (i := 9) rfl) rfl
theorem xt_10 : Cond.selects RX1 yX1_faultOfOrder yX1_faultOfOrder ∈ xT := xT_ap (List.mem_of_getElem? (i := 10) rfl) rfl
theorem xt_11 : Cond.selects RX1 yX1_shapeOf yX1_shapeOf ∈ xT := xT_ap (List.mem_of_getElem? (i := 11) rfl) rfl
theorem xt_12 : Cond.selects RX3 yX3_isDone yX3_isDone ∈ xT := xT_ap (List.mem_of_getElem? (i := 12) rfl) rfl
theorem xt_13 : Cond.selects RX3 yX3_isChanged yX3_isChanged ∈ xT := xT_ap (List.mem_of_getElem? (i := 13) rfl) rfl
theorem xt_14 : Cond.selects RX4 yX4_code yX4_code ∈ xT := xT_ap (List.mem_of_getElem? (i := 14) rfl) rfl
theorem xt_15 : Cond.selects RX4 yX4_records yX4_records ∈ xT := xT_ap (List.mem_of_getElem? (i := 15) rfl) rfl
theorem xt_16 : Cond.selects RX4 yX4_mayWeigh yX4_mayWeigh ∈ xT := xT_ap (List.mem_of_getElem? (i := 16) rfl) rfl
theorem xt_17 : Cond.selects RX4 yX4_changes yX4_changes ∈ xT := xT_ap (List.mem_of_getElem? (i := 17) rfl) rfl
theorem xt_18 : Cond.selects RX4 yX4_mayBelieve yX4_mayBelieve ∈ xT := xT_ap (List.mem_of_getElem? (i := 18) rfl) rfl
theorem xt_19 : Cond.selects RX4 yX4_codeAt yX4_codeAt ∈ xT := xT_ap (List.mem_of_getElem? (i := 19) rfl) rfl
theorem xt_20 : Cond.selects RX4 yX4_looksAt yX4_looksAt ∈ xT := xT_ap (List.mem_of_getElem? (i := 20) rfl) rfl
theorem xt_21 : Cond.selects RX4 yX4_holds yX4_holds ∈ xT := xT_ap (List.mem_of_getElem? (i := 21) rfl) rfl
theorem xt_22 : Cond.selects RX4 yX4_unhappy yX4_unhappy ∈ xT := xT_ap (List.mem_of_getElem? (i := 22) rfl) rfl
theorem xt_23 : Cond.selects RX4 yX4_isThere yX4_isThere ∈ xT := xT_ap (List.mem_of_getElem? (i := 23) rfl) rfl
theorem xt_24 : Cond.selects RX4 yX4_most yX4_most ∈ xT := xT_ap (List.mem_of_getElem? (i := 24) rfl) rfl
theorem xt_25 : Cond.selects RX4 yX4_has yX4_has ∈ xT := xT_ap (List.mem_of_getElem? (i := 25) rfl) rfl
theorem xt_26 : Cond.selects RX4 yX4_payoffOf yX4_payoffOf ∈ xT := xT_ap (List.mem_of_getElem? (i := 26) rfl) rfl
theorem xt_27 : Cond.selects RX4 yX4_wrong yX4_wrong ∈ xT := xT_ap (List.mem_of_getElem? (i := 27) rfl) rfl
theorem xt_28 : Cond.selects RX4 yX4_best yX4_best ∈ xT := xT_ap (List.mem_of_getElem? (i := 28) rfl) rfl
theorem xt_29 : Cond.selects RX4 yX4_believes yX4_believes ∈ xT := xT_ap (List.mem_of_getElem? (i := 29) rfl) rfl
theorem xt_30 : Cond.selects RX4 yX4_senders yX4_senders ∈ xT := xT_ap (List.mem_of_getElem? (i := 30) rfl) rfl
theorem xt_31 : Cond.selects RX4 yX4_bestSet yX4_bestSet ∈ xT := xT_ap (List.mem_of_getElem? (i := 31) rfl) rfl
theorem xt_32 : Cond.selects RX4 yX4_worth yX4_worth ∈ xT := xT_ap (List.mem_of_getElem? (i := 32) rfl) rfl
theorem xt_33 : Cond.selects RX4 yX4_counts yX4_counts ∈ xT := xT_ap (List.mem_of_getElem? (i := 33) rfl) rfl
theorem xt_34 : Cond.selects RX4 yX4_isRefined yX4_isRefined ∈ xT := xT_ap (List.mem_of_getElem? (i := 34) rfl) rfl
theorem xt_35 : Cond.selects RX4 yX4_isBarred yX4_isBarred ∈ xT := xT_ap (List.mem_of_getElem? (i := 35) rfl) rfl
theorem xt_36 : Cond.selects RX4 yX4_there yX4_there ∈ xT := xT_ap (List.mem_of_getElem? (i := 36) rfl) rfl
theorem xt_37 : Cond.selects RX4 yX4_never yX4_never ∈ xT := xT_ap (List.mem_of_getElem? (i := 37) rfl) rfl
theorem xt_38 : Cond.selects RX4 yX4_possible yX4_possible ∈ xT := xT_ap (List.mem_of_getElem? (i := 38) rfl) rfl
theorem xt_39 : Cond.selects RX4 yX4_isBeyond yX4_isBeyond ∈ xT := xT_ap (List.mem_of_getElem? (i := 39) rfl) rfl
theorem xt_40 : Cond.selects RX4 yX4_sort yX4_sort ∈ xT := xT_ap (List.mem_of_getElem? (i := 40) rfl) rfl
theorem xt_41 : Cond.selects RX4 yX4_receives yX4_receives ∈ xT := xT_ap (List.mem_of_getElem? (i := 41) rfl) rfl
theorem xt_42 : Cond.selects RX4 yX4_looks yX4_looks ∈ xT := xT_ap (List.mem_of_getElem? (i := 42) rfl) rfl
theorem xt_43 : Cond.selects RX4 yX4_sum yX4_sum ∈ xT := xT_ap (List.mem_of_getElem? (i := 43) rfl) rfl
theorem xt_44 : Cond.selects RX4 yX4_sentSet yX4_sentSet ∈ xT := xT_ap (List.mem_of_getElem? (i := 44) rfl) rfl
theorem xt_45 : Cond.selects RX4 yX4_isText yX4_isText ∈ xT := xT_ap (List.mem_of_getElem? (i := 45) rfl) rfl
theorem xt_46 : Cond.selects RX4 yX4_isOrder yX4_isOrder ∈ xT := xT_ap (List.mem_of_getElem? (i := 46) rfl) rfl
theorem xt_47 : Cond.selects RX4 yX4_isFigure yX4_isFigure ∈ xT := xT_ap (List.mem_of_getElem? (i := 47) rfl) rfl
theorem xt_48 : Cond.selects RX4 yX4_isAt yX4_isAt ∈ xT := xT_ap (List.mem_of_getElem? (i := 48) rfl) rfl
theorem xt_49 : Cond.selects RX4 yX4_isSign yX4_isSign ∈ xT := xT_ap (List.mem_of_getElem? (i := 49) rfl) rfl
theorem xt_50 : Cond.selects RX4 yX4_isPay yX4_isPay ∈ xT := xT_ap (List.mem_of_getElem? (i := 50) rfl) rfl
theorem xt_51 : Cond.selects RX4 yX4_does yX4_does ∈ xT := xT_ap (List.mem_of_getElem? (i := 51) rfl) rfl
theorem xt_52 : Cond.initialized RL ∈ xT := xT_a1 (List.mem_of_getElem? (i := 0) rfl) rfl
theorem xt_53 : Cond.initialized RX3 ∈ xT := xT_a1 (List.mem_of_getElem? (i := 1) rfl) rfl
theorem xt_54 : Cond.initialized RX0 ∈ xT := xT_a1 (List.mem_of_getElem? (i := 2) rfl) rfl
theorem xt_55 : Cond.initialized RJ7 ∈ xT := xT_a1 (List.mem_of_getElem? (i := 3) rfl) rfl
theorem xt_56 : Cond.initialized RX2 ∈ xT := xT_a1 (List.mem_of_getElem? (i := 4) rfl) rfl
theorem xt_57 : Cond.initialized RX1 ∈ xT := xT_a1 (List.mem_of_getElem? (i := 5) rfl) rfl
theorem xt_58 : Cond.initialized RX4 ∈ xT := xT_a1 (List.mem_of_getElem? (i := 6) rfl) rfl
theorem xt_59 : Cond.initialized RJ10 ∈ xT := xT_a1 (List.mem_of_getElem? (i := 7) rfl) rfl
theorem xt_60 : Cond.initialized RJ9 ∈ xT := xT_a1 (List.mem_of_getElem? (i := 8) rfl) rfl
theorem xt_61 : Cond.initialized RJ6 ∈ xT := xT_a1 (List.mem_of_getElem? (i := 9) rfl) rfl
theorem xt_62 : Cond.initialized RJ0 ∈ xT := xT_a1 (List.mem_of_getElem? (i := 10) rfl) rfl
theorem xt_63 : Cond.initialized RJ1 ∈ xT := xT_a1 (List.mem_of_getElem? (i := 11) rfl) rfl
theorem xt_64 : Cond.initialized RJ3 ∈ xT := xT_a1 (List.mem_of_getElem? (i := 12) rfl) rfl
theorem xt_65 : Cond.initialized RJ2 ∈ xT := xT_a1 (List.mem_of_getElem? (i := 13) rfl) rfl
theorem xt_66 : Cond.classLink RL 7 RX3 ∈ xT := xT_a1 (List.mem_of_getElem? (i := 14) rfl) rfl
theorem xt_68 : Cond.methodLink RL 9 yX3_init ∈ xT := xT_a1 (List.mem_of_getElem? (i := 16) rfl) rfl
theorem xt_69 : Cond.instanceMethod yX3_init ∈ xT := xT_a1 (List.mem_of_getElem? (i := 17) rfl) rfl
theorem xt_70 : Cond.code yX3_init prog_1_method_1_code 1 none ∈ xT := xT_a1 (List.mem_of_getElem? (i := 18) rfl) rfl
theorem xt_71 : Cond.methodLink RX3 3 objectInit ∈ xT := xT_a1 (List.mem_of_getElem? (i := 19) rfl) rfl
theorem xt_72 : Cond.instanceMethod objectInit ∈ xT := xT_a1 (List.mem_of_getElem? (i := 20) rfl) rfl
theorem xt_73 : Cond.code objectInit object_method_1_code 1 none ∈ xT := xT_a1 (List.mem_of_getElem? (i := 21) rfl) rfl
theorem xt_74 : Cond.classLink RX3 9 RX0 ∈ xT := xT_a1 (List.mem_of_getElem? (i := 22) rfl) rfl
theorem xt_76 : Cond.methodLink RX3 11 yX0_init ∈ xT := xT_a1 (List.mem_of_getElem? (i := 24) rfl) rfl
theorem xt_77 : Cond.instanceMethod yX0_init ∈ xT := xT_a1 (List.mem_of_getElem? (i := 25) rfl) rfl
theorem xt_78 : Cond.code yX0_init prog_2_method_1_code 1 none ∈ xT := xT_a1 (List.mem_of_getElem? (i := 26) rfl) rfl
theorem xt_79 : Cond.methodLink RX0 5 objectInit ∈ xT := xT_a1 (List.mem_of_getElem? (i := 27) rfl) rfl
theorem xt_80 : Cond.methodLink RX0 18 yJ7_fill_fda19 ∈ xT := xT_a1 (List.mem_of_getElem? (i := 28) rfl) rfl
theorem xt_81 : Cond.static yJ7_fill_fda19 ∈ xT := xT_a1 (List.mem_of_getElem? (i := 29) rfl) rfl
theorem xt_82 : Cond.code yJ7_fill_fda19 prog_13_method_104_code 5 none ∈ xT := xT_a1 (List.mem_of_getElem? (i := 30) rfl) rfl
theorem xt_83 : Cond.methodLink RJ7 13 yJ7_rangeCheck_23922 ∈ xT := xT_a1 (List.mem_of_getElem? (i := 31) rfl) rfl
theorem xt_84 : Cond.static yJ7_rangeCheck_23922 ∈ xT := xT_a1 (List.mem_of_getElem? (i := 32) rfl) rfl
theorem xt_85 : Cond.code yJ7_rangeCheck_23922 prog_13_method_30_code 3 none ∈ xT := xT_a1 (List.mem_of_getElem? (i := 33) rfl) rfl
theorem xt_86 : Cond.fieldLink RX0 11 "MessageGames$Game" "cells" "[I" ∈ xT := xT_a1 (List.mem_of_getElem? (i := 34) rfl) rfl
theorem xt_87 : Cond.fieldLink RX0 15 "MessageGames$Game" "possible" "[I" ∈ xT := xT_a1 (List.mem_of_getElem? (i := 35) rfl) rfl
theorem xt_88 : Cond.laysFinal RX0 "MessageGames$Game" "cells" "[I" ∈ xT := xT_a1 (List.mem_of_getElem? (i := 36) rfl) rfl
theorem xt_89 : Cond.laysFinal RX0 "MessageGames$Game" "possible" "[I" ∈ xT := xT_a1 (List.mem_of_getElem? (i := 38) rfl) rfl
theorem xt_90 : Cond.arrayClass .int ∈ xT := xT_a1 (List.mem_of_getElem? (i := 41) rfl) rfl
theorem xt_91 : Cond.classLink RX3 16 RX2 ∈ xT := xT_a1 (List.mem_of_getElem? (i := 42) rfl) rfl
theorem xt_93 : Cond.methodLink RX3 18 yX2_init ∈ xT := xT_a1 (List.mem_of_getElem? (i := 44) rfl) rfl
theorem xt_94 : Cond.instanceMethod yX2_init ∈ xT := xT_a1 (List.mem_of_getElem? (i := 45) rfl) rfl
theorem xt_95 : Cond.code yX2_init prog_4_method_1_code 1 none ∈ xT := xT_a1 (List.mem_of_getElem? (i := 46) rfl) rfl
theorem xt_96 : Cond.methodLink RX2 3 objectInit ∈ xT := xT_a1 (List.mem_of_getElem? (i := 47) rfl) rfl
theorem xt_97 : Cond.classLink RX2 9 RX0 ∈ xT := xT_a1 (List.mem_of_getElem? (i := 48) rfl) rfl
theorem xt_98 : Cond.methodLink RX2 11 yX0_init ∈ xT := xT_a1 (List.mem_of_getElem? (i := 49) rfl) rfl
theorem xt_99 : Cond.fieldLink RX2 12 "MessageGames$Survey" "trial" "LMessageGames$Game;" ∈ xT := xT_a1 (List.mem_of_getElem? (i := 50) rfl) rfl
theorem xt_100 : Cond.fieldLink RX2 18 "MessageGames$Survey" "codes" "[I" ∈ xT := xT_a1 (List.mem_of_getElem? (i := 51) rfl) rfl
theorem xt_101 : Cond.fieldLink RX2 22 "MessageGames$Survey" "numbers" "[I" ∈ xT := xT_a1 (List.mem_of_getElem? (i := 52) rfl) rfl
theorem xt_102 : Cond.fieldLink RX2 25 "MessageGames$Survey" "isMade" "Z" ∈ xT := xT_a1 (List.mem_of_getElem? (i := 53) rfl) rfl
theorem xt_103 : Cond.laysFinal RX2 "MessageGames$Survey" "trial" "LMessageGames$Game;" ∈ xT := xT_a1 (List.mem_of_getElem? (i := 54) rfl) rfl
theorem xt_104 : Cond.laysFinal RX2 "MessageGames$Survey" "codes" "[I" ∈ xT := xT_a1 (List.mem_of_getElem? (i := 56) rfl) rfl
theorem xt_105 : Cond.laysFinal RX2 "MessageGames$Survey" "numbers" "[I" ∈ xT := xT_a1 (List.mem_of_getElem? (i := 58) rfl) rfl
theorem xt_106 : Cond.lays RX2 "MessageGames$Survey" "isMade" "Z" ∈ xT := xT_a1 (List.mem_of_getElem? (i := 60) rfl) rfl
theorem xt_107 : Cond.classLink RX3 23 RX1 ∈ xT := xT_a1 (List.mem_of_getElem? (i := 63) rfl) rfl
theorem xt_109 : Cond.methodLink RX3 25 yX1_init ∈ xT := xT_a1 (List.mem_of_getElem? (i := 65) rfl) rfl
theorem xt_110 : Cond.instanceMethod yX1_init ∈ xT := xT_a1 (List.mem_of_getElem? (i := 66) rfl) rfl
theorem xt_111 : Cond.code yX1_init prog_3_method_1_code 1 none ∈ xT := xT_a1 (List.mem_of_getElem? (i := 67) rfl) rfl
theorem xt_112 : Cond.methodLink RX1 3 objectInit ∈ xT := xT_a1 (List.mem_of_getElem? (i := 68) rfl) rfl
theorem xt_113 : Cond.fieldLink RX1 9 "MessageGames$Pad" "signs" "[I" ∈ xT := xT_a1 (List.mem_of_getElem? (i := 69) rfl) rfl
theorem xt_114 : Cond.fieldLink RX1 15 "MessageGames$Pad" "length" "I" ∈ xT := xT_a1 (List.mem_of_getElem? (i := 70) rfl) rfl
theorem xt_115 : Cond.laysFinal RX1 "MessageGames$Pad" "signs" "[I" ∈ xT := xT_a1 (List.mem_of_getElem? (i := 71) rfl) rfl
theorem xt_116 : Cond.lays RX1 "MessageGames$Pad" "length" "I" ∈ xT := xT_a1 (List.mem_of_getElem? (i := 73) rfl) rfl
theorem xt_117 : Cond.fieldLink RX3 12 "MessageGames" "game" "LMessageGames$Game;" ∈ xT := xT_a1 (List.mem_of_getElem? (i := 76) rfl) rfl
theorem xt_118 : Cond.fieldLink RX3 19 "MessageGames" "survey" "LMessageGames$Survey;" ∈ xT := xT_a1 (List.mem_of_getElem? (i := 77) rfl) rfl
theorem xt_119 : Cond.fieldLink RX3 26 "MessageGames" "pad" "LMessageGames$Pad;" ∈ xT := xT_a1 (List.mem_of_getElem? (i := 78) rfl) rfl
theorem xt_120 : Cond.fieldLink RX3 30 "MessageGames" "past" "[I" ∈ xT := xT_a1 (List.mem_of_getElem? (i := 79) rfl) rfl
theorem xt_121 : Cond.fieldLink RX3 34 "MessageGames" "slots" "[I" ∈ xT := xT_a1 (List.mem_of_getElem? (i := 80) rfl) rfl
theorem xt_122 : Cond.fieldLink RX3 37 "MessageGames" "isSaved" "[Z" ∈ xT := xT_a1 (List.mem_of_getElem? (i := 81) rfl) rfl
theorem xt_123 : Cond.fieldLink RX3 41 "MessageGames" "changes" "I" ∈ xT := xT_a1 (List.mem_of_getElem? (i := 82) rfl) rfl
theorem xt_124 : Cond.laysFinal RX3 "MessageGames" "game" "LMessageGames$Game;" ∈ xT := xT_a1 (List.mem_of_getElem? (i := 83) rfl) rfl
theorem xt_125 : Cond.laysFinal RX3 "MessageGames" "survey" "LMessageGames$Survey;" ∈ xT := xT_a1 (List.mem_of_getElem? (i := 85) rfl) rfl
theorem xt_126 : Cond.laysFinal RX3 "MessageGames" "pad" "LMessageGames$Pad;" ∈ xT := xT_a1 (List.mem_of_getElem? (i := 87) rfl) rfl
theorem xt_127 : Cond.laysFinal RX3 "MessageGames" "past" "[I" ∈ xT := xT_a1 (List.mem_of_getElem? (i := 89) rfl) rfl
theorem xt_128 : Cond.laysFinal RX3 "MessageGames" "slots" "[I" ∈ xT := xT_a1 (List.mem_of_getElem? (i := 91) rfl) rfl
theorem xt_129 : Cond.laysFinal RX3 "MessageGames" "isSaved" "[Z" ∈ xT := xT_a1 (List.mem_of_getElem? (i := 93) rfl) rfl
theorem xt_130 : Cond.lays RX3 "MessageGames" "changes" "I" ∈ xT := xT_a1 (List.mem_of_getElem? (i := 95) rfl) rfl
theorem xt_131 : Cond.arrayClass .boolean ∈ xT := xT_a1 (List.mem_of_getElem? (i := 98) rfl) rfl
theorem xt_132 : Cond.methodLink RL 13 yX3_weight ∈ xT := xT_a1 (List.mem_of_getElem? (i := 99) rfl) rfl
theorem xt_133 : Cond.instanceMethod yX3_weight ∈ xT := xT_a1 (List.mem_of_getElem? (i := 100) rfl) rfl
theorem xt_134 : Cond.selects RX3 yX3_weight yX3_weight ∈ xT := xT_a1 (List.mem_of_getElem? (i := 101) rfl) rfl
theorem xt_135 : Cond.code yX3_weight prog_1_method_2_code 4 (some .int) ∈ xT := xT_a1 (List.mem_of_getElem? (i := 102) rfl) rfl
theorem xt_136 : Cond.methodLink RX3 45 yX3_weightError ∈ xT := xT_a1 (List.mem_of_getElem? (i := 103) rfl) rfl
theorem xt_138 : Cond.instanceMethod yX3_weightError ∈ xT := xT_a1 (List.mem_of_getElem? (i := 105) rfl) rfl
theorem xt_139 : Cond.code yX3_weightError prog_1_method_30_code 4 (some .int) ∈ xT := xT_a1 (List.mem_of_getElem? (i := 106) rfl) rfl
theorem xt_140 : Cond.methodLink RX3 59 yX3_isWithin ∈ xT := xT_a1 (List.mem_of_getElem? (i := 107) rfl) rfl
theorem xt_141 : Cond.static yX3_isWithin ∈ xT := xT_a1 (List.mem_of_getElem? (i := 108) rfl) rfl
theorem xt_142 : Cond.code yX3_isWithin prog_1_method_26_code 2 (some .boolean) ∈ xT := xT_a1 (List.mem_of_getElem? (i := 109) rfl) rfl
theorem xt_143 : Cond.methodLink RX3 205 yX0_weightSum ∈ xT := xT_a1 (List.mem_of_getElem? (i := 110) rfl) rfl
theorem xt_144 : Cond.instanceMethod yX0_weightSum ∈ xT := xT_a1 (List.mem_of_getElem? (i := 111) rfl) rfl
theorem xt_145 : Cond.selects RX0 yX0_weightSum yX0_weightSum ∈ xT := xT_a1 (List.mem_of_getElem? (i := 112) rfl) rfl
theorem xt_146 : Cond.code yX0_weightSum prog_2_method_20_code 3 (some .int) ∈ xT := xT_a1 (List.mem_of_getElem? (i := 113) rfl) rfl
theorem xt_147 : Cond.methodLink RX0 43 yX0_weightPlace ∈ xT := xT_a1 (List.mem_of_getElem? (i := 114) rfl) rfl
theorem xt_148 : Cond.static yX0_weightPlace ∈ xT := xT_a1 (List.mem_of_getElem? (i := 115) rfl) rfl
theorem xt_149 : Cond.code yX0_weightPlace prog_2_method_2_code 1 (some .int) ∈ xT := xT_a1 (List.mem_of_getElem? (i := 116) rfl) rfl
theorem xt_150 : Cond.methodLink RX0 47 yX0_cell ∈ xT := xT_a1 (List.mem_of_getElem? (i := 117) rfl) rfl
theorem xt_151 : Cond.instanceMethod yX0_cell ∈ xT := xT_a1 (List.mem_of_getElem? (i := 118) rfl) rfl
theorem xt_152 : Cond.selects RX0 yX0_cell yX0_cell ∈ xT := xT_a1 (List.mem_of_getElem? (i := 119) rfl) rfl
theorem xt_153 : Cond.code yX0_cell prog_2_method_7_code 2 (some .int) ∈ xT := xT_a1 (List.mem_of_getElem? (i := 120) rfl) rfl
theorem xt_154 : Cond.methodLink RX3 52 yX0_weightPlace ∈ xT := xT_a1 (List.mem_of_getElem? (i := 121) rfl) rfl
theorem xt_155 : Cond.methodLink RX3 91 yX0_cell ∈ xT := xT_a1 (List.mem_of_getElem? (i := 122) rfl) rfl
theorem xt_156 : Cond.methodLink RX3 49 yX3_record ∈ xT := xT_a1 (List.mem_of_getElem? (i := 123) rfl) rfl
theorem xt_158 : Cond.instanceMethod yX3_record ∈ xT := xT_a1 (List.mem_of_getElem? (i := 125) rfl) rfl
theorem xt_159 : Cond.code yX3_record prog_1_method_32_code 1 none ∈ xT := xT_a1 (List.mem_of_getElem? (i := 126) rfl) rfl
theorem xt_160 : Cond.methodLink RX3 211 arraycopyName ∈ xT := xT_a1 (List.mem_of_getElem? (i := 127) rfl) rfl
theorem xt_161 : Cond.static arraycopyName ∈ xT := xT_a1 (List.mem_of_getElem? (i := 128) rfl) rfl
theorem xt_162 : Cond.native arraycopyName ∈ xT := xT_a1 (List.mem_of_getElem? (i := 129) rfl) rfl
theorem xt_163 : Cond.methodLink RX3 194 yX0_writeTo ∈ xT := xT_a1 (List.mem_of_getElem? (i := 130) rfl) rfl
theorem xt_164 : Cond.instanceMethod yX0_writeTo ∈ xT := xT_a1 (List.mem_of_getElem? (i := 131) rfl) rfl
theorem xt_165 : Cond.selects RX0 yX0_writeTo yX0_writeTo ∈ xT := xT_a1 (List.mem_of_getElem? (i := 132) rfl) rfl
theorem xt_166 : Cond.code yX0_writeTo prog_2_method_10_code 3 none ∈ xT := xT_a1 (List.mem_of_getElem? (i := 133) rfl) rfl
theorem xt_167 : Cond.methodLink RX0 34 arraycopyName ∈ xT := xT_a1 (List.mem_of_getElem? (i := 134) rfl) rfl
theorem xt_168 : Cond.methodLink RX3 56 yX0_change ∈ xT := xT_a1 (List.mem_of_getElem? (i := 135) rfl) rfl
theorem xt_169 : Cond.instanceMethod yX0_change ∈ xT := xT_a1 (List.mem_of_getElem? (i := 136) rfl) rfl
theorem xt_170 : Cond.selects RX0 yX0_change yX0_change ∈ xT := xT_a1 (List.mem_of_getElem? (i := 137) rfl) rfl
theorem xt_171 : Cond.code yX0_change prog_2_method_8_code 4 (some .int) ∈ xT := xT_a1 (List.mem_of_getElem? (i := 138) rfl) rfl
theorem xt_173 : Cond.methodLink RX0 28 yX0_forgetPossible ∈ xT := xT_a1 (List.mem_of_getElem? (i := 140) rfl) rfl
theorem xt_175 : Cond.instanceMethod yX0_forgetPossible ∈ xT := xT_a1 (List.mem_of_getElem? (i := 142) rfl) rfl
theorem xt_176 : Cond.code yX0_forgetPossible prog_2_method_9_code 1 none ∈ xT := xT_a1 (List.mem_of_getElem? (i := 143) rfl) rfl
theorem xt_177 : Cond.methodLink RX0 31 yJ7_fill_53178 ∈ xT := xT_a1 (List.mem_of_getElem? (i := 144) rfl) rfl
theorem xt_178 : Cond.static yJ7_fill_53178 ∈ xT := xT_a1 (List.mem_of_getElem? (i := 145) rfl) rfl
theorem xt_179 : Cond.code yJ7_fill_53178 prog_13_method_103_code 4 none ∈ xT := xT_a1 (List.mem_of_getElem? (i := 146) rfl) rfl
theorem xt_180 : Cond.methodLink RL 18 yX3_pay ∈ xT := xT_a1 (List.mem_of_getElem? (i := 147) rfl) rfl
theorem xt_181 : Cond.instanceMethod yX3_pay ∈ xT := xT_a1 (List.mem_of_getElem? (i := 148) rfl) rfl
theorem xt_182 : Cond.selects RX3 yX3_pay yX3_pay ∈ xT := xT_a1 (List.mem_of_getElem? (i := 149) rfl) rfl
theorem xt_183 : Cond.code yX3_pay prog_1_method_3_code 6 (some .int) ∈ xT := xT_a1 (List.mem_of_getElem? (i := 150) rfl) rfl
theorem xt_184 : Cond.methodLink RX3 63 yX0_payPlace ∈ xT := xT_a1 (List.mem_of_getElem? (i := 151) rfl) rfl
theorem xt_185 : Cond.static yX0_payPlace ∈ xT := xT_a1 (List.mem_of_getElem? (i := 152) rfl) rfl
theorem xt_186 : Cond.code yX0_payPlace prog_2_method_4_code 4 (some .int) ∈ xT := xT_a1 (List.mem_of_getElem? (i := 153) rfl) rfl
theorem xt_187 : Cond.methodLink RL 23 yX3_believe ∈ xT := xT_a1 (List.mem_of_getElem? (i := 154) rfl) rfl
theorem xt_188 : Cond.instanceMethod yX3_believe ∈ xT := xT_a1 (List.mem_of_getElem? (i := 155) rfl) rfl
theorem xt_189 : Cond.selects RX3 yX3_believe yX3_believe ∈ xT := xT_a1 (List.mem_of_getElem? (i := 156) rfl) rfl
theorem xt_190 : Cond.code yX3_believe prog_1_method_4_code 5 (some .int) ∈ xT := xT_a1 (List.mem_of_getElem? (i := 157) rfl) rfl
theorem xt_191 : Cond.methodLink RX3 67 yX3_beliefError ∈ xT := xT_a1 (List.mem_of_getElem? (i := 158) rfl) rfl
theorem xt_193 : Cond.instanceMethod yX3_beliefError ∈ xT := xT_a1 (List.mem_of_getElem? (i := 160) rfl) rfl
theorem xt_194 : Cond.code yX3_beliefError prog_1_method_31_code 5 (some .int) ∈ xT := xT_a1 (List.mem_of_getElem? (i := 161) rfl) rfl
theorem xt_195 : Cond.methodLink RX3 208 yX0_toldSum ∈ xT := xT_a1 (List.mem_of_getElem? (i := 162) rfl) rfl
theorem xt_196 : Cond.instanceMethod yX0_toldSum ∈ xT := xT_a1 (List.mem_of_getElem? (i := 163) rfl) rfl
theorem xt_197 : Cond.selects RX0 yX0_toldSum yX0_toldSum ∈ xT := xT_a1 (List.mem_of_getElem? (i := 164) rfl) rfl
theorem xt_198 : Cond.code yX0_toldSum prog_2_method_21_code 4 (some .int) ∈ xT := xT_a1 (List.mem_of_getElem? (i := 165) rfl) rfl
theorem xt_199 : Cond.methodLink RX0 68 yX0_toldPlace ∈ xT := xT_a1 (List.mem_of_getElem? (i := 166) rfl) rfl
theorem xt_200 : Cond.static yX0_toldPlace ∈ xT := xT_a1 (List.mem_of_getElem? (i := 167) rfl) rfl
theorem xt_201 : Cond.code yX0_toldPlace prog_2_method_3_code 2 (some .int) ∈ xT := xT_a1 (List.mem_of_getElem? (i := 168) rfl) rfl
theorem xt_202 : Cond.methodLink RX3 71 yX0_toldPlace ∈ xT := xT_a1 (List.mem_of_getElem? (i := 169) rfl) rfl
theorem xt_203 : Cond.methodLink RL 28 yX3_send ∈ xT := xT_a1 (List.mem_of_getElem? (i := 170) rfl) rfl
theorem xt_204 : Cond.instanceMethod yX3_send ∈ xT := xT_a1 (List.mem_of_getElem? (i := 171) rfl) rfl
theorem xt_205 : Cond.selects RX3 yX3_send yX3_send ∈ xT := xT_a1 (List.mem_of_getElem? (i := 172) rfl) rfl
theorem xt_206 : Cond.code yX3_send prog_1_method_5_code 3 (some .int) ∈ xT := xT_a1 (List.mem_of_getElem? (i := 173) rfl) rfl
theorem xt_207 : Cond.methodLink RX3 74 yX0_messagePlace ∈ xT := xT_a1 (List.mem_of_getElem? (i := 174) rfl) rfl
theorem xt_208 : Cond.static yX0_messagePlace ∈ xT := xT_a1 (List.mem_of_getElem? (i := 175) rfl) rfl
theorem xt_209 : Cond.code yX0_messagePlace prog_2_method_5_code 1 (some .int) ∈ xT := xT_a1 (List.mem_of_getElem? (i := 176) rfl) rfl
theorem xt_210 : Cond.methodLink RL 32 yX3_answer ∈ xT := xT_a1 (List.mem_of_getElem? (i := 177) rfl) rfl
theorem xt_211 : Cond.instanceMethod yX3_answer ∈ xT := xT_a1 (List.mem_of_getElem? (i := 178) rfl) rfl
theorem xt_212 : Cond.selects RX3 yX3_answer yX3_answer ∈ xT := xT_a1 (List.mem_of_getElem? (i := 179) rfl) rfl
theorem xt_213 : Cond.code yX3_answer prog_1_method_6_code 3 (some .int) ∈ xT := xT_a1 (List.mem_of_getElem? (i := 180) rfl) rfl
theorem xt_214 : Cond.methodLink RX3 77 yX0_answerPlace ∈ xT := xT_a1 (List.mem_of_getElem? (i := 181) rfl) rfl
theorem xt_215 : Cond.static yX0_answerPlace ∈ xT := xT_a1 (List.mem_of_getElem? (i := 182) rfl) rfl
theorem xt_216 : Cond.code yX0_answerPlace prog_2_method_6_code 1 (some .int) ∈ xT := xT_a1 (List.mem_of_getElem? (i := 183) rfl) rfl
theorem xt_217 : Cond.methodLink RL 36 yX3_adopt ∈ xT := xT_a1 (List.mem_of_getElem? (i := 184) rfl) rfl
theorem xt_218 : Cond.instanceMethod yX3_adopt ∈ xT := xT_a1 (List.mem_of_getElem? (i := 185) rfl) rfl
theorem xt_219 : Cond.selects RX3 yX3_adopt yX3_adopt ∈ xT := xT_a1 (List.mem_of_getElem? (i := 186) rfl) rfl
theorem xt_220 : Cond.code yX3_adopt prog_1_method_7_code 3 (some .int) ∈ xT := xT_a1 (List.mem_of_getElem? (i := 187) rfl) rfl
theorem xt_221 : Cond.methodLink RX3 80 yX2_numberOf ∈ xT := xT_a1 (List.mem_of_getElem? (i := 188) rfl) rfl
theorem xt_222 : Cond.instanceMethod yX2_numberOf ∈ xT := xT_a1 (List.mem_of_getElem? (i := 189) rfl) rfl
theorem xt_223 : Cond.selects RX2 yX2_numberOf yX2_numberOf ∈ xT := xT_a1 (List.mem_of_getElem? (i := 190) rfl) rfl
theorem xt_224 : Cond.code yX2_numberOf prog_4_method_2_code 6 (some .int) ∈ xT := xT_a1 (List.mem_of_getElem? (i := 191) rfl) rfl
theorem xt_225 : Cond.methodLink RX2 29 yX2_look ∈ xT := xT_a1 (List.mem_of_getElem? (i := 192) rfl) rfl
theorem xt_227 : Cond.instanceMethod yX2_look ∈ xT := xT_a1 (List.mem_of_getElem? (i := 194) rfl) rfl
theorem xt_228 : Cond.code yX2_look prog_4_method_6_code 3 none ∈ xT := xT_a1 (List.mem_of_getElem? (i := 195) rfl) rfl
theorem xt_229 : Cond.methodLink RX2 59 yX0_differsOnlyInPlan ∈ xT := xT_a1 (List.mem_of_getElem? (i := 196) rfl) rfl
theorem xt_230 : Cond.instanceMethod yX0_differsOnlyInPlan ∈ xT := xT_a1 (List.mem_of_getElem? (i := 197) rfl) rfl
theorem xt_231 : Cond.selects RX0 yX0_differsOnlyInPlan yX0_differsOnlyInPlan ∈ xT := xT_a1 (List.mem_of_getElem? (i := 198) rfl) rfl
theorem xt_232 : Cond.code yX0_differsOnlyInPlan prog_2_method_13_code 3 (some .boolean) ∈ xT := xT_a1 (List.mem_of_getElem? (i := 199) rfl) rfl
theorem xt_233 : Cond.methodLink RX2 63 yX0_copyFrom ∈ xT := xT_a1 (List.mem_of_getElem? (i := 200) rfl) rfl
theorem xt_234 : Cond.instanceMethod yX0_copyFrom ∈ xT := xT_a1 (List.mem_of_getElem? (i := 201) rfl) rfl
theorem xt_235 : Cond.selects RX0 yX0_copyFrom yX0_copyFrom ∈ xT := xT_a1 (List.mem_of_getElem? (i := 202) rfl) rfl
theorem xt_236 : Cond.code yX0_copyFrom prog_2_method_12_code 2 none ∈ xT := xT_a1 (List.mem_of_getElem? (i := 203) rfl) rfl
theorem xt_237 : Cond.methodLink RX0 40 yX0_readFrom ∈ xT := xT_a1 (List.mem_of_getElem? (i := 204) rfl) rfl
theorem xt_238 : Cond.instanceMethod yX0_readFrom ∈ xT := xT_a1 (List.mem_of_getElem? (i := 205) rfl) rfl
theorem xt_239 : Cond.selects RX0 yX0_readFrom yX0_readFrom ∈ xT := xT_a1 (List.mem_of_getElem? (i := 206) rfl) rfl
theorem xt_240 : Cond.code yX0_readFrom prog_2_method_11_code 3 none ∈ xT := xT_a1 (List.mem_of_getElem? (i := 207) rfl) rfl
theorem xt_241 : Cond.methodLink RX2 66 yJ7_fill_53178 ∈ xT := xT_a1 (List.mem_of_getElem? (i := 208) rfl) rfl
theorem xt_242 : Cond.methodLink RX2 72 yX2_addPlans ∈ xT := xT_a1 (List.mem_of_getElem? (i := 209) rfl) rfl
theorem xt_244 : Cond.instanceMethod yX2_addPlans ∈ xT := xT_a1 (List.mem_of_getElem? (i := 211) rfl) rfl
theorem xt_245 : Cond.code yX2_addPlans prog_4_method_7_code 8 none ∈ xT := xT_a1 (List.mem_of_getElem? (i := 212) rfl) rfl
theorem xt_246 : Cond.methodLink RX2 41 yX0_takePlan ∈ xT := xT_a1 (List.mem_of_getElem? (i := 213) rfl) rfl
theorem xt_247 : Cond.instanceMethod yX0_takePlan ∈ xT := xT_a1 (List.mem_of_getElem? (i := 214) rfl) rfl
theorem xt_248 : Cond.selects RX0 yX0_takePlan yX0_takePlan ∈ xT := xT_a1 (List.mem_of_getElem? (i := 215) rfl) rfl
theorem xt_249 : Cond.code yX0_takePlan prog_2_method_15_code 4 none ∈ xT := xT_a1 (List.mem_of_getElem? (i := 216) rfl) rfl
theorem xt_250 : Cond.methodLink RX2 75 yX0_bestActions ∈ xT := xT_a1 (List.mem_of_getElem? (i := 217) rfl) rfl
theorem xt_251 : Cond.instanceMethod yX0_bestActions ∈ xT := xT_a1 (List.mem_of_getElem? (i := 218) rfl) rfl
theorem xt_252 : Cond.selects RX0 yX0_bestActions yX0_bestActions ∈ xT := xT_a1 (List.mem_of_getElem? (i := 219) rfl) rfl
theorem xt_253 : Cond.code yX0_bestActions prog_2_method_27_code 5 (some .int) ∈ xT := xT_a1 (List.mem_of_getElem? (i := 220) rfl) rfl
theorem xt_254 : Cond.methodLink RX0 75 yX0_beliefWeight ∈ xT := xT_a1 (List.mem_of_getElem? (i := 221) rfl) rfl
theorem xt_255 : Cond.instanceMethod yX0_beliefWeight ∈ xT := xT_a1 (List.mem_of_getElem? (i := 222) rfl) rfl
theorem xt_256 : Cond.selects RX0 yX0_beliefWeight yX0_beliefWeight ∈ xT := xT_a1 (List.mem_of_getElem? (i := 223) rfl) rfl
theorem xt_257 : Cond.code yX0_beliefWeight prog_2_method_22_code 4 (some .int) ∈ xT := xT_a1 (List.mem_of_getElem? (i := 224) rfl) rfl
theorem xt_258 : Cond.methodLink RX0 53 yX0_sendersOf ∈ xT := xT_a1 (List.mem_of_getElem? (i := 225) rfl) rfl
theorem xt_259 : Cond.instanceMethod yX0_sendersOf ∈ xT := xT_a1 (List.mem_of_getElem? (i := 226) rfl) rfl
theorem xt_260 : Cond.selects RX0 yX0_sendersOf yX0_sendersOf ∈ xT := xT_a1 (List.mem_of_getElem? (i := 227) rfl) rfl
theorem xt_261 : Cond.code yX0_sendersOf prog_2_method_17_code 4 (some .int) ∈ xT := xT_a1 (List.mem_of_getElem? (i := 228) rfl) rfl
theorem xt_262 : Cond.methodLink RX0 50 yX0_messagePlace ∈ xT := xT_a1 (List.mem_of_getElem? (i := 229) rfl) rfl
theorem xt_264 : Cond.static yX3_has ∈ xT := xT_a1 (List.mem_of_getElem? (i := 231) rfl) rfl
theorem xt_265 : Cond.code yX3_has prog_1_method_27_code 2 (some .boolean) ∈ xT := xT_a1 (List.mem_of_getElem? (i := 232) rfl) rfl
theorem xt_266 : Cond.methodLink RX0 86 yX0_bestBy ∈ xT := xT_a1 (List.mem_of_getElem? (i := 233) rfl) rfl
theorem xt_268 : Cond.instanceMethod yX0_bestBy ∈ xT := xT_a1 (List.mem_of_getElem? (i := 235) rfl) rfl
theorem xt_269 : Cond.code yX0_bestBy prog_2_method_25_code 9 (some .int) ∈ xT := xT_a1 (List.mem_of_getElem? (i := 236) rfl) rfl
theorem xt_270 : Cond.methodLink RX0 82 yX0_worthBy ∈ xT := xT_a1 (List.mem_of_getElem? (i := 237) rfl) rfl
theorem xt_272 : Cond.instanceMethod yX0_worthBy ∈ xT := xT_a1 (List.mem_of_getElem? (i := 239) rfl) rfl
theorem xt_273 : Cond.code yX0_worthBy prog_2_method_24_code 6 (some .int) ∈ xT := xT_a2 (List.mem_of_getElem? (i := 0) rfl) rfl
theorem xt_274 : Cond.methodLink RX0 78 yX0_payPlace ∈ xT := xT_a2 (List.mem_of_getElem? (i := 1) rfl) rfl
theorem xt_276 : Cond.methodLink RX2 81 yX0_lowestBetterType ∈ xT := xT_a2 (List.mem_of_getElem? (i := 3) rfl) rfl
theorem xt_277 : Cond.instanceMethod yX0_lowestBetterType ∈ xT := xT_a2 (List.mem_of_getElem? (i := 4) rfl) rfl
theorem xt_278 : Cond.selects RX0 yX0_lowestBetterType yX0_lowestBetterType ∈ xT := xT_a2 (List.mem_of_getElem? (i := 5) rfl) rfl
theorem xt_279 : Cond.code yX0_lowestBetterType prog_2_method_33_code 3 (some .int) ∈ xT := xT_a2 (List.mem_of_getElem? (i := 6) rfl) rfl
theorem xt_280 : Cond.methodLink RX0 98 yX0_dearestMessage ∈ xT := xT_a2 (List.mem_of_getElem? (i := 7) rfl) rfl
theorem xt_281 : Cond.instanceMethod yX0_dearestMessage ∈ xT := xT_a2 (List.mem_of_getElem? (i := 8) rfl) rfl
theorem xt_282 : Cond.selects RX0 yX0_dearestMessage yX0_dearestMessage ∈ xT := xT_a2 (List.mem_of_getElem? (i := 9) rfl) rfl
theorem xt_283 : Cond.code yX0_dearestMessage prog_2_method_32_code 4 (some .int) ∈ xT := xT_a2 (List.mem_of_getElem? (i := 10) rfl) rfl
theorem xt_284 : Cond.methodLink RX0 95 yX0_payoffBy ∈ xT := xT_a2 (List.mem_of_getElem? (i := 11) rfl) rfl
theorem xt_285 : Cond.instanceMethod yX0_payoffBy ∈ xT := xT_a2 (List.mem_of_getElem? (i := 12) rfl) rfl
theorem xt_286 : Cond.selects RX0 yX0_payoffBy yX0_payoffBy ∈ xT := xT_a2 (List.mem_of_getElem? (i := 13) rfl) rfl
theorem xt_287 : Cond.code yX0_payoffBy prog_2_method_30_code 3 (some .int) ∈ xT := xT_a2 (List.mem_of_getElem? (i := 14) rfl) rfl
theorem xt_288 : Cond.methodLink RX0 92 yX0_answerPlace ∈ xT := xT_a2 (List.mem_of_getElem? (i := 15) rfl) rfl
theorem xt_289 : Cond.methodLink RX0 101 yX0_ownPayoff ∈ xT := xT_a2 (List.mem_of_getElem? (i := 16) rfl) rfl
theorem xt_290 : Cond.instanceMethod yX0_ownPayoff ∈ xT := xT_a2 (List.mem_of_getElem? (i := 17) rfl) rfl
theorem xt_291 : Cond.selects RX0 yX0_ownPayoff yX0_ownPayoff ∈ xT := xT_a2 (List.mem_of_getElem? (i := 18) rfl) rfl
theorem xt_292 : Cond.code yX0_ownPayoff prog_2_method_31_code 2 (some .int) ∈ xT := xT_a2 (List.mem_of_getElem? (i := 19) rfl) rfl
theorem xt_294 : Cond.methodLink RX2 37 yX2_codeAt ∈ xT := xT_a2 (List.mem_of_getElem? (i := 21) rfl) rfl
theorem xt_295 : Cond.instanceMethod yX2_codeAt ∈ xT := xT_a2 (List.mem_of_getElem? (i := 22) rfl) rfl
theorem xt_296 : Cond.selects RX2 yX2_codeAt yX2_codeAt ∈ xT := xT_a2 (List.mem_of_getElem? (i := 23) rfl) rfl
theorem xt_297 : Cond.code yX2_codeAt prog_4_method_3_code 2 (some .int) ∈ xT := xT_a2 (List.mem_of_getElem? (i := 24) rfl) rfl
theorem xt_298 : Cond.methodLink RX2 45 yX0_isUntempted ∈ xT := xT_a2 (List.mem_of_getElem? (i := 25) rfl) rfl
theorem xt_299 : Cond.instanceMethod yX0_isUntempted ∈ xT := xT_a2 (List.mem_of_getElem? (i := 26) rfl) rfl
theorem xt_300 : Cond.selects RX0 yX0_isUntempted yX0_isUntempted ∈ xT := xT_a2 (List.mem_of_getElem? (i := 27) rfl) rfl
theorem xt_301 : Cond.code yX0_isUntempted prog_2_method_39_code 5 (some .boolean) ∈ xT := xT_a2 (List.mem_of_getElem? (i := 28) rfl) rfl
theorem xt_302 : Cond.methodLink RX0 65 yX0_typesThere ∈ xT := xT_a2 (List.mem_of_getElem? (i := 29) rfl) rfl
theorem xt_303 : Cond.instanceMethod yX0_typesThere ∈ xT := xT_a2 (List.mem_of_getElem? (i := 30) rfl) rfl
theorem xt_304 : Cond.selects RX0 yX0_typesThere yX0_typesThere ∈ xT := xT_a2 (List.mem_of_getElem? (i := 31) rfl) rfl
theorem xt_305 : Cond.code yX0_typesThere prog_2_method_16_code 3 (some .int) ∈ xT := xT_a2 (List.mem_of_getElem? (i := 32) rfl) rfl
theorem xt_306 : Cond.methodLink RX0 125 yX0_neverSenders ∈ xT := xT_a2 (List.mem_of_getElem? (i := 33) rfl) rfl
theorem xt_307 : Cond.instanceMethod yX0_neverSenders ∈ xT := xT_a2 (List.mem_of_getElem? (i := 34) rfl) rfl
theorem xt_308 : Cond.selects RX0 yX0_neverSenders yX0_neverSenders ∈ xT := xT_a2 (List.mem_of_getElem? (i := 35) rfl) rfl
theorem xt_309 : Cond.code yX0_neverSenders prog_2_method_38_code 6 (some .int) ∈ xT := xT_a2 (List.mem_of_getElem? (i := 36) rfl) rfl
theorem xt_310 : Cond.methodLink RX0 118 yX0_possibleActions ∈ xT := xT_a2 (List.mem_of_getElem? (i := 37) rfl) rfl
theorem xt_311 : Cond.instanceMethod yX0_possibleActions ∈ xT := xT_a2 (List.mem_of_getElem? (i := 38) rfl) rfl
theorem xt_312 : Cond.selects RX0 yX0_possibleActions yX0_possibleActions ∈ xT := xT_a2 (List.mem_of_getElem? (i := 39) rfl) rfl
theorem xt_313 : Cond.code yX0_possibleActions prog_2_method_35_code 11 (some .int) ∈ xT := xT_a2 (List.mem_of_getElem? (i := 40) rfl) rfl
theorem xt_314 : Cond.methodLink RX0 121 yX0_mostByAny ∈ xT := xT_a2 (List.mem_of_getElem? (i := 41) rfl) rfl
theorem xt_316 : Cond.instanceMethod yX0_mostByAny ∈ xT := xT_a2 (List.mem_of_getElem? (i := 43) rfl) rfl
theorem xt_317 : Cond.code yX0_mostByAny prog_2_method_36_code 6 (some .int) ∈ xT := xT_a2 (List.mem_of_getElem? (i := 44) rfl) rfl
theorem xt_318 : Cond.methodLink RX0 110 yJ9_max_7cf53 ∈ xT := xT_a2 (List.mem_of_getElem? (i := 45) rfl) rfl
theorem xt_319 : Cond.static yJ9_max_7cf53 ∈ xT := xT_a2 (List.mem_of_getElem? (i := 46) rfl) rfl
theorem xt_320 : Cond.code yJ9_max_7cf53 prog_8_method_65_code 2 (some .int) ∈ xT := xT_a2 (List.mem_of_getElem? (i := 47) rfl) rfl
theorem xt_321 : Cond.methodLink RX0 128 yX0_leastByAny ∈ xT := xT_a2 (List.mem_of_getElem? (i := 48) rfl) rfl
theorem xt_323 : Cond.instanceMethod yX0_leastByAny ∈ xT := xT_a2 (List.mem_of_getElem? (i := 50) rfl) rfl
theorem xt_324 : Cond.code yX0_leastByAny prog_2_method_37_code 6 (some .int) ∈ xT := xT_a2 (List.mem_of_getElem? (i := 51) rfl) rfl
theorem xt_325 : Cond.methodLink RX0 115 yJ9_min_7cf53 ∈ xT := xT_a2 (List.mem_of_getElem? (i := 52) rfl) rfl
theorem xt_326 : Cond.static yJ9_min_7cf53 ∈ xT := xT_a2 (List.mem_of_getElem? (i := 53) rfl) rfl
theorem xt_327 : Cond.code yJ9_min_7cf53 prog_8_method_69_code 2 (some .int) ∈ xT := xT_a2 (List.mem_of_getElem? (i := 54) rfl) rfl
theorem xt_328 : Cond.methodLink RX2 49 yX0_kind ∈ xT := xT_a2 (List.mem_of_getElem? (i := 55) rfl) rfl
theorem xt_329 : Cond.instanceMethod yX0_kind ∈ xT := xT_a2 (List.mem_of_getElem? (i := 56) rfl) rfl
theorem xt_330 : Cond.selects RX0 yX0_kind yX0_kind ∈ xT := xT_a2 (List.mem_of_getElem? (i := 57) rfl) rfl
theorem xt_331 : Cond.code yX0_kind prog_2_method_19_code 2 (some .int) ∈ xT := xT_a2 (List.mem_of_getElem? (i := 58) rfl) rfl
theorem xt_332 : Cond.methodLink RX0 56 yX0_messagesSent ∈ xT := xT_a2 (List.mem_of_getElem? (i := 59) rfl) rfl
theorem xt_333 : Cond.instanceMethod yX0_messagesSent ∈ xT := xT_a2 (List.mem_of_getElem? (i := 60) rfl) rfl
theorem xt_334 : Cond.selects RX0 yX0_messagesSent yX0_messagesSent ∈ xT := xT_a2 (List.mem_of_getElem? (i := 61) rfl) rfl
theorem xt_335 : Cond.code yX0_messagesSent prog_2_method_18_code 3 (some .int) ∈ xT := xT_a2 (List.mem_of_getElem? (i := 62) rfl) rfl
theorem xt_336 : Cond.methodLink RX0 60 yJ6_bitCount_0f7a4 ∈ xT := xT_a2 (List.mem_of_getElem? (i := 63) rfl) rfl
theorem xt_337 : Cond.static yJ6_bitCount_0f7a4 ∈ xT := xT_a2 (List.mem_of_getElem? (i := 64) rfl) rfl
theorem xt_338 : Cond.code yJ6_bitCount_0f7a4 prog_7_method_49_code 1 (some .int) ∈ xT := xT_a2 (List.mem_of_getElem? (i := 65) rfl) rfl
theorem xt_339 : Cond.constant RJ6 265 (1431655765) ∈ xT := xT_a2 (List.mem_of_getElem? (i := 66) rfl) rfl
theorem xt_340 : Cond.constant RJ6 266 (858993459) ∈ xT := xT_a2 (List.mem_of_getElem? (i := 67) rfl) rfl
theorem xt_341 : Cond.constant RJ6 267 (252645135) ∈ xT := xT_a2 (List.mem_of_getElem? (i := 68) rfl) rfl
theorem xt_342 : Cond.methodLink RX3 84 yX2_codeAt ∈ xT := xT_a2 (List.mem_of_getElem? (i := 69) rfl) rfl
theorem xt_343 : Cond.methodLink RX3 87 yX0_takePlan ∈ xT := xT_a2 (List.mem_of_getElem? (i := 70) rfl) rfl
theorem xt_344 : Cond.methodLink RL 41 yX3_payoff ∈ xT := xT_a2 (List.mem_of_getElem? (i := 71) rfl) rfl
theorem xt_345 : Cond.instanceMethod yX3_payoff ∈ xT := xT_a2 (List.mem_of_getElem? (i := 72) rfl) rfl
theorem xt_346 : Cond.selects RX3 yX3_payoff yX3_payoff ∈ xT := xT_a2 (List.mem_of_getElem? (i := 73) rfl) rfl
theorem xt_347 : Cond.code yX3_payoff prog_1_method_8_code 5 (some .int) ∈ xT := xT_a2 (List.mem_of_getElem? (i := 74) rfl) rfl
theorem xt_348 : Cond.methodLink RL 46 yX3_ofType ∈ xT := xT_a2 (List.mem_of_getElem? (i := 75) rfl) rfl
theorem xt_349 : Cond.instanceMethod yX3_ofType ∈ xT := xT_a2 (List.mem_of_getElem? (i := 76) rfl) rfl
theorem xt_350 : Cond.selects RX3 yX3_ofType yX3_ofType ∈ xT := xT_a2 (List.mem_of_getElem? (i := 77) rfl) rfl
theorem xt_351 : Cond.code yX3_ofType prog_1_method_9_code 3 (some .int) ∈ xT := xT_a2 (List.mem_of_getElem? (i := 78) rfl) rfl
theorem xt_352 : Cond.methodLink RX3 94 yX0_ownPayoff ∈ xT := xT_a2 (List.mem_of_getElem? (i := 79) rfl) rfl
theorem xt_353 : Cond.methodLink RX3 97 yX0_dearestMessage ∈ xT := xT_a2 (List.mem_of_getElem? (i := 80) rfl) rfl
theorem xt_354 : Cond.methodLink RX3 100 yX0_payoffBy ∈ xT := xT_a2 (List.mem_of_getElem? (i := 81) rfl) rfl
theorem xt_355 : Cond.methodLink RL 50 yX3_ofMessage ∈ xT := xT_a2 (List.mem_of_getElem? (i := 82) rfl) rfl
theorem xt_356 : Cond.instanceMethod yX3_ofMessage ∈ xT := xT_a2 (List.mem_of_getElem? (i := 83) rfl) rfl
theorem xt_357 : Cond.selects RX3 yX3_ofMessage yX3_ofMessage ∈ xT := xT_a2 (List.mem_of_getElem? (i := 84) rfl) rfl
theorem xt_358 : Cond.code yX3_ofMessage prog_1_method_10_code 3 (some .int) ∈ xT := xT_a2 (List.mem_of_getElem? (i := 85) rfl) rfl
theorem xt_359 : Cond.methodLink RX3 103 yX0_sendersOf ∈ xT := xT_a2 (List.mem_of_getElem? (i := 86) rfl) rfl
theorem xt_360 : Cond.methodLink RX3 106 yX0_bestActions ∈ xT := xT_a2 (List.mem_of_getElem? (i := 87) rfl) rfl
theorem xt_361 : Cond.methodLink RX3 109 yX0_neverSenders ∈ xT := xT_a2 (List.mem_of_getElem? (i := 88) rfl) rfl
theorem xt_362 : Cond.methodLink RX3 112 yX0_typesThere ∈ xT := xT_a2 (List.mem_of_getElem? (i := 89) rfl) rfl
theorem xt_363 : Cond.methodLink RX3 116 yX0_possibleActions ∈ xT := xT_a2 (List.mem_of_getElem? (i := 90) rfl) rfl
theorem xt_364 : Cond.methodLink RL 54 yX3_belief ∈ xT := xT_a2 (List.mem_of_getElem? (i := 91) rfl) rfl
theorem xt_365 : Cond.instanceMethod yX3_belief ∈ xT := xT_a2 (List.mem_of_getElem? (i := 92) rfl) rfl
theorem xt_366 : Cond.selects RX3 yX3_belief yX3_belief ∈ xT := xT_a2 (List.mem_of_getElem? (i := 93) rfl) rfl
theorem xt_367 : Cond.code yX3_belief prog_1_method_11_code 6 (some .int) ∈ xT := xT_a2 (List.mem_of_getElem? (i := 94) rfl) rfl
theorem xt_368 : Cond.methodLink RX3 119 yX0_beliefWeight ∈ xT := xT_a2 (List.mem_of_getElem? (i := 95) rfl) rfl
theorem xt_369 : Cond.methodLink RX3 122 yX0_beliefSum ∈ xT := xT_a2 (List.mem_of_getElem? (i := 96) rfl) rfl
theorem xt_370 : Cond.instanceMethod yX0_beliefSum ∈ xT := xT_a2 (List.mem_of_getElem? (i := 97) rfl) rfl
theorem xt_371 : Cond.selects RX0 yX0_beliefSum yX0_beliefSum ∈ xT := xT_a2 (List.mem_of_getElem? (i := 98) rfl) rfl
theorem xt_372 : Cond.code yX0_beliefSum prog_2_method_23_code 4 (some .int) ∈ xT := xT_a2 (List.mem_of_getElem? (i := 99) rfl) rfl
theorem xt_373 : Cond.methodLink RX3 125 yX3_shortened ∈ xT := xT_a2 (List.mem_of_getElem? (i := 100) rfl) rfl
theorem xt_374 : Cond.static yX3_shortened ∈ xT := xT_a2 (List.mem_of_getElem? (i := 101) rfl) rfl
theorem xt_375 : Cond.code yX3_shortened prog_1_method_29_code 7 (some .int) ∈ xT := xT_a2 (List.mem_of_getElem? (i := 102) rfl) rfl
theorem xt_376 : Cond.methodLink RX3 200 yJ9_abs_0f7a4 ∈ xT := xT_a2 (List.mem_of_getElem? (i := 103) rfl) rfl
theorem xt_377 : Cond.static yJ9_abs_0f7a4 ∈ xT := xT_a2 (List.mem_of_getElem? (i := 104) rfl) rfl
theorem xt_378 : Cond.code yJ9_abs_0f7a4 prog_8_method_59_code 1 (some .int) ∈ xT := xT_a2 (List.mem_of_getElem? (i := 105) rfl) rfl
theorem xt_379 : Cond.methodLink RL 58 yX3_mean ∈ xT := xT_a2 (List.mem_of_getElem? (i := 106) rfl) rfl
theorem xt_380 : Cond.instanceMethod yX3_mean ∈ xT := xT_a2 (List.mem_of_getElem? (i := 107) rfl) rfl
theorem xt_381 : Cond.selects RX3 yX3_mean yX3_mean ∈ xT := xT_a2 (List.mem_of_getElem? (i := 108) rfl) rfl
theorem xt_382 : Cond.code yX3_mean prog_1_method_12_code 6 (some .int) ∈ xT := xT_a2 (List.mem_of_getElem? (i := 109) rfl) rfl
theorem xt_383 : Cond.methodLink RX3 128 yX0_worthOf ∈ xT := xT_a2 (List.mem_of_getElem? (i := 110) rfl) rfl
theorem xt_384 : Cond.instanceMethod yX0_worthOf ∈ xT := xT_a2 (List.mem_of_getElem? (i := 111) rfl) rfl
theorem xt_385 : Cond.selects RX0 yX0_worthOf yX0_worthOf ∈ xT := xT_a2 (List.mem_of_getElem? (i := 112) rfl) rfl
theorem xt_386 : Cond.code yX0_worthOf prog_2_method_26_code 6 (some .int) ∈ xT := xT_a2 (List.mem_of_getElem? (i := 113) rfl) rfl
theorem xt_387 : Cond.methodLink RL 62 yX3_why ∈ xT := xT_a2 (List.mem_of_getElem? (i := 114) rfl) rfl
theorem xt_388 : Cond.instanceMethod yX3_why ∈ xT := xT_a2 (List.mem_of_getElem? (i := 115) rfl) rfl
theorem xt_389 : Cond.selects RX3 yX3_why yX3_why ∈ xT := xT_a2 (List.mem_of_getElem? (i := 116) rfl) rfl
theorem xt_390 : Cond.code yX3_why prog_1_method_13_code 4 (some .int) ∈ xT := xT_a2 (List.mem_of_getElem? (i := 117) rfl) rfl
theorem xt_391 : Cond.methodLink RX3 131 yX0_lowestBetterType ∈ xT := xT_a2 (List.mem_of_getElem? (i := 118) rfl) rfl
theorem xt_392 : Cond.methodLink RX3 134 yX0_lowestWrongMessage ∈ xT := xT_a2 (List.mem_of_getElem? (i := 119) rfl) rfl
theorem xt_393 : Cond.instanceMethod yX0_lowestWrongMessage ∈ xT := xT_a2 (List.mem_of_getElem? (i := 120) rfl) rfl
theorem xt_394 : Cond.selects RX0 yX0_lowestWrongMessage yX0_lowestWrongMessage ∈ xT := xT_a2 (List.mem_of_getElem? (i := 121) rfl) rfl
theorem xt_395 : Cond.code yX0_lowestWrongMessage prog_2_method_28_code 2 (some .int) ∈ xT := xT_a2 (List.mem_of_getElem? (i := 122) rfl) rfl
theorem xt_396 : Cond.methodLink RX0 89 yX0_bestActions ∈ xT := xT_a2 (List.mem_of_getElem? (i := 123) rfl) rfl
theorem xt_397 : Cond.methodLink RL 66 yX3_count ∈ xT := xT_a2 (List.mem_of_getElem? (i := 124) rfl) rfl
theorem xt_398 : Cond.instanceMethod yX3_count ∈ xT := xT_a2 (List.mem_of_getElem? (i := 125) rfl) rfl
theorem xt_399 : Cond.selects RX3 yX3_count yX3_count ∈ xT := xT_a2 (List.mem_of_getElem? (i := 126) rfl) rfl
theorem xt_400 : Cond.code yX3_count prog_1_method_14_code 2 (some .int) ∈ xT := xT_a2 (List.mem_of_getElem? (i := 127) rfl) rfl
theorem xt_401 : Cond.methodLink RX3 137 yX0_isHolding ∈ xT := xT_a2 (List.mem_of_getElem? (i := 128) rfl) rfl
theorem xt_402 : Cond.instanceMethod yX0_isHolding ∈ xT := xT_a2 (List.mem_of_getElem? (i := 129) rfl) rfl
theorem xt_403 : Cond.selects RX0 yX0_isHolding yX0_isHolding ∈ xT := xT_a2 (List.mem_of_getElem? (i := 130) rfl) rfl
theorem xt_404 : Cond.code yX0_isHolding prog_2_method_34_code 1 (some .boolean) ∈ xT := xT_a2 (List.mem_of_getElem? (i := 131) rfl) rfl
theorem xt_405 : Cond.methodLink RX0 104 yX0_lowestBetterType ∈ xT := xT_a2 (List.mem_of_getElem? (i := 132) rfl) rfl
theorem xt_406 : Cond.methodLink RX0 107 yX0_lowestWrongMessage ∈ xT := xT_a2 (List.mem_of_getElem? (i := 133) rfl) rfl
theorem xt_407 : Cond.methodLink RX3 141 yX0_kind ∈ xT := xT_a2 (List.mem_of_getElem? (i := 134) rfl) rfl
theorem xt_408 : Cond.methodLink RX3 144 yX0_isUntempted ∈ xT := xT_a2 (List.mem_of_getElem? (i := 135) rfl) rfl
theorem xt_409 : Cond.methodLink RX3 147 yX0_messagesSent ∈ xT := xT_a2 (List.mem_of_getElem? (i := 136) rfl) rfl
theorem xt_410 : Cond.methodLink RX3 150 yX0_code ∈ xT := xT_a2 (List.mem_of_getElem? (i := 137) rfl) rfl
theorem xt_411 : Cond.instanceMethod yX0_code ∈ xT := xT_a2 (List.mem_of_getElem? (i := 138) rfl) rfl
theorem xt_412 : Cond.selects RX0 yX0_code yX0_code ∈ xT := xT_a2 (List.mem_of_getElem? (i := 139) rfl) rfl
theorem xt_413 : Cond.code yX0_code prog_2_method_14_code 3 (some .int) ∈ xT := xT_a2 (List.mem_of_getElem? (i := 140) rfl) rfl
theorem xt_414 : Cond.methodLink RX3 153 yX1_length ∈ xT := xT_a2 (List.mem_of_getElem? (i := 141) rfl) rfl
theorem xt_415 : Cond.instanceMethod yX1_length ∈ xT := xT_a2 (List.mem_of_getElem? (i := 142) rfl) rfl
theorem xt_416 : Cond.selects RX1 yX1_length yX1_length ∈ xT := xT_a2 (List.mem_of_getElem? (i := 143) rfl) rfl
theorem xt_417 : Cond.code yX1_length prog_3_method_2_code 1 (some .int) ∈ xT := xT_a2 (List.mem_of_getElem? (i := 144) rfl) rfl
theorem xt_418 : Cond.methodLink RL 70 yX3_plans ∈ xT := xT_a2 (List.mem_of_getElem? (i := 145) rfl) rfl
theorem xt_419 : Cond.instanceMethod yX3_plans ∈ xT := xT_a2 (List.mem_of_getElem? (i := 146) rfl) rfl
theorem xt_420 : Cond.selects RX3 yX3_plans yX3_plans ∈ xT := xT_a2 (List.mem_of_getElem? (i := 147) rfl) rfl
theorem xt_421 : Cond.code yX3_plans prog_1_method_15_code 2 (some .int) ∈ xT := xT_a2 (List.mem_of_getElem? (i := 148) rfl) rfl
theorem xt_422 : Cond.methodLink RL 74 yX3_planAt ∈ xT := xT_a2 (List.mem_of_getElem? (i := 149) rfl) rfl
theorem xt_423 : Cond.instanceMethod yX3_planAt ∈ xT := xT_a2 (List.mem_of_getElem? (i := 150) rfl) rfl
theorem xt_424 : Cond.selects RX3 yX3_planAt yX3_planAt ∈ xT := xT_a2 (List.mem_of_getElem? (i := 151) rfl) rfl
theorem xt_425 : Cond.code yX3_planAt prog_1_method_16_code 2 (some .int) ∈ xT := xT_a2 (List.mem_of_getElem? (i := 152) rfl) rfl
theorem xt_426 : Cond.methodLink RL 78 yX3_bestAnswer ∈ xT := xT_a2 (List.mem_of_getElem? (i := 153) rfl) rfl
theorem xt_427 : Cond.instanceMethod yX3_bestAnswer ∈ xT := xT_a2 (List.mem_of_getElem? (i := 154) rfl) rfl
theorem xt_428 : Cond.selects RX3 yX3_bestAnswer yX3_bestAnswer ∈ xT := xT_a2 (List.mem_of_getElem? (i := 155) rfl) rfl
theorem xt_429 : Cond.code yX3_bestAnswer prog_1_method_17_code 2 (some .int) ∈ xT := xT_a2 (List.mem_of_getElem? (i := 156) rfl) rfl
theorem xt_430 : Cond.methodLink RX3 156 yX3_lowestIn ∈ xT := xT_a2 (List.mem_of_getElem? (i := 157) rfl) rfl
theorem xt_431 : Cond.static yX3_lowestIn ∈ xT := xT_a2 (List.mem_of_getElem? (i := 158) rfl) rfl
theorem xt_432 : Cond.code yX3_lowestIn prog_1_method_28_code 2 (some .int) ∈ xT := xT_a2 (List.mem_of_getElem? (i := 159) rfl) rfl
theorem xt_433 : Cond.methodLink RX3 197 yX3_has ∈ xT := xT_a2 (List.mem_of_getElem? (i := 160) rfl) rfl
theorem xt_434 : Cond.methodLink RL 82 yX3_bestPlan ∈ xT := xT_a2 (List.mem_of_getElem? (i := 161) rfl) rfl
theorem xt_435 : Cond.instanceMethod yX3_bestPlan ∈ xT := xT_a2 (List.mem_of_getElem? (i := 162) rfl) rfl
theorem xt_436 : Cond.selects RX3 yX3_bestPlan yX3_bestPlan ∈ xT := xT_a2 (List.mem_of_getElem? (i := 163) rfl) rfl
theorem xt_437 : Cond.code yX3_bestPlan prog_1_method_18_code 3 (some .int) ∈ xT := xT_a2 (List.mem_of_getElem? (i := 164) rfl) rfl
theorem xt_438 : Cond.methodLink RX3 159 yX2_bestPlace ∈ xT := xT_a2 (List.mem_of_getElem? (i := 165) rfl) rfl
theorem xt_439 : Cond.instanceMethod yX2_bestPlace ∈ xT := xT_a2 (List.mem_of_getElem? (i := 166) rfl) rfl
theorem xt_440 : Cond.selects RX2 yX2_bestPlace yX2_bestPlace ∈ xT := xT_a2 (List.mem_of_getElem? (i := 167) rfl) rfl
theorem xt_441 : Cond.code yX2_bestPlace prog_4_method_5_code 6 (some .int) ∈ xT := xT_a2 (List.mem_of_getElem? (i := 168) rfl) rfl
theorem xt_442 : Cond.methodLink RX2 56 yX2_receiverSumAt ∈ xT := xT_a2 (List.mem_of_getElem? (i := 169) rfl) rfl
theorem xt_443 : Cond.instanceMethod yX2_receiverSumAt ∈ xT := xT_a2 (List.mem_of_getElem? (i := 170) rfl) rfl
theorem xt_444 : Cond.selects RX2 yX2_receiverSumAt yX2_receiverSumAt ∈ xT := xT_a2 (List.mem_of_getElem? (i := 171) rfl) rfl
theorem xt_445 : Cond.code yX2_receiverSumAt prog_4_method_4_code 2 (some .int) ∈ xT := xT_a2 (List.mem_of_getElem? (i := 172) rfl) rfl
theorem xt_446 : Cond.methodLink RX2 53 yX0_receiverSum ∈ xT := xT_a2 (List.mem_of_getElem? (i := 173) rfl) rfl
theorem xt_447 : Cond.instanceMethod yX0_receiverSum ∈ xT := xT_a2 (List.mem_of_getElem? (i := 174) rfl) rfl
theorem xt_448 : Cond.selects RX0 yX0_receiverSum yX0_receiverSum ∈ xT := xT_a2 (List.mem_of_getElem? (i := 175) rfl) rfl
theorem xt_449 : Cond.code yX0_receiverSum prog_2_method_29_code 5 (some .int) ∈ xT := xT_a2 (List.mem_of_getElem? (i := 176) rfl) rfl
theorem xt_450 : Cond.methodLink RX3 163 yX2_receiverSumAt ∈ xT := xT_a2 (List.mem_of_getElem? (i := 177) rfl) rfl
theorem xt_451 : Cond.methodLink RL 88 yX3_put ∈ xT := xT_a2 (List.mem_of_getElem? (i := 178) rfl) rfl
theorem xt_452 : Cond.instanceMethod yX3_put ∈ xT := xT_a2 (List.mem_of_getElem? (i := 179) rfl) rfl
theorem xt_453 : Cond.selects RX3 yX3_put yX3_put ∈ xT := xT_a2 (List.mem_of_getElem? (i := 180) rfl) rfl
theorem xt_454 : Cond.code yX3_put prog_1_method_19_code 5 (some .int) ∈ xT := xT_a2 (List.mem_of_getElem? (i := 181) rfl) rfl
theorem xt_455 : Cond.methodLink RX3 166 yX3_charactersIn ∈ xT := xT_a2 (List.mem_of_getElem? (i := 182) rfl) rfl
theorem xt_456 : Cond.static yX3_charactersIn ∈ xT := xT_a2 (List.mem_of_getElem? (i := 183) rfl) rfl
theorem xt_457 : Cond.code yX3_charactersIn prog_1_method_33_code 4 (some .int) ∈ xT := xT_a2 (List.mem_of_getElem? (i := 184) rfl) rfl
theorem xt_458 : Cond.methodLink RX3 170 yX3_characterOf ∈ xT := xT_a2 (List.mem_of_getElem? (i := 185) rfl) rfl
theorem xt_459 : Cond.static yX3_characterOf ∈ xT := xT_a2 (List.mem_of_getElem? (i := 186) rfl) rfl
theorem xt_460 : Cond.code yX3_characterOf prog_1_method_34_code 3 (some .int) ∈ xT := xT_a2 (List.mem_of_getElem? (i := 187) rfl) rfl
theorem xt_461 : Cond.methodLink RX3 174 yX1_append ∈ xT := xT_a2 (List.mem_of_getElem? (i := 188) rfl) rfl
theorem xt_462 : Cond.instanceMethod yX1_append ∈ xT := xT_a2 (List.mem_of_getElem? (i := 189) rfl) rfl
theorem xt_463 : Cond.selects RX1 yX1_append yX1_append ∈ xT := xT_a2 (List.mem_of_getElem? (i := 190) rfl) rfl
theorem xt_464 : Cond.code yX1_append prog_3_method_3_code 2 none ∈ xT := xT_a2 (List.mem_of_getElem? (i := 191) rfl) rfl
theorem xt_466 : Cond.methodLink RL 93 yX3_wipe ∈ xT := xT_a2 (List.mem_of_getElem? (i := 193) rfl) rfl
theorem xt_467 : Cond.instanceMethod yX3_wipe ∈ xT := xT_a2 (List.mem_of_getElem? (i := 194) rfl) rfl
theorem xt_468 : Cond.selects RX3 yX3_wipe yX3_wipe ∈ xT := xT_a2 (List.mem_of_getElem? (i := 195) rfl) rfl
theorem xt_469 : Cond.code yX3_wipe prog_1_method_20_code 2 (some .int) ∈ xT := xT_a2 (List.mem_of_getElem? (i := 196) rfl) rfl
theorem xt_470 : Cond.methodLink RX3 177 yX1_clear ∈ xT := xT_a2 (List.mem_of_getElem? (i := 197) rfl) rfl
theorem xt_471 : Cond.instanceMethod yX1_clear ∈ xT := xT_a2 (List.mem_of_getElem? (i := 198) rfl) rfl
theorem xt_472 : Cond.selects RX1 yX1_clear yX1_clear ∈ xT := xT_a2 (List.mem_of_getElem? (i := 199) rfl) rfl
theorem xt_473 : Cond.code yX1_clear prog_3_method_4_code 1 none ∈ xT := xT_a2 (List.mem_of_getElem? (i := 200) rfl) rfl
theorem xt_474 : Cond.methodLink RL 98 yX3_fault ∈ xT := xT_a2 (List.mem_of_getElem? (i := 201) rfl) rfl
theorem xt_475 : Cond.instanceMethod yX3_fault ∈ xT := xT_a2 (List.mem_of_getElem? (i := 202) rfl) rfl
theorem xt_476 : Cond.selects RX3 yX3_fault yX3_fault ∈ xT := xT_a2 (List.mem_of_getElem? (i := 203) rfl) rfl
theorem xt_477 : Cond.code yX3_fault prog_1_method_21_code 1 (some .int) ∈ xT := xT_a2 (List.mem_of_getElem? (i := 204) rfl) rfl
theorem xt_478 : Cond.methodLink RX3 180 yX1_faultPlace ∈ xT := xT_a2 (List.mem_of_getElem? (i := 205) rfl) rfl
theorem xt_479 : Cond.instanceMethod yX1_faultPlace ∈ xT := xT_a2 (List.mem_of_getElem? (i := 206) rfl) rfl
theorem xt_480 : Cond.selects RX1 yX1_faultPlace yX1_faultPlace ∈ xT := xT_a2 (List.mem_of_getElem? (i := 207) rfl) rfl
theorem xt_481 : Cond.code yX1_faultPlace prog_3_method_12_code 5 (some .int) ∈ xT := xT_a2 (List.mem_of_getElem? (i := 208) rfl) rfl
theorem xt_482 : Cond.methodLink RX1 66 yX1_faultOfOrder ∈ xT := xT_a2 (List.mem_of_getElem? (i := 209) rfl) rfl
theorem xt_484 : Cond.instanceMethod yX1_faultOfOrder ∈ xT := xT_a2 (List.mem_of_getElem? (i := 211) rfl) rfl
theorem xt_485 : Cond.code yX1_faultOfOrder prog_3_method_11_code 4 (some .int) ∈ xT := xT_a2 (List.mem_of_getElem? (i := 212) rfl) rfl
theorem xt_486 : Cond.methodLink RX1 39 yX1_shapeOf ∈ xT := xT_a2 (List.mem_of_getElem? (i := 213) rfl) rfl
theorem xt_488 : Cond.instanceMethod yX1_shapeOf ∈ xT := xT_a2 (List.mem_of_getElem? (i := 215) rfl) rfl
theorem xt_489 : Cond.code yX1_shapeOf prog_3_method_7_code 2 (some (.object "java/lang/String")) ∈ xT := xT_a2 (List.mem_of_getElem? (i := 216) rfl) rfl
theorem xt_490 : Cond.methodLink RX1 23 yX1_signAt ∈ xT := xT_a2 (List.mem_of_getElem? (i := 217) rfl) rfl
theorem xt_491 : Cond.instanceMethod yX1_signAt ∈ xT := xT_a2 (List.mem_of_getElem? (i := 218) rfl) rfl
theorem xt_492 : Cond.selects RX1 yX1_signAt yX1_signAt ∈ xT := xT_a2 (List.mem_of_getElem? (i := 219) rfl) rfl
theorem xt_493 : Cond.code yX1_signAt prog_3_method_5_code 2 (some .int) ∈ xT := xT_a2 (List.mem_of_getElem? (i := 220) rfl) rfl
theorem xt_500 : Cond.methodLink RX1 54 yJ0_isEmpty_aae02 ∈ xT := xT_a2 (List.mem_of_getElem? (i := 227) rfl) rfl
theorem xt_501 : Cond.instanceMethod yJ0_isEmpty_aae02 ∈ xT := xT_a2 (List.mem_of_getElem? (i := 228) rfl) rfl
theorem xt_502 : Cond.selects RJ0 yJ0_isEmpty_aae02 yJ0_isEmpty_aae02 ∈ xT := xT_a2 (List.mem_of_getElem? (i := 229) rfl) rfl
theorem xt_503 : Cond.code yJ0_isEmpty_aae02 prog_9_method_55_code 1 (some .boolean) ∈ xT := xT_a2 (List.mem_of_getElem? (i := 230) rfl) rfl
theorem xt_504 : Cond.methodLink RX1 43 yJ0_length_8abf5 ∈ xT := xT_a2 (List.mem_of_getElem? (i := 231) rfl) rfl
theorem xt_505 : Cond.instanceMethod yJ0_length_8abf5 ∈ xT := xT_a2 (List.mem_of_getElem? (i := 232) rfl) rfl
theorem xt_506 : Cond.selects RJ0 yJ0_length_8abf5 yJ0_length_8abf5 ∈ xT := xT_a2 (List.mem_of_getElem? (i := 233) rfl) rfl
theorem xt_507 : Cond.code yJ0_length_8abf5 prog_9_method_54_code 1 (some .int) ∈ xT := xT_a2 (List.mem_of_getElem? (i := 234) rfl) rfl
theorem xt_508 : Cond.methodLink RJ0 335 yJ0_coder_7d493 ∈ xT := xT_a2 (List.mem_of_getElem? (i := 235) rfl) rfl
theorem xt_509 : Cond.instanceMethod yJ0_coder_7d493 ∈ xT := xT_a2 (List.mem_of_getElem? (i := 236) rfl) rfl
theorem xt_510 : Cond.selects RJ0 yJ0_coder_7d493 yJ0_coder_7d493 ∈ xT := xT_a2 (List.mem_of_getElem? (i := 237) rfl) rfl
theorem xt_511 : Cond.code yJ0_coder_7d493 prog_9_method_152_code 1 (some .byte) ∈ xT := xT_a2 (List.mem_of_getElem? (i := 238) rfl) rfl
theorem xt_512 : Cond.fieldLink RJ0 38 "java/lang/String" "COMPACT_STRINGS" "Z" ∈ xT := xT_a2 (List.mem_of_getElem? (i := 239) rfl) rfl
theorem xt_514 : Cond.methodLink RX1 58 yJ0_charAt_5068e ∈ xT := xT_a3 (List.mem_of_getElem? (i := 1) rfl) rfl
theorem xt_515 : Cond.instanceMethod yJ0_charAt_5068e ∈ xT := xT_a3 (List.mem_of_getElem? (i := 2) rfl) rfl
theorem xt_516 : Cond.selects RJ0 yJ0_charAt_5068e yJ0_charAt_5068e ∈ xT := xT_a3 (List.mem_of_getElem? (i := 3) rfl) rfl
theorem xt_517 : Cond.code yJ0_charAt_5068e prog_9_method_56_code 2 (some .char) ∈ xT := xT_a3 (List.mem_of_getElem? (i := 4) rfl) rfl
theorem xt_518 : Cond.methodLink RJ0 492 yJ0_isLatin1_aae02 ∈ xT := xT_a3 (List.mem_of_getElem? (i := 5) rfl) rfl
theorem xt_519 : Cond.instanceMethod yJ0_isLatin1_aae02 ∈ xT := xT_a3 (List.mem_of_getElem? (i := 6) rfl) rfl
theorem xt_520 : Cond.selects RJ0 yJ0_isLatin1_aae02 yJ0_isLatin1_aae02 ∈ xT := xT_a3 (List.mem_of_getElem? (i := 7) rfl) rfl
theorem xt_521 : Cond.code yJ0_isLatin1_aae02 prog_9_method_154_code 1 (some .boolean) ∈ xT := xT_a3 (List.mem_of_getElem? (i := 8) rfl) rfl
theorem xt_522 : Cond.methodLink RJ0 495 yJ1_charAt_3b067 ∈ xT := xT_a3 (List.mem_of_getElem? (i := 9) rfl) rfl
theorem xt_523 : Cond.static yJ1_charAt_3b067 ∈ xT := xT_a3 (List.mem_of_getElem? (i := 10) rfl) rfl
theorem xt_524 : Cond.code yJ1_charAt_3b067 prog_10_method_2_code 2 (some .char) ∈ xT := xT_a3 (List.mem_of_getElem? (i := 11) rfl) rfl
theorem xt_525 : Cond.methodLink RJ1 9 yJ0_checkIndex_df160 ∈ xT := xT_a3 (List.mem_of_getElem? (i := 12) rfl) rfl
theorem xt_526 : Cond.static yJ0_checkIndex_df160 ∈ xT := xT_a3 (List.mem_of_getElem? (i := 13) rfl) rfl
theorem xt_527 : Cond.code yJ0_checkIndex_df160 prog_9_method_155_code 2 none ∈ xT := xT_a3 (List.mem_of_getElem? (i := 14) rfl) rfl
theorem xt_528 : Cond.fieldLink RJ0 1053 "jdk/internal/util/Preconditions" "SIOOBE_FORMATTER" "Ljava/util/function/BiFunction;" ∈ xT := xT_a3 (List.mem_of_getElem? (i := 15) rfl) rfl
theorem xt_530 : Cond.methodLink RJ0 1059 yJ3_checkIndex_8e157 ∈ xT := xT_a3 (List.mem_of_getElem? (i := 17) rfl) rfl
theorem xt_531 : Cond.static yJ3_checkIndex_8e157 ∈ xT := xT_a3 (List.mem_of_getElem? (i := 18) rfl) rfl
theorem xt_532 : Cond.code yJ3_checkIndex_8e157 prog_14_method_11_code 3 (some .int) ∈ xT := xT_a3 (List.mem_of_getElem? (i := 19) rfl) rfl
theorem xt_533 : Cond.methodLink RJ0 498 yJ2_charAt_3b067 ∈ xT := xT_a3 (List.mem_of_getElem? (i := 20) rfl) rfl
theorem xt_534 : Cond.static yJ2_charAt_3b067 ∈ xT := xT_a3 (List.mem_of_getElem? (i := 21) rfl) rfl
theorem xt_535 : Cond.code yJ2_charAt_3b067 prog_11_method_83_code 2 (some .char) ∈ xT := xT_a3 (List.mem_of_getElem? (i := 22) rfl) rfl
theorem xt_536 : Cond.methodLink RJ2 67 yJ2_checkIndex_2214a ∈ xT := xT_a3 (List.mem_of_getElem? (i := 23) rfl) rfl
theorem xt_537 : Cond.static yJ2_checkIndex_2214a ∈ xT := xT_a3 (List.mem_of_getElem? (i := 24) rfl) rfl
theorem xt_538 : Cond.code yJ2_checkIndex_2214a prog_11_method_91_code 2 none ∈ xT := xT_a3 (List.mem_of_getElem? (i := 25) rfl) rfl
theorem xt_539 : Cond.methodLink RJ2 48 yJ2_length_9d52b ∈ xT := xT_a3 (List.mem_of_getElem? (i := 26) rfl) rfl
theorem xt_540 : Cond.static yJ2_length_9d52b ∈ xT := xT_a3 (List.mem_of_getElem? (i := 27) rfl) rfl
theorem xt_541 : Cond.code yJ2_length_9d52b prog_11_method_6_code 1 (some .int) ∈ xT := xT_a3 (List.mem_of_getElem? (i := 28) rfl) rfl
theorem xt_542 : Cond.methodLink RJ2 414 yJ0_checkIndex_df160 ∈ xT := xT_a3 (List.mem_of_getElem? (i := 29) rfl) rfl
theorem xt_543 : Cond.methodLink RJ2 71 yJ2_getChar_3b067 ∈ xT := xT_a3 (List.mem_of_getElem? (i := 30) rfl) rfl
theorem xt_544 : Cond.static yJ2_getChar_3b067 ∈ xT := xT_a3 (List.mem_of_getElem? (i := 31) rfl) rfl
theorem xt_545 : Cond.code yJ2_getChar_3b067 prog_11_method_5_code 2 (some .char) ∈ xT := xT_a3 (List.mem_of_getElem? (i := 32) rfl) rfl
theorem xt_546 : Cond.fieldLink RJ2 44 "java/lang/StringUTF16" "$assertionsDisabled" "Z" ∈ xT := xT_a3 (List.mem_of_getElem? (i := 33) rfl) rfl
theorem xt_548 : Cond.fieldLink RJ2 59 "java/lang/StringUTF16" "HI_BYTE_SHIFT" "I" ∈ xT := xT_a3 (List.mem_of_getElem? (i := 35) rfl) rfl
theorem xt_550 : Cond.fieldLink RJ2 63 "java/lang/StringUTF16" "LO_BYTE_SHIFT" "I" ∈ xT := xT_a3 (List.mem_of_getElem? (i := 37) rfl) rfl
theorem xt_552 : Cond.methodLink RX1 62 yX1_fits ∈ xT := xT_a3 (List.mem_of_getElem? (i := 39) rfl) rfl
theorem xt_553 : Cond.static yX1_fits ∈ xT := xT_a3 (List.mem_of_getElem? (i := 40) rfl) rfl
theorem xt_554 : Cond.code yX1_fits prog_3_method_8_code 2 (some .boolean) ∈ xT := xT_a3 (List.mem_of_getElem? (i := 41) rfl) rfl
theorem xt_555 : Cond.methodLink RX1 48 yX1_endOfOrder ∈ xT := xT_a3 (List.mem_of_getElem? (i := 42) rfl) rfl
theorem xt_556 : Cond.instanceMethod yX1_endOfOrder ∈ xT := xT_a3 (List.mem_of_getElem? (i := 43) rfl) rfl
theorem xt_557 : Cond.selects RX1 yX1_endOfOrder yX1_endOfOrder ∈ xT := xT_a3 (List.mem_of_getElem? (i := 44) rfl) rfl
theorem xt_558 : Cond.code yX1_endOfOrder prog_3_method_9_code 2 (some .int) ∈ xT := xT_a3 (List.mem_of_getElem? (i := 45) rfl) rfl
theorem xt_559 : Cond.arrayClass .byte ∈ xT := xT_a3 (List.mem_of_getElem? (i := 46) rfl) rfl
theorem xt_560 : Cond.methodLink RL 102 yX3_carryOut ∈ xT := xT_a3 (List.mem_of_getElem? (i := 47) rfl) rfl
theorem xt_561 : Cond.instanceMethod yX3_carryOut ∈ xT := xT_a3 (List.mem_of_getElem? (i := 48) rfl) rfl
theorem xt_562 : Cond.selects RX3 yX3_carryOut yX3_carryOut ∈ xT := xT_a3 (List.mem_of_getElem? (i := 49) rfl) rfl
theorem xt_563 : Cond.code yX3_carryOut prog_1_method_22_code 3 (some .int) ∈ xT := xT_a3 (List.mem_of_getElem? (i := 50) rfl) rfl
theorem xt_564 : Cond.methodLink RX3 183 yX3_isDone ∈ xT := xT_a3 (List.mem_of_getElem? (i := 51) rfl) rfl
theorem xt_566 : Cond.instanceMethod yX3_isDone ∈ xT := xT_a3 (List.mem_of_getElem? (i := 53) rfl) rfl
theorem xt_567 : Cond.code yX3_isDone prog_1_method_35_code 6 (some .boolean) ∈ xT := xT_a3 (List.mem_of_getElem? (i := 54) rfl) rfl
theorem xt_568 : Cond.methodLink RX3 217 yX1_digitAt ∈ xT := xT_a3 (List.mem_of_getElem? (i := 55) rfl) rfl
theorem xt_569 : Cond.instanceMethod yX1_digitAt ∈ xT := xT_a3 (List.mem_of_getElem? (i := 56) rfl) rfl
theorem xt_570 : Cond.selects RX1 yX1_digitAt yX1_digitAt ∈ xT := xT_a3 (List.mem_of_getElem? (i := 57) rfl) rfl
theorem xt_571 : Cond.code yX1_digitAt prog_3_method_6_code 3 (some .int) ∈ xT := xT_a3 (List.mem_of_getElem? (i := 58) rfl) rfl
theorem xt_572 : Cond.methodLink RX3 220 yX1_lastNumberOf ∈ xT := xT_a3 (List.mem_of_getElem? (i := 59) rfl) rfl
theorem xt_573 : Cond.instanceMethod yX1_lastNumberOf ∈ xT := xT_a3 (List.mem_of_getElem? (i := 60) rfl) rfl
theorem xt_574 : Cond.selects RX1 yX1_lastNumberOf yX1_lastNumberOf ∈ xT := xT_a3 (List.mem_of_getElem? (i := 61) rfl) rfl
theorem xt_575 : Cond.code yX1_lastNumberOf prog_3_method_10_code 4 (some .int) ∈ xT := xT_a3 (List.mem_of_getElem? (i := 62) rfl) rfl
theorem xt_576 : Cond.methodLink RX1 51 yX1_digitAt ∈ xT := xT_a3 (List.mem_of_getElem? (i := 63) rfl) rfl
theorem xt_577 : Cond.methodLink RX3 223 yX1_signAt ∈ xT := xT_a3 (List.mem_of_getElem? (i := 64) rfl) rfl
theorem xt_578 : Cond.methodLink RX3 226 yX3_isChanged ∈ xT := xT_a3 (List.mem_of_getElem? (i := 65) rfl) rfl
theorem xt_580 : Cond.instanceMethod yX3_isChanged ∈ xT := xT_a3 (List.mem_of_getElem? (i := 67) rfl) rfl
theorem xt_581 : Cond.code yX3_isChanged prog_1_method_36_code 4 (some .boolean) ∈ xT := xT_a3 (List.mem_of_getElem? (i := 68) rfl) rfl
theorem xt_582 : Cond.methodLink RX3 187 yX1_endOfOrder ∈ xT := xT_a3 (List.mem_of_getElem? (i := 69) rfl) rfl
theorem xt_583 : Cond.methodLink RL 106 yX3_undo ∈ xT := xT_a3 (List.mem_of_getElem? (i := 70) rfl) rfl
theorem xt_584 : Cond.instanceMethod yX3_undo ∈ xT := xT_a3 (List.mem_of_getElem? (i := 71) rfl) rfl
theorem xt_585 : Cond.selects RX3 yX3_undo yX3_undo ∈ xT := xT_a3 (List.mem_of_getElem? (i := 72) rfl) rfl
theorem xt_586 : Cond.code yX3_undo prog_1_method_23_code 1 (some .int) ∈ xT := xT_a3 (List.mem_of_getElem? (i := 73) rfl) rfl
theorem xt_587 : Cond.methodLink RX3 190 yX0_readFrom ∈ xT := xT_a3 (List.mem_of_getElem? (i := 74) rfl) rfl
theorem xt_588 : Cond.methodLink RL 110 yX3_save ∈ xT := xT_a3 (List.mem_of_getElem? (i := 75) rfl) rfl
theorem xt_589 : Cond.instanceMethod yX3_save ∈ xT := xT_a3 (List.mem_of_getElem? (i := 76) rfl) rfl
theorem xt_590 : Cond.selects RX3 yX3_save yX3_save ∈ xT := xT_a3 (List.mem_of_getElem? (i := 77) rfl) rfl
theorem xt_591 : Cond.code yX3_save prog_1_method_24_code 2 (some .int) ∈ xT := xT_a3 (List.mem_of_getElem? (i := 78) rfl) rfl
theorem xt_592 : Cond.methodLink RL 114 yX3_restore ∈ xT := xT_a3 (List.mem_of_getElem? (i := 79) rfl) rfl
theorem xt_593 : Cond.instanceMethod yX3_restore ∈ xT := xT_a3 (List.mem_of_getElem? (i := 80) rfl) rfl
theorem xt_594 : Cond.selects RX3 yX3_restore yX3_restore ∈ xT := xT_a3 (List.mem_of_getElem? (i := 81) rfl) rfl
theorem xt_595 : Cond.code yX3_restore prog_1_method_25_code 2 (some .int) ∈ xT := xT_a3 (List.mem_of_getElem? (i := 82) rfl) rfl
theorem xt_596 : Cond.classLink RL 10 RX4 ∈ xT := xT_a3 (List.mem_of_getElem? (i := 83) rfl) rfl
theorem xt_598 : Cond.methodLink RL 12 yX4_init ∈ xT := xT_a3 (List.mem_of_getElem? (i := 85) rfl) rfl
theorem xt_599 : Cond.instanceMethod yX4_init ∈ xT := xT_a3 (List.mem_of_getElem? (i := 86) rfl) rfl
theorem xt_600 : Cond.code yX4_init prog_6_method_1_code 2 none ∈ xT := xT_a3 (List.mem_of_getElem? (i := 87) rfl) rfl
theorem xt_601 : Cond.methodLink RX4 1 objectInit ∈ xT := xT_a3 (List.mem_of_getElem? (i := 88) rfl) rfl
theorem xt_602 : Cond.fieldLink RX4 7 "MessageGamesModel" "now" "[I" ∈ xT := xT_a3 (List.mem_of_getElem? (i := 89) rfl) rfl
theorem xt_603 : Cond.fieldLink RX4 13 "MessageGamesModel" "past" "[I" ∈ xT := xT_a3 (List.mem_of_getElem? (i := 90) rfl) rfl
theorem xt_604 : Cond.fieldLink RX4 39 "MessageGamesModel" "kept" "I" ∈ xT := xT_a3 (List.mem_of_getElem? (i := 91) rfl) rfl
theorem xt_605 : Cond.fieldLink RX4 16 "MessageGamesModel" "slots" "[I" ∈ xT := xT_a3 (List.mem_of_getElem? (i := 92) rfl) rfl
theorem xt_606 : Cond.fieldLink RX4 19 "MessageGamesModel" "held" "[Z" ∈ xT := xT_a3 (List.mem_of_getElem? (i := 93) rfl) rfl
theorem xt_607 : Cond.fieldLink RX4 23 "MessageGamesModel" "pad" "[I" ∈ xT := xT_a3 (List.mem_of_getElem? (i := 94) rfl) rfl
theorem xt_608 : Cond.fieldLink RX4 161 "MessageGamesModel" "padded" "I" ∈ xT := xT_a3 (List.mem_of_getElem? (i := 95) rfl) rfl
theorem xt_609 : Cond.fieldLink RX4 174 "MessageGamesModel" "at" "I" ∈ xT := xT_a3 (List.mem_of_getElem? (i := 96) rfl) rfl
theorem xt_610 : Cond.fieldLink RX4 26 "MessageGamesModel" "orders" "[I" ∈ xT := xT_a3 (List.mem_of_getElem? (i := 97) rfl) rfl
theorem xt_611 : Cond.fieldLink RX4 181 "MessageGamesModel" "ordered" "I" ∈ xT := xT_a3 (List.mem_of_getElem? (i := 98) rfl) rfl
theorem xt_612 : Cond.fieldLink RX4 29 "MessageGamesModel" "plan" "[I" ∈ xT := xT_a3 (List.mem_of_getElem? (i := 99) rfl) rfl
theorem xt_613 : Cond.fieldLink RX4 32 "MessageGamesModel" "belief" "[I" ∈ xT := xT_a3 (List.mem_of_getElem? (i := 100) rfl) rfl
theorem xt_614 : Cond.laysFinal RX4 "MessageGamesModel" "now" "[I" ∈ xT := xT_a3 (List.mem_of_getElem? (i := 101) rfl) rfl
theorem xt_615 : Cond.laysFinal RX4 "MessageGamesModel" "past" "[I" ∈ xT := xT_a3 (List.mem_of_getElem? (i := 103) rfl) rfl
theorem xt_616 : Cond.lays RX4 "MessageGamesModel" "kept" "I" ∈ xT := xT_a3 (List.mem_of_getElem? (i := 105) rfl) rfl
theorem xt_617 : Cond.laysFinal RX4 "MessageGamesModel" "slots" "[I" ∈ xT := xT_a3 (List.mem_of_getElem? (i := 107) rfl) rfl
theorem xt_618 : Cond.laysFinal RX4 "MessageGamesModel" "held" "[Z" ∈ xT := xT_a3 (List.mem_of_getElem? (i := 109) rfl) rfl
theorem xt_619 : Cond.laysFinal RX4 "MessageGamesModel" "pad" "[I" ∈ xT := xT_a3 (List.mem_of_getElem? (i := 111) rfl) rfl
theorem xt_620 : Cond.lays RX4 "MessageGamesModel" "padded" "I" ∈ xT := xT_a3 (List.mem_of_getElem? (i := 113) rfl) rfl
theorem xt_621 : Cond.lays RX4 "MessageGamesModel" "at" "I" ∈ xT := xT_a3 (List.mem_of_getElem? (i := 115) rfl) rfl
theorem xt_622 : Cond.laysFinal RX4 "MessageGamesModel" "orders" "[I" ∈ xT := xT_a3 (List.mem_of_getElem? (i := 117) rfl) rfl
theorem xt_623 : Cond.lays RX4 "MessageGamesModel" "ordered" "I" ∈ xT := xT_a3 (List.mem_of_getElem? (i := 119) rfl) rfl
theorem xt_624 : Cond.laysFinal RX4 "MessageGamesModel" "plan" "[I" ∈ xT := xT_a3 (List.mem_of_getElem? (i := 121) rfl) rfl
theorem xt_625 : Cond.laysFinal RX4 "MessageGamesModel" "belief" "[I" ∈ xT := xT_a3 (List.mem_of_getElem? (i := 123) rfl) rfl
theorem xt_626 : Cond.methodLink RL 109 yX4_undo ∈ xT := xT_a3 (List.mem_of_getElem? (i := 126) rfl) rfl
theorem xt_627 : Cond.instanceMethod yX4_undo ∈ xT := xT_a3 (List.mem_of_getElem? (i := 127) rfl) rfl
theorem xt_628 : Cond.selects RX4 yX4_undo yX4_undo ∈ xT := xT_a3 (List.mem_of_getElem? (i := 128) rfl) rfl
theorem xt_629 : Cond.code yX4_undo prog_6_method_7_code 1 (some .int) ∈ xT := xT_a3 (List.mem_of_getElem? (i := 129) rfl) rfl
theorem xt_630 : Cond.methodLink RX4 43 yX4_lays ∈ xT := xT_a3 (List.mem_of_getElem? (i := 130) rfl) rfl
theorem xt_631 : Cond.static yX4_lays ∈ xT := xT_a3 (List.mem_of_getElem? (i := 131) rfl) rfl
theorem xt_632 : Cond.code yX4_lays prog_6_method_5_code 5 none ∈ xT := xT_a3 (List.mem_of_getElem? (i := 132) rfl) rfl
theorem xt_633 : Cond.methodLink RL 113 yX4_save ∈ xT := xT_a3 (List.mem_of_getElem? (i := 133) rfl) rfl
theorem xt_634 : Cond.instanceMethod yX4_save ∈ xT := xT_a3 (List.mem_of_getElem? (i := 134) rfl) rfl
theorem xt_635 : Cond.selects RX4 yX4_save yX4_save ∈ xT := xT_a3 (List.mem_of_getElem? (i := 135) rfl) rfl
theorem xt_636 : Cond.code yX4_save prog_6_method_9_code 2 (some .int) ∈ xT := xT_a3 (List.mem_of_getElem? (i := 136) rfl) rfl
theorem xt_637 : Cond.methodLink RX4 35 yX4_in ∈ xT := xT_a3 (List.mem_of_getElem? (i := 137) rfl) rfl
theorem xt_638 : Cond.static yX4_in ∈ xT := xT_a3 (List.mem_of_getElem? (i := 138) rfl) rfl
theorem xt_639 : Cond.code yX4_in prog_6_method_3_code 3 (some .boolean) ∈ xT := xT_a3 (List.mem_of_getElem? (i := 139) rfl) rfl
theorem xt_640 : Cond.methodLink RX4 47 yX4_code ∈ xT := xT_a3 (List.mem_of_getElem? (i := 140) rfl) rfl
theorem xt_642 : Cond.instanceMethod yX4_code ∈ xT := xT_a3 (List.mem_of_getElem? (i := 142) rfl) rfl
theorem xt_643 : Cond.code yX4_code prog_6_method_8_code 3 (some .int) ∈ xT := xT_a3 (List.mem_of_getElem? (i := 143) rfl) rfl
theorem xt_644 : Cond.methodLink RL 117 yX4_restore ∈ xT := xT_a3 (List.mem_of_getElem? (i := 144) rfl) rfl
theorem xt_645 : Cond.instanceMethod yX4_restore ∈ xT := xT_a3 (List.mem_of_getElem? (i := 145) rfl) rfl
theorem xt_646 : Cond.selects RX4 yX4_restore yX4_restore ∈ xT := xT_a3 (List.mem_of_getElem? (i := 146) rfl) rfl
theorem xt_647 : Cond.code yX4_restore prog_6_method_10_code 2 (some .int) ∈ xT := xT_a3 (List.mem_of_getElem? (i := 147) rfl) rfl
theorem xt_648 : Cond.methodLink RX4 51 yX4_records ∈ xT := xT_a3 (List.mem_of_getElem? (i := 148) rfl) rfl
theorem xt_650 : Cond.instanceMethod yX4_records ∈ xT := xT_a3 (List.mem_of_getElem? (i := 150) rfl) rfl
theorem xt_651 : Cond.code yX4_records prog_6_method_6_code 2 none ∈ xT := xT_a3 (List.mem_of_getElem? (i := 151) rfl) rfl
theorem xt_652 : Cond.methodLink RL 17 yX4_weight ∈ xT := xT_a3 (List.mem_of_getElem? (i := 152) rfl) rfl
theorem xt_653 : Cond.instanceMethod yX4_weight ∈ xT := xT_a3 (List.mem_of_getElem? (i := 153) rfl) rfl
theorem xt_654 : Cond.selects RX4 yX4_weight yX4_weight ∈ xT := xT_a3 (List.mem_of_getElem? (i := 154) rfl) rfl
theorem xt_655 : Cond.code yX4_weight prog_6_method_35_code 4 (some .int) ∈ xT := xT_a3 (List.mem_of_getElem? (i := 155) rfl) rfl
theorem xt_656 : Cond.methodLink RX4 121 yX4_mayWeigh ∈ xT := xT_a3 (List.mem_of_getElem? (i := 156) rfl) rfl
theorem xt_658 : Cond.instanceMethod yX4_mayWeigh ∈ xT := xT_a3 (List.mem_of_getElem? (i := 158) rfl) rfl
theorem xt_659 : Cond.code yX4_mayWeigh prog_6_method_33_code 4 (some .int) ∈ xT := xT_a3 (List.mem_of_getElem? (i := 159) rfl) rfl
theorem xt_660 : Cond.methodLink RX4 118 yX4_isOne ∈ xT := xT_a3 (List.mem_of_getElem? (i := 160) rfl) rfl
theorem xt_661 : Cond.static yX4_isOne ∈ xT := xT_a3 (List.mem_of_getElem? (i := 161) rfl) rfl
theorem xt_662 : Cond.code yX4_isOne prog_6_method_4_code 1 (some .boolean) ∈ xT := xT_a3 (List.mem_of_getElem? (i := 162) rfl) rfl
theorem xt_663 : Cond.methodLink RX4 125 yX4_changes ∈ xT := xT_a3 (List.mem_of_getElem? (i := 163) rfl) rfl
theorem xt_665 : Cond.instanceMethod yX4_changes ∈ xT := xT_a3 (List.mem_of_getElem? (i := 165) rfl) rfl
theorem xt_666 : Cond.code yX4_changes prog_6_method_34_code 4 (some .int) ∈ xT := xT_a3 (List.mem_of_getElem? (i := 166) rfl) rfl
theorem xt_667 : Cond.methodLink RL 22 yX4_pay ∈ xT := xT_a3 (List.mem_of_getElem? (i := 167) rfl) rfl
theorem xt_668 : Cond.instanceMethod yX4_pay ∈ xT := xT_a3 (List.mem_of_getElem? (i := 168) rfl) rfl
theorem xt_669 : Cond.selects RX4 yX4_pay yX4_pay ∈ xT := xT_a3 (List.mem_of_getElem? (i := 169) rfl) rfl
theorem xt_670 : Cond.code yX4_pay prog_6_method_37_code 6 (some .int) ∈ xT := xT_a3 (List.mem_of_getElem? (i := 170) rfl) rfl
theorem xt_671 : Cond.methodLink RX4 128 yX4_arePlace ∈ xT := xT_a3 (List.mem_of_getElem? (i := 171) rfl) rfl
theorem xt_672 : Cond.static yX4_arePlace ∈ xT := xT_a3 (List.mem_of_getElem? (i := 172) rfl) rfl
theorem xt_673 : Cond.code yX4_arePlace prog_6_method_36_code 3 (some .boolean) ∈ xT := xT_a3 (List.mem_of_getElem? (i := 173) rfl) rfl
theorem xt_674 : Cond.methodLink RX4 66 yX4_place ∈ xT := xT_a3 (List.mem_of_getElem? (i := 174) rfl) rfl
theorem xt_675 : Cond.static yX4_place ∈ xT := xT_a3 (List.mem_of_getElem? (i := 175) rfl) rfl
theorem xt_676 : Cond.code yX4_place prog_6_method_13_code 4 (some .int) ∈ xT := xT_a3 (List.mem_of_getElem? (i := 176) rfl) rfl
theorem xt_677 : Cond.methodLink RL 27 yX4_believe ∈ xT := xT_a3 (List.mem_of_getElem? (i := 177) rfl) rfl
theorem xt_678 : Cond.instanceMethod yX4_believe ∈ xT := xT_a3 (List.mem_of_getElem? (i := 178) rfl) rfl
theorem xt_679 : Cond.selects RX4 yX4_believe yX4_believe ∈ xT := xT_a3 (List.mem_of_getElem? (i := 179) rfl) rfl
theorem xt_680 : Cond.code yX4_believe prog_6_method_39_code 5 (some .int) ∈ xT := xT_a3 (List.mem_of_getElem? (i := 180) rfl) rfl
theorem xt_681 : Cond.methodLink RX4 131 yX4_mayBelieve ∈ xT := xT_a3 (List.mem_of_getElem? (i := 181) rfl) rfl
theorem xt_683 : Cond.instanceMethod yX4_mayBelieve ∈ xT := xT_a3 (List.mem_of_getElem? (i := 183) rfl) rfl
theorem xt_684 : Cond.code yX4_mayBelieve prog_6_method_38_code 4 (some .int) ∈ xT := xT_a3 (List.mem_of_getElem? (i := 184) rfl) rfl
theorem xt_685 : Cond.methodLink RL 31 yX4_send ∈ xT := xT_a3 (List.mem_of_getElem? (i := 185) rfl) rfl
theorem xt_686 : Cond.instanceMethod yX4_send ∈ xT := xT_a3 (List.mem_of_getElem? (i := 186) rfl) rfl
theorem xt_687 : Cond.selects RX4 yX4_send yX4_send ∈ xT := xT_a3 (List.mem_of_getElem? (i := 187) rfl) rfl
theorem xt_688 : Cond.code yX4_send prog_6_method_40_code 3 (some .int) ∈ xT := xT_a3 (List.mem_of_getElem? (i := 188) rfl) rfl
theorem xt_689 : Cond.methodLink RL 35 yX4_answer ∈ xT := xT_a3 (List.mem_of_getElem? (i := 189) rfl) rfl
theorem xt_690 : Cond.instanceMethod yX4_answer ∈ xT := xT_a3 (List.mem_of_getElem? (i := 190) rfl) rfl
theorem xt_691 : Cond.selects RX4 yX4_answer yX4_answer ∈ xT := xT_a3 (List.mem_of_getElem? (i := 191) rfl) rfl
theorem xt_692 : Cond.code yX4_answer prog_6_method_41_code 3 (some .int) ∈ xT := xT_a3 (List.mem_of_getElem? (i := 192) rfl) rfl
theorem xt_693 : Cond.methodLink RL 40 yX4_adopt ∈ xT := xT_a3 (List.mem_of_getElem? (i := 193) rfl) rfl
theorem xt_694 : Cond.instanceMethod yX4_adopt ∈ xT := xT_a3 (List.mem_of_getElem? (i := 194) rfl) rfl
theorem xt_695 : Cond.selects RX4 yX4_adopt yX4_adopt ∈ xT := xT_a3 (List.mem_of_getElem? (i := 195) rfl) rfl
theorem xt_696 : Cond.code yX4_adopt prog_6_method_44_code 4 (some .int) ∈ xT := xT_a3 (List.mem_of_getElem? (i := 196) rfl) rfl
theorem xt_697 : Cond.methodLink RX4 140 yX4_codeAt ∈ xT := xT_a3 (List.mem_of_getElem? (i := 197) rfl) rfl
theorem xt_699 : Cond.instanceMethod yX4_codeAt ∈ xT := xT_a3 (List.mem_of_getElem? (i := 199) rfl) rfl
theorem xt_700 : Cond.code yX4_codeAt prog_6_method_43_code 4 (some .int) ∈ xT := xT_a3 (List.mem_of_getElem? (i := 200) rfl) rfl
theorem xt_701 : Cond.methodLink RX4 54 yX4_looksAt ∈ xT := xT_a3 (List.mem_of_getElem? (i := 201) rfl) rfl
theorem xt_703 : Cond.instanceMethod yX4_looksAt ∈ xT := xT_a3 (List.mem_of_getElem? (i := 203) rfl) rfl
theorem xt_704 : Cond.code yX4_looksAt prog_6_method_11_code 4 none ∈ xT := xT_a3 (List.mem_of_getElem? (i := 204) rfl) rfl
theorem xt_705 : Cond.methodLink RX4 111 yX4_holds ∈ xT := xT_a3 (List.mem_of_getElem? (i := 205) rfl) rfl
theorem xt_707 : Cond.instanceMethod yX4_holds ∈ xT := xT_a3 (List.mem_of_getElem? (i := 207) rfl) rfl
theorem xt_708 : Cond.code yX4_holds prog_6_method_26_code 1 (some .boolean) ∈ xT := xT_a3 (List.mem_of_getElem? (i := 208) rfl) rfl
theorem xt_709 : Cond.methodLink RX4 92 yX4_unhappy ∈ xT := xT_a3 (List.mem_of_getElem? (i := 209) rfl) rfl
theorem xt_711 : Cond.instanceMethod yX4_unhappy ∈ xT := xT_a3 (List.mem_of_getElem? (i := 211) rfl) rfl
theorem xt_712 : Cond.code yX4_unhappy prog_6_method_24_code 2 (some .int) ∈ xT := xT_a3 (List.mem_of_getElem? (i := 212) rfl) rfl
theorem xt_713 : Cond.methodLink RX4 58 yX4_isThere ∈ xT := xT_a3 (List.mem_of_getElem? (i := 213) rfl) rfl
theorem xt_715 : Cond.instanceMethod yX4_isThere ∈ xT := xT_a3 (List.mem_of_getElem? (i := 215) rfl) rfl
theorem xt_716 : Cond.code yX4_isThere prog_6_method_14_code 2 (some .boolean) ∈ xT := xT_a3 (List.mem_of_getElem? (i := 216) rfl) rfl
theorem xt_717 : Cond.methodLink RX4 83 yX4_most ∈ xT := xT_a3 (List.mem_of_getElem? (i := 217) rfl) rfl
theorem xt_719 : Cond.instanceMethod yX4_most ∈ xT := xT_a3 (List.mem_of_getElem? (i := 219) rfl) rfl
theorem xt_720 : Cond.code yX4_most prog_6_method_23_code 4 (some .int) ∈ xT := xT_a3 (List.mem_of_getElem? (i := 220) rfl) rfl
theorem xt_721 : Cond.methodLink RX4 80 yX4_has ∈ xT := xT_a3 (List.mem_of_getElem? (i := 221) rfl) rfl
theorem xt_723 : Cond.instanceMethod yX4_has ∈ xT := xT_a3 (List.mem_of_getElem? (i := 223) rfl) rfl
theorem xt_724 : Cond.code yX4_has prog_6_method_21_code 3 (some .int) ∈ xT := xT_a3 (List.mem_of_getElem? (i := 224) rfl) rfl
theorem xt_725 : Cond.methodLink RX4 86 yX4_payoffOf ∈ xT := xT_a3 (List.mem_of_getElem? (i := 225) rfl) rfl
theorem xt_727 : Cond.instanceMethod yX4_payoffOf ∈ xT := xT_a3 (List.mem_of_getElem? (i := 227) rfl) rfl
theorem xt_728 : Cond.code yX4_payoffOf prog_6_method_22_code 2 (some .int) ∈ xT := xT_a3 (List.mem_of_getElem? (i := 228) rfl) rfl
theorem xt_729 : Cond.methodLink RX4 95 yX4_wrong ∈ xT := xT_a3 (List.mem_of_getElem? (i := 229) rfl) rfl
theorem xt_731 : Cond.instanceMethod yX4_wrong ∈ xT := xT_a3 (List.mem_of_getElem? (i := 231) rfl) rfl
theorem xt_732 : Cond.code yX4_wrong prog_6_method_25_code 2 (some .int) ∈ xT := xT_a3 (List.mem_of_getElem? (i := 232) rfl) rfl
theorem xt_733 : Cond.methodLink RX4 89 yX4_best ∈ xT := xT_a3 (List.mem_of_getElem? (i := 233) rfl) rfl
theorem xt_735 : Cond.instanceMethod yX4_best ∈ xT := xT_a3 (List.mem_of_getElem? (i := 235) rfl) rfl
theorem xt_736 : Cond.code yX4_best prog_6_method_20_code 2 (some .int) ∈ xT := xT_a3 (List.mem_of_getElem? (i := 236) rfl) rfl
theorem xt_737 : Cond.methodLink RX4 74 yX4_believes ∈ xT := xT_a3 (List.mem_of_getElem? (i := 237) rfl) rfl
theorem xt_739 : Cond.instanceMethod yX4_believes ∈ xT := xT_a3 (List.mem_of_getElem? (i := 239) rfl) rfl
theorem xt_740 : Cond.code yX4_believes prog_6_method_17_code 4 none ∈ xT := xT_a4 (List.mem_of_getElem? (i := 0) rfl) rfl
theorem xt_741 : Cond.methodLink RX4 62 yX4_senders ∈ xT := xT_a4 (List.mem_of_getElem? (i := 1) rfl) rfl
theorem xt_743 : Cond.instanceMethod yX4_senders ∈ xT := xT_a4 (List.mem_of_getElem? (i := 3) rfl) rfl
theorem xt_744 : Cond.code yX4_senders prog_6_method_16_code 4 (some .int) ∈ xT := xT_a4 (List.mem_of_getElem? (i := 4) rfl) rfl
theorem xt_745 : Cond.methodLink RX4 77 yX4_bestSet ∈ xT := xT_a4 (List.mem_of_getElem? (i := 5) rfl) rfl
theorem xt_747 : Cond.instanceMethod yX4_bestSet ∈ xT := xT_a4 (List.mem_of_getElem? (i := 7) rfl) rfl
theorem xt_748 : Cond.code yX4_bestSet prog_6_method_19_code 6 (some .int) ∈ xT := xT_a4 (List.mem_of_getElem? (i := 8) rfl) rfl
theorem xt_749 : Cond.methodLink RX4 70 yX4_worth ∈ xT := xT_a4 (List.mem_of_getElem? (i := 9) rfl) rfl
theorem xt_751 : Cond.instanceMethod yX4_worth ∈ xT := xT_a4 (List.mem_of_getElem? (i := 11) rfl) rfl
theorem xt_752 : Cond.code yX4_worth prog_6_method_18_code 5 (some .int) ∈ xT := xT_a4 (List.mem_of_getElem? (i := 12) rfl) rfl
theorem xt_753 : Cond.methodLink RX4 143 yX4_counts ∈ xT := xT_a4 (List.mem_of_getElem? (i := 13) rfl) rfl
theorem xt_755 : Cond.instanceMethod yX4_counts ∈ xT := xT_a4 (List.mem_of_getElem? (i := 15) rfl) rfl
theorem xt_756 : Cond.code yX4_counts prog_6_method_42_code 4 (some .int) ∈ xT := xT_a4 (List.mem_of_getElem? (i := 16) rfl) rfl
theorem xt_757 : Cond.methodLink RX4 134 yX4_isRefined ∈ xT := xT_a4 (List.mem_of_getElem? (i := 17) rfl) rfl
theorem xt_759 : Cond.instanceMethod yX4_isRefined ∈ xT := xT_a4 (List.mem_of_getElem? (i := 19) rfl) rfl
theorem xt_760 : Cond.code yX4_isRefined prog_6_method_32_code 1 (some .boolean) ∈ xT := xT_a4 (List.mem_of_getElem? (i := 20) rfl) rfl
theorem xt_761 : Cond.methodLink RX4 115 yX4_isBarred ∈ xT := xT_a4 (List.mem_of_getElem? (i := 21) rfl) rfl
theorem xt_763 : Cond.instanceMethod yX4_isBarred ∈ xT := xT_a4 (List.mem_of_getElem? (i := 23) rfl) rfl
theorem xt_764 : Cond.code yX4_isBarred prog_6_method_31_code 6 (some .boolean) ∈ xT := xT_a4 (List.mem_of_getElem? (i := 24) rfl) rfl
theorem xt_765 : Cond.methodLink RX4 98 yX4_there ∈ xT := xT_a4 (List.mem_of_getElem? (i := 25) rfl) rfl
theorem xt_767 : Cond.instanceMethod yX4_there ∈ xT := xT_a4 (List.mem_of_getElem? (i := 27) rfl) rfl
theorem xt_768 : Cond.code yX4_there prog_6_method_15_code 3 (some .int) ∈ xT := xT_a4 (List.mem_of_getElem? (i := 28) rfl) rfl
theorem xt_769 : Cond.methodLink RX4 108 yX4_never ∈ xT := xT_a4 (List.mem_of_getElem? (i := 29) rfl) rfl
theorem xt_771 : Cond.instanceMethod yX4_never ∈ xT := xT_a4 (List.mem_of_getElem? (i := 31) rfl) rfl
theorem xt_772 : Cond.code yX4_never prog_6_method_30_code 5 (some .int) ∈ xT := xT_a4 (List.mem_of_getElem? (i := 32) rfl) rfl
theorem xt_773 : Cond.methodLink RX4 101 yX4_possible ∈ xT := xT_a4 (List.mem_of_getElem? (i := 33) rfl) rfl
theorem xt_775 : Cond.instanceMethod yX4_possible ∈ xT := xT_a4 (List.mem_of_getElem? (i := 35) rfl) rfl
theorem xt_776 : Cond.code yX4_possible prog_6_method_28_code 7 (some .int) ∈ xT := xT_a4 (List.mem_of_getElem? (i := 36) rfl) rfl
theorem xt_777 : Cond.methodLink RX4 104 yX4_isBeyond ∈ xT := xT_a4 (List.mem_of_getElem? (i := 37) rfl) rfl
theorem xt_779 : Cond.instanceMethod yX4_isBeyond ∈ xT := xT_a4 (List.mem_of_getElem? (i := 39) rfl) rfl
theorem xt_780 : Cond.code yX4_isBeyond prog_6_method_29_code 9 (some .boolean) ∈ xT := xT_a4 (List.mem_of_getElem? (i := 40) rfl) rfl
theorem xt_781 : Cond.methodLink RX4 137 yX4_sort ∈ xT := xT_a4 (List.mem_of_getElem? (i := 41) rfl) rfl
theorem xt_783 : Cond.instanceMethod yX4_sort ∈ xT := xT_a4 (List.mem_of_getElem? (i := 43) rfl) rfl
theorem xt_784 : Cond.code yX4_sort prog_6_method_27_code 4 (some .int) ∈ xT := xT_a4 (List.mem_of_getElem? (i := 44) rfl) rfl
theorem xt_785 : Cond.methodLink RL 73 yX4_plans ∈ xT := xT_a4 (List.mem_of_getElem? (i := 45) rfl) rfl
theorem xt_786 : Cond.instanceMethod yX4_plans ∈ xT := xT_a4 (List.mem_of_getElem? (i := 46) rfl) rfl
theorem xt_787 : Cond.selects RX4 yX4_plans yX4_plans ∈ xT := xT_a4 (List.mem_of_getElem? (i := 47) rfl) rfl
theorem xt_788 : Cond.code yX4_plans prog_6_method_45_code 2 (some .int) ∈ xT := xT_a4 (List.mem_of_getElem? (i := 48) rfl) rfl
theorem xt_789 : Cond.methodLink RL 77 yX4_planAt ∈ xT := xT_a4 (List.mem_of_getElem? (i := 49) rfl) rfl
theorem xt_790 : Cond.instanceMethod yX4_planAt ∈ xT := xT_a4 (List.mem_of_getElem? (i := 50) rfl) rfl
theorem xt_791 : Cond.selects RX4 yX4_planAt yX4_planAt ∈ xT := xT_a4 (List.mem_of_getElem? (i := 51) rfl) rfl
theorem xt_792 : Cond.code yX4_planAt prog_6_method_46_code 2 (some .int) ∈ xT := xT_a4 (List.mem_of_getElem? (i := 52) rfl) rfl
theorem xt_793 : Cond.methodLink RL 85 yX4_bestPlan ∈ xT := xT_a4 (List.mem_of_getElem? (i := 53) rfl) rfl
theorem xt_794 : Cond.instanceMethod yX4_bestPlan ∈ xT := xT_a4 (List.mem_of_getElem? (i := 54) rfl) rfl
theorem xt_795 : Cond.selects RX4 yX4_bestPlan yX4_bestPlan ∈ xT := xT_a4 (List.mem_of_getElem? (i := 55) rfl) rfl
theorem xt_796 : Cond.code yX4_bestPlan prog_6_method_48_code 5 (some .int) ∈ xT := xT_a4 (List.mem_of_getElem? (i := 56) rfl) rfl
theorem xt_797 : Cond.methodLink RX4 146 yX4_receives ∈ xT := xT_a4 (List.mem_of_getElem? (i := 57) rfl) rfl
theorem xt_799 : Cond.instanceMethod yX4_receives ∈ xT := xT_a4 (List.mem_of_getElem? (i := 59) rfl) rfl
theorem xt_800 : Cond.code yX4_receives prog_6_method_47_code 3 (some .int) ∈ xT := xT_a4 (List.mem_of_getElem? (i := 60) rfl) rfl
theorem xt_801 : Cond.methodLink RL 45 yX4_payoff ∈ xT := xT_a4 (List.mem_of_getElem? (i := 61) rfl) rfl
theorem xt_802 : Cond.instanceMethod yX4_payoff ∈ xT := xT_a4 (List.mem_of_getElem? (i := 62) rfl) rfl
theorem xt_803 : Cond.selects RX4 yX4_payoff yX4_payoff ∈ xT := xT_a4 (List.mem_of_getElem? (i := 63) rfl) rfl
theorem xt_804 : Cond.code yX4_payoff prog_6_method_49_code 5 (some .int) ∈ xT := xT_a4 (List.mem_of_getElem? (i := 64) rfl) rfl
theorem xt_805 : Cond.methodLink RL 49 yX4_ofType ∈ xT := xT_a4 (List.mem_of_getElem? (i := 65) rfl) rfl
theorem xt_806 : Cond.instanceMethod yX4_ofType ∈ xT := xT_a4 (List.mem_of_getElem? (i := 66) rfl) rfl
theorem xt_807 : Cond.selects RX4 yX4_ofType yX4_ofType ∈ xT := xT_a4 (List.mem_of_getElem? (i := 67) rfl) rfl
theorem xt_808 : Cond.code yX4_ofType prog_6_method_50_code 4 (some .int) ∈ xT := xT_a4 (List.mem_of_getElem? (i := 68) rfl) rfl
theorem xt_809 : Cond.methodLink RX4 149 yX4_looks ∈ xT := xT_a4 (List.mem_of_getElem? (i := 69) rfl) rfl
theorem xt_811 : Cond.instanceMethod yX4_looks ∈ xT := xT_a4 (List.mem_of_getElem? (i := 71) rfl) rfl
theorem xt_812 : Cond.code yX4_looks prog_6_method_12_code 1 none ∈ xT := xT_a4 (List.mem_of_getElem? (i := 72) rfl) rfl
theorem xt_813 : Cond.methodLink RL 53 yX4_ofMessage ∈ xT := xT_a4 (List.mem_of_getElem? (i := 73) rfl) rfl
theorem xt_814 : Cond.instanceMethod yX4_ofMessage ∈ xT := xT_a4 (List.mem_of_getElem? (i := 74) rfl) rfl
theorem xt_815 : Cond.selects RX4 yX4_ofMessage yX4_ofMessage ∈ xT := xT_a4 (List.mem_of_getElem? (i := 75) rfl) rfl
theorem xt_816 : Cond.code yX4_ofMessage prog_6_method_51_code 3 (some .int) ∈ xT := xT_a4 (List.mem_of_getElem? (i := 76) rfl) rfl
theorem xt_817 : Cond.methodLink RL 57 yX4_belief ∈ xT := xT_a4 (List.mem_of_getElem? (i := 77) rfl) rfl
theorem xt_818 : Cond.instanceMethod yX4_belief ∈ xT := xT_a4 (List.mem_of_getElem? (i := 78) rfl) rfl
theorem xt_819 : Cond.selects RX4 yX4_belief yX4_belief ∈ xT := xT_a4 (List.mem_of_getElem? (i := 79) rfl) rfl
theorem xt_820 : Cond.code yX4_belief prog_6_method_54_code 5 (some .int) ∈ xT := xT_a4 (List.mem_of_getElem? (i := 80) rfl) rfl
theorem xt_821 : Cond.methodLink RX4 152 yX4_sum ∈ xT := xT_a4 (List.mem_of_getElem? (i := 81) rfl) rfl
theorem xt_823 : Cond.instanceMethod yX4_sum ∈ xT := xT_a4 (List.mem_of_getElem? (i := 83) rfl) rfl
theorem xt_824 : Cond.code yX4_sum prog_6_method_53_code 1 (some .int) ∈ xT := xT_a4 (List.mem_of_getElem? (i := 84) rfl) rfl
theorem xt_825 : Cond.methodLink RX4 155 yX4_common ∈ xT := xT_a4 (List.mem_of_getElem? (i := 85) rfl) rfl
theorem xt_826 : Cond.static yX4_common ∈ xT := xT_a4 (List.mem_of_getElem? (i := 86) rfl) rfl
theorem xt_827 : Cond.code yX4_common prog_6_method_52_code 5 (some .int) ∈ xT := xT_a4 (List.mem_of_getElem? (i := 87) rfl) rfl
theorem xt_828 : Cond.methodLink RL 61 yX4_mean ∈ xT := xT_a4 (List.mem_of_getElem? (i := 88) rfl) rfl
theorem xt_829 : Cond.instanceMethod yX4_mean ∈ xT := xT_a4 (List.mem_of_getElem? (i := 89) rfl) rfl
theorem xt_830 : Cond.selects RX4 yX4_mean yX4_mean ∈ xT := xT_a4 (List.mem_of_getElem? (i := 90) rfl) rfl
theorem xt_831 : Cond.code yX4_mean prog_6_method_55_code 6 (some .int) ∈ xT := xT_a4 (List.mem_of_getElem? (i := 91) rfl) rfl
theorem xt_832 : Cond.methodLink RL 65 yX4_why ∈ xT := xT_a4 (List.mem_of_getElem? (i := 92) rfl) rfl
theorem xt_833 : Cond.instanceMethod yX4_why ∈ xT := xT_a4 (List.mem_of_getElem? (i := 93) rfl) rfl
theorem xt_834 : Cond.selects RX4 yX4_why yX4_why ∈ xT := xT_a4 (List.mem_of_getElem? (i := 94) rfl) rfl
theorem xt_835 : Cond.code yX4_why prog_6_method_56_code 4 (some .int) ∈ xT := xT_a4 (List.mem_of_getElem? (i := 95) rfl) rfl
theorem xt_836 : Cond.methodLink RL 69 yX4_count ∈ xT := xT_a4 (List.mem_of_getElem? (i := 96) rfl) rfl
theorem xt_837 : Cond.instanceMethod yX4_count ∈ xT := xT_a4 (List.mem_of_getElem? (i := 97) rfl) rfl
theorem xt_838 : Cond.selects RX4 yX4_count yX4_count ∈ xT := xT_a4 (List.mem_of_getElem? (i := 98) rfl) rfl
theorem xt_839 : Cond.code yX4_count prog_6_method_58_code 2 (some .int) ∈ xT := xT_a4 (List.mem_of_getElem? (i := 99) rfl) rfl
theorem xt_840 : Cond.methodLink RX4 158 yX4_sentSet ∈ xT := xT_a4 (List.mem_of_getElem? (i := 100) rfl) rfl
theorem xt_842 : Cond.instanceMethod yX4_sentSet ∈ xT := xT_a4 (List.mem_of_getElem? (i := 102) rfl) rfl
theorem xt_843 : Cond.code yX4_sentSet prog_6_method_57_code 3 (some .int) ∈ xT := xT_a4 (List.mem_of_getElem? (i := 103) rfl) rfl
theorem xt_844 : Cond.methodLink RL 81 yX4_bestAnswer ∈ xT := xT_a4 (List.mem_of_getElem? (i := 104) rfl) rfl
theorem xt_845 : Cond.instanceMethod yX4_bestAnswer ∈ xT := xT_a4 (List.mem_of_getElem? (i := 105) rfl) rfl
theorem xt_846 : Cond.selects RX4 yX4_bestAnswer yX4_bestAnswer ∈ xT := xT_a4 (List.mem_of_getElem? (i := 106) rfl) rfl
theorem xt_847 : Cond.code yX4_bestAnswer prog_6_method_59_code 3 (some .int) ∈ xT := xT_a4 (List.mem_of_getElem? (i := 107) rfl) rfl
theorem xt_848 : Cond.methodLink RL 92 yX4_put ∈ xT := xT_a4 (List.mem_of_getElem? (i := 108) rfl) rfl
theorem xt_849 : Cond.instanceMethod yX4_put ∈ xT := xT_a4 (List.mem_of_getElem? (i := 109) rfl) rfl
theorem xt_850 : Cond.selects RX4 yX4_put yX4_put ∈ xT := xT_a4 (List.mem_of_getElem? (i := 110) rfl) rfl
theorem xt_851 : Cond.code yX4_put prog_6_method_62_code 5 (some .int) ∈ xT := xT_a4 (List.mem_of_getElem? (i := 111) rfl) rfl
theorem xt_852 : Cond.methodLink RX4 170 yX4_toldBy ∈ xT := xT_a4 (List.mem_of_getElem? (i := 112) rfl) rfl
theorem xt_853 : Cond.static yX4_toldBy ∈ xT := xT_a4 (List.mem_of_getElem? (i := 113) rfl) rfl
theorem xt_854 : Cond.code yX4_toldBy prog_6_method_61_code 4 (some .int) ∈ xT := xT_a4 (List.mem_of_getElem? (i := 114) rfl) rfl
theorem xt_855 : Cond.methodLink RX4 166 yX4_byteOf ∈ xT := xT_a4 (List.mem_of_getElem? (i := 115) rfl) rfl
theorem xt_856 : Cond.static yX4_byteOf ∈ xT := xT_a4 (List.mem_of_getElem? (i := 116) rfl) rfl
theorem xt_857 : Cond.code yX4_byteOf prog_6_method_60_code 3 (some .int) ∈ xT := xT_a4 (List.mem_of_getElem? (i := 117) rfl) rfl
theorem xt_858 : Cond.constantLong RX4 164 (255) ∈ xT := xT_a4 (List.mem_of_getElem? (i := 118) rfl) rfl
theorem xt_859 : Cond.methodLink RL 97 yX4_wipe ∈ xT := xT_a4 (List.mem_of_getElem? (i := 119) rfl) rfl
theorem xt_860 : Cond.instanceMethod yX4_wipe ∈ xT := xT_a4 (List.mem_of_getElem? (i := 120) rfl) rfl
theorem xt_861 : Cond.selects RX4 yX4_wipe yX4_wipe ∈ xT := xT_a4 (List.mem_of_getElem? (i := 121) rfl) rfl
theorem xt_862 : Cond.code yX4_wipe prog_6_method_63_code 2 (some .int) ∈ xT := xT_a4 (List.mem_of_getElem? (i := 122) rfl) rfl
theorem xt_863 : Cond.methodLink RL 101 yX4_fault ∈ xT := xT_a4 (List.mem_of_getElem? (i := 123) rfl) rfl
theorem xt_864 : Cond.instanceMethod yX4_fault ∈ xT := xT_a4 (List.mem_of_getElem? (i := 124) rfl) rfl
theorem xt_865 : Cond.selects RX4 yX4_fault yX4_fault ∈ xT := xT_a4 (List.mem_of_getElem? (i := 125) rfl) rfl
theorem xt_866 : Cond.code yX4_fault prog_6_method_70_code 1 (some .int) ∈ xT := xT_a4 (List.mem_of_getElem? (i := 126) rfl) rfl
theorem xt_867 : Cond.methodLink RX4 196 yX4_isText ∈ xT := xT_a4 (List.mem_of_getElem? (i := 127) rfl) rfl
theorem xt_869 : Cond.instanceMethod yX4_isText ∈ xT := xT_a4 (List.mem_of_getElem? (i := 129) rfl) rfl
theorem xt_870 : Cond.code yX4_isText prog_6_method_69_code 2 (some .boolean) ∈ xT := xT_a4 (List.mem_of_getElem? (i := 130) rfl) rfl
theorem xt_871 : Cond.methodLink RX4 193 yX4_isOrder ∈ xT := xT_a4 (List.mem_of_getElem? (i := 131) rfl) rfl
theorem xt_873 : Cond.instanceMethod yX4_isOrder ∈ xT := xT_a4 (List.mem_of_getElem? (i := 133) rfl) rfl
theorem xt_874 : Cond.code yX4_isOrder prog_6_method_68_code 2 (some .boolean) ∈ xT := xT_a4 (List.mem_of_getElem? (i := 134) rfl) rfl
theorem xt_875 : Cond.methodLink RX4 184 yX4_isFigure ∈ xT := xT_a4 (List.mem_of_getElem? (i := 135) rfl) rfl
theorem xt_877 : Cond.instanceMethod yX4_isFigure ∈ xT := xT_a4 (List.mem_of_getElem? (i := 137) rfl) rfl
theorem xt_878 : Cond.code yX4_isFigure prog_6_method_66_code 3 (some .boolean) ∈ xT := xT_a4 (List.mem_of_getElem? (i := 138) rfl) rfl
theorem xt_879 : Cond.methodLink RX4 177 yX4_isAt ∈ xT := xT_a4 (List.mem_of_getElem? (i := 139) rfl) rfl
theorem xt_881 : Cond.instanceMethod yX4_isAt ∈ xT := xT_a4 (List.mem_of_getElem? (i := 141) rfl) rfl
theorem xt_882 : Cond.code yX4_isAt prog_6_method_64_code 3 (some .boolean) ∈ xT := xT_a4 (List.mem_of_getElem? (i := 142) rfl) rfl
theorem xt_883 : Cond.methodLink RX4 187 yX4_isSign ∈ xT := xT_a4 (List.mem_of_getElem? (i := 143) rfl) rfl
theorem xt_885 : Cond.instanceMethod yX4_isSign ∈ xT := xT_a4 (List.mem_of_getElem? (i := 145) rfl) rfl
theorem xt_886 : Cond.code yX4_isSign prog_6_method_65_code 3 (some .boolean) ∈ xT := xT_a4 (List.mem_of_getElem? (i := 146) rfl) rfl
theorem xt_887 : Cond.methodLink RX4 190 yX4_isPay ∈ xT := xT_a4 (List.mem_of_getElem? (i := 147) rfl) rfl
theorem xt_889 : Cond.instanceMethod yX4_isPay ∈ xT := xT_a4 (List.mem_of_getElem? (i := 149) rfl) rfl
theorem xt_890 : Cond.code yX4_isPay prog_6_method_67_code 3 (some .boolean) ∈ xT := xT_a4 (List.mem_of_getElem? (i := 150) rfl) rfl
theorem xt_891 : Cond.methodLink RL 105 yX4_carryOut ∈ xT := xT_a4 (List.mem_of_getElem? (i := 151) rfl) rfl
theorem xt_892 : Cond.instanceMethod yX4_carryOut ∈ xT := xT_a4 (List.mem_of_getElem? (i := 152) rfl) rfl
theorem xt_893 : Cond.selects RX4 yX4_carryOut yX4_carryOut ∈ xT := xT_a4 (List.mem_of_getElem? (i := 153) rfl) rfl
theorem xt_894 : Cond.code yX4_carryOut prog_6_method_72_code 2 (some .int) ∈ xT := xT_a4 (List.mem_of_getElem? (i := 154) rfl) rfl
theorem xt_895 : Cond.methodLink RX4 199 yX4_does ∈ xT := xT_a4 (List.mem_of_getElem? (i := 155) rfl) rfl
theorem xt_897 : Cond.instanceMethod yX4_does ∈ xT := xT_a4 (List.mem_of_getElem? (i := 157) rfl) rfl
theorem xt_898 : Cond.code yX4_does prog_6_method_71_code 8 (some .boolean) ∈ xT := xT_a4 (List.mem_of_getElem? (i := 158) rfl) rfl
theorem xt_899 : Cond.constantLong RL 86 (4294967295) ∈ xT := xT_a4 (List.mem_of_getElem? (i := 159) rfl) rfl
theorem xt_900 : Cond.fieldLink RJ0 9 "java/lang/String" "value" "[B" ∈ xT := xT_a4 (List.mem_of_getElem? (i := 160) rfl) rfl
theorem xt_901 : Cond.fieldLink RJ0 15 "java/lang/String" "coder" "B" ∈ xT := xT_a4 (List.mem_of_getElem? (i := 161) rfl) rfl
