/-! ===== WORDS: the tables' words that can be carried, one list for all methods ===== -/
def xU : List Cond := lw_tbl.filter goodWord
theorem xUin {w : Cond} (h : w ∈ lw_tbl) (g : goodWord w = true) : w ∈ xU := List.mem_filter.mpr ⟨h, g⟩
theorem xU_tbl : ∀ w ∈ xU, w ∈ lw_tbl := fun w h => (List.mem_filter.mp h).1
theorem xU_good : ∀ w ∈ xU, (w.onTables && w.keeps) = true ∨ ∃ ty, w = .arrayClass ty := fun w h => good_of_word (List.mem_filter.mp h).2
theorem xr1 {w : Cond} (h : w ∈ tables_1_1) (g : goodWord w = true) : w ∈ xU := xUin (List.mem_append_right _ (show w ∈ tables_1 from List.mem_append_left _ h)) g
theorem xr2 {w : Cond} (h : w ∈ tables_1_2) (g : goodWord w = true) : w ∈ xU := xUin (List.mem_append_right _ (show w ∈ tables_1 from List.mem_append_right _ (List.mem_append_left _ h))) g
theorem xr3 {w : Cond} (h : w ∈ tables_1_3) (g : goodWord w = true) : w ∈ xU := xUin (List.mem_append_right _ (show w ∈ tables_1 from List.mem_append_right _ (List.mem_append_right _ (List.mem_append_left _ h)))) g
theorem xr4 {w : Cond} (h : w ∈ tables_1_4) (g : goodWord w = true) : w ∈ xU := xUin (List.mem_append_right _ (show w ∈ tables_1 from List.mem_append_right _ (List.mem_append_right _ (List.mem_append_right _ (List.mem_append_left _ h))))) g
theorem xr5 {w : Cond} (h : w ∈ tables_1_5) (g : goodWord w = true) : w ∈ xU := xUin (List.mem_append_right _ (show w ∈ tables_1 from List.mem_append_right _ (List.mem_append_right _ (List.mem_append_right _ (List.mem_append_right _ h))))) g
theorem xr0 {q : MethodName × Nat} (h : q ∈ lw_privs) : Cond.selects q.1.cls q.1 q.1 ∈ xU := xUin (List.mem_append_left _ (List.mem_map_of_mem (f := fun q : MethodName × Nat => Cond.selects q.1.cls q.1 q.1) h)) rfl
theorem uw_1_0 : Cond.initialized RL ∈ xU := xr1 (List.mem_of_getElem? (i := 0) rfl) rfl
theorem uw_1_1 : Cond.initialized RX5 ∈ xU := xr1 (List.mem_of_getElem? (i := 1) rfl) rfl
theorem uw_1_2 : Cond.initialized RX1 ∈ xU := xr1 (List.mem_of_getElem? (i := 2) rfl) rfl
theorem uw_1_3 : Cond.initialized RX3 ∈ xU := xr1 (List.mem_of_getElem? (i := 3) rfl) rfl
theorem uw_1_4 : Cond.initialized RX2 ∈ xU := xr1 (List.mem_of_getElem? (i := 4) rfl) rfl
theorem uw_1_5 : Cond.initialized RX0 ∈ xU := xr1 (List.mem_of_getElem? (i := 5) rfl) rfl
theorem uw_1_6 : Cond.initialized RX4 ∈ xU := xr1 (List.mem_of_getElem? (i := 6) rfl) rfl
theorem uw_1_7 : Cond.initialized RX6 ∈ xU := xr1 (List.mem_of_getElem? (i := 7) rfl) rfl
theorem uw_1_8 : Cond.initialized RJ0 ∈ xU := xr1 (List.mem_of_getElem? (i := 8) rfl) rfl
theorem uw_1_9 : Cond.initialized RJ1 ∈ xU := xr1 (List.mem_of_getElem? (i := 9) rfl) rfl
theorem uw_1_10 : Cond.initialized RJ9 ∈ xU := xr1 (List.mem_of_getElem? (i := 10) rfl) rfl
theorem uw_1_11 : Cond.initialized RJ2 ∈ xU := xr1 (List.mem_of_getElem? (i := 11) rfl) rfl
theorem uw_1_12 : Cond.initialized RJ3 ∈ xU := xr1 (List.mem_of_getElem? (i := 12) rfl) rfl
theorem uw_1_13 : Cond.initialized RJ11 ∈ xU := xr1 (List.mem_of_getElem? (i := 13) rfl) rfl
theorem uw_1_14 : Cond.initialized RJ6 ∈ xU := xr1 (List.mem_of_getElem? (i := 14) rfl) rfl
theorem uw_1_15 : Cond.classLink RL 7 RX5 ∈ xU := xr1 (List.mem_of_getElem? (i := 15) rfl) rfl
theorem uw_1_16 : Cond.instantiable RX5 5 ∈ xU := xr1 (List.mem_of_getElem? (i := 16) rfl) rfl
theorem uw_1_17 : Cond.methodLink RL 9 yX5_init ∈ xU := xr1 (List.mem_of_getElem? (i := 17) rfl) rfl
theorem uw_1_18 : Cond.instanceMethod yX5_init ∈ xU := xr1 (List.mem_of_getElem? (i := 18) rfl) rfl
theorem uw_1_19 : Cond.code yX5_init prog_1_method_1_code 1 (Option.none : Option Jvm.ClassFile.FieldType) ∈ xU := xr1 (List.mem_of_getElem? (i := 19) rfl) rfl
theorem uw_1_20 : Cond.methodLink RX5 3 objectInit ∈ xU := xr1 (List.mem_of_getElem? (i := 20) rfl) rfl
theorem uw_1_21 : Cond.instanceMethod objectInit ∈ xU := xr1 (List.mem_of_getElem? (i := 21) rfl) rfl
theorem uw_1_22 : Cond.code objectInit object_method_1_code 1 (Option.none : Option Jvm.ClassFile.FieldType) ∈ xU := xr1 (List.mem_of_getElem? (i := 22) rfl) rfl
theorem uw_1_23 : Cond.classLink RX5 9 RX1 ∈ xU := xr1 (List.mem_of_getElem? (i := 23) rfl) rfl
theorem uw_1_24 : Cond.instantiable RX1 2 ∈ xU := xr1 (List.mem_of_getElem? (i := 24) rfl) rfl
theorem uw_1_25 : Cond.methodLink RX5 11 yX1_init ∈ xU := xr1 (List.mem_of_getElem? (i := 25) rfl) rfl
theorem uw_1_26 : Cond.instanceMethod yX1_init ∈ xU := xr1 (List.mem_of_getElem? (i := 26) rfl) rfl
theorem uw_1_27 : Cond.code yX1_init prog_3_method_1_code 1 (Option.none : Option Jvm.ClassFile.FieldType) ∈ xU := xr1 (List.mem_of_getElem? (i := 27) rfl) rfl
theorem uw_1_28 : Cond.methodLink RX1 3 objectInit ∈ xU := xr1 (List.mem_of_getElem? (i := 28) rfl) rfl
theorem uw_1_29 : Cond.fieldLink RX1 9 RX1 "codes" "[I" ∈ xU := xr1 (List.mem_of_getElem? (i := 29) rfl) rfl
theorem uw_1_30 : Cond.fieldLink RX1 15 RX1 "length" "I" ∈ xU := xr1 (List.mem_of_getElem? (i := 30) rfl) rfl
theorem uw_1_31 : Cond.laysFinal RX1 RX1 "codes" "[I" ∈ xU := xr1 (List.mem_of_getElem? (i := 31) rfl) rfl
theorem uw_1_33 : Cond.lays RX1 RX1 "length" "I" ∈ xU := xr1 (List.mem_of_getElem? (i := 33) rfl) rfl
theorem uw_1_36 : Cond.arrayClass Jvm.ClassFile.FieldType.int ∈ xU := xr1 (List.mem_of_getElem? (i := 36) rfl) rfl
theorem uw_1_37 : Cond.classLink RX5 16 RX3 ∈ xU := xr1 (List.mem_of_getElem? (i := 37) rfl) rfl
theorem uw_1_38 : Cond.instantiable RX3 7 ∈ xU := xr1 (List.mem_of_getElem? (i := 38) rfl) rfl
theorem uw_1_39 : Cond.methodLink RX5 18 yX3_init ∈ xU := xr1 (List.mem_of_getElem? (i := 39) rfl) rfl
theorem uw_1_40 : Cond.instanceMethod yX3_init ∈ xU := xr1 (List.mem_of_getElem? (i := 40) rfl) rfl
theorem uw_1_41 : Cond.code yX3_init prog_5_method_1_code 1 (Option.none : Option Jvm.ClassFile.FieldType) ∈ xU := xr1 (List.mem_of_getElem? (i := 41) rfl) rfl
theorem uw_1_42 : Cond.methodLink RX3 3 objectInit ∈ xU := xr1 (List.mem_of_getElem? (i := 42) rfl) rfl
theorem uw_1_43 : Cond.classLink RX3 18 RX2 ∈ xU := xr1 (List.mem_of_getElem? (i := 43) rfl) rfl
theorem uw_1_44 : Cond.instantiable RX2 9 ∈ xU := xr1 (List.mem_of_getElem? (i := 44) rfl) rfl
theorem uw_1_45 : Cond.methodLink RX3 20 yX2_init ∈ xU := xr1 (List.mem_of_getElem? (i := 45) rfl) rfl
theorem uw_1_46 : Cond.instanceMethod yX2_init ∈ xU := xr1 (List.mem_of_getElem? (i := 46) rfl) rfl
theorem uw_1_47 : Cond.code yX2_init prog_4_method_1_code 1 (Option.none : Option Jvm.ClassFile.FieldType) ∈ xU := xr1 (List.mem_of_getElem? (i := 47) rfl) rfl
theorem uw_1_48 : Cond.methodLink RX2 3 objectInit ∈ xU := xr1 (List.mem_of_getElem? (i := 48) rfl) rfl
theorem uw_1_49 : Cond.methodLink RX2 27 yX2_begin ∈ xU := xr1 (List.mem_of_getElem? (i := 49) rfl) rfl
theorem uw_1_50 : Cond.instanceMethod yX2_begin ∈ xU := xr1 (List.mem_of_getElem? (i := 50) rfl) rfl
theorem uw_1_51 : Cond.selects RX2 yX2_begin yX2_begin ∈ xU := xr1 (List.mem_of_getElem? (i := 51) rfl) rfl
theorem uw_1_52 : Cond.code yX2_begin prog_4_method_2_code 1 (Option.none : Option Jvm.ClassFile.FieldType) ∈ xU := xr1 (List.mem_of_getElem? (i := 52) rfl) rfl
theorem uw_1_53 : Cond.methodLink RX2 30 yX2_takeAllBack ∈ xU := xr1 (List.mem_of_getElem? (i := 53) rfl) rfl
theorem uw_1_55 : Cond.instanceMethod yX2_takeAllBack ∈ xU := xr1 (List.mem_of_getElem? (i := 55) rfl) rfl
theorem uw_1_56 : Cond.code yX2_takeAllBack prog_4_method_19_code 2 (Option.none : Option Jvm.ClassFile.FieldType) ∈ xU := xr1 (List.mem_of_getElem? (i := 56) rfl) rfl
theorem uw_1_58 : Cond.static yX5_put ∈ xU := xr1 (List.mem_of_getElem? (i := 58) rfl) rfl
theorem uw_1_59 : Cond.code yX5_put prog_1_method_30_code 3 (Option.none : Option Jvm.ClassFile.FieldType) ∈ xU := xr1 (List.mem_of_getElem? (i := 59) rfl) rfl
theorem uw_1_60 : Cond.fieldLink RX2 9 RX2 "holders" "[I" ∈ xU := xr1 (List.mem_of_getElem? (i := 60) rfl) rfl
theorem uw_1_61 : Cond.fieldLink RX2 15 RX2 "memories" "[I" ∈ xU := xr1 (List.mem_of_getElem? (i := 61) rfl) rfl
theorem uw_1_62 : Cond.fieldLink RX2 18 RX2 "seenThings" "[I" ∈ xU := xr1 (List.mem_of_getElem? (i := 62) rfl) rfl
theorem uw_1_63 : Cond.fieldLink RX2 21 RX2 "seenClaimers" "[I" ∈ xU := xr1 (List.mem_of_getElem? (i := 63) rfl) rfl
theorem uw_1_64 : Cond.fieldLink RX2 24 RX2 "seenFitted" "[I" ∈ xU := xr1 (List.mem_of_getElem? (i := 64) rfl) rfl
theorem uw_1_65 : Cond.fieldLink RX2 33 RX2 "seenInAll" "I" ∈ xU := xr1 (List.mem_of_getElem? (i := 65) rfl) rfl
theorem uw_1_66 : Cond.fieldLink RX2 37 RX2 "mondaysOver" "I" ∈ xU := xr1 (List.mem_of_getElem? (i := 66) rfl) rfl
theorem uw_1_67 : Cond.fieldLink RX2 40 RX2 "thingsLeft" "I" ∈ xU := xr1 (List.mem_of_getElem? (i := 67) rfl) rfl
theorem uw_1_68 : Cond.fieldLink RX2 43 RX2 "claimersLeft" "I" ∈ xU := xr1 (List.mem_of_getElem? (i := 68) rfl) rfl
theorem uw_1_69 : Cond.laysFinal RX2 RX2 "holders" "[I" ∈ xU := xr1 (List.mem_of_getElem? (i := 69) rfl) rfl
theorem uw_1_71 : Cond.laysFinal RX2 RX2 "memories" "[I" ∈ xU := xr1 (List.mem_of_getElem? (i := 71) rfl) rfl
theorem uw_1_73 : Cond.laysFinal RX2 RX2 "seenThings" "[I" ∈ xU := xr1 (List.mem_of_getElem? (i := 73) rfl) rfl
theorem uw_1_75 : Cond.laysFinal RX2 RX2 "seenClaimers" "[I" ∈ xU := xr1 (List.mem_of_getElem? (i := 75) rfl) rfl
theorem uw_1_77 : Cond.laysFinal RX2 RX2 "seenFitted" "[I" ∈ xU := xr1 (List.mem_of_getElem? (i := 77) rfl) rfl
theorem uw_1_79 : Cond.lays RX2 RX2 "seenInAll" "I" ∈ xU := xr1 (List.mem_of_getElem? (i := 79) rfl) rfl
theorem uw_1_81 : Cond.lays RX2 RX2 "mondaysOver" "I" ∈ xU := xr1 (List.mem_of_getElem? (i := 81) rfl) rfl
theorem uw_1_83 : Cond.lays RX2 RX2 "thingsLeft" "I" ∈ xU := xr1 (List.mem_of_getElem? (i := 83) rfl) rfl
theorem uw_1_85 : Cond.lays RX2 RX2 "claimersLeft" "I" ∈ xU := xr1 (List.mem_of_getElem? (i := 85) rfl) rfl
theorem uw_1_88 : Cond.fieldLink RX3 9 RX3 "thingSigns" "[I" ∈ xU := xr1 (List.mem_of_getElem? (i := 88) rfl) rfl
theorem uw_1_89 : Cond.fieldLink RX3 15 RX3 "kinds" "[I" ∈ xU := xr1 (List.mem_of_getElem? (i := 89) rfl) rfl
theorem uw_1_90 : Cond.fieldLink RX3 21 RX3 "register" "LLostTent$Register;" ∈ xU := xr1 (List.mem_of_getElem? (i := 90) rfl) rfl
theorem uw_1_91 : Cond.fieldLink RX3 25 RX3 "image" "LLostTent$Register;" ∈ xU := xr1 (List.mem_of_getElem? (i := 91) rfl) rfl
theorem uw_1_92 : Cond.fieldLink RX3 28 RX3 "things" "I" ∈ xU := xr1 (List.mem_of_getElem? (i := 92) rfl) rfl
theorem uw_1_93 : Cond.fieldLink RX3 32 RX3 "claimers" "I" ∈ xU := xr1 (List.mem_of_getElem? (i := 93) rfl) rfl
theorem uw_1_94 : Cond.fieldLink RX3 35 RX3 "imageKept" "Z" ∈ xU := xr1 (List.mem_of_getElem? (i := 94) rfl) rfl
theorem uw_1_95 : Cond.laysFinal RX3 RX3 "thingSigns" "[I" ∈ xU := xr1 (List.mem_of_getElem? (i := 95) rfl) rfl
theorem uw_1_97 : Cond.laysFinal RX3 RX3 "kinds" "[I" ∈ xU := xr1 (List.mem_of_getElem? (i := 97) rfl) rfl
theorem uw_1_99 : Cond.laysFinal RX3 RX3 "register" "LLostTent$Register;" ∈ xU := xr1 (List.mem_of_getElem? (i := 99) rfl) rfl
theorem uw_1_101 : Cond.laysFinal RX3 RX3 "image" "LLostTent$Register;" ∈ xU := xr1 (List.mem_of_getElem? (i := 101) rfl) rfl
theorem uw_1_103 : Cond.lays RX3 RX3 "things" "I" ∈ xU := xr1 (List.mem_of_getElem? (i := 103) rfl) rfl
theorem uw_1_105 : Cond.lays RX3 RX3 "claimers" "I" ∈ xU := xr1 (List.mem_of_getElem? (i := 105) rfl) rfl
theorem uw_1_107 : Cond.lays RX3 RX3 "imageKept" "Z" ∈ xU := xr1 (List.mem_of_getElem? (i := 107) rfl) rfl
theorem uw_1_110 : Cond.classLink RX5 23 RX0 ∈ xU := xr1 (List.mem_of_getElem? (i := 110) rfl) rfl
theorem uw_1_111 : Cond.instantiable RX0 5 ∈ xU := xr1 (List.mem_of_getElem? (i := 111) rfl) rfl
theorem uw_1_112 : Cond.methodLink RX5 25 yX0_init ∈ xU := xr1 (List.mem_of_getElem? (i := 112) rfl) rfl
theorem uw_1_113 : Cond.instanceMethod yX0_init ∈ xU := xr1 (List.mem_of_getElem? (i := 113) rfl) rfl
theorem uw_1_114 : Cond.code yX0_init prog_2_method_1_code 1 (Option.none : Option Jvm.ClassFile.FieldType) ∈ xU := xr1 (List.mem_of_getElem? (i := 114) rfl) rfl
theorem uw_1_115 : Cond.methodLink RX0 3 objectInit ∈ xU := xr1 (List.mem_of_getElem? (i := 115) rfl) rfl
theorem uw_1_116 : Cond.fieldLink RX0 9 RX0 "prices" "[I" ∈ xU := xr1 (List.mem_of_getElem? (i := 116) rfl) rfl
theorem uw_1_117 : Cond.fieldLink RX0 15 RX0 "gets" "[I" ∈ xU := xr1 (List.mem_of_getElem? (i := 117) rfl) rfl
theorem uw_1_118 : Cond.fieldLink RX0 18 RX0 "things" "I" ∈ xU := xr1 (List.mem_of_getElem? (i := 118) rfl) rfl
theorem uw_1_119 : Cond.fieldLink RX0 22 RX0 "pairs" "I" ∈ xU := xr1 (List.mem_of_getElem? (i := 119) rfl) rfl
theorem uw_1_120 : Cond.fieldLink RX0 25 RX0 "wrongTogether" "I" ∈ xU := xr1 (List.mem_of_getElem? (i := 120) rfl) rfl
theorem uw_1_121 : Cond.laysFinal RX0 RX0 "prices" "[I" ∈ xU := xr1 (List.mem_of_getElem? (i := 121) rfl) rfl
theorem uw_1_123 : Cond.laysFinal RX0 RX0 "gets" "[I" ∈ xU := xr1 (List.mem_of_getElem? (i := 123) rfl) rfl
theorem uw_1_125 : Cond.lays RX0 RX0 "things" "I" ∈ xU := xr1 (List.mem_of_getElem? (i := 125) rfl) rfl
theorem uw_1_127 : Cond.lays RX0 RX0 "pairs" "I" ∈ xU := xr1 (List.mem_of_getElem? (i := 127) rfl) rfl
theorem uw_1_129 : Cond.lays RX0 RX0 "wrongTogether" "I" ∈ xU := xr1 (List.mem_of_getElem? (i := 129) rfl) rfl
theorem uw_1_132 : Cond.classLink RX5 30 RX4 ∈ xU := xr1 (List.mem_of_getElem? (i := 132) rfl) rfl
theorem uw_1_133 : Cond.instantiable RX4 3 ∈ xU := xr1 (List.mem_of_getElem? (i := 133) rfl) rfl
theorem uw_1_134 : Cond.methodLink RX5 32 yX4_init ∈ xU := xr1 (List.mem_of_getElem? (i := 134) rfl) rfl
theorem uw_1_135 : Cond.instanceMethod yX4_init ∈ xU := xr1 (List.mem_of_getElem? (i := 135) rfl) rfl
theorem uw_1_136 : Cond.code yX4_init prog_6_method_1_code 1 (Option.none : Option Jvm.ClassFile.FieldType) ∈ xU := xr1 (List.mem_of_getElem? (i := 136) rfl) rfl
theorem uw_1_137 : Cond.methodLink RX4 3 objectInit ∈ xU := xr1 (List.mem_of_getElem? (i := 137) rfl) rfl
theorem uw_1_138 : Cond.fieldLink RX4 9 RX4 "seed" "J" ∈ xU := xr1 (List.mem_of_getElem? (i := 138) rfl) rfl
theorem uw_1_139 : Cond.fieldLink RX4 15 RX4 "fitting" "I" ∈ xU := xr1 (List.mem_of_getElem? (i := 139) rfl) rfl
theorem uw_1_140 : Cond.fieldLink RX4 19 RX4 "wrongTogether" "I" ∈ xU := xr1 (List.mem_of_getElem? (i := 140) rfl) rfl
theorem uw_1_141 : Cond.lays RX4 RX4 "seed" "J" ∈ xU := xr1 (List.mem_of_getElem? (i := 141) rfl) rfl
theorem uw_1_143 : Cond.lays RX4 RX4 "fitting" "I" ∈ xU := xr1 (List.mem_of_getElem? (i := 143) rfl) rfl
theorem uw_1_145 : Cond.lays RX4 RX4 "wrongTogether" "I" ∈ xU := xr1 (List.mem_of_getElem? (i := 145) rfl) rfl
theorem uw_1_148 : Cond.fieldLink RX5 12 RX5 "page" "LLostTent$Page;" ∈ xU := xr1 (List.mem_of_getElem? (i := 148) rfl) rfl
theorem uw_1_149 : Cond.fieldLink RX5 19 RX5 "pitched" "LLostTent$Tent;" ∈ xU := xr1 (List.mem_of_getElem? (i := 149) rfl) rfl
theorem uw_1_150 : Cond.fieldLink RX5 26 RX5 "matching" "LLostTent$Matching;" ∈ xU := xr1 (List.mem_of_getElem? (i := 150) rfl) rfl
theorem uw_1_151 : Cond.fieldLink RX5 33 RX5 "visits" "LLostTent$Visits;" ∈ xU := xr1 (List.mem_of_getElem? (i := 151) rfl) rfl
theorem uw_1_152 : Cond.fieldLink RX5 37 RX5 "tentsRead" "I" ∈ xU := xr1 (List.mem_of_getElem? (i := 152) rfl) rfl
theorem uw_1_153 : Cond.laysFinal RX5 RX5 "page" "LLostTent$Page;" ∈ xU := xr1 (List.mem_of_getElem? (i := 153) rfl) rfl
theorem uw_1_155 : Cond.laysFinal RX5 RX5 "pitched" "LLostTent$Tent;" ∈ xU := xr1 (List.mem_of_getElem? (i := 155) rfl) rfl
theorem uw_1_157 : Cond.laysFinal RX5 RX5 "matching" "LLostTent$Matching;" ∈ xU := xr1 (List.mem_of_getElem? (i := 157) rfl) rfl
theorem uw_1_159 : Cond.laysFinal RX5 RX5 "visits" "LLostTent$Visits;" ∈ xU := xr1 (List.mem_of_getElem? (i := 159) rfl) rfl
theorem uw_1_161 : Cond.lays RX5 RX5 "tentsRead" "I" ∈ xU := xr1 (List.mem_of_getElem? (i := 161) rfl) rfl
theorem uw_1_164 : Cond.methodLink RL 13 yX5_letter ∈ xU := xr1 (List.mem_of_getElem? (i := 164) rfl) rfl
theorem uw_1_165 : Cond.instanceMethod yX5_letter ∈ xU := xr1 (List.mem_of_getElem? (i := 165) rfl) rfl
theorem uw_1_166 : Cond.selects RX5 yX5_letter yX5_letter ∈ xU := xr1 (List.mem_of_getElem? (i := 166) rfl) rfl
theorem uw_1_167 : Cond.code yX5_letter prog_1_method_2_code 2 (some FieldType.int) ∈ xU := xr1 (List.mem_of_getElem? (i := 167) rfl) rfl
theorem uw_1_168 : Cond.methodLink RX5 41 yX1_append ∈ xU := xr1 (List.mem_of_getElem? (i := 168) rfl) rfl
theorem uw_1_169 : Cond.instanceMethod yX1_append ∈ xU := xr1 (List.mem_of_getElem? (i := 169) rfl) rfl
theorem uw_1_170 : Cond.selects RX1 yX1_append yX1_append ∈ xU := xr1 (List.mem_of_getElem? (i := 170) rfl) rfl
theorem uw_1_171 : Cond.code yX1_append prog_3_method_4_code 2 (some FieldType.boolean) ∈ xU := xr1 (List.mem_of_getElem? (i := 171) rfl) rfl
theorem uw_1_173 : Cond.methodLink RX5 45 yX1_length ∈ xU := xr1 (List.mem_of_getElem? (i := 173) rfl) rfl
theorem uw_1_174 : Cond.instanceMethod yX1_length ∈ xU := xr1 (List.mem_of_getElem? (i := 174) rfl) rfl
theorem uw_1_175 : Cond.selects RX1 yX1_length yX1_length ∈ xU := xr1 (List.mem_of_getElem? (i := 175) rfl) rfl
theorem uw_1_176 : Cond.code yX1_length prog_3_method_2_code 1 (some FieldType.int) ∈ xU := xr1 (List.mem_of_getElem? (i := 176) rfl) rfl
theorem uw_1_177 : Cond.methodLink RL 18 yX5_blank ∈ xU := xr1 (List.mem_of_getElem? (i := 177) rfl) rfl
theorem uw_1_178 : Cond.instanceMethod yX5_blank ∈ xU := xr1 (List.mem_of_getElem? (i := 178) rfl) rfl
theorem uw_1_179 : Cond.selects RX5 yX5_blank yX5_blank ∈ xU := xr1 (List.mem_of_getElem? (i := 179) rfl) rfl
theorem uw_1_180 : Cond.code yX5_blank prog_1_method_3_code 2 (some FieldType.int) ∈ xU := xr1 (List.mem_of_getElem? (i := 180) rfl) rfl
theorem uw_1_181 : Cond.methodLink RX5 49 yX1_clear ∈ xU := xr1 (List.mem_of_getElem? (i := 181) rfl) rfl
theorem uw_1_182 : Cond.instanceMethod yX1_clear ∈ xU := xr1 (List.mem_of_getElem? (i := 182) rfl) rfl
theorem uw_1_183 : Cond.selects RX1 yX1_clear yX1_clear ∈ xU := xr1 (List.mem_of_getElem? (i := 183) rfl) rfl
theorem uw_1_184 : Cond.code yX1_clear prog_3_method_5_code 1 (Option.none : Option Jvm.ClassFile.FieldType) ∈ xU := xr1 (List.mem_of_getElem? (i := 184) rfl) rfl
theorem uw_1_185 : Cond.methodLink RL 23 yX5_fault ∈ xU := xr1 (List.mem_of_getElem? (i := 185) rfl) rfl
theorem uw_1_186 : Cond.instanceMethod yX5_fault ∈ xU := xr1 (List.mem_of_getElem? (i := 186) rfl) rfl
theorem uw_1_187 : Cond.selects RX5 yX5_fault yX5_fault ∈ xU := xr1 (List.mem_of_getElem? (i := 187) rfl) rfl
theorem uw_1_188 : Cond.code yX5_fault prog_1_method_4_code 1 (some FieldType.int) ∈ xU := xr1 (List.mem_of_getElem? (i := 188) rfl) rfl
theorem uw_1_189 : Cond.methodLink RX5 52 yX1_firstFault ∈ xU := xr1 (List.mem_of_getElem? (i := 189) rfl) rfl
theorem uw_1_190 : Cond.instanceMethod yX1_firstFault ∈ xU := xr1 (List.mem_of_getElem? (i := 190) rfl) rfl
theorem uw_1_191 : Cond.selects RX1 yX1_firstFault yX1_firstFault ∈ xU := xr1 (List.mem_of_getElem? (i := 191) rfl) rfl
theorem uw_1_192 : Cond.code yX1_firstFault prog_3_method_6_code 5 (some FieldType.int) ∈ xU := xr1 (List.mem_of_getElem? (i := 192) rfl) rfl
theorem uw_1_193 : Cond.methodLink RX1 27 yX1_firstClaimer ∈ xU := xr1 (List.mem_of_getElem? (i := 193) rfl) rfl
theorem uw_1_195 : Cond.instanceMethod yX1_firstClaimer ∈ xU := xr1 (List.mem_of_getElem? (i := 195) rfl) rfl
theorem uw_1_196 : Cond.code yX1_firstClaimer prog_3_method_13_code 2 (some FieldType.int) ∈ xU := xr1 (List.mem_of_getElem? (i := 196) rfl) rfl
theorem uw_1_198 : Cond.static yX5_entry ∈ xU := xr1 (List.mem_of_getElem? (i := 198) rfl) rfl
theorem uw_1_199 : Cond.code yX5_entry prog_1_method_29_code 2 (some FieldType.int) ∈ xU := xr1 (List.mem_of_getElem? (i := 199) rfl) rfl
theorem uw_1_200 : Cond.methodLink RX1 31 yX1_isGoodAmongThings ∈ xU := xr1 (List.mem_of_getElem? (i := 200) rfl) rfl
theorem uw_1_201 : Cond.static yX1_isGoodAmongThings ∈ xU := xr1 (List.mem_of_getElem? (i := 201) rfl) rfl
theorem uw_1_202 : Cond.code yX1_isGoodAmongThings prog_3_method_14_code 4 (some FieldType.boolean) ∈ xU := xr1 (List.mem_of_getElem? (i := 202) rfl) rfl
theorem uw_1_203 : Cond.methodLink RX1 45 yX1_isSign ∈ xU := xr1 (List.mem_of_getElem? (i := 203) rfl) rfl
theorem uw_1_204 : Cond.static yX1_isSign ∈ xU := xr1 (List.mem_of_getElem? (i := 204) rfl) rfl
theorem uw_1_205 : Cond.code yX1_isSign prog_3_method_16_code 2 (some FieldType.boolean) ∈ xU := xr1 (List.mem_of_getElem? (i := 205) rfl) rfl
theorem uw_1_209 : Cond.static yX5_isBelow ∈ xU := xr1 (List.mem_of_getElem? (i := 209) rfl) rfl
theorem uw_1_210 : Cond.code yX5_isBelow prog_1_method_27_code 2 (some FieldType.boolean) ∈ xU := xr1 (List.mem_of_getElem? (i := 210) rfl) rfl
theorem uw_1_211 : Cond.methodLink RX1 35 yX1_isGoodAmongClaimers ∈ xU := xr1 (List.mem_of_getElem? (i := 211) rfl) rfl
theorem uw_1_212 : Cond.static yX1_isGoodAmongClaimers ∈ xU := xr1 (List.mem_of_getElem? (i := 212) rfl) rfl
theorem uw_1_213 : Cond.code yX1_isGoodAmongClaimers prog_3_method_15_code 4 (some FieldType.boolean) ∈ xU := xr1 (List.mem_of_getElem? (i := 213) rfl) rfl
theorem uw_1_214 : Cond.methodLink RX1 41 yX1_kindOfLetter ∈ xU := xr1 (List.mem_of_getElem? (i := 214) rfl) rfl
theorem uw_1_215 : Cond.static yX1_kindOfLetter ∈ xU := xr1 (List.mem_of_getElem? (i := 215) rfl) rfl
theorem uw_1_216 : Cond.code yX1_kindOfLetter prog_3_method_17_code 1 (some FieldType.int) ∈ xU := xr1 (List.mem_of_getElem? (i := 216) rfl) rfl
theorem uw_1_218 : Cond.methodLink RX1 56 yJ0_indexOf_0f7a4 ∈ xU := xr1 (List.mem_of_getElem? (i := 218) rfl) rfl
theorem uw_1_219 : Cond.instanceMethod yJ0_indexOf_0f7a4 ∈ xU := xr1 (List.mem_of_getElem? (i := 219) rfl) rfl
theorem uw_1_220 : Cond.selects RJ0 yJ0_indexOf_0f7a4 yJ0_indexOf_0f7a4 ∈ xU := xr1 (List.mem_of_getElem? (i := 220) rfl) rfl
theorem uw_1_221 : Cond.code yJ0_indexOf_0f7a4 prog_12_method_79_code 2 (some FieldType.int) ∈ xU := xr1 (List.mem_of_getElem? (i := 221) rfl) rfl
theorem uw_1_222 : Cond.methodLink RJ0 633 yJ0_indexOf_7cf53 ∈ xU := xr1 (List.mem_of_getElem? (i := 222) rfl) rfl
theorem uw_1_223 : Cond.instanceMethod yJ0_indexOf_7cf53 ∈ xU := xr1 (List.mem_of_getElem? (i := 223) rfl) rfl
theorem uw_1_224 : Cond.selects RJ0 yJ0_indexOf_7cf53 yJ0_indexOf_7cf53 ∈ xU := xr1 (List.mem_of_getElem? (i := 224) rfl) rfl
theorem uw_1_225 : Cond.code yJ0_indexOf_7cf53 prog_12_method_80_code 3 (some FieldType.int) ∈ xU := xr1 (List.mem_of_getElem? (i := 225) rfl) rfl
theorem uw_1_226 : Cond.methodLink RJ0 492 yJ0_isLatin1_aae02 ∈ xU := xr1 (List.mem_of_getElem? (i := 226) rfl) rfl
theorem uw_1_227 : Cond.instanceMethod yJ0_isLatin1_aae02 ∈ xU := xr1 (List.mem_of_getElem? (i := 227) rfl) rfl
theorem uw_1_228 : Cond.selects RJ0 yJ0_isLatin1_aae02 yJ0_isLatin1_aae02 ∈ xU := xr1 (List.mem_of_getElem? (i := 228) rfl) rfl
theorem uw_1_229 : Cond.code yJ0_isLatin1_aae02 prog_12_method_154_code 1 (some FieldType.boolean) ∈ xU := xr1 (List.mem_of_getElem? (i := 229) rfl) rfl
theorem uw_1_230 : Cond.fieldLink RJ0 38 RJ0 "COMPACT_STRINGS" "Z" ∈ xU := xr1 (List.mem_of_getElem? (i := 230) rfl) rfl
theorem uw_1_232 : Cond.methodLink RJ0 505 yJ0_length_8abf5 ∈ xU := xr1 (List.mem_of_getElem? (i := 232) rfl) rfl
theorem uw_1_233 : Cond.instanceMethod yJ0_length_8abf5 ∈ xU := xr1 (List.mem_of_getElem? (i := 233) rfl) rfl
theorem uw_1_234 : Cond.selects RJ0 yJ0_length_8abf5 yJ0_length_8abf5 ∈ xU := xr1 (List.mem_of_getElem? (i := 234) rfl) rfl
theorem uw_1_235 : Cond.code yJ0_length_8abf5 prog_12_method_54_code 1 (some FieldType.int) ∈ xU := xr1 (List.mem_of_getElem? (i := 235) rfl) rfl
theorem uw_1_236 : Cond.methodLink RJ0 335 yJ0_coder_7d493 ∈ xU := xr1 (List.mem_of_getElem? (i := 236) rfl) rfl
theorem uw_1_237 : Cond.instanceMethod yJ0_coder_7d493 ∈ xU := xr1 (List.mem_of_getElem? (i := 237) rfl) rfl
theorem uw_1_238 : Cond.selects RJ0 yJ0_coder_7d493 yJ0_coder_7d493 ∈ xU := xr1 (List.mem_of_getElem? (i := 238) rfl) rfl
theorem uw_1_239 : Cond.code yJ0_coder_7d493 prog_12_method_152_code 1 (some FieldType.byte) ∈ xU := xr1 (List.mem_of_getElem? (i := 239) rfl) rfl
theorem uw_2_0 : Cond.methodLink RJ0 637 yJ1_indexOf_4cfef ∈ xU := xr2 (List.mem_of_getElem? (i := 0) rfl) rfl
theorem uw_2_1 : Cond.static yJ1_indexOf_4cfef ∈ xU := xr2 (List.mem_of_getElem? (i := 1) rfl) rfl
theorem uw_2_2 : Cond.code yJ1_indexOf_4cfef prog_13_method_22_code 4 (some FieldType.int) ∈ xU := xr2 (List.mem_of_getElem? (i := 2) rfl) rfl
theorem uw_2_3 : Cond.methodLink RJ1 88 yJ1_canEncode_9a6ad ∈ xU := xr2 (List.mem_of_getElem? (i := 3) rfl) rfl
theorem uw_2_4 : Cond.static yJ1_canEncode_9a6ad ∈ xU := xr2 (List.mem_of_getElem? (i := 4) rfl) rfl
theorem uw_2_5 : Cond.code yJ1_canEncode_9a6ad prog_13_method_4_code 1 (some FieldType.boolean) ∈ xU := xr2 (List.mem_of_getElem? (i := 5) rfl) rfl
theorem uw_2_6 : Cond.methodLink RJ1 92 Lib.Math.max.name ∈ xU := xr2 (List.mem_of_getElem? (i := 6) rfl) rfl
theorem uw_2_7 : Cond.static Lib.Math.max.name ∈ xU := xr2 (List.mem_of_getElem? (i := 7) rfl) rfl
theorem uw_2_8 : Cond.code Lib.Math.max.name prog_11_method_65_code 2 (some FieldType.int) ∈ xU := xr2 (List.mem_of_getElem? (i := 8) rfl) rfl
theorem uw_2_9 : Cond.methodLink RJ1 38 Lib.Math.min.name ∈ xU := xr2 (List.mem_of_getElem? (i := 9) rfl) rfl
theorem uw_2_10 : Cond.static Lib.Math.min.name ∈ xU := xr2 (List.mem_of_getElem? (i := 10) rfl) rfl
theorem uw_2_11 : Cond.code Lib.Math.min.name prog_11_method_69_code 2 (some FieldType.int) ∈ xU := xr2 (List.mem_of_getElem? (i := 11) rfl) rfl
theorem uw_2_12 : Cond.methodLink RJ1 95 yJ1_indexOfChar_4cfef ∈ xU := xr2 (List.mem_of_getElem? (i := 12) rfl) rfl
theorem uw_2_13 : Cond.static yJ1_indexOfChar_4cfef ∈ xU := xr2 (List.mem_of_getElem? (i := 13) rfl) rfl
theorem uw_2_14 : Cond.code yJ1_indexOfChar_4cfef prog_13_method_23_code 6 (some FieldType.int) ∈ xU := xr2 (List.mem_of_getElem? (i := 14) rfl) rfl
theorem uw_2_18 : Cond.methodLink RJ2 224 Lib.Math.max.name ∈ xU := xr2 (List.mem_of_getElem? (i := 18) rfl) rfl
theorem uw_2_19 : Cond.methodLink RJ2 183 Lib.Math.min.name ∈ xU := xr2 (List.mem_of_getElem? (i := 19) rfl) rfl
theorem uw_2_20 : Cond.constant RJ2 227 (65536) ∈ xU := xr2 (List.mem_of_getElem? (i := 20) rfl) rfl
theorem uw_2_33 : Cond.fieldLink RJ0 1053 RJ3 "SIOOBE_FORMATTER" "Ljava/util/function/BiFunction;" ∈ xU := xr2 (List.mem_of_getElem? (i := 33) rfl) rfl
theorem uw_2_44 : Cond.fieldLink RJ2 44 RJ2 "$assertionsDisabled" "Z" ∈ xU := xr2 (List.mem_of_getElem? (i := 44) rfl) rfl
theorem uw_2_46 : Cond.fieldLink RJ2 59 RJ2 "HI_BYTE_SHIFT" "I" ∈ xU := xr2 (List.mem_of_getElem? (i := 46) rfl) rfl
theorem uw_2_48 : Cond.fieldLink RJ2 63 RJ2 "LO_BYTE_SHIFT" "I" ∈ xU := xr2 (List.mem_of_getElem? (i := 48) rfl) rfl
theorem uw_2_59 : Cond.constant RJ11 110 (55232) ∈ xU := xr2 (List.mem_of_getElem? (i := 59) rfl) rfl
theorem uw_2_63 : Cond.constant RJ11 76 (56320) ∈ xU := xr2 (List.mem_of_getElem? (i := 63) rfl) rfl
theorem uw_2_64 : Cond.arrayClass Jvm.ClassFile.FieldType.byte ∈ xU := xr2 (List.mem_of_getElem? (i := 64) rfl) rfl
theorem uw_2_65 : Cond.methodLink RL 27 yX5_tent ∈ xU := xr2 (List.mem_of_getElem? (i := 65) rfl) rfl
theorem uw_2_66 : Cond.instanceMethod yX5_tent ∈ xU := xr2 (List.mem_of_getElem? (i := 66) rfl) rfl
theorem uw_2_67 : Cond.selects RX5 yX5_tent yX5_tent ∈ xU := xr2 (List.mem_of_getElem? (i := 67) rfl) rfl
theorem uw_2_68 : Cond.code yX5_tent prog_1_method_5_code 1 (some FieldType.int) ∈ xU := xr2 (List.mem_of_getElem? (i := 68) rfl) rfl
theorem uw_2_69 : Cond.methodLink RX5 55 yX1_isTent ∈ xU := xr2 (List.mem_of_getElem? (i := 69) rfl) rfl
theorem uw_2_70 : Cond.instanceMethod yX1_isTent ∈ xU := xr2 (List.mem_of_getElem? (i := 70) rfl) rfl
theorem uw_2_71 : Cond.selects RX1 yX1_isTent yX1_isTent ∈ xU := xr2 (List.mem_of_getElem? (i := 71) rfl) rfl
theorem uw_2_72 : Cond.code yX1_isTent prog_3_method_7_code 2 (some FieldType.boolean) ∈ xU := xr2 (List.mem_of_getElem? (i := 72) rfl) rfl
theorem uw_2_73 : Cond.methodLink RX1 38 yX1_firstFault ∈ xU := xr2 (List.mem_of_getElem? (i := 73) rfl) rfl
theorem uw_2_74 : Cond.methodLink RX5 59 yX3_readFrom ∈ xU := xr2 (List.mem_of_getElem? (i := 74) rfl) rfl
theorem uw_2_75 : Cond.instanceMethod yX3_readFrom ∈ xU := xr2 (List.mem_of_getElem? (i := 75) rfl) rfl
theorem uw_2_76 : Cond.selects RX3 yX3_readFrom yX3_readFrom ∈ xU := xr2 (List.mem_of_getElem? (i := 76) rfl) rfl
theorem uw_2_77 : Cond.code yX3_readFrom prog_5_method_2_code 4 (Option.none : Option Jvm.ClassFile.FieldType) ∈ xU := xr2 (List.mem_of_getElem? (i := 77) rfl) rfl
theorem uw_2_78 : Cond.methodLink RX3 39 yX1_things ∈ xU := xr2 (List.mem_of_getElem? (i := 78) rfl) rfl
theorem uw_2_79 : Cond.instanceMethod yX1_things ∈ xU := xr2 (List.mem_of_getElem? (i := 79) rfl) rfl
theorem uw_2_80 : Cond.selects RX1 yX1_things yX1_things ∈ xU := xr2 (List.mem_of_getElem? (i := 80) rfl) rfl
theorem uw_2_81 : Cond.code yX1_things prog_3_method_8_code 1 (some FieldType.int) ∈ xU := xr2 (List.mem_of_getElem? (i := 81) rfl) rfl
theorem uw_2_82 : Cond.methodLink RX3 44 yX1_claimers ∈ xU := xr2 (List.mem_of_getElem? (i := 82) rfl) rfl
theorem uw_2_83 : Cond.instanceMethod yX1_claimers ∈ xU := xr2 (List.mem_of_getElem? (i := 83) rfl) rfl
theorem uw_2_84 : Cond.selects RX1 yX1_claimers yX1_claimers ∈ xU := xr2 (List.mem_of_getElem? (i := 84) rfl) rfl
theorem uw_2_85 : Cond.code yX1_claimers prog_3_method_9_code 1 (some FieldType.int) ∈ xU := xr2 (List.mem_of_getElem? (i := 85) rfl) rfl
theorem uw_2_86 : Cond.methodLink RX3 46 yX2_begin ∈ xU := xr2 (List.mem_of_getElem? (i := 86) rfl) rfl
theorem uw_2_87 : Cond.methodLink RX3 49 yX1_thingSign ∈ xU := xr2 (List.mem_of_getElem? (i := 87) rfl) rfl
theorem uw_2_88 : Cond.instanceMethod yX1_thingSign ∈ xU := xr2 (List.mem_of_getElem? (i := 88) rfl) rfl
theorem uw_2_89 : Cond.selects RX1 yX1_thingSign yX1_thingSign ∈ xU := xr2 (List.mem_of_getElem? (i := 89) rfl) rfl
theorem uw_2_90 : Cond.code yX1_thingSign prog_3_method_10_code 3 (some FieldType.int) ∈ xU := xr2 (List.mem_of_getElem? (i := 90) rfl) rfl
theorem uw_2_92 : Cond.methodLink RX3 57 yX1_claimerKind ∈ xU := xr2 (List.mem_of_getElem? (i := 92) rfl) rfl
theorem uw_2_93 : Cond.instanceMethod yX1_claimerKind ∈ xU := xr2 (List.mem_of_getElem? (i := 93) rfl) rfl
theorem uw_2_94 : Cond.selects RX1 yX1_claimerKind yX1_claimerKind ∈ xU := xr2 (List.mem_of_getElem? (i := 94) rfl) rfl
theorem uw_2_95 : Cond.code yX1_claimerKind prog_3_method_11_code 2 (some FieldType.int) ∈ xU := xr2 (List.mem_of_getElem? (i := 95) rfl) rfl
theorem uw_2_96 : Cond.methodLink RX3 61 yX1_claimerSign ∈ xU := xr2 (List.mem_of_getElem? (i := 96) rfl) rfl
theorem uw_2_97 : Cond.instanceMethod yX1_claimerSign ∈ xU := xr2 (List.mem_of_getElem? (i := 97) rfl) rfl
theorem uw_2_98 : Cond.selects RX1 yX1_claimerSign yX1_claimerSign ∈ xU := xr2 (List.mem_of_getElem? (i := 98) rfl) rfl
theorem uw_2_99 : Cond.code yX1_claimerSign prog_3_method_12_code 3 (some FieldType.int) ∈ xU := xr2 (List.mem_of_getElem? (i := 99) rfl) rfl
theorem uw_2_100 : Cond.methodLink RX3 64 yX2_setMemory ∈ xU := xr2 (List.mem_of_getElem? (i := 100) rfl) rfl
theorem uw_2_101 : Cond.instanceMethod yX2_setMemory ∈ xU := xr2 (List.mem_of_getElem? (i := 101) rfl) rfl
theorem uw_2_102 : Cond.selects RX2 yX2_setMemory yX2_setMemory ∈ xU := xr2 (List.mem_of_getElem? (i := 102) rfl) rfl
theorem uw_2_103 : Cond.code yX2_setMemory prog_4_method_8_code 4 (Option.none : Option Jvm.ClassFile.FieldType) ∈ xU := xr2 (List.mem_of_getElem? (i := 103) rfl) rfl
theorem uw_2_104 : Cond.methodLink RX5 63 yX3_things ∈ xU := xr2 (List.mem_of_getElem? (i := 104) rfl) rfl
theorem uw_2_105 : Cond.instanceMethod yX3_things ∈ xU := xr2 (List.mem_of_getElem? (i := 105) rfl) rfl
theorem uw_2_106 : Cond.selects RX3 yX3_things yX3_things ∈ xU := xr2 (List.mem_of_getElem? (i := 106) rfl) rfl
theorem uw_2_107 : Cond.code yX3_things prog_5_method_4_code 1 (some FieldType.int) ∈ xU := xr2 (List.mem_of_getElem? (i := 107) rfl) rfl
theorem uw_2_108 : Cond.methodLink RL 31 yX5_thing ∈ xU := xr2 (List.mem_of_getElem? (i := 108) rfl) rfl
theorem uw_2_109 : Cond.instanceMethod yX5_thing ∈ xU := xr2 (List.mem_of_getElem? (i := 109) rfl) rfl
theorem uw_2_110 : Cond.selects RX5 yX5_thing yX5_thing ∈ xU := xr2 (List.mem_of_getElem? (i := 110) rfl) rfl
theorem uw_2_111 : Cond.code yX5_thing prog_1_method_6_code 3 (some FieldType.int) ∈ xU := xr2 (List.mem_of_getElem? (i := 111) rfl) rfl
theorem uw_2_112 : Cond.methodLink RX5 66 yX3_hasThing ∈ xU := xr2 (List.mem_of_getElem? (i := 112) rfl) rfl
theorem uw_2_113 : Cond.instanceMethod yX3_hasThing ∈ xU := xr2 (List.mem_of_getElem? (i := 113) rfl) rfl
theorem uw_2_114 : Cond.selects RX3 yX3_hasThing yX3_hasThing ∈ xU := xr2 (List.mem_of_getElem? (i := 114) rfl) rfl
theorem uw_2_115 : Cond.code yX3_hasThing prog_5_method_6_code 2 (some FieldType.boolean) ∈ xU := xr2 (List.mem_of_getElem? (i := 115) rfl) rfl
theorem uw_2_117 : Cond.methodLink RX5 69 yX3_signOf ∈ xU := xr2 (List.mem_of_getElem? (i := 117) rfl) rfl
theorem uw_2_118 : Cond.instanceMethod yX3_signOf ∈ xU := xr2 (List.mem_of_getElem? (i := 118) rfl) rfl
theorem uw_2_119 : Cond.selects RX3 yX3_signOf yX3_signOf ∈ xU := xr2 (List.mem_of_getElem? (i := 119) rfl) rfl
theorem uw_2_120 : Cond.code yX3_signOf prog_5_method_13_code 3 (some FieldType.int) ∈ xU := xr2 (List.mem_of_getElem? (i := 120) rfl) rfl
theorem uw_2_122 : Cond.methodLink RX5 73 yX3_register ∈ xU := xr2 (List.mem_of_getElem? (i := 122) rfl) rfl
theorem uw_2_123 : Cond.instanceMethod yX3_register ∈ xU := xr2 (List.mem_of_getElem? (i := 123) rfl) rfl
theorem uw_2_124 : Cond.selects RX3 yX3_register yX3_register ∈ xU := xr2 (List.mem_of_getElem? (i := 124) rfl) rfl
theorem uw_2_125 : Cond.code yX3_register prog_5_method_9_code 1 (some (FieldType.object "LostTent$Register")) ∈ xU := xr2 (List.mem_of_getElem? (i := 125) rfl) rfl
theorem uw_2_126 : Cond.methodLink RX5 77 yX2_holderOf ∈ xU := xr2 (List.mem_of_getElem? (i := 126) rfl) rfl
theorem uw_2_127 : Cond.instanceMethod yX2_holderOf ∈ xU := xr2 (List.mem_of_getElem? (i := 127) rfl) rfl
theorem uw_2_128 : Cond.selects RX2 yX2_holderOf yX2_holderOf ∈ xU := xr2 (List.mem_of_getElem? (i := 128) rfl) rfl
theorem uw_2_129 : Cond.code yX2_holderOf prog_4_method_4_code 2 (some FieldType.int) ∈ xU := xr2 (List.mem_of_getElem? (i := 129) rfl) rfl
theorem uw_2_131 : Cond.methodLink RX5 83 yX3_claimersFitted ∈ xU := xr2 (List.mem_of_getElem? (i := 131) rfl) rfl
theorem uw_2_132 : Cond.instanceMethod yX3_claimersFitted ∈ xU := xr2 (List.mem_of_getElem? (i := 132) rfl) rfl
theorem uw_2_133 : Cond.selects RX3 yX3_claimersFitted yX3_claimersFitted ∈ xU := xr2 (List.mem_of_getElem? (i := 133) rfl) rfl
theorem uw_2_134 : Cond.code yX3_claimersFitted prog_5_method_17_code 4 (some FieldType.int) ∈ xU := xr2 (List.mem_of_getElem? (i := 134) rfl) rfl
theorem uw_2_135 : Cond.methodLink RX3 100 yX3_fits ∈ xU := xr2 (List.mem_of_getElem? (i := 135) rfl) rfl
theorem uw_2_136 : Cond.instanceMethod yX3_fits ∈ xU := xr2 (List.mem_of_getElem? (i := 136) rfl) rfl
theorem uw_2_137 : Cond.selects RX3 yX3_fits yX3_fits ∈ xU := xr2 (List.mem_of_getElem? (i := 137) rfl) rfl
theorem uw_2_138 : Cond.code yX3_fits prog_5_method_16_code 3 (some FieldType.boolean) ∈ xU := xr2 (List.mem_of_getElem? (i := 138) rfl) rfl
theorem uw_2_139 : Cond.methodLink RX3 94 yX3_kindOf ∈ xU := xr2 (List.mem_of_getElem? (i := 139) rfl) rfl
theorem uw_2_140 : Cond.instanceMethod yX3_kindOf ∈ xU := xr2 (List.mem_of_getElem? (i := 140) rfl) rfl
theorem uw_2_141 : Cond.selects RX3 yX3_kindOf yX3_kindOf ∈ xU := xr2 (List.mem_of_getElem? (i := 141) rfl) rfl
theorem uw_2_142 : Cond.code yX3_kindOf prog_5_method_14_code 2 (some FieldType.int) ∈ xU := xr2 (List.mem_of_getElem? (i := 142) rfl) rfl
theorem uw_2_143 : Cond.methodLink RX3 87 yX3_signOf ∈ xU := xr2 (List.mem_of_getElem? (i := 143) rfl) rfl
theorem uw_2_144 : Cond.methodLink RX3 90 yX3_wrongIfLostIn ∈ xU := xr2 (List.mem_of_getElem? (i := 144) rfl) rfl
theorem uw_2_146 : Cond.instanceMethod yX3_wrongIfLostIn ∈ xU := xr2 (List.mem_of_getElem? (i := 146) rfl) rfl
theorem uw_2_147 : Cond.code yX3_wrongIfLostIn prog_5_method_29_code 4 (some FieldType.int) ∈ xU := xr2 (List.mem_of_getElem? (i := 147) rfl) rfl
theorem uw_2_148 : Cond.methodLink RX3 146 yX2_memoryOf ∈ xU := xr2 (List.mem_of_getElem? (i := 148) rfl) rfl
theorem uw_2_149 : Cond.instanceMethod yX2_memoryOf ∈ xU := xr2 (List.mem_of_getElem? (i := 149) rfl) rfl
theorem uw_2_150 : Cond.selects RX2 yX2_memoryOf yX2_memoryOf ∈ xU := xr2 (List.mem_of_getElem? (i := 150) rfl) rfl
theorem uw_2_151 : Cond.code yX2_memoryOf prog_4_method_7_code 3 (some FieldType.int) ∈ xU := xr2 (List.mem_of_getElem? (i := 151) rfl) rfl
theorem uw_2_152 : Cond.methodLink RX3 149 Lib.Math.abs.name ∈ xU := xr2 (List.mem_of_getElem? (i := 152) rfl) rfl
theorem uw_2_153 : Cond.static Lib.Math.abs.name ∈ xU := xr2 (List.mem_of_getElem? (i := 153) rfl) rfl
theorem uw_2_154 : Cond.code Lib.Math.abs.name prog_11_method_59_code 1 (some FieldType.int) ∈ xU := xr2 (List.mem_of_getElem? (i := 154) rfl) rfl
theorem uw_2_156 : Cond.static yX5_wrongBy ∈ xU := xr2 (List.mem_of_getElem? (i := 156) rfl) rfl
theorem uw_2_157 : Cond.code yX5_wrongBy prog_1_method_25_code 5 (some FieldType.int) ∈ xU := xr2 (List.mem_of_getElem? (i := 157) rfl) rfl
theorem uw_2_158 : Cond.fieldLink RX5 223 RX5 "WRONG_A_YEAR" "[I" ∈ xU := xr2 (List.mem_of_getElem? (i := 158) rfl) rfl
theorem uw_2_160 : Cond.methodLink RX5 134 yX5_entry ∈ xU := xr2 (List.mem_of_getElem? (i := 160) rfl) rfl
theorem uw_2_161 : Cond.fieldLink RX5 226 RX5 "WRONG_BY_PLACE" "[I" ∈ xU := xr2 (List.mem_of_getElem? (i := 161) rfl) rfl
theorem uw_2_163 : Cond.fieldLink RX5 229 RX5 "WRONG_BY_LIKE" "[I" ∈ xU := xr2 (List.mem_of_getElem? (i := 163) rfl) rfl
theorem uw_2_166 : Cond.static yX5_isFit ∈ xU := xr2 (List.mem_of_getElem? (i := 166) rfl) rfl
theorem uw_2_167 : Cond.code yX5_isFit prog_1_method_26_code 2 (some FieldType.boolean) ∈ xU := xr2 (List.mem_of_getElem? (i := 167) rfl) rfl
theorem uw_2_168 : Cond.fieldLink RX5 232 RX5 "FITS_UP_TO" "[I" ∈ xU := xr2 (List.mem_of_getElem? (i := 168) rfl) rfl
theorem uw_2_170 : Cond.methodLink RX5 86 yX3_yearsOf ∈ xU := xr2 (List.mem_of_getElem? (i := 170) rfl) rfl
theorem uw_2_171 : Cond.instanceMethod yX3_yearsOf ∈ xU := xr2 (List.mem_of_getElem? (i := 171) rfl) rfl
theorem uw_2_172 : Cond.selects RX3 yX3_yearsOf yX3_yearsOf ∈ xU := xr2 (List.mem_of_getElem? (i := 172) rfl) rfl
theorem uw_2_173 : Cond.code yX3_yearsOf prog_5_method_26_code 5 (some FieldType.int) ∈ xU := xr2 (List.mem_of_getElem? (i := 173) rfl) rfl
theorem uw_2_174 : Cond.methodLink RX3 131 yX2_seenInAll ∈ xU := xr2 (List.mem_of_getElem? (i := 174) rfl) rfl
theorem uw_2_175 : Cond.instanceMethod yX2_seenInAll ∈ xU := xr2 (List.mem_of_getElem? (i := 175) rfl) rfl
theorem uw_2_176 : Cond.selects RX2 yX2_seenInAll yX2_seenInAll ∈ xU := xr2 (List.mem_of_getElem? (i := 176) rfl) rfl
theorem uw_2_177 : Cond.code yX2_seenInAll prog_4_method_15_code 1 (some FieldType.int) ∈ xU := xr2 (List.mem_of_getElem? (i := 177) rfl) rfl
theorem uw_2_178 : Cond.methodLink RX3 134 yX2_seenThing ∈ xU := xr2 (List.mem_of_getElem? (i := 178) rfl) rfl
theorem uw_2_179 : Cond.instanceMethod yX2_seenThing ∈ xU := xr2 (List.mem_of_getElem? (i := 179) rfl) rfl
theorem uw_2_180 : Cond.selects RX2 yX2_seenThing yX2_seenThing ∈ xU := xr2 (List.mem_of_getElem? (i := 180) rfl) rfl
theorem uw_2_181 : Cond.code yX2_seenThing prog_4_method_16_code 2 (some FieldType.int) ∈ xU := xr2 (List.mem_of_getElem? (i := 181) rfl) rfl
theorem uw_2_182 : Cond.methodLink RX3 137 yX2_seenClaimer ∈ xU := xr2 (List.mem_of_getElem? (i := 182) rfl) rfl
theorem uw_2_183 : Cond.instanceMethod yX2_seenClaimer ∈ xU := xr2 (List.mem_of_getElem? (i := 183) rfl) rfl
theorem uw_2_184 : Cond.selects RX2 yX2_seenClaimer yX2_seenClaimer ∈ xU := xr2 (List.mem_of_getElem? (i := 184) rfl) rfl
theorem uw_2_185 : Cond.code yX2_seenClaimer prog_4_method_17_code 2 (some FieldType.int) ∈ xU := xr2 (List.mem_of_getElem? (i := 185) rfl) rfl
theorem uw_2_186 : Cond.methodLink RX3 140 yX3_yearsFitting ∈ xU := xr2 (List.mem_of_getElem? (i := 186) rfl) rfl
theorem uw_2_188 : Cond.instanceMethod yX3_yearsFitting ∈ xU := xr2 (List.mem_of_getElem? (i := 188) rfl) rfl
theorem uw_2_189 : Cond.code yX3_yearsFitting prog_5_method_28_code 5 (some FieldType.int) ∈ xU := xr2 (List.mem_of_getElem? (i := 189) rfl) rfl
theorem uw_2_190 : Cond.methodLink RX3 143 yX2_seenFitted ∈ xU := xr2 (List.mem_of_getElem? (i := 190) rfl) rfl
theorem uw_2_191 : Cond.instanceMethod yX2_seenFitted ∈ xU := xr2 (List.mem_of_getElem? (i := 191) rfl) rfl
theorem uw_2_192 : Cond.selects RX2 yX2_seenFitted yX2_seenFitted ∈ xU := xr2 (List.mem_of_getElem? (i := 192) rfl) rfl
theorem uw_2_193 : Cond.code yX2_seenFitted prog_4_method_18_code 2 (some FieldType.boolean) ∈ xU := xr2 (List.mem_of_getElem? (i := 193) rfl) rfl
theorem uw_2_194 : Cond.methodLink RX5 89 yX3_claimerToShow ∈ xU := xr2 (List.mem_of_getElem? (i := 194) rfl) rfl
theorem uw_2_195 : Cond.instanceMethod yX3_claimerToShow ∈ xU := xr2 (List.mem_of_getElem? (i := 195) rfl) rfl
theorem uw_2_196 : Cond.selects RX3 yX3_claimerToShow yX3_claimerToShow ∈ xU := xr2 (List.mem_of_getElem? (i := 196) rfl) rfl
theorem uw_2_197 : Cond.code yX3_claimerToShow prog_5_method_27_code 8 (some FieldType.int) ∈ xU := xr2 (List.mem_of_getElem? (i := 197) rfl) rfl
theorem uw_2_198 : Cond.methodLink RX3 109 yJ6_bitCount_0f7a4 ∈ xU := xr2 (List.mem_of_getElem? (i := 198) rfl) rfl
theorem uw_2_199 : Cond.static yJ6_bitCount_0f7a4 ∈ xU := xr2 (List.mem_of_getElem? (i := 199) rfl) rfl
theorem uw_2_200 : Cond.code yJ6_bitCount_0f7a4 prog_10_method_49_code 1 (some FieldType.int) ∈ xU := xr2 (List.mem_of_getElem? (i := 200) rfl) rfl
theorem uw_2_201 : Cond.constant RJ6 265 (1431655765) ∈ xU := xr2 (List.mem_of_getElem? (i := 201) rfl) rfl
theorem uw_2_202 : Cond.constant RJ6 266 (858993459) ∈ xU := xr2 (List.mem_of_getElem? (i := 202) rfl) rfl
theorem uw_2_203 : Cond.constant RJ6 267 (252645135) ∈ xU := xr2 (List.mem_of_getElem? (i := 203) rfl) rfl
theorem uw_2_204 : Cond.methodLink RX3 126 Lib.Math.max.name ∈ xU := xr2 (List.mem_of_getElem? (i := 204) rfl) rfl
theorem uw_2_205 : Cond.methodLink RL 36 yX5_claimer ∈ xU := xr2 (List.mem_of_getElem? (i := 205) rfl) rfl
theorem uw_2_206 : Cond.instanceMethod yX5_claimer ∈ xU := xr2 (List.mem_of_getElem? (i := 206) rfl) rfl
theorem uw_2_207 : Cond.selects RX5 yX5_claimer yX5_claimer ∈ xU := xr2 (List.mem_of_getElem? (i := 207) rfl) rfl
theorem uw_2_208 : Cond.code yX5_claimer prog_1_method_7_code 3 (some FieldType.int) ∈ xU := xr2 (List.mem_of_getElem? (i := 208) rfl) rfl
theorem uw_2_209 : Cond.methodLink RX5 92 yX3_hasClaimer ∈ xU := xr2 (List.mem_of_getElem? (i := 209) rfl) rfl
theorem uw_2_210 : Cond.instanceMethod yX3_hasClaimer ∈ xU := xr2 (List.mem_of_getElem? (i := 210) rfl) rfl
theorem uw_2_211 : Cond.selects RX3 yX3_hasClaimer yX3_hasClaimer ∈ xU := xr2 (List.mem_of_getElem? (i := 211) rfl) rfl
theorem uw_2_212 : Cond.code yX3_hasClaimer prog_5_method_7_code 2 (some FieldType.boolean) ∈ xU := xr2 (List.mem_of_getElem? (i := 212) rfl) rfl
theorem uw_2_213 : Cond.methodLink RX5 95 yX2_memoryOf ∈ xU := xr2 (List.mem_of_getElem? (i := 213) rfl) rfl
theorem uw_2_214 : Cond.methodLink RX5 98 yX3_kindOf ∈ xU := xr2 (List.mem_of_getElem? (i := 214) rfl) rfl
theorem uw_2_215 : Cond.methodLink RX5 101 yX2_thingOf ∈ xU := xr2 (List.mem_of_getElem? (i := 215) rfl) rfl
theorem uw_2_216 : Cond.instanceMethod yX2_thingOf ∈ xU := xr2 (List.mem_of_getElem? (i := 216) rfl) rfl
theorem uw_2_217 : Cond.selects RX2 yX2_thingOf yX2_thingOf ∈ xU := xr2 (List.mem_of_getElem? (i := 217) rfl) rfl
theorem uw_2_218 : Cond.code yX2_thingOf prog_4_method_5_code 3 (some FieldType.int) ∈ xU := xr2 (List.mem_of_getElem? (i := 218) rfl) rfl
theorem uw_2_219 : Cond.methodLink RX5 104 yX3_thingsFitting ∈ xU := xr2 (List.mem_of_getElem? (i := 219) rfl) rfl
theorem uw_2_220 : Cond.instanceMethod yX3_thingsFitting ∈ xU := xr2 (List.mem_of_getElem? (i := 220) rfl) rfl
theorem uw_2_221 : Cond.selects RX3 yX3_thingsFitting yX3_thingsFitting ∈ xU := xr2 (List.mem_of_getElem? (i := 221) rfl) rfl
theorem uw_2_222 : Cond.code yX3_thingsFitting prog_5_method_18_code 4 (some FieldType.int) ∈ xU := xr2 (List.mem_of_getElem? (i := 222) rfl) rfl
theorem uw_2_223 : Cond.methodLink RX5 107 yX3_thingsNotGiven ∈ xU := xr2 (List.mem_of_getElem? (i := 223) rfl) rfl
theorem uw_2_224 : Cond.instanceMethod yX3_thingsNotGiven ∈ xU := xr2 (List.mem_of_getElem? (i := 224) rfl) rfl
theorem uw_2_225 : Cond.selects RX3 yX3_thingsNotGiven yX3_thingsNotGiven ∈ xU := xr2 (List.mem_of_getElem? (i := 225) rfl) rfl
theorem uw_2_226 : Cond.code yX3_thingsNotGiven prog_5_method_19_code 3 (some FieldType.int) ∈ xU := xr2 (List.mem_of_getElem? (i := 226) rfl) rfl
theorem uw_2_227 : Cond.methodLink RX3 103 yX2_holderOf ∈ xU := xr2 (List.mem_of_getElem? (i := 227) rfl) rfl
theorem uw_2_228 : Cond.methodLink RX5 110 yX3_signToAsk ∈ xU := xr2 (List.mem_of_getElem? (i := 228) rfl) rfl
theorem uw_2_229 : Cond.instanceMethod yX3_signToAsk ∈ xU := xr2 (List.mem_of_getElem? (i := 229) rfl) rfl
theorem uw_2_230 : Cond.selects RX3 yX3_signToAsk yX3_signToAsk ∈ xU := xr2 (List.mem_of_getElem? (i := 230) rfl) rfl
theorem uw_2_231 : Cond.code yX3_signToAsk prog_5_method_23_code 6 (some FieldType.int) ∈ xU := xr2 (List.mem_of_getElem? (i := 231) rfl) rfl
theorem uw_2_232 : Cond.methodLink RX3 117 yX3_mostAlike ∈ xU := xr2 (List.mem_of_getElem? (i := 232) rfl) rfl
theorem uw_2_234 : Cond.instanceMethod yX3_mostAlike ∈ xU := xr2 (List.mem_of_getElem? (i := 234) rfl) rfl
theorem uw_2_235 : Cond.code yX3_mostAlike prog_5_method_24_code 5 (some FieldType.int) ∈ xU := xr2 (List.mem_of_getElem? (i := 235) rfl) rfl
theorem uw_2_237 : Cond.static yX5_isIn ∈ xU := xr2 (List.mem_of_getElem? (i := 237) rfl) rfl
theorem uw_2_238 : Cond.code yX5_isIn prog_1_method_28_code 2 (some FieldType.boolean) ∈ xU := xr2 (List.mem_of_getElem? (i := 238) rfl) rfl
theorem uw_2_239 : Cond.methodLink RX3 123 yX3_howManyAlike ∈ xU := xr2 (List.mem_of_getElem? (i := 239) rfl) rfl
theorem uw_3_1 : Cond.instanceMethod yX3_howManyAlike ∈ xU := xr3 (List.mem_of_getElem? (i := 1) rfl) rfl
theorem uw_3_2 : Cond.code yX3_howManyAlike prog_5_method_25_code 6 (some FieldType.int) ∈ xU := xr3 (List.mem_of_getElem? (i := 2) rfl) rfl
theorem uw_3_3 : Cond.methodLink RL 40 yX5_as ∈ xU := xr3 (List.mem_of_getElem? (i := 3) rfl) rfl
theorem uw_3_4 : Cond.instanceMethod yX5_as ∈ xU := xr3 (List.mem_of_getElem? (i := 4) rfl) rfl
theorem uw_3_5 : Cond.selects RX5 yX5_as yX5_as ∈ xU := xr3 (List.mem_of_getElem? (i := 5) rfl) rfl
theorem uw_3_6 : Cond.code yX5_as prog_1_method_8_code 3 (some FieldType.int) ∈ xU := xr3 (List.mem_of_getElem? (i := 6) rfl) rfl
theorem uw_3_7 : Cond.methodLink RX5 113 yX5_isBelow ∈ xU := xr3 (List.mem_of_getElem? (i := 7) rfl) rfl
theorem uw_3_8 : Cond.methodLink RX5 117 yX5_isKind ∈ xU := xr3 (List.mem_of_getElem? (i := 8) rfl) rfl
theorem uw_3_9 : Cond.static yX5_isKind ∈ xU := xr3 (List.mem_of_getElem? (i := 9) rfl) rfl
theorem uw_3_10 : Cond.code yX5_isKind prog_1_method_24_code 2 (some FieldType.boolean) ∈ xU := xr3 (List.mem_of_getElem? (i := 10) rfl) rfl
theorem uw_3_11 : Cond.methodLink RL 44 yX5_wrong ∈ xU := xr3 (List.mem_of_getElem? (i := 11) rfl) rfl
theorem uw_3_12 : Cond.instanceMethod yX5_wrong ∈ xU := xr3 (List.mem_of_getElem? (i := 12) rfl) rfl
theorem uw_3_13 : Cond.selects RX5 yX5_wrong yX5_wrong ∈ xU := xr3 (List.mem_of_getElem? (i := 13) rfl) rfl
theorem uw_3_14 : Cond.code yX5_wrong prog_1_method_9_code 3 (some FieldType.int) ∈ xU := xr3 (List.mem_of_getElem? (i := 14) rfl) rfl
theorem uw_3_15 : Cond.methodLink RX5 120 yX3_hasBoth ∈ xU := xr3 (List.mem_of_getElem? (i := 15) rfl) rfl
theorem uw_3_16 : Cond.instanceMethod yX3_hasBoth ∈ xU := xr3 (List.mem_of_getElem? (i := 16) rfl) rfl
theorem uw_3_17 : Cond.selects RX3 yX3_hasBoth yX3_hasBoth ∈ xU := xr3 (List.mem_of_getElem? (i := 17) rfl) rfl
theorem uw_3_18 : Cond.code yX3_hasBoth prog_5_method_8_code 3 (some FieldType.boolean) ∈ xU := xr3 (List.mem_of_getElem? (i := 18) rfl) rfl
theorem uw_3_19 : Cond.methodLink RX3 72 yX3_hasThing ∈ xU := xr3 (List.mem_of_getElem? (i := 19) rfl) rfl
theorem uw_3_20 : Cond.methodLink RX3 76 yX3_hasClaimer ∈ xU := xr3 (List.mem_of_getElem? (i := 20) rfl) rfl
theorem uw_3_21 : Cond.methodLink RX5 123 yX3_wrongOf ∈ xU := xr3 (List.mem_of_getElem? (i := 21) rfl) rfl
theorem uw_3_22 : Cond.instanceMethod yX3_wrongOf ∈ xU := xr3 (List.mem_of_getElem? (i := 22) rfl) rfl
theorem uw_3_23 : Cond.selects RX3 yX3_wrongOf yX3_wrongOf ∈ xU := xr3 (List.mem_of_getElem? (i := 23) rfl) rfl
theorem uw_3_24 : Cond.code yX3_wrongOf prog_5_method_15_code 3 (some FieldType.int) ∈ xU := xr3 (List.mem_of_getElem? (i := 24) rfl) rfl
theorem uw_3_25 : Cond.methodLink RL 48 yX5_give ∈ xU := xr3 (List.mem_of_getElem? (i := 25) rfl) rfl
theorem uw_3_26 : Cond.instanceMethod yX5_give ∈ xU := xr3 (List.mem_of_getElem? (i := 26) rfl) rfl
theorem uw_3_27 : Cond.selects RX5 yX5_give yX5_give ∈ xU := xr3 (List.mem_of_getElem? (i := 27) rfl) rfl
theorem uw_3_28 : Cond.code yX5_give prog_1_method_10_code 4 (some FieldType.int) ∈ xU := xr3 (List.mem_of_getElem? (i := 28) rfl) rfl
theorem uw_3_29 : Cond.methodLink RX5 126 yX2_hand ∈ xU := xr3 (List.mem_of_getElem? (i := 29) rfl) rfl
theorem uw_3_30 : Cond.instanceMethod yX2_hand ∈ xU := xr3 (List.mem_of_getElem? (i := 30) rfl) rfl
theorem uw_3_31 : Cond.selects RX2 yX2_hand yX2_hand ∈ xU := xr3 (List.mem_of_getElem? (i := 31) rfl) rfl
theorem uw_3_32 : Cond.code yX2_hand prog_4_method_6_code 3 (Option.none : Option Jvm.ClassFile.FieldType) ∈ xU := xr3 (List.mem_of_getElem? (i := 32) rfl) rfl
theorem uw_3_33 : Cond.methodLink RL 52 yX5_back ∈ xU := xr3 (List.mem_of_getElem? (i := 33) rfl) rfl
theorem uw_3_34 : Cond.instanceMethod yX5_back ∈ xU := xr3 (List.mem_of_getElem? (i := 34) rfl) rfl
theorem uw_3_35 : Cond.selects RX5 yX5_back yX5_back ∈ xU := xr3 (List.mem_of_getElem? (i := 35) rfl) rfl
theorem uw_3_36 : Cond.code yX5_back prog_1_method_11_code 3 (some FieldType.int) ∈ xU := xr3 (List.mem_of_getElem? (i := 36) rfl) rfl
theorem uw_3_37 : Cond.methodLink RL 56 yX5_remember ∈ xU := xr3 (List.mem_of_getElem? (i := 37) rfl) rfl
theorem uw_3_38 : Cond.instanceMethod yX5_remember ∈ xU := xr3 (List.mem_of_getElem? (i := 38) rfl) rfl
theorem uw_3_39 : Cond.selects RX5 yX5_remember yX5_remember ∈ xU := xr3 (List.mem_of_getElem? (i := 39) rfl) rfl
theorem uw_3_40 : Cond.code yX5_remember prog_1_method_12_code 5 (some FieldType.int) ∈ xU := xr3 (List.mem_of_getElem? (i := 40) rfl) rfl
theorem uw_3_41 : Cond.fieldLink RX5 130 RX5 "SIGN_VALUES" "[I" ∈ xU := xr3 (List.mem_of_getElem? (i := 41) rfl) rfl
theorem uw_3_42 : Cond.methodLink RX5 138 yX2_setMemory ∈ xU := xr3 (List.mem_of_getElem? (i := 42) rfl) rfl
theorem uw_3_43 : Cond.methodLink RL 61 yX5_six ∈ xU := xr3 (List.mem_of_getElem? (i := 43) rfl) rfl
theorem uw_3_44 : Cond.instanceMethod yX5_six ∈ xU := xr3 (List.mem_of_getElem? (i := 44) rfl) rfl
theorem uw_3_45 : Cond.selects RX5 yX5_six yX5_six ∈ xU := xr3 (List.mem_of_getElem? (i := 45) rfl) rfl
theorem uw_3_46 : Cond.code yX5_six prog_1_method_13_code 3 (some FieldType.int) ∈ xU := xr3 (List.mem_of_getElem? (i := 46) rfl) rfl
theorem uw_3_47 : Cond.methodLink RX5 142 yX3_stands ∈ xU := xr3 (List.mem_of_getElem? (i := 47) rfl) rfl
theorem uw_3_48 : Cond.instanceMethod yX3_stands ∈ xU := xr3 (List.mem_of_getElem? (i := 48) rfl) rfl
theorem uw_3_49 : Cond.selects RX3 yX3_stands yX3_stands ∈ xU := xr3 (List.mem_of_getElem? (i := 49) rfl) rfl
theorem uw_3_50 : Cond.code yX3_stands prog_5_method_3_code 1 (some FieldType.boolean) ∈ xU := xr3 (List.mem_of_getElem? (i := 50) rfl) rfl
theorem uw_3_51 : Cond.methodLink RX5 145 yX2_mondaysOver ∈ xU := xr3 (List.mem_of_getElem? (i := 51) rfl) rfl
theorem uw_3_52 : Cond.instanceMethod yX2_mondaysOver ∈ xU := xr3 (List.mem_of_getElem? (i := 52) rfl) rfl
theorem uw_3_53 : Cond.selects RX2 yX2_mondaysOver yX2_mondaysOver ∈ xU := xr3 (List.mem_of_getElem? (i := 53) rfl) rfl
theorem uw_3_54 : Cond.code yX2_mondaysOver prog_4_method_10_code 1 (some FieldType.int) ∈ xU := xr3 (List.mem_of_getElem? (i := 54) rfl) rfl
theorem uw_3_55 : Cond.methodLink RX5 148 yX3_given ∈ xU := xr3 (List.mem_of_getElem? (i := 55) rfl) rfl
theorem uw_3_56 : Cond.instanceMethod yX3_given ∈ xU := xr3 (List.mem_of_getElem? (i := 56) rfl) rfl
theorem uw_3_57 : Cond.selects RX3 yX3_given yX3_given ∈ xU := xr3 (List.mem_of_getElem? (i := 57) rfl) rfl
theorem uw_3_58 : Cond.code yX3_given prog_5_method_20_code 1 (some FieldType.int) ∈ xU := xr3 (List.mem_of_getElem? (i := 58) rfl) rfl
theorem uw_3_59 : Cond.methodLink RX3 106 yX3_thingsNotGiven ∈ xU := xr3 (List.mem_of_getElem? (i := 59) rfl) rfl
theorem uw_3_60 : Cond.methodLink RX5 151 yX3_claimers ∈ xU := xr3 (List.mem_of_getElem? (i := 60) rfl) rfl
theorem uw_3_61 : Cond.instanceMethod yX3_claimers ∈ xU := xr3 (List.mem_of_getElem? (i := 61) rfl) rfl
theorem uw_3_62 : Cond.selects RX3 yX3_claimers yX3_claimers ∈ xU := xr3 (List.mem_of_getElem? (i := 62) rfl) rfl
theorem uw_3_63 : Cond.code yX3_claimers prog_5_method_5_code 1 (some FieldType.int) ∈ xU := xr3 (List.mem_of_getElem? (i := 63) rfl) rfl
theorem uw_3_64 : Cond.methodLink RX5 154 yX2_endMonday ∈ xU := xr3 (List.mem_of_getElem? (i := 64) rfl) rfl
theorem uw_3_65 : Cond.instanceMethod yX2_endMonday ∈ xU := xr3 (List.mem_of_getElem? (i := 65) rfl) rfl
theorem uw_3_66 : Cond.selects RX2 yX2_endMonday yX2_endMonday ∈ xU := xr3 (List.mem_of_getElem? (i := 66) rfl) rfl
theorem uw_3_67 : Cond.code yX2_endMonday prog_4_method_9_code 3 (Option.none : Option Jvm.ClassFile.FieldType) ∈ xU := xr3 (List.mem_of_getElem? (i := 67) rfl) rfl
theorem uw_3_68 : Cond.methodLink RL 65 yX5_match ∈ xU := xr3 (List.mem_of_getElem? (i := 68) rfl) rfl
theorem uw_3_69 : Cond.instanceMethod yX5_match ∈ xU := xr3 (List.mem_of_getElem? (i := 69) rfl) rfl
theorem uw_3_70 : Cond.selects RX5 yX5_match yX5_match ∈ xU := xr3 (List.mem_of_getElem? (i := 70) rfl) rfl
theorem uw_3_71 : Cond.code yX5_match prog_1_method_14_code 2 (some FieldType.int) ∈ xU := xr3 (List.mem_of_getElem? (i := 71) rfl) rfl
theorem uw_3_72 : Cond.methodLink RX5 157 yX5_isMatchQuestion ∈ xU := xr3 (List.mem_of_getElem? (i := 72) rfl) rfl
theorem uw_3_73 : Cond.static yX5_isMatchQuestion ∈ xU := xr3 (List.mem_of_getElem? (i := 73) rfl) rfl
theorem uw_3_74 : Cond.code yX5_isMatchQuestion prog_1_method_23_code 1 (some FieldType.boolean) ∈ xU := xr3 (List.mem_of_getElem? (i := 74) rfl) rfl
theorem uw_3_75 : Cond.methodLink RX5 160 yX0_solve ∈ xU := xr3 (List.mem_of_getElem? (i := 75) rfl) rfl
theorem uw_3_76 : Cond.instanceMethod yX0_solve ∈ xU := xr3 (List.mem_of_getElem? (i := 76) rfl) rfl
theorem uw_3_77 : Cond.selects RX0 yX0_solve yX0_solve ∈ xU := xr3 (List.mem_of_getElem? (i := 77) rfl) rfl
theorem uw_3_78 : Cond.code yX0_solve prog_2_method_3_code 5 (Option.none : Option Jvm.ClassFile.FieldType) ∈ xU := xr3 (List.mem_of_getElem? (i := 78) rfl) rfl
theorem uw_3_79 : Cond.methodLink RX0 32 yX0_setPrices ∈ xU := xr3 (List.mem_of_getElem? (i := 79) rfl) rfl
theorem uw_3_81 : Cond.instanceMethod yX0_setPrices ∈ xU := xr3 (List.mem_of_getElem? (i := 81) rfl) rfl
theorem uw_3_82 : Cond.code yX0_setPrices prog_2_method_4_code 6 (Option.none : Option Jvm.ClassFile.FieldType) ∈ xU := xr3 (List.mem_of_getElem? (i := 82) rfl) rfl
theorem uw_3_83 : Cond.methodLink RX0 47 yX3_things ∈ xU := xr3 (List.mem_of_getElem? (i := 83) rfl) rfl
theorem uw_3_84 : Cond.methodLink RX0 52 yX3_hasClaimer ∈ xU := xr3 (List.mem_of_getElem? (i := 84) rfl) rfl
theorem uw_3_85 : Cond.methodLink RX0 56 yX3_register ∈ xU := xr3 (List.mem_of_getElem? (i := 85) rfl) rfl
theorem uw_3_86 : Cond.methodLink RX0 60 yX2_thingOf ∈ xU := xr3 (List.mem_of_getElem? (i := 86) rfl) rfl
theorem uw_3_87 : Cond.methodLink RX0 66 yX3_hasThing ∈ xU := xr3 (List.mem_of_getElem? (i := 87) rfl) rfl
theorem uw_3_88 : Cond.methodLink RX0 69 yX2_holderOf ∈ xU := xr3 (List.mem_of_getElem? (i := 88) rfl) rfl
theorem uw_3_89 : Cond.methodLink RX0 72 yX3_fits ∈ xU := xr3 (List.mem_of_getElem? (i := 89) rfl) rfl
theorem uw_3_90 : Cond.methodLink RX0 75 yX3_wrongOf ∈ xU := xr3 (List.mem_of_getElem? (i := 90) rfl) rfl
theorem uw_3_92 : Cond.methodLink RX0 36 yX0_may ∈ xU := xr3 (List.mem_of_getElem? (i := 92) rfl) rfl
theorem uw_3_94 : Cond.instanceMethod yX0_may ∈ xU := xr3 (List.mem_of_getElem? (i := 94) rfl) rfl
theorem uw_3_95 : Cond.code yX0_may prog_2_method_5_code 3 (some FieldType.boolean) ∈ xU := xr3 (List.mem_of_getElem? (i := 95) rfl) rfl
theorem uw_3_96 : Cond.methodLink RX0 83 yX0_price ∈ xU := xr3 (List.mem_of_getElem? (i := 96) rfl) rfl
theorem uw_3_98 : Cond.instanceMethod yX0_price ∈ xU := xr3 (List.mem_of_getElem? (i := 98) rfl) rfl
theorem uw_3_99 : Cond.code yX0_price prog_2_method_6_code 3 (some FieldType.int) ∈ xU := xr3 (List.mem_of_getElem? (i := 99) rfl) rfl
theorem uw_3_101 : Cond.methodLink RX0 40 yX0_isTwice ∈ xU := xr3 (List.mem_of_getElem? (i := 101) rfl) rfl
theorem uw_3_102 : Cond.static yX0_isTwice ∈ xU := xr3 (List.mem_of_getElem? (i := 102) rfl) rfl
theorem uw_3_103 : Cond.code yX0_isTwice prog_2_method_7_code 2 (some FieldType.boolean) ∈ xU := xr3 (List.mem_of_getElem? (i := 103) rfl) rfl
theorem uw_3_104 : Cond.methodLink RX0 43 yX0_keepIfBetter ∈ xU := xr3 (List.mem_of_getElem? (i := 104) rfl) rfl
theorem uw_3_106 : Cond.instanceMethod yX0_keepIfBetter ∈ xU := xr3 (List.mem_of_getElem? (i := 106) rfl) rfl
theorem uw_3_107 : Cond.code yX0_keepIfBetter prog_2_method_8_code 6 (Option.none : Option Jvm.ClassFile.FieldType) ∈ xU := xr3 (List.mem_of_getElem? (i := 107) rfl) rfl
theorem uw_3_108 : Cond.methodLink RX0 86 yX0_oneIfGiven ∈ xU := xr3 (List.mem_of_getElem? (i := 108) rfl) rfl
theorem uw_3_109 : Cond.static yX0_oneIfGiven ∈ xU := xr3 (List.mem_of_getElem? (i := 109) rfl) rfl
theorem uw_3_110 : Cond.code yX0_oneIfGiven prog_2_method_9_code 1 (some FieldType.int) ∈ xU := xr3 (List.mem_of_getElem? (i := 110) rfl) rfl
theorem uw_3_111 : Cond.methodLink RX0 89 yX0_priceIfGiven ∈ xU := xr3 (List.mem_of_getElem? (i := 111) rfl) rfl
theorem uw_3_113 : Cond.instanceMethod yX0_priceIfGiven ∈ xU := xr3 (List.mem_of_getElem? (i := 113) rfl) rfl
theorem uw_3_114 : Cond.code yX0_priceIfGiven prog_2_method_10_code 3 (some FieldType.int) ∈ xU := xr3 (List.mem_of_getElem? (i := 114) rfl) rfl
theorem uw_3_115 : Cond.methodLink RX5 164 yX0_tell ∈ xU := xr3 (List.mem_of_getElem? (i := 115) rfl) rfl
theorem uw_3_116 : Cond.instanceMethod yX0_tell ∈ xU := xr3 (List.mem_of_getElem? (i := 116) rfl) rfl
theorem uw_3_117 : Cond.selects RX0 yX0_tell yX0_tell ∈ xU := xr3 (List.mem_of_getElem? (i := 117) rfl) rfl
theorem uw_3_118 : Cond.code yX0_tell prog_2_method_2_code 2 (some FieldType.int) ∈ xU := xr3 (List.mem_of_getElem? (i := 118) rfl) rfl
theorem uw_3_119 : Cond.methodLink RL 69 yX5_see ∈ xU := xr3 (List.mem_of_getElem? (i := 119) rfl) rfl
theorem uw_3_120 : Cond.instanceMethod yX5_see ∈ xU := xr3 (List.mem_of_getElem? (i := 120) rfl) rfl
theorem uw_3_121 : Cond.selects RX5 yX5_see yX5_see ∈ xU := xr3 (List.mem_of_getElem? (i := 121) rfl) rfl
theorem uw_3_122 : Cond.code yX5_see prog_1_method_15_code 4 (some FieldType.int) ∈ xU := xr3 (List.mem_of_getElem? (i := 122) rfl) rfl
theorem uw_3_123 : Cond.methodLink RX5 167 yX2_noteSeen ∈ xU := xr3 (List.mem_of_getElem? (i := 123) rfl) rfl
theorem uw_3_124 : Cond.instanceMethod yX2_noteSeen ∈ xU := xr3 (List.mem_of_getElem? (i := 124) rfl) rfl
theorem uw_3_125 : Cond.selects RX2 yX2_noteSeen yX2_noteSeen ∈ xU := xr3 (List.mem_of_getElem? (i := 125) rfl) rfl
theorem uw_3_126 : Cond.code yX2_noteSeen prog_4_method_13_code 4 (some FieldType.boolean) ∈ xU := xr3 (List.mem_of_getElem? (i := 126) rfl) rfl
theorem uw_3_127 : Cond.methodLink RX5 171 yX2_seenInAll ∈ xU := xr3 (List.mem_of_getElem? (i := 127) rfl) rfl
theorem uw_3_128 : Cond.methodLink RL 74 yX5_forget ∈ xU := xr3 (List.mem_of_getElem? (i := 128) rfl) rfl
theorem uw_3_129 : Cond.instanceMethod yX5_forget ∈ xU := xr3 (List.mem_of_getElem? (i := 129) rfl) rfl
theorem uw_3_130 : Cond.selects RX5 yX5_forget yX5_forget ∈ xU := xr3 (List.mem_of_getElem? (i := 130) rfl) rfl
theorem uw_3_131 : Cond.code yX5_forget prog_1_method_16_code 2 (some FieldType.int) ∈ xU := xr3 (List.mem_of_getElem? (i := 131) rfl) rfl
theorem uw_3_132 : Cond.methodLink RX5 174 yX2_clearSeen ∈ xU := xr3 (List.mem_of_getElem? (i := 132) rfl) rfl
theorem uw_3_133 : Cond.instanceMethod yX2_clearSeen ∈ xU := xr3 (List.mem_of_getElem? (i := 133) rfl) rfl
theorem uw_3_134 : Cond.selects RX2 yX2_clearSeen yX2_clearSeen ∈ xU := xr3 (List.mem_of_getElem? (i := 134) rfl) rfl
theorem uw_3_135 : Cond.code yX2_clearSeen prog_4_method_14_code 1 (Option.none : Option Jvm.ClassFile.FieldType) ∈ xU := xr3 (List.mem_of_getElem? (i := 135) rfl) rfl
theorem uw_3_136 : Cond.methodLink RL 78 yX5_mondays ∈ xU := xr3 (List.mem_of_getElem? (i := 136) rfl) rfl
theorem uw_3_137 : Cond.instanceMethod yX5_mondays ∈ xU := xr3 (List.mem_of_getElem? (i := 137) rfl) rfl
theorem uw_3_138 : Cond.selects RX5 yX5_mondays yX5_mondays ∈ xU := xr3 (List.mem_of_getElem? (i := 138) rfl) rfl
theorem uw_3_139 : Cond.code yX5_mondays prog_1_method_17_code 4 (some FieldType.int) ∈ xU := xr3 (List.mem_of_getElem? (i := 139) rfl) rfl
theorem uw_3_140 : Cond.methodLink RX5 177 yX4_play ∈ xU := xr3 (List.mem_of_getElem? (i := 140) rfl) rfl
theorem uw_3_141 : Cond.instanceMethod yX4_play ∈ xU := xr3 (List.mem_of_getElem? (i := 141) rfl) rfl
theorem uw_3_142 : Cond.selects RX4 yX4_play yX4_play ∈ xU := xr3 (List.mem_of_getElem? (i := 142) rfl) rfl
theorem uw_3_143 : Cond.code yX4_play prog_6_method_3_code 10 (Option.none : Option Jvm.ClassFile.FieldType) ∈ xU := xr3 (List.mem_of_getElem? (i := 143) rfl) rfl
theorem uw_3_144 : Cond.methodLink RX4 22 yX3_claimers ∈ xU := xr3 (List.mem_of_getElem? (i := 144) rfl) rfl
theorem uw_3_145 : Cond.methodLink RX4 28 yX4_draw ∈ xU := xr3 (List.mem_of_getElem? (i := 145) rfl) rfl
theorem uw_3_147 : Cond.instanceMethod yX4_draw ∈ xU := xr3 (List.mem_of_getElem? (i := 147) rfl) rfl
theorem uw_3_148 : Cond.code yX4_draw prog_6_method_5_code 2 (some FieldType.int) ∈ xU := xr3 (List.mem_of_getElem? (i := 148) rfl) rfl
theorem uw_3_149 : Cond.constantLong RX4 67 (1103515245) ∈ xU := xr3 (List.mem_of_getElem? (i := 149) rfl) rfl
theorem uw_3_150 : Cond.constantLong RX4 69 (12345) ∈ xU := xr3 (List.mem_of_getElem? (i := 150) rfl) rfl
theorem uw_3_151 : Cond.constantLong RX4 71 (2147483648) ∈ xU := xr3 (List.mem_of_getElem? (i := 151) rfl) rfl
theorem uw_3_152 : Cond.constantLong RX4 73 (65536) ∈ xU := xr3 (List.mem_of_getElem? (i := 152) rfl) rfl
theorem uw_3_153 : Cond.methodLink RX4 32 yX3_kindOf ∈ xU := xr3 (List.mem_of_getElem? (i := 153) rfl) rfl
theorem uw_3_156 : Cond.methodLink RX4 43 yX3_things ∈ xU := xr3 (List.mem_of_getElem? (i := 156) rfl) rfl
theorem uw_3_157 : Cond.methodLink RX4 46 yX3_signOf ∈ xU := xr3 (List.mem_of_getElem? (i := 157) rfl) rfl
theorem uw_3_158 : Cond.methodLink RX4 50 Lib.Math.abs.name ∈ xU := xr3 (List.mem_of_getElem? (i := 158) rfl) rfl
theorem uw_3_160 : Cond.methodLink RX4 59 yX4_addIfFit ∈ xU := xr3 (List.mem_of_getElem? (i := 160) rfl) rfl
theorem uw_3_162 : Cond.instanceMethod yX4_addIfFit ∈ xU := xr3 (List.mem_of_getElem? (i := 162) rfl) rfl
theorem uw_3_163 : Cond.code yX4_addIfFit prog_6_method_4_code 3 (Option.none : Option Jvm.ClassFile.FieldType) ∈ xU := xr3 (List.mem_of_getElem? (i := 163) rfl) rfl
theorem uw_3_165 : Cond.methodLink RX5 181 yX4_tell ∈ xU := xr3 (List.mem_of_getElem? (i := 165) rfl) rfl
theorem uw_3_166 : Cond.instanceMethod yX4_tell ∈ xU := xr3 (List.mem_of_getElem? (i := 166) rfl) rfl
theorem uw_3_167 : Cond.selects RX4 yX4_tell yX4_tell ∈ xU := xr3 (List.mem_of_getElem? (i := 167) rfl) rfl
theorem uw_3_168 : Cond.code yX4_tell prog_6_method_2_code 2 (some FieldType.int) ∈ xU := xr3 (List.mem_of_getElem? (i := 168) rfl) rfl
theorem uw_3_169 : Cond.methodLink RL 82 yX5_image ∈ xU := xr3 (List.mem_of_getElem? (i := 169) rfl) rfl
theorem uw_3_170 : Cond.instanceMethod yX5_image ∈ xU := xr3 (List.mem_of_getElem? (i := 170) rfl) rfl
theorem uw_3_171 : Cond.selects RX5 yX5_image yX5_image ∈ xU := xr3 (List.mem_of_getElem? (i := 171) rfl) rfl
theorem uw_3_172 : Cond.code yX5_image prog_1_method_18_code 1 (some FieldType.int) ∈ xU := xr3 (List.mem_of_getElem? (i := 172) rfl) rfl
theorem uw_3_173 : Cond.methodLink RX5 182 yX3_keepImage ∈ xU := xr3 (List.mem_of_getElem? (i := 173) rfl) rfl
theorem uw_3_174 : Cond.instanceMethod yX3_keepImage ∈ xU := xr3 (List.mem_of_getElem? (i := 174) rfl) rfl
theorem uw_3_175 : Cond.selects RX3 yX3_keepImage yX3_keepImage ∈ xU := xr3 (List.mem_of_getElem? (i := 175) rfl) rfl
theorem uw_3_176 : Cond.code yX3_keepImage prog_5_method_10_code 1 (Option.none : Option Jvm.ClassFile.FieldType) ∈ xU := xr3 (List.mem_of_getElem? (i := 176) rfl) rfl
theorem uw_3_177 : Cond.methodLink RX3 79 yX2_copyFrom ∈ xU := xr3 (List.mem_of_getElem? (i := 177) rfl) rfl
theorem uw_3_178 : Cond.instanceMethod yX2_copyFrom ∈ xU := xr3 (List.mem_of_getElem? (i := 178) rfl) rfl
theorem uw_3_179 : Cond.selects RX2 yX2_copyFrom yX2_copyFrom ∈ xU := xr3 (List.mem_of_getElem? (i := 179) rfl) rfl
theorem uw_3_180 : Cond.code yX2_copyFrom prog_4_method_3_code 2 (Option.none : Option Jvm.ClassFile.FieldType) ∈ xU := xr3 (List.mem_of_getElem? (i := 180) rfl) rfl
theorem uw_3_182 : Cond.static yX5_copy ∈ xU := xr3 (List.mem_of_getElem? (i := 182) rfl) rfl
theorem uw_3_183 : Cond.code yX5_copy prog_1_method_31_code 3 (Option.none : Option Jvm.ClassFile.FieldType) ∈ xU := xr3 (List.mem_of_getElem? (i := 183) rfl) rfl
theorem uw_3_184 : Cond.methodLink RL 86 yX5_restore ∈ xU := xr3 (List.mem_of_getElem? (i := 184) rfl) rfl
theorem uw_3_185 : Cond.instanceMethod yX5_restore ∈ xU := xr3 (List.mem_of_getElem? (i := 185) rfl) rfl
theorem uw_3_186 : Cond.selects RX5 yX5_restore yX5_restore ∈ xU := xr3 (List.mem_of_getElem? (i := 186) rfl) rfl
theorem uw_3_187 : Cond.code yX5_restore prog_1_method_19_code 1 (some FieldType.int) ∈ xU := xr3 (List.mem_of_getElem? (i := 187) rfl) rfl
theorem uw_3_188 : Cond.methodLink RX5 185 yX3_hasImage ∈ xU := xr3 (List.mem_of_getElem? (i := 188) rfl) rfl
theorem uw_3_189 : Cond.instanceMethod yX3_hasImage ∈ xU := xr3 (List.mem_of_getElem? (i := 189) rfl) rfl
theorem uw_3_190 : Cond.selects RX3 yX3_hasImage yX3_hasImage ∈ xU := xr3 (List.mem_of_getElem? (i := 190) rfl) rfl
theorem uw_3_191 : Cond.code yX3_hasImage prog_5_method_11_code 1 (some FieldType.boolean) ∈ xU := xr3 (List.mem_of_getElem? (i := 191) rfl) rfl
theorem uw_3_192 : Cond.methodLink RX5 188 yX3_goOnFromImage ∈ xU := xr3 (List.mem_of_getElem? (i := 192) rfl) rfl
theorem uw_3_193 : Cond.instanceMethod yX3_goOnFromImage ∈ xU := xr3 (List.mem_of_getElem? (i := 193) rfl) rfl
theorem uw_3_194 : Cond.selects RX3 yX3_goOnFromImage yX3_goOnFromImage ∈ xU := xr3 (List.mem_of_getElem? (i := 194) rfl) rfl
theorem uw_3_195 : Cond.code yX3_goOnFromImage prog_5_method_12_code 1 (Option.none : Option Jvm.ClassFile.FieldType) ∈ xU := xr3 (List.mem_of_getElem? (i := 195) rfl) rfl
theorem uw_3_196 : Cond.methodLink RL 90 yX5_count ∈ xU := xr3 (List.mem_of_getElem? (i := 196) rfl) rfl
theorem uw_3_197 : Cond.instanceMethod yX5_count ∈ xU := xr3 (List.mem_of_getElem? (i := 197) rfl) rfl
theorem uw_3_198 : Cond.selects RX5 yX5_count yX5_count ∈ xU := xr3 (List.mem_of_getElem? (i := 198) rfl) rfl
theorem uw_3_199 : Cond.code yX5_count prog_1_method_20_code 2 (some FieldType.int) ∈ xU := xr3 (List.mem_of_getElem? (i := 199) rfl) rfl
theorem uw_3_200 : Cond.methodLink RX5 191 yX3_givenThatFit ∈ xU := xr3 (List.mem_of_getElem? (i := 200) rfl) rfl
theorem uw_3_201 : Cond.instanceMethod yX3_givenThatFit ∈ xU := xr3 (List.mem_of_getElem? (i := 201) rfl) rfl
theorem uw_3_202 : Cond.selects RX3 yX3_givenThatFit yX3_givenThatFit ∈ xU := xr3 (List.mem_of_getElem? (i := 202) rfl) rfl
theorem uw_3_203 : Cond.code yX3_givenThatFit prog_5_method_21_code 4 (some FieldType.int) ∈ xU := xr3 (List.mem_of_getElem? (i := 203) rfl) rfl
theorem uw_3_204 : Cond.methodLink RX5 194 yX3_givenWrong ∈ xU := xr3 (List.mem_of_getElem? (i := 204) rfl) rfl
theorem uw_3_205 : Cond.instanceMethod yX3_givenWrong ∈ xU := xr3 (List.mem_of_getElem? (i := 205) rfl) rfl
theorem uw_3_206 : Cond.selects RX3 yX3_givenWrong yX3_givenWrong ∈ xU := xr3 (List.mem_of_getElem? (i := 206) rfl) rfl
theorem uw_3_207 : Cond.code yX3_givenWrong prog_5_method_22_code 4 (some FieldType.int) ∈ xU := xr3 (List.mem_of_getElem? (i := 207) rfl) rfl
theorem uw_3_208 : Cond.methodLink RX3 114 yX3_wrongOf ∈ xU := xr3 (List.mem_of_getElem? (i := 208) rfl) rfl
theorem uw_3_209 : Cond.methodLink RX5 197 yX2_thingsLeft ∈ xU := xr3 (List.mem_of_getElem? (i := 209) rfl) rfl
theorem uw_3_210 : Cond.instanceMethod yX2_thingsLeft ∈ xU := xr3 (List.mem_of_getElem? (i := 210) rfl) rfl
theorem uw_3_211 : Cond.selects RX2 yX2_thingsLeft yX2_thingsLeft ∈ xU := xr3 (List.mem_of_getElem? (i := 211) rfl) rfl
theorem uw_3_212 : Cond.code yX2_thingsLeft prog_4_method_11_code 1 (some FieldType.int) ∈ xU := xr3 (List.mem_of_getElem? (i := 212) rfl) rfl
theorem uw_3_213 : Cond.methodLink RX5 200 yX2_claimersLeft ∈ xU := xr3 (List.mem_of_getElem? (i := 213) rfl) rfl
theorem uw_3_214 : Cond.instanceMethod yX2_claimersLeft ∈ xU := xr3 (List.mem_of_getElem? (i := 214) rfl) rfl
theorem uw_3_215 : Cond.selects RX2 yX2_claimersLeft yX2_claimersLeft ∈ xU := xr3 (List.mem_of_getElem? (i := 215) rfl) rfl
theorem uw_3_216 : Cond.code yX2_claimersLeft prog_4_method_12_code 1 (some FieldType.int) ∈ xU := xr3 (List.mem_of_getElem? (i := 216) rfl) rfl
theorem uw_3_217 : Cond.methodLink RL 94 yX5_digest ∈ xU := xr3 (List.mem_of_getElem? (i := 217) rfl) rfl
theorem uw_3_218 : Cond.instanceMethod yX5_digest ∈ xU := xr3 (List.mem_of_getElem? (i := 218) rfl) rfl
theorem uw_3_219 : Cond.selects RX5 yX5_digest yX5_digest ∈ xU := xr3 (List.mem_of_getElem? (i := 219) rfl) rfl
theorem uw_3_220 : Cond.code yX5_digest prog_1_method_21_code 5 (some FieldType.long) ∈ xU := xr3 (List.mem_of_getElem? (i := 220) rfl) rfl
theorem uw_3_221 : Cond.constantLong RX5 203 (1087) ∈ xU := xr3 (List.mem_of_getElem? (i := 221) rfl) rfl
theorem uw_3_222 : Cond.methodLink RX5 205 yX5_thing ∈ xU := xr3 (List.mem_of_getElem? (i := 222) rfl) rfl
theorem uw_3_223 : Cond.methodLink RX5 208 yX5_mixed ∈ xU := xr3 (List.mem_of_getElem? (i := 223) rfl) rfl
theorem uw_3_224 : Cond.static yX5_mixed ∈ xU := xr3 (List.mem_of_getElem? (i := 224) rfl) rfl
theorem uw_3_225 : Cond.code yX5_mixed prog_1_method_22_code 3 (some FieldType.long) ∈ xU := xr3 (List.mem_of_getElem? (i := 225) rfl) rfl
theorem uw_3_226 : Cond.constantLong RX5 221 (31) ∈ xU := xr3 (List.mem_of_getElem? (i := 226) rfl) rfl
theorem uw_3_227 : Cond.methodLink RX5 212 yX5_claimer ∈ xU := xr3 (List.mem_of_getElem? (i := 227) rfl) rfl
theorem uw_3_228 : Cond.methodLink RX5 215 yX1_codeAt ∈ xU := xr3 (List.mem_of_getElem? (i := 228) rfl) rfl
theorem uw_3_229 : Cond.instanceMethod yX1_codeAt ∈ xU := xr3 (List.mem_of_getElem? (i := 229) rfl) rfl
theorem uw_3_230 : Cond.selects RX1 yX1_codeAt yX1_codeAt ∈ xU := xr3 (List.mem_of_getElem? (i := 230) rfl) rfl
theorem uw_3_231 : Cond.code yX1_codeAt prog_3_method_3_code 2 (some FieldType.int) ∈ xU := xr3 (List.mem_of_getElem? (i := 231) rfl) rfl
theorem uw_3_232 : Cond.methodLink RX5 218 yX5_count ∈ xU := xr3 (List.mem_of_getElem? (i := 232) rfl) rfl
theorem uw_3_233 : Cond.classLink RL 10 RX6 ∈ xU := xr3 (List.mem_of_getElem? (i := 233) rfl) rfl
theorem uw_3_234 : Cond.instantiable RX6 27 ∈ xU := xr3 (List.mem_of_getElem? (i := 234) rfl) rfl
theorem uw_3_235 : Cond.methodLink RL 12 yX6_init ∈ xU := xr3 (List.mem_of_getElem? (i := 235) rfl) rfl
theorem uw_3_236 : Cond.instanceMethod yX6_init ∈ xU := xr3 (List.mem_of_getElem? (i := 236) rfl) rfl
theorem uw_3_237 : Cond.code yX6_init prog_8_method_1_code 1 (Option.none : Option Jvm.ClassFile.FieldType) ∈ xU := xr3 (List.mem_of_getElem? (i := 237) rfl) rfl
theorem uw_3_238 : Cond.methodLink RX6 1 objectInit ∈ xU := xr3 (List.mem_of_getElem? (i := 238) rfl) rfl
theorem uw_3_239 : Cond.fieldLink RX6 7 RX6 "page" "[I" ∈ xU := xr3 (List.mem_of_getElem? (i := 239) rfl) rfl
theorem uw_4_0 : Cond.fieldLink RX6 53 RX6 "pageMany" "I" ∈ xU := xr4 (List.mem_of_getElem? (i := 0) rfl) rfl
theorem uw_4_1 : Cond.fieldLink RX6 56 RX6 "endAt" "I" ∈ xU := xr4 (List.mem_of_getElem? (i := 1) rfl) rfl
theorem uw_4_2 : Cond.fieldLink RX6 74 RX6 "things" "I" ∈ xU := xr4 (List.mem_of_getElem? (i := 2) rfl) rfl
theorem uw_4_3 : Cond.fieldLink RX6 77 RX6 "claimers" "I" ∈ xU := xr4 (List.mem_of_getElem? (i := 3) rfl) rfl
theorem uw_4_4 : Cond.fieldLink RX6 80 RX6 "mondaysNow" "I" ∈ xU := xr4 (List.mem_of_getElem? (i := 4) rfl) rfl
theorem uw_4_5 : Cond.fieldLink RX6 83 RX6 "leftThings" "I" ∈ xU := xr4 (List.mem_of_getElem? (i := 5) rfl) rfl
theorem uw_4_6 : Cond.fieldLink RX6 86 RX6 "leftClaimers" "I" ∈ xU := xr4 (List.mem_of_getElem? (i := 6) rfl) rfl
theorem uw_4_7 : Cond.fieldLink RX6 92 RX6 "tentsRead" "I" ∈ xU := xr4 (List.mem_of_getElem? (i := 7) rfl) rfl
theorem uw_4_8 : Cond.fieldLink RX6 13 RX6 "lots" "[I" ∈ xU := xr4 (List.mem_of_getElem? (i := 8) rfl) rfl
theorem uw_4_9 : Cond.fieldLink RX6 16 RX6 "rows" "[I" ∈ xU := xr4 (List.mem_of_getElem? (i := 9) rfl) rfl
theorem uw_4_10 : Cond.fieldLink RX6 19 RX6 "parts" "[I" ∈ xU := xr4 (List.mem_of_getElem? (i := 10) rfl) rfl
theorem uw_4_11 : Cond.fieldLink RX6 22 RX6 "row" "[I" ∈ xU := xr4 (List.mem_of_getElem? (i := 11) rfl) rfl
theorem uw_4_12 : Cond.fieldLink RX6 25 RX6 "bestRow" "[I" ∈ xU := xr4 (List.mem_of_getElem? (i := 12) rfl) rfl
theorem uw_4_13 : Cond.fieldLink RX6 89 RX6 "seenMany" "I" ∈ xU := xr4 (List.mem_of_getElem? (i := 13) rfl) rfl
theorem uw_4_14 : Cond.fieldLink RX6 28 RX6 "sights" "[I" ∈ xU := xr4 (List.mem_of_getElem? (i := 14) rfl) rfl
theorem uw_4_15 : Cond.fieldLink RX6 164 RX6 "seedNow" "I" ∈ xU := xr4 (List.mem_of_getElem? (i := 15) rfl) rfl
theorem uw_4_16 : Cond.fieldLink RX6 31 RX6 "savedRows" "[I" ∈ xU := xr4 (List.mem_of_getElem? (i := 16) rfl) rfl
theorem uw_4_17 : Cond.fieldLink RX6 43 RX6 "keptTent" "I" ∈ xU := xr4 (List.mem_of_getElem? (i := 17) rfl) rfl
theorem uw_4_18 : Cond.fieldLink RX6 177 RX6 "keptMondays" "I" ∈ xU := xr4 (List.mem_of_getElem? (i := 18) rfl) rfl
theorem uw_4_19 : Cond.fieldLink RX6 180 RX6 "keptThings" "I" ∈ xU := xr4 (List.mem_of_getElem? (i := 19) rfl) rfl
theorem uw_4_20 : Cond.fieldLink RX6 183 RX6 "keptClaimers" "I" ∈ xU := xr4 (List.mem_of_getElem? (i := 20) rfl) rfl
theorem uw_4_21 : Cond.fieldLink RX6 186 RX6 "keptSeen" "I" ∈ xU := xr4 (List.mem_of_getElem? (i := 21) rfl) rfl
theorem uw_4_22 : Cond.fieldLink RX6 34 RX6 "keptLots" "[I" ∈ xU := xr4 (List.mem_of_getElem? (i := 22) rfl) rfl
theorem uw_4_23 : Cond.fieldLink RX6 37 RX6 "keptRows" "[I" ∈ xU := xr4 (List.mem_of_getElem? (i := 23) rfl) rfl
theorem uw_4_24 : Cond.fieldLink RX6 40 RX6 "keptSights" "[I" ∈ xU := xr4 (List.mem_of_getElem? (i := 24) rfl) rfl
theorem uw_4_25 : Cond.fieldLink RX6 200 RX6 "hash" "J" ∈ xU := xr4 (List.mem_of_getElem? (i := 25) rfl) rfl
theorem uw_4_26 : Cond.laysFinal RX6 RX6 "page" "[I" ∈ xU := xr4 (List.mem_of_getElem? (i := 26) rfl) rfl
theorem uw_4_28 : Cond.lays RX6 RX6 "pageMany" "I" ∈ xU := xr4 (List.mem_of_getElem? (i := 28) rfl) rfl
theorem uw_4_30 : Cond.lays RX6 RX6 "endAt" "I" ∈ xU := xr4 (List.mem_of_getElem? (i := 30) rfl) rfl
theorem uw_4_32 : Cond.lays RX6 RX6 "things" "I" ∈ xU := xr4 (List.mem_of_getElem? (i := 32) rfl) rfl
theorem uw_4_34 : Cond.lays RX6 RX6 "claimers" "I" ∈ xU := xr4 (List.mem_of_getElem? (i := 34) rfl) rfl
theorem uw_4_36 : Cond.lays RX6 RX6 "mondaysNow" "I" ∈ xU := xr4 (List.mem_of_getElem? (i := 36) rfl) rfl
theorem uw_4_38 : Cond.lays RX6 RX6 "leftThings" "I" ∈ xU := xr4 (List.mem_of_getElem? (i := 38) rfl) rfl
theorem uw_4_40 : Cond.lays RX6 RX6 "leftClaimers" "I" ∈ xU := xr4 (List.mem_of_getElem? (i := 40) rfl) rfl
theorem uw_4_42 : Cond.lays RX6 RX6 "tentsRead" "I" ∈ xU := xr4 (List.mem_of_getElem? (i := 42) rfl) rfl
theorem uw_4_44 : Cond.laysFinal RX6 RX6 "lots" "[I" ∈ xU := xr4 (List.mem_of_getElem? (i := 44) rfl) rfl
theorem uw_4_46 : Cond.laysFinal RX6 RX6 "rows" "[I" ∈ xU := xr4 (List.mem_of_getElem? (i := 46) rfl) rfl
theorem uw_4_48 : Cond.laysFinal RX6 RX6 "parts" "[I" ∈ xU := xr4 (List.mem_of_getElem? (i := 48) rfl) rfl
theorem uw_4_50 : Cond.laysFinal RX6 RX6 "row" "[I" ∈ xU := xr4 (List.mem_of_getElem? (i := 50) rfl) rfl
theorem uw_4_52 : Cond.laysFinal RX6 RX6 "bestRow" "[I" ∈ xU := xr4 (List.mem_of_getElem? (i := 52) rfl) rfl
theorem uw_4_54 : Cond.lays RX6 RX6 "seenMany" "I" ∈ xU := xr4 (List.mem_of_getElem? (i := 54) rfl) rfl
theorem uw_4_56 : Cond.laysFinal RX6 RX6 "sights" "[I" ∈ xU := xr4 (List.mem_of_getElem? (i := 56) rfl) rfl
theorem uw_4_58 : Cond.lays RX6 RX6 "seedNow" "I" ∈ xU := xr4 (List.mem_of_getElem? (i := 58) rfl) rfl
theorem uw_4_60 : Cond.laysFinal RX6 RX6 "savedRows" "[I" ∈ xU := xr4 (List.mem_of_getElem? (i := 60) rfl) rfl
theorem uw_4_62 : Cond.lays RX6 RX6 "keptTent" "I" ∈ xU := xr4 (List.mem_of_getElem? (i := 62) rfl) rfl
theorem uw_4_64 : Cond.lays RX6 RX6 "keptMondays" "I" ∈ xU := xr4 (List.mem_of_getElem? (i := 64) rfl) rfl
theorem uw_4_66 : Cond.lays RX6 RX6 "keptThings" "I" ∈ xU := xr4 (List.mem_of_getElem? (i := 66) rfl) rfl
theorem uw_4_68 : Cond.lays RX6 RX6 "keptClaimers" "I" ∈ xU := xr4 (List.mem_of_getElem? (i := 68) rfl) rfl
theorem uw_4_70 : Cond.lays RX6 RX6 "keptSeen" "I" ∈ xU := xr4 (List.mem_of_getElem? (i := 70) rfl) rfl
theorem uw_4_72 : Cond.laysFinal RX6 RX6 "keptLots" "[I" ∈ xU := xr4 (List.mem_of_getElem? (i := 72) rfl) rfl
theorem uw_4_74 : Cond.laysFinal RX6 RX6 "keptRows" "[I" ∈ xU := xr4 (List.mem_of_getElem? (i := 74) rfl) rfl
theorem uw_4_76 : Cond.laysFinal RX6 RX6 "keptSights" "[I" ∈ xU := xr4 (List.mem_of_getElem? (i := 76) rfl) rfl
theorem uw_4_78 : Cond.lays RX6 RX6 "hash" "J" ∈ xU := xr4 (List.mem_of_getElem? (i := 78) rfl) rfl
theorem uw_4_81 : Cond.methodLink RL 17 yX6_letter ∈ xU := xr4 (List.mem_of_getElem? (i := 81) rfl) rfl
theorem uw_4_82 : Cond.instanceMethod yX6_letter ∈ xU := xr4 (List.mem_of_getElem? (i := 82) rfl) rfl
theorem uw_4_83 : Cond.selects RX6 yX6_letter yX6_letter ∈ xU := xr4 (List.mem_of_getElem? (i := 83) rfl) rfl
theorem uw_4_84 : Cond.code yX6_letter prog_8_method_4_code 2 (some FieldType.int) ∈ xU := xr4 (List.mem_of_getElem? (i := 84) rfl) rfl
theorem uw_4_85 : Cond.constantLong RX6 47 (126) ∈ xU := xr4 (List.mem_of_getElem? (i := 85) rfl) rfl
theorem uw_4_86 : Cond.methodLink RX6 49 yX6_in ∈ xU := xr4 (List.mem_of_getElem? (i := 86) rfl) rfl
theorem uw_4_87 : Cond.static yX6_in ∈ xU := xr4 (List.mem_of_getElem? (i := 87) rfl) rfl
theorem uw_4_88 : Cond.code yX6_in prog_8_method_2_code 6 (some FieldType.boolean) ∈ xU := xr4 (List.mem_of_getElem? (i := 88) rfl) rfl
theorem uw_4_89 : Cond.methodLink RL 22 yX6_blank ∈ xU := xr4 (List.mem_of_getElem? (i := 89) rfl) rfl
theorem uw_4_90 : Cond.instanceMethod yX6_blank ∈ xU := xr4 (List.mem_of_getElem? (i := 90) rfl) rfl
theorem uw_4_91 : Cond.selects RX6 yX6_blank yX6_blank ∈ xU := xr4 (List.mem_of_getElem? (i := 91) rfl) rfl
theorem uw_4_92 : Cond.code yX6_blank prog_8_method_5_code 2 (some FieldType.int) ∈ xU := xr4 (List.mem_of_getElem? (i := 92) rfl) rfl
theorem uw_4_93 : Cond.methodLink RL 26 yX6_fault ∈ xU := xr4 (List.mem_of_getElem? (i := 93) rfl) rfl
theorem uw_4_94 : Cond.instanceMethod yX6_fault ∈ xU := xr4 (List.mem_of_getElem? (i := 94) rfl) rfl
theorem uw_4_95 : Cond.selects RX6 yX6_fault yX6_fault ∈ xU := xr4 (List.mem_of_getElem? (i := 95) rfl) rfl
theorem uw_4_96 : Cond.code yX6_fault prog_8_method_10_code 1 (some FieldType.int) ∈ xU := xr4 (List.mem_of_getElem? (i := 96) rfl) rfl
theorem uw_4_97 : Cond.methodLink RX6 70 yX6_faultOf ∈ xU := xr4 (List.mem_of_getElem? (i := 97) rfl) rfl
theorem uw_4_99 : Cond.instanceMethod yX6_faultOf ∈ xU := xr4 (List.mem_of_getElem? (i := 99) rfl) rfl
theorem uw_4_100 : Cond.code yX6_faultOf prog_8_method_9_code 2 (some FieldType.int) ∈ xU := xr4 (List.mem_of_getElem? (i := 100) rfl) rfl
theorem uw_4_101 : Cond.methodLink RX6 66 yX6_isGood ∈ xU := xr4 (List.mem_of_getElem? (i := 101) rfl) rfl
theorem uw_4_103 : Cond.instanceMethod yX6_isGood ∈ xU := xr4 (List.mem_of_getElem? (i := 103) rfl) rfl
theorem uw_4_104 : Cond.code yX6_isGood prog_8_method_8_code 4 (some FieldType.boolean) ∈ xU := xr4 (List.mem_of_getElem? (i := 104) rfl) rfl
theorem uw_4_105 : Cond.methodLink RX6 59 yX6_mostOf ∈ xU := xr4 (List.mem_of_getElem? (i := 105) rfl) rfl
theorem uw_4_106 : Cond.static yX6_mostOf ∈ xU := xr4 (List.mem_of_getElem? (i := 106) rfl) rfl
theorem uw_4_107 : Cond.code yX6_mostOf prog_8_method_7_code 1 (some FieldType.int) ∈ xU := xr4 (List.mem_of_getElem? (i := 107) rfl) rfl
theorem uw_4_108 : Cond.methodLink RX6 63 yX6_kindBy ∈ xU := xr4 (List.mem_of_getElem? (i := 108) rfl) rfl
theorem uw_4_109 : Cond.static yX6_kindBy ∈ xU := xr4 (List.mem_of_getElem? (i := 109) rfl) rfl
theorem uw_4_110 : Cond.code yX6_kindBy prog_8_method_6_code 1 (some FieldType.int) ∈ xU := xr4 (List.mem_of_getElem? (i := 110) rfl) rfl
theorem uw_4_111 : Cond.methodLink RL 30 yX6_tent ∈ xU := xr4 (List.mem_of_getElem? (i := 111) rfl) rfl
theorem uw_4_112 : Cond.instanceMethod yX6_tent ∈ xU := xr4 (List.mem_of_getElem? (i := 112) rfl) rfl
theorem uw_4_113 : Cond.selects RX6 yX6_tent yX6_tent ∈ xU := xr4 (List.mem_of_getElem? (i := 113) rfl) rfl
theorem uw_4_114 : Cond.code yX6_tent prog_8_method_11_code 4 (some FieldType.int) ∈ xU := xr4 (List.mem_of_getElem? (i := 114) rfl) rfl
theorem uw_4_115 : Cond.methodLink RL 35 yX6_thing ∈ xU := xr4 (List.mem_of_getElem? (i := 115) rfl) rfl
theorem uw_4_116 : Cond.instanceMethod yX6_thing ∈ xU := xr4 (List.mem_of_getElem? (i := 116) rfl) rfl
theorem uw_4_117 : Cond.selects RX6 yX6_thing yX6_thing ∈ xU := xr4 (List.mem_of_getElem? (i := 117) rfl) rfl
theorem uw_4_118 : Cond.code yX6_thing prog_8_method_23_code 3 (some FieldType.int) ∈ xU := xr4 (List.mem_of_getElem? (i := 118) rfl) rfl
theorem uw_4_119 : Cond.methodLink RX6 119 yX6_isThing ∈ xU := xr4 (List.mem_of_getElem? (i := 119) rfl) rfl
theorem uw_4_121 : Cond.instanceMethod yX6_isThing ∈ xU := xr4 (List.mem_of_getElem? (i := 121) rfl) rfl
theorem uw_4_122 : Cond.code yX6_isThing prog_8_method_13_code 2 (some FieldType.boolean) ∈ xU := xr4 (List.mem_of_getElem? (i := 122) rfl) rfl
theorem uw_4_123 : Cond.methodLink RX6 122 yX6_tellThing ∈ xU := xr4 (List.mem_of_getElem? (i := 123) rfl) rfl
theorem uw_4_125 : Cond.instanceMethod yX6_tellThing ∈ xU := xr4 (List.mem_of_getElem? (i := 125) rfl) rfl
theorem uw_4_126 : Cond.code yX6_tellThing prog_8_method_22_code 3 (some FieldType.int) ∈ xU := xr4 (List.mem_of_getElem? (i := 126) rfl) rfl
theorem uw_4_127 : Cond.methodLink RX6 110 yX6_claimersOf ∈ xU := xr4 (List.mem_of_getElem? (i := 127) rfl) rfl
theorem uw_4_129 : Cond.instanceMethod yX6_claimersOf ∈ xU := xr4 (List.mem_of_getElem? (i := 129) rfl) rfl
theorem uw_4_130 : Cond.code yX6_claimersOf prog_8_method_19_code 4 (some FieldType.int) ∈ xU := xr4 (List.mem_of_getElem? (i := 130) rfl) rfl
theorem uw_4_131 : Cond.methodLink RX6 107 yX6_fits ∈ xU := xr4 (List.mem_of_getElem? (i := 131) rfl) rfl
theorem uw_4_133 : Cond.instanceMethod yX6_fits ∈ xU := xr4 (List.mem_of_getElem? (i := 133) rfl) rfl
theorem uw_4_134 : Cond.code yX6_fits prog_8_method_18_code 3 (some FieldType.boolean) ∈ xU := xr4 (List.mem_of_getElem? (i := 134) rfl) rfl
theorem uw_4_135 : Cond.methodLink RX6 99 yX6_wrongOf ∈ xU := xr4 (List.mem_of_getElem? (i := 135) rfl) rfl
theorem uw_4_137 : Cond.instanceMethod yX6_wrongOf ∈ xU := xr4 (List.mem_of_getElem? (i := 137) rfl) rfl
theorem uw_4_138 : Cond.code yX6_wrongOf prog_8_method_16_code 3 (some FieldType.int) ∈ xU := xr4 (List.mem_of_getElem? (i := 138) rfl) rfl
theorem uw_4_139 : Cond.methodLink RX6 95 yX6_wrongIn ∈ xU := xr4 (List.mem_of_getElem? (i := 139) rfl) rfl
theorem uw_4_141 : Cond.instanceMethod yX6_wrongIn ∈ xU := xr4 (List.mem_of_getElem? (i := 141) rfl) rfl
theorem uw_4_142 : Cond.code yX6_wrongIn prog_8_method_15_code 9 (some FieldType.int) ∈ xU := xr4 (List.mem_of_getElem? (i := 142) rfl) rfl
theorem uw_4_143 : Cond.methodLink RX6 103 yX6_fitsBy ∈ xU := xr4 (List.mem_of_getElem? (i := 143) rfl) rfl
theorem uw_4_145 : Cond.instanceMethod yX6_fitsBy ∈ xU := xr4 (List.mem_of_getElem? (i := 145) rfl) rfl
theorem uw_4_146 : Cond.code yX6_fitsBy prog_8_method_17_code 3 (some FieldType.boolean) ∈ xU := xr4 (List.mem_of_getElem? (i := 146) rfl) rfl
theorem uw_4_147 : Cond.methodLink RX6 113 yX6_yearsOf ∈ xU := xr4 (List.mem_of_getElem? (i := 147) rfl) rfl
theorem uw_4_149 : Cond.instanceMethod yX6_yearsOf ∈ xU := xr4 (List.mem_of_getElem? (i := 149) rfl) rfl
theorem uw_4_150 : Cond.code yX6_yearsOf prog_8_method_38_code 8 (some FieldType.int) ∈ xU := xr4 (List.mem_of_getElem? (i := 150) rfl) rfl
theorem uw_4_151 : Cond.methodLink RX6 116 yX6_showOf ∈ xU := xr4 (List.mem_of_getElem? (i := 151) rfl) rfl
theorem uw_4_153 : Cond.instanceMethod yX6_showOf ∈ xU := xr4 (List.mem_of_getElem? (i := 153) rfl) rfl
theorem uw_4_154 : Cond.code yX6_showOf prog_8_method_39_code 9 (some FieldType.int) ∈ xU := xr4 (List.mem_of_getElem? (i := 154) rfl) rfl
theorem uw_4_155 : Cond.methodLink RL 39 yX6_claimer ∈ xU := xr4 (List.mem_of_getElem? (i := 155) rfl) rfl
theorem uw_4_156 : Cond.instanceMethod yX6_claimer ∈ xU := xr4 (List.mem_of_getElem? (i := 156) rfl) rfl
theorem uw_4_157 : Cond.selects RX6 yX6_claimer yX6_claimer ∈ xU := xr4 (List.mem_of_getElem? (i := 157) rfl) rfl
theorem uw_4_158 : Cond.code yX6_claimer prog_8_method_25_code 3 (some FieldType.int) ∈ xU := xr4 (List.mem_of_getElem? (i := 158) rfl) rfl
theorem uw_4_159 : Cond.methodLink RX6 131 yX6_isClaimer ∈ xU := xr4 (List.mem_of_getElem? (i := 159) rfl) rfl
theorem uw_4_161 : Cond.instanceMethod yX6_isClaimer ∈ xU := xr4 (List.mem_of_getElem? (i := 161) rfl) rfl
theorem uw_4_162 : Cond.code yX6_isClaimer prog_8_method_14_code 2 (some FieldType.boolean) ∈ xU := xr4 (List.mem_of_getElem? (i := 162) rfl) rfl
theorem uw_4_163 : Cond.methodLink RX6 134 yX6_tellClaimer ∈ xU := xr4 (List.mem_of_getElem? (i := 163) rfl) rfl
theorem uw_4_165 : Cond.instanceMethod yX6_tellClaimer ∈ xU := xr4 (List.mem_of_getElem? (i := 165) rfl) rfl
theorem uw_4_166 : Cond.code yX6_tellClaimer prog_8_method_24_code 3 (some FieldType.int) ∈ xU := xr4 (List.mem_of_getElem? (i := 166) rfl) rfl
theorem uw_4_167 : Cond.methodLink RX6 125 yX6_thingsOf ∈ xU := xr4 (List.mem_of_getElem? (i := 167) rfl) rfl
theorem uw_4_169 : Cond.instanceMethod yX6_thingsOf ∈ xU := xr4 (List.mem_of_getElem? (i := 169) rfl) rfl
theorem uw_4_170 : Cond.code yX6_thingsOf prog_8_method_20_code 4 (some FieldType.int) ∈ xU := xr4 (List.mem_of_getElem? (i := 170) rfl) rfl
theorem uw_4_171 : Cond.methodLink RX6 128 yX6_signOf ∈ xU := xr4 (List.mem_of_getElem? (i := 171) rfl) rfl
theorem uw_4_173 : Cond.instanceMethod yX6_signOf ∈ xU := xr4 (List.mem_of_getElem? (i := 173) rfl) rfl
theorem uw_4_174 : Cond.code yX6_signOf prog_8_method_21_code 8 (some FieldType.int) ∈ xU := xr4 (List.mem_of_getElem? (i := 174) rfl) rfl
theorem uw_4_175 : Cond.methodLink RL 43 yX6_as ∈ xU := xr4 (List.mem_of_getElem? (i := 175) rfl) rfl
theorem uw_4_176 : Cond.instanceMethod yX6_as ∈ xU := xr4 (List.mem_of_getElem? (i := 176) rfl) rfl
theorem uw_4_177 : Cond.selects RX6 yX6_as yX6_as ∈ xU := xr4 (List.mem_of_getElem? (i := 177) rfl) rfl
theorem uw_4_178 : Cond.code yX6_as prog_8_method_26_code 5 (some FieldType.int) ∈ xU := xr4 (List.mem_of_getElem? (i := 178) rfl) rfl
theorem uw_4_179 : Cond.constantLong RX6 137 (4) ∈ xU := xr4 (List.mem_of_getElem? (i := 179) rfl) rfl
theorem uw_4_180 : Cond.methodLink RL 47 yX6_wrong ∈ xU := xr4 (List.mem_of_getElem? (i := 180) rfl) rfl
theorem uw_4_181 : Cond.instanceMethod yX6_wrong ∈ xU := xr4 (List.mem_of_getElem? (i := 181) rfl) rfl
theorem uw_4_182 : Cond.selects RX6 yX6_wrong yX6_wrong ∈ xU := xr4 (List.mem_of_getElem? (i := 182) rfl) rfl
theorem uw_4_183 : Cond.code yX6_wrong prog_8_method_27_code 3 (some FieldType.int) ∈ xU := xr4 (List.mem_of_getElem? (i := 183) rfl) rfl
theorem uw_4_184 : Cond.methodLink RL 51 yX6_give ∈ xU := xr4 (List.mem_of_getElem? (i := 184) rfl) rfl
theorem uw_4_185 : Cond.instanceMethod yX6_give ∈ xU := xr4 (List.mem_of_getElem? (i := 185) rfl) rfl
theorem uw_4_186 : Cond.selects RX6 yX6_give yX6_give ∈ xU := xr4 (List.mem_of_getElem? (i := 186) rfl) rfl
theorem uw_4_187 : Cond.code yX6_give prog_8_method_28_code 3 (some FieldType.int) ∈ xU := xr4 (List.mem_of_getElem? (i := 187) rfl) rfl
theorem uw_4_188 : Cond.methodLink RL 55 yX6_back ∈ xU := xr4 (List.mem_of_getElem? (i := 188) rfl) rfl
theorem uw_4_189 : Cond.instanceMethod yX6_back ∈ xU := xr4 (List.mem_of_getElem? (i := 189) rfl) rfl
theorem uw_4_190 : Cond.selects RX6 yX6_back yX6_back ∈ xU := xr4 (List.mem_of_getElem? (i := 190) rfl) rfl
theorem uw_4_191 : Cond.code yX6_back prog_8_method_29_code 3 (some FieldType.int) ∈ xU := xr4 (List.mem_of_getElem? (i := 191) rfl) rfl
theorem uw_4_192 : Cond.methodLink RL 60 yX6_remember ∈ xU := xr4 (List.mem_of_getElem? (i := 192) rfl) rfl
theorem uw_4_193 : Cond.instanceMethod yX6_remember ∈ xU := xr4 (List.mem_of_getElem? (i := 193) rfl) rfl
theorem uw_4_194 : Cond.selects RX6 yX6_remember yX6_remember ∈ xU := xr4 (List.mem_of_getElem? (i := 194) rfl) rfl
theorem uw_4_195 : Cond.code yX6_remember prog_8_method_30_code 5 (some FieldType.int) ∈ xU := xr4 (List.mem_of_getElem? (i := 195) rfl) rfl
theorem uw_4_196 : Cond.constantLong RX6 139 (2) ∈ xU := xr4 (List.mem_of_getElem? (i := 196) rfl) rfl
theorem uw_4_197 : Cond.methodLink RL 64 yX6_six ∈ xU := xr4 (List.mem_of_getElem? (i := 197) rfl) rfl
theorem uw_4_198 : Cond.instanceMethod yX6_six ∈ xU := xr4 (List.mem_of_getElem? (i := 198) rfl) rfl
theorem uw_4_199 : Cond.selects RX6 yX6_six yX6_six ∈ xU := xr4 (List.mem_of_getElem? (i := 199) rfl) rfl
theorem uw_4_200 : Cond.code yX6_six prog_8_method_32_code 3 (some FieldType.int) ∈ xU := xr4 (List.mem_of_getElem? (i := 200) rfl) rfl
theorem uw_4_201 : Cond.methodLink RX6 141 yX6_lacks ∈ xU := xr4 (List.mem_of_getElem? (i := 201) rfl) rfl
theorem uw_4_203 : Cond.instanceMethod yX6_lacks ∈ xU := xr4 (List.mem_of_getElem? (i := 203) rfl) rfl
theorem uw_4_204 : Cond.code yX6_lacks prog_8_method_12_code 1 (some FieldType.boolean) ∈ xU := xr4 (List.mem_of_getElem? (i := 204) rfl) rfl
theorem uw_4_205 : Cond.methodLink RX6 145 yX6_givenMany ∈ xU := xr4 (List.mem_of_getElem? (i := 205) rfl) rfl
theorem uw_4_207 : Cond.instanceMethod yX6_givenMany ∈ xU := xr4 (List.mem_of_getElem? (i := 207) rfl) rfl
theorem uw_4_208 : Cond.code yX6_givenMany prog_8_method_31_code 3 (some FieldType.int) ∈ xU := xr4 (List.mem_of_getElem? (i := 208) rfl) rfl
theorem uw_4_209 : Cond.methodLink RL 68 yX6_match ∈ xU := xr4 (List.mem_of_getElem? (i := 209) rfl) rfl
theorem uw_4_210 : Cond.instanceMethod yX6_match ∈ xU := xr4 (List.mem_of_getElem? (i := 210) rfl) rfl
theorem uw_4_211 : Cond.selects RX6 yX6_match yX6_match ∈ xU := xr4 (List.mem_of_getElem? (i := 211) rfl) rfl
theorem uw_4_212 : Cond.code yX6_match prog_8_method_35_code 2 (some FieldType.int) ∈ xU := xr4 (List.mem_of_getElem? (i := 212) rfl) rfl
theorem uw_4_213 : Cond.constantLong RX6 155 (10) ∈ xU := xr4 (List.mem_of_getElem? (i := 213) rfl) rfl
theorem uw_4_214 : Cond.constantLong RX6 157 (12) ∈ xU := xr4 (List.mem_of_getElem? (i := 214) rfl) rfl
theorem uw_4_215 : Cond.methodLink RX6 159 yX6_matchOf ∈ xU := xr4 (List.mem_of_getElem? (i := 215) rfl) rfl
theorem uw_4_217 : Cond.instanceMethod yX6_matchOf ∈ xU := xr4 (List.mem_of_getElem? (i := 217) rfl) rfl
theorem uw_4_218 : Cond.code yX6_matchOf prog_8_method_34_code 9 (some FieldType.int) ∈ xU := xr4 (List.mem_of_getElem? (i := 218) rfl) rfl
theorem uw_4_219 : Cond.methodLink RX6 148 yX6_layRow ∈ xU := xr4 (List.mem_of_getElem? (i := 219) rfl) rfl
theorem uw_4_221 : Cond.instanceMethod yX6_layRow ∈ xU := xr4 (List.mem_of_getElem? (i := 221) rfl) rfl
theorem uw_4_222 : Cond.code yX6_layRow prog_8_method_33_code 7 (some FieldType.boolean) ∈ xU := xr4 (List.mem_of_getElem? (i := 222) rfl) rfl
theorem uw_4_223 : Cond.methodLink RX6 151 yX6_copy ∈ xU := xr4 (List.mem_of_getElem? (i := 223) rfl) rfl
theorem uw_4_224 : Cond.static yX6_copy ∈ xU := xr4 (List.mem_of_getElem? (i := 224) rfl) rfl
theorem uw_4_225 : Cond.code yX6_copy prog_8_method_3_code 3 (Option.none : Option Jvm.ClassFile.FieldType) ∈ xU := xr4 (List.mem_of_getElem? (i := 225) rfl) rfl
theorem uw_4_226 : Cond.methodLink RL 73 yX6_see ∈ xU := xr4 (List.mem_of_getElem? (i := 226) rfl) rfl
theorem uw_4_227 : Cond.instanceMethod yX6_see ∈ xU := xr4 (List.mem_of_getElem? (i := 227) rfl) rfl
theorem uw_4_228 : Cond.selects RX6 yX6_see yX6_see ∈ xU := xr4 (List.mem_of_getElem? (i := 228) rfl) rfl
theorem uw_4_229 : Cond.code yX6_see prog_8_method_36_code 4 (some FieldType.int) ∈ xU := xr4 (List.mem_of_getElem? (i := 229) rfl) rfl
theorem uw_4_230 : Cond.methodLink RL 77 yX6_forget ∈ xU := xr4 (List.mem_of_getElem? (i := 230) rfl) rfl
theorem uw_4_231 : Cond.instanceMethod yX6_forget ∈ xU := xr4 (List.mem_of_getElem? (i := 231) rfl) rfl
theorem uw_4_232 : Cond.selects RX6 yX6_forget yX6_forget ∈ xU := xr4 (List.mem_of_getElem? (i := 232) rfl) rfl
theorem uw_4_233 : Cond.code yX6_forget prog_8_method_37_code 2 (some FieldType.int) ∈ xU := xr4 (List.mem_of_getElem? (i := 233) rfl) rfl
theorem uw_4_234 : Cond.methodLink RL 81 yX6_mondays ∈ xU := xr4 (List.mem_of_getElem? (i := 234) rfl) rfl
theorem uw_4_235 : Cond.instanceMethod yX6_mondays ∈ xU := xr4 (List.mem_of_getElem? (i := 235) rfl) rfl
theorem uw_4_236 : Cond.selects RX6 yX6_mondays yX6_mondays ∈ xU := xr4 (List.mem_of_getElem? (i := 236) rfl) rfl
theorem uw_4_237 : Cond.code yX6_mondays prog_8_method_41_code 9 (some FieldType.int) ∈ xU := xr4 (List.mem_of_getElem? (i := 237) rfl) rfl
theorem uw_4_238 : Cond.constantLong RX6 172 (60) ∈ xU := xr4 (List.mem_of_getElem? (i := 238) rfl) rfl
theorem uw_4_239 : Cond.methodLink RX6 174 yX6_draw ∈ xU := xr4 (List.mem_of_getElem? (i := 239) rfl) rfl
theorem uw_5_1 : Cond.instanceMethod yX6_draw ∈ xU := xr5 (List.mem_of_getElem? (i := 1) rfl) rfl
theorem uw_5_2 : Cond.code yX6_draw prog_8_method_40_code 2 (some FieldType.int) ∈ xU := xr5 (List.mem_of_getElem? (i := 2) rfl) rfl
theorem uw_5_3 : Cond.constantLong RX6 162 (1103515245) ∈ xU := xr5 (List.mem_of_getElem? (i := 3) rfl) rfl
theorem uw_5_4 : Cond.constantLong RX6 167 (12345) ∈ xU := xr5 (List.mem_of_getElem? (i := 4) rfl) rfl
theorem uw_5_5 : Cond.constantLong RX6 169 (2147483647) ∈ xU := xr5 (List.mem_of_getElem? (i := 5) rfl) rfl
theorem uw_5_6 : Cond.constant RX6 171 (65536) ∈ xU := xr5 (List.mem_of_getElem? (i := 6) rfl) rfl
theorem uw_5_7 : Cond.methodLink RL 85 yX6_image ∈ xU := xr5 (List.mem_of_getElem? (i := 7) rfl) rfl
theorem uw_5_8 : Cond.instanceMethod yX6_image ∈ xU := xr5 (List.mem_of_getElem? (i := 8) rfl) rfl
theorem uw_5_9 : Cond.selects RX6 yX6_image yX6_image ∈ xU := xr5 (List.mem_of_getElem? (i := 9) rfl) rfl
theorem uw_5_10 : Cond.code yX6_image prog_8_method_42_code 1 (some FieldType.int) ∈ xU := xr5 (List.mem_of_getElem? (i := 10) rfl) rfl
theorem uw_5_11 : Cond.methodLink RL 89 yX6_restore ∈ xU := xr5 (List.mem_of_getElem? (i := 11) rfl) rfl
theorem uw_5_12 : Cond.instanceMethod yX6_restore ∈ xU := xr5 (List.mem_of_getElem? (i := 12) rfl) rfl
theorem uw_5_13 : Cond.selects RX6 yX6_restore yX6_restore ∈ xU := xr5 (List.mem_of_getElem? (i := 13) rfl) rfl
theorem uw_5_14 : Cond.code yX6_restore prog_8_method_43_code 1 (some FieldType.int) ∈ xU := xr5 (List.mem_of_getElem? (i := 14) rfl) rfl
theorem uw_5_15 : Cond.methodLink RL 93 yX6_count ∈ xU := xr5 (List.mem_of_getElem? (i := 15) rfl) rfl
theorem uw_5_16 : Cond.instanceMethod yX6_count ∈ xU := xr5 (List.mem_of_getElem? (i := 16) rfl) rfl
theorem uw_5_17 : Cond.selects RX6 yX6_count yX6_count ∈ xU := xr5 (List.mem_of_getElem? (i := 17) rfl) rfl
theorem uw_5_18 : Cond.code yX6_count prog_8_method_47_code 2 (some FieldType.int) ∈ xU := xr5 (List.mem_of_getElem? (i := 18) rfl) rfl
theorem uw_5_19 : Cond.methodLink RX6 195 yX6_countOf ∈ xU := xr5 (List.mem_of_getElem? (i := 19) rfl) rfl
theorem uw_5_21 : Cond.instanceMethod yX6_countOf ∈ xU := xr5 (List.mem_of_getElem? (i := 21) rfl) rfl
theorem uw_5_22 : Cond.code yX6_countOf prog_8_method_46_code 2 (some FieldType.int) ∈ xU := xr5 (List.mem_of_getElem? (i := 22) rfl) rfl
theorem uw_5_23 : Cond.methodLink RX6 189 yX6_givenFit ∈ xU := xr5 (List.mem_of_getElem? (i := 23) rfl) rfl
theorem uw_5_25 : Cond.instanceMethod yX6_givenFit ∈ xU := xr5 (List.mem_of_getElem? (i := 25) rfl) rfl
theorem uw_5_26 : Cond.code yX6_givenFit prog_8_method_44_code 3 (some FieldType.int) ∈ xU := xr5 (List.mem_of_getElem? (i := 26) rfl) rfl
theorem uw_5_27 : Cond.methodLink RX6 192 yX6_givenWrong ∈ xU := xr5 (List.mem_of_getElem? (i := 27) rfl) rfl
theorem uw_5_29 : Cond.instanceMethod yX6_givenWrong ∈ xU := xr5 (List.mem_of_getElem? (i := 29) rfl) rfl
theorem uw_5_30 : Cond.code yX6_givenWrong prog_8_method_45_code 3 (some FieldType.int) ∈ xU := xr5 (List.mem_of_getElem? (i := 30) rfl) rfl
theorem uw_5_31 : Cond.methodLink RL 98 yX6_digest ∈ xU := xr5 (List.mem_of_getElem? (i := 31) rfl) rfl
theorem uw_5_32 : Cond.instanceMethod yX6_digest ∈ xU := xr5 (List.mem_of_getElem? (i := 32) rfl) rfl
theorem uw_5_33 : Cond.selects RX6 yX6_digest yX6_digest ∈ xU := xr5 (List.mem_of_getElem? (i := 33) rfl) rfl
theorem uw_5_34 : Cond.code yX6_digest prog_8_method_49_code 3 (some FieldType.long) ∈ xU := xr5 (List.mem_of_getElem? (i := 34) rfl) rfl
theorem uw_5_35 : Cond.constantLong RX6 204 (1087) ∈ xU := xr5 (List.mem_of_getElem? (i := 35) rfl) rfl
theorem uw_5_36 : Cond.methodLink RX6 206 yX6_say ∈ xU := xr5 (List.mem_of_getElem? (i := 36) rfl) rfl
theorem uw_5_38 : Cond.instanceMethod yX6_say ∈ xU := xr5 (List.mem_of_getElem? (i := 38) rfl) rfl
theorem uw_5_39 : Cond.code yX6_say prog_8_method_48_code 3 (Option.none : Option Jvm.ClassFile.FieldType) ∈ xU := xr5 (List.mem_of_getElem? (i := 39) rfl) rfl
theorem uw_5_40 : Cond.constantLong RX6 198 (31) ∈ xU := xr5 (List.mem_of_getElem? (i := 40) rfl) rfl
theorem uw_5_41 : Cond.fieldLink RJ0 15 RJ0 "coder" "B" ∈ xU := xr5 (List.mem_of_getElem? (i := 41) rfl) rfl
theorem uw_5_42 : Cond.fieldLink RJ0 9 RJ0 "value" "[B" ∈ xU := xr5 (List.mem_of_getElem? (i := 42) rfl) rfl
theorem us_0 : Cond.selects RX2 yX2_takeAllBack yX2_takeAllBack ∈ xU := xr0 (q := (⟨"LostTent$Register", "takeAllBack", "()V"⟩, 9)) (List.mem_append_left _ (List.mem_of_getElem? (i := 0) rfl))
theorem us_1 : Cond.selects RX1 yX1_firstClaimer yX1_firstClaimer ∈ xU := xr0 (q := (⟨"LostTent$Page", "firstClaimer", "()I"⟩, 2)) (List.mem_append_left _ (List.mem_of_getElem? (i := 1) rfl))
theorem us_2 : Cond.selects RX3 yX3_wrongIfLostIn yX3_wrongIfLostIn ∈ xU := xr0 (q := (⟨"LostTent$Tent", "wrongIfLostIn", "(III)I"⟩, 7)) (List.mem_append_left _ (List.mem_of_getElem? (i := 2) rfl))
theorem us_3 : Cond.selects RX3 yX3_yearsFitting yX3_yearsFitting ∈ xU := xr0 (q := (⟨"LostTent$Tent", "yearsFitting", "(II)I"⟩, 7)) (List.mem_append_left _ (List.mem_of_getElem? (i := 3) rfl))
theorem us_4 : Cond.selects RX3 yX3_mostAlike yX3_mostAlike ∈ xU := xr0 (q := (⟨"LostTent$Tent", "mostAlike", "(II)I"⟩, 7)) (List.mem_append_left _ (List.mem_of_getElem? (i := 4) rfl))
theorem us_5 : Cond.selects RX3 yX3_howManyAlike yX3_howManyAlike ∈ xU := xr0 (q := (⟨"LostTent$Tent", "howManyAlike", "(III)I"⟩, 7)) (List.mem_append_left _ (List.mem_of_getElem? (i := 5) rfl))
theorem us_6 : Cond.selects RX0 yX0_setPrices yX0_setPrices ∈ xU := xr0 (q := (⟨"LostTent$Matching", "setPrices", "(LLostTent$Tent;)V"⟩, 5)) (List.mem_append_left _ (List.mem_of_getElem? (i := 6) rfl))
theorem us_7 : Cond.selects RX0 yX0_may yX0_may ∈ xU := xr0 (q := (⟨"LostTent$Matching", "may", "(II)Z"⟩, 5)) (List.mem_append_left _ (List.mem_of_getElem? (i := 7) rfl))
theorem us_8 : Cond.selects RX0 yX0_price yX0_price ∈ xU := xr0 (q := (⟨"LostTent$Matching", "price", "(II)I"⟩, 5)) (List.mem_append_left _ (List.mem_of_getElem? (i := 8) rfl))
theorem us_9 : Cond.selects RX0 yX0_keepIfBetter yX0_keepIfBetter ∈ xU := xr0 (q := (⟨"LostTent$Matching", "keepIfBetter", "(III)V"⟩, 5)) (List.mem_append_left _ (List.mem_of_getElem? (i := 9) rfl))
theorem us_10 : Cond.selects RX0 yX0_priceIfGiven yX0_priceIfGiven ∈ xU := xr0 (q := (⟨"LostTent$Matching", "priceIfGiven", "(II)I"⟩, 5)) (List.mem_append_left _ (List.mem_of_getElem? (i := 10) rfl))
theorem us_11 : Cond.selects RX4 yX4_draw yX4_draw ∈ xU := xr0 (q := (⟨"LostTent$Visits", "draw", "(I)I"⟩, 3)) (List.mem_append_left _ (List.mem_of_getElem? (i := 11) rfl))
theorem us_12 : Cond.selects RX4 yX4_addIfFit yX4_addIfFit ∈ xU := xr0 (q := (⟨"LostTent$Visits", "addIfFit", "(II)V"⟩, 3)) (List.mem_append_left _ (List.mem_of_getElem? (i := 12) rfl))
theorem us_13 : Cond.selects RX6 yX6_faultOf yX6_faultOf ∈ xU := xr0 (q := (⟨"LostTentModel", "faultOf", "()I"⟩, 27)) (List.mem_append_left _ (List.mem_of_getElem? (i := 13) rfl))
theorem us_14 : Cond.selects RX6 yX6_isGood yX6_isGood ∈ xU := xr0 (q := (⟨"LostTentModel", "isGood", "(I)Z"⟩, 27)) (List.mem_append_left _ (List.mem_of_getElem? (i := 14) rfl))
theorem us_15 : Cond.selects RX6 yX6_isThing yX6_isThing ∈ xU := xr0 (q := (⟨"LostTentModel", "isThing", "(I)Z"⟩, 27)) (List.mem_append_left _ (List.mem_of_getElem? (i := 15) rfl))
theorem us_16 : Cond.selects RX6 yX6_tellThing yX6_tellThing ∈ xU := xr0 (q := (⟨"LostTentModel", "tellThing", "(II)I"⟩, 27)) (List.mem_append_right _ (List.mem_append_left _ (List.mem_of_getElem? (i := 0) rfl)))
theorem us_17 : Cond.selects RX6 yX6_claimersOf yX6_claimersOf ∈ xU := xr0 (q := (⟨"LostTentModel", "claimersOf", "(I)I"⟩, 27)) (List.mem_append_right _ (List.mem_append_left _ (List.mem_of_getElem? (i := 1) rfl)))
theorem us_18 : Cond.selects RX6 yX6_fits yX6_fits ∈ xU := xr0 (q := (⟨"LostTentModel", "fits", "(II)Z"⟩, 27)) (List.mem_append_right _ (List.mem_append_left _ (List.mem_of_getElem? (i := 2) rfl)))
theorem us_19 : Cond.selects RX6 yX6_wrongOf yX6_wrongOf ∈ xU := xr0 (q := (⟨"LostTentModel", "wrongOf", "(II)I"⟩, 27)) (List.mem_append_right _ (List.mem_append_left _ (List.mem_of_getElem? (i := 3) rfl)))
theorem us_20 : Cond.selects RX6 yX6_wrongIn yX6_wrongIn ∈ xU := xr0 (q := (⟨"LostTentModel", "wrongIn", "(III)I"⟩, 27)) (List.mem_append_right _ (List.mem_append_left _ (List.mem_of_getElem? (i := 4) rfl)))
theorem us_21 : Cond.selects RX6 yX6_fitsBy yX6_fitsBy ∈ xU := xr0 (q := (⟨"LostTentModel", "fitsBy", "(II)Z"⟩, 27)) (List.mem_append_right _ (List.mem_append_left _ (List.mem_of_getElem? (i := 5) rfl)))
theorem us_22 : Cond.selects RX6 yX6_yearsOf yX6_yearsOf ∈ xU := xr0 (q := (⟨"LostTentModel", "yearsOf", "(I)I"⟩, 27)) (List.mem_append_right _ (List.mem_append_left _ (List.mem_of_getElem? (i := 6) rfl)))
theorem us_23 : Cond.selects RX6 yX6_showOf yX6_showOf ∈ xU := xr0 (q := (⟨"LostTentModel", "showOf", "(I)I"⟩, 27)) (List.mem_append_right _ (List.mem_append_left _ (List.mem_of_getElem? (i := 7) rfl)))
theorem us_24 : Cond.selects RX6 yX6_isClaimer yX6_isClaimer ∈ xU := xr0 (q := (⟨"LostTentModel", "isClaimer", "(I)Z"⟩, 27)) (List.mem_append_right _ (List.mem_append_left _ (List.mem_of_getElem? (i := 8) rfl)))
theorem us_25 : Cond.selects RX6 yX6_tellClaimer yX6_tellClaimer ∈ xU := xr0 (q := (⟨"LostTentModel", "tellClaimer", "(II)I"⟩, 27)) (List.mem_append_right _ (List.mem_append_left _ (List.mem_of_getElem? (i := 9) rfl)))
theorem us_26 : Cond.selects RX6 yX6_thingsOf yX6_thingsOf ∈ xU := xr0 (q := (⟨"LostTentModel", "thingsOf", "(I)I"⟩, 27)) (List.mem_append_right _ (List.mem_append_left _ (List.mem_of_getElem? (i := 10) rfl)))
theorem us_27 : Cond.selects RX6 yX6_signOf yX6_signOf ∈ xU := xr0 (q := (⟨"LostTentModel", "signOf", "(I)I"⟩, 27)) (List.mem_append_right _ (List.mem_append_left _ (List.mem_of_getElem? (i := 11) rfl)))
theorem us_28 : Cond.selects RX6 yX6_lacks yX6_lacks ∈ xU := xr0 (q := (⟨"LostTentModel", "lacks", "()Z"⟩, 27)) (List.mem_append_right _ (List.mem_append_left _ (List.mem_of_getElem? (i := 12) rfl)))
theorem us_29 : Cond.selects RX6 yX6_givenMany yX6_givenMany ∈ xU := xr0 (q := (⟨"LostTentModel", "givenMany", "()I"⟩, 27)) (List.mem_append_right _ (List.mem_append_left _ (List.mem_of_getElem? (i := 13) rfl)))
theorem us_30 : Cond.selects RX6 yX6_matchOf yX6_matchOf ∈ xU := xr0 (q := (⟨"LostTentModel", "matchOf", "(I)I"⟩, 27)) (List.mem_append_right _ (List.mem_append_left _ (List.mem_of_getElem? (i := 14) rfl)))
theorem us_31 : Cond.selects RX6 yX6_layRow yX6_layRow ∈ xU := xr0 (q := (⟨"LostTentModel", "layRow", "(I)Z"⟩, 27)) (List.mem_append_right _ (List.mem_append_left _ (List.mem_of_getElem? (i := 15) rfl)))
theorem us_32 : Cond.selects RX6 yX6_draw yX6_draw ∈ xU := xr0 (q := (⟨"LostTentModel", "draw", "(I)I"⟩, 27)) (List.mem_append_right _ (List.mem_append_right _ (List.mem_of_getElem? (i := 0) rfl)))
theorem us_33 : Cond.selects RX6 yX6_countOf yX6_countOf ∈ xU := xr0 (q := (⟨"LostTentModel", "countOf", "(I)I"⟩, 27)) (List.mem_append_right _ (List.mem_append_right _ (List.mem_of_getElem? (i := 1) rfl)))
theorem us_34 : Cond.selects RX6 yX6_givenFit yX6_givenFit ∈ xU := xr0 (q := (⟨"LostTentModel", "givenFit", "()I"⟩, 27)) (List.mem_append_right _ (List.mem_append_right _ (List.mem_of_getElem? (i := 2) rfl)))
theorem us_35 : Cond.selects RX6 yX6_givenWrong yX6_givenWrong ∈ xU := xr0 (q := (⟨"LostTentModel", "givenWrong", "()I"⟩, 27)) (List.mem_append_right _ (List.mem_append_right _ (List.mem_of_getElem? (i := 3) rfl)))
theorem us_36 : Cond.selects RX6 yX6_say yX6_say ∈ xU := xr0 (q := (⟨"LostTentModel", "say", "(J)V"⟩, 27)) (List.mem_append_right _ (List.mem_append_right _ (List.mem_of_getElem? (i := 4) rfl)))
theorem xr_ws {C : String} {T : u_T} {N : Nat} (h : ∀ k, k < N → u_lay C T k ∈ xU) : ∀ w ∈ u_ws C T N, w ∈ xU := fun w hw => by
  obtain ⟨k, hk, rfl⟩ := List.mem_map.mp hw
  exact h k (List.mem_range.mp hk)
theorem inU0 : ∀ w ∈ u_ws RX0 TX0 5, w ∈ xU := xr_ws fun k hk => match k, hk with
  | 0, _ => uw_1_121
  | 1, _ => uw_1_123
  | 2, _ => uw_1_125
  | 3, _ => uw_1_127
  | 4, _ => uw_1_129
  | k + 5, hk => absurd hk (by omega)
theorem inU1 : ∀ w ∈ u_ws RX1 TX1 2, w ∈ xU := xr_ws fun k hk => match k, hk with
  | 0, _ => uw_1_31
  | 1, _ => uw_1_33
  | k + 2, hk => absurd hk (by omega)
theorem inU2 : ∀ w ∈ u_ws RX2 TX2 9, w ∈ xU := xr_ws fun k hk => match k, hk with
  | 0, _ => uw_1_69
  | 1, _ => uw_1_71
  | 2, _ => uw_1_73
  | 3, _ => uw_1_75
  | 4, _ => uw_1_77
  | 5, _ => uw_1_79
  | 6, _ => uw_1_81
  | 7, _ => uw_1_83
  | 8, _ => uw_1_85
  | k + 9, hk => absurd hk (by omega)
theorem inU3 : ∀ w ∈ u_ws RX3 TX3 7, w ∈ xU := xr_ws fun k hk => match k, hk with
  | 0, _ => uw_1_95
  | 1, _ => uw_1_97
  | 2, _ => uw_1_99
  | 3, _ => uw_1_101
  | 4, _ => uw_1_103
  | 5, _ => uw_1_105
  | 6, _ => uw_1_107
  | k + 7, hk => absurd hk (by omega)
theorem inU4 : ∀ w ∈ u_ws RX4 TX4 3, w ∈ xU := xr_ws fun k hk => match k, hk with
  | 0, _ => uw_1_141
  | 1, _ => uw_1_143
  | 2, _ => uw_1_145
  | k + 3, hk => absurd hk (by omega)
theorem inU5 : ∀ w ∈ u_ws RX5 TX5 5, w ∈ xU := xr_ws fun k hk => match k, hk with
  | 0, _ => uw_1_153
  | 1, _ => uw_1_155
  | 2, _ => uw_1_157
  | 3, _ => uw_1_159
  | 4, _ => uw_1_161
  | k + 5, hk => absurd hk (by omega)
theorem inU6 : ∀ w ∈ u_ws RX6 TX6 27, w ∈ xU := xr_ws fun k hk => match k, hk with
  | 0, _ => uw_4_26
  | 1, _ => uw_4_28
  | 2, _ => uw_4_30
  | 3, _ => uw_4_32
  | 4, _ => uw_4_34
  | 5, _ => uw_4_36
  | 6, _ => uw_4_38
  | 7, _ => uw_4_40
  | 8, _ => uw_4_42
  | 9, _ => uw_4_44
  | 10, _ => uw_4_46
  | 11, _ => uw_4_48
  | 12, _ => uw_4_50
  | 13, _ => uw_4_52
  | 14, _ => uw_4_54
  | 15, _ => uw_4_56
  | 16, _ => uw_4_58
  | 17, _ => uw_4_60
  | 18, _ => uw_4_62
  | 19, _ => uw_4_64
  | 20, _ => uw_4_66
  | 21, _ => uw_4_68
  | 22, _ => uw_4_70
  | 23, _ => uw_4_72
  | 24, _ => uw_4_74
  | 25, _ => uw_4_76
  | 26, _ => uw_4_78
  | k + 27, hk => absurd hk (by omega)
