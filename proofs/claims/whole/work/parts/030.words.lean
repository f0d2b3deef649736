def lw_g : List Cond := lw_tbl.filter goodWord
theorem wd_t {w : Cond} (h : w ∈ tables_1) (g : goodWord w = true) : w ∈ lw_g := List.mem_filter.mpr ⟨List.mem_append_right _ h, g⟩
theorem wd_t1 {w : Cond} (h : w ∈ tables_1_1) (g : goodWord w = true) : w ∈ lw_g := wd_t (List.mem_append_left _ h) g
theorem wd_t2 {w : Cond} (h : w ∈ tables_1_2) (g : goodWord w = true) : w ∈ lw_g := wd_t (List.mem_append_right _ (List.mem_append_left _ h)) g
theorem wd_t3 {w : Cond} (h : w ∈ tables_1_3) (g : goodWord w = true) : w ∈ lw_g := wd_t (List.mem_append_right _ (List.mem_append_right _ (List.mem_append_left _ h))) g
theorem wd_t4 {w : Cond} (h : w ∈ tables_1_4) (g : goodWord w = true) : w ∈ lw_g := wd_t (List.mem_append_right _ (List.mem_append_right _ (List.mem_append_right _ (List.mem_append_left _ h)))) g
theorem wd_t5 {w : Cond} (h : w ∈ tables_1_5) (g : goodWord w = true) : w ∈ lw_g := wd_t (List.mem_append_right _ (List.mem_append_right _ (List.mem_append_right _ (List.mem_append_right _ h)))) g
theorem wd_1_0 : Cond.initialized RL ∈ lw_g := wd_t1 (List.mem_of_getElem? (i := 0) rfl) rfl
theorem wd_1_1 : Cond.initialized RX9 ∈ lw_g := wd_t1 (List.mem_of_getElem? (i := 1) rfl) rfl
theorem wd_1_2 : Cond.initialized RX7 ∈ lw_g := wd_t1 (List.mem_of_getElem? (i := 2) rfl) rfl
theorem wd_1_3 : Cond.initialized RX2 ∈ lw_g := wd_t1 (List.mem_of_getElem? (i := 3) rfl) rfl
theorem wd_1_4 : Cond.initialized RJ7 ∈ lw_g := wd_t1 (List.mem_of_getElem? (i := 4) rfl) rfl
theorem wd_1_5 : Cond.initialized RX3 ∈ lw_g := wd_t1 (List.mem_of_getElem? (i := 5) rfl) rfl
theorem wd_1_6 : Cond.initialized RJ9 ∈ lw_g := wd_t1 (List.mem_of_getElem? (i := 6) rfl) rfl
theorem wd_1_7 : Cond.initialized RX6 ∈ lw_g := wd_t1 (List.mem_of_getElem? (i := 7) rfl) rfl
theorem wd_1_8 : Cond.initialized RX1 ∈ lw_g := wd_t1 (List.mem_of_getElem? (i := 8) rfl) rfl
theorem wd_1_9 : Cond.initialized RX5 ∈ lw_g := wd_t1 (List.mem_of_getElem? (i := 9) rfl) rfl
theorem wd_1_10 : Cond.initialized RX0 ∈ lw_g := wd_t1 (List.mem_of_getElem? (i := 10) rfl) rfl
theorem wd_1_11 : Cond.initialized RX8 ∈ lw_g := wd_t1 (List.mem_of_getElem? (i := 11) rfl) rfl
theorem wd_1_12 : Cond.initialized RX4 ∈ lw_g := wd_t1 (List.mem_of_getElem? (i := 12) rfl) rfl
theorem wd_1_13 : Cond.initialized RX10 ∈ lw_g := wd_t1 (List.mem_of_getElem? (i := 13) rfl) rfl
theorem wd_1_14 : Cond.initialized RJ10 ∈ lw_g := wd_t1 (List.mem_of_getElem? (i := 14) rfl) rfl
theorem wd_1_15 : Cond.classLink RL 7 RX9 ∈ lw_g := wd_t1 (List.mem_of_getElem? (i := 15) rfl) rfl
theorem wd_1_16 : Cond.instantiable RX9 13 ∈ lw_g := wd_t1 (List.mem_of_getElem? (i := 16) rfl) rfl
theorem wd_1_17 : Cond.methodLink RL 9 yX9_init ∈ lw_g := wd_t1 (List.mem_of_getElem? (i := 17) rfl) rfl
theorem wd_1_18 : Cond.instanceMethod yX9_init ∈ lw_g := wd_t1 (List.mem_of_getElem? (i := 18) rfl) rfl
theorem wd_1_19 : Cond.code yX9_init cX9_init 1 none ∈ lw_g := wd_t1 (List.mem_of_getElem? (i := 19) rfl) rfl
theorem wd_1_20 : Cond.methodLink RX9 1 objectInit ∈ lw_g := wd_t1 (List.mem_of_getElem? (i := 20) rfl) rfl
theorem wd_1_21 : Cond.instanceMethod objectInit ∈ lw_g := wd_t1 (List.mem_of_getElem? (i := 21) rfl) rfl
theorem wd_1_22 : Cond.code objectInit ⟨#[0xb1]⟩ 1 none ∈ lw_g := wd_t1 (List.mem_of_getElem? (i := 22) rfl) rfl
theorem wd_1_23 : Cond.classLink RX9 7 RX7 ∈ lw_g := wd_t1 (List.mem_of_getElem? (i := 23) rfl) rfl
theorem wd_1_24 : Cond.instantiable RX7 3 ∈ lw_g := wd_t1 (List.mem_of_getElem? (i := 24) rfl) rfl
theorem wd_1_26 : Cond.instanceMethod yX7_init ∈ lw_g := wd_t1 (List.mem_of_getElem? (i := 26) rfl) rfl
theorem wd_1_27 : Cond.code yX7_init cX7_init 1 none ∈ lw_g := wd_t1 (List.mem_of_getElem? (i := 27) rfl) rfl
theorem wd_1_28 : Cond.methodLink RX7 3 objectInit ∈ lw_g := wd_t1 (List.mem_of_getElem? (i := 28) rfl) rfl
theorem wd_1_29 : Cond.fieldLink RX7 9 "BothWould$Text" "bytes" "[I" ∈ lw_g := wd_t1 (List.mem_of_getElem? (i := 29) rfl) rfl
theorem wd_1_30 : Cond.fieldLink RX7 15 "BothWould$Text" "length" "I" ∈ lw_g := wd_t1 (List.mem_of_getElem? (i := 30) rfl) rfl
theorem wd_1_31 : Cond.fieldLink RX9 101 "BothWould$Text" "length" "I" ∈ lw_g := wd_t1 (List.mem_of_getElem? (i := 31) rfl) rfl
theorem wd_1_32 : Cond.fieldLink RX7 19 "BothWould$Text" "numbers" "[I" ∈ lw_g := wd_t1 (List.mem_of_getElem? (i := 32) rfl) rfl
theorem wd_1_40 : Cond.arrayClass .int ∈ lw_g := wd_t1 (List.mem_of_getElem? (i := 40) rfl) rfl
theorem wd_1_41 : Cond.classLink RX9 16 RX2 ∈ lw_g := wd_t1 (List.mem_of_getElem? (i := 41) rfl) rfl
theorem wd_1_42 : Cond.instantiable RX2 7 ∈ lw_g := wd_t1 (List.mem_of_getElem? (i := 42) rfl) rfl
theorem wd_1_43 : Cond.methodLink RX9 18 yX2_init ∈ lw_g := wd_t1 (List.mem_of_getElem? (i := 43) rfl) rfl
theorem wd_1_44 : Cond.instanceMethod yX2_init ∈ lw_g := wd_t1 (List.mem_of_getElem? (i := 44) rfl) rfl
theorem wd_1_45 : Cond.code yX2_init cX2_init 1 none ∈ lw_g := wd_t1 (List.mem_of_getElem? (i := 45) rfl) rfl
theorem wd_1_46 : Cond.methodLink RX2 3 objectInit ∈ lw_g := wd_t1 (List.mem_of_getElem? (i := 46) rfl) rfl
theorem wd_1_47 : Cond.methodLink RX2 35 yX2_clear ∈ lw_g := wd_t1 (List.mem_of_getElem? (i := 47) rfl) rfl
theorem wd_1_48 : Cond.instanceMethod yX2_clear ∈ lw_g := wd_t1 (List.mem_of_getElem? (i := 48) rfl) rfl
theorem wd_1_49 : Cond.selects RX2 yX2_clear yX2_clear ∈ lw_g := wd_t1 (List.mem_of_getElem? (i := 49) rfl) rfl
theorem wd_1_50 : Cond.code yX2_clear cX2_clear 1 none ∈ lw_g := wd_t1 (List.mem_of_getElem? (i := 50) rfl) rfl
theorem wd_1_51 : Cond.methodLink RX2 38 yJ7_fill_53178 ∈ lw_g := wd_t1 (List.mem_of_getElem? (i := 51) rfl) rfl
theorem wd_1_52 : Cond.static yJ7_fill_53178 ∈ lw_g := wd_t1 (List.mem_of_getElem? (i := 52) rfl) rfl
theorem wd_1_53 : Cond.code yJ7_fill_53178 cJ7_fill_53178 4 none ∈ lw_g := wd_t1 (List.mem_of_getElem? (i := 53) rfl) rfl
theorem wd_1_54 : Cond.fieldLink RX2 9 "BothWould$Houses" "persons" "I" ∈ lw_g := wd_t1 (List.mem_of_getElem? (i := 54) rfl) rfl
theorem wd_1_55 : Cond.fieldLink RX9 84 "BothWould$Houses" "persons" "I" ∈ lw_g := wd_t1 (List.mem_of_getElem? (i := 55) rfl) rfl
theorem wd_1_56 : Cond.fieldLink RX1 34 "BothWould$Houses" "persons" "I" ∈ lw_g := wd_t1 (List.mem_of_getElem? (i := 56) rfl) rfl
theorem wd_1_57 : Cond.fieldLink RX2 15 "BothWould$Houses" "ring" "Z" ∈ lw_g := wd_t1 (List.mem_of_getElem? (i := 57) rfl) rfl
theorem wd_1_58 : Cond.fieldLink RX2 19 "BothWould$Houses" "highestTold" "I" ∈ lw_g := wd_t1 (List.mem_of_getElem? (i := 58) rfl) rfl
theorem wd_1_59 : Cond.fieldLink RX2 22 "BothWould$Houses" "bestPlace" "[I" ∈ lw_g := wd_t1 (List.mem_of_getElem? (i := 59) rfl) rfl
theorem wd_1_60 : Cond.fieldLink RX9 120 "BothWould$Houses" "bestPlace" "[I" ∈ lw_g := wd_t1 (List.mem_of_getElem? (i := 60) rfl) rfl
theorem wd_1_61 : Cond.fieldLink RX2 26 "BothWould$Houses" "stepCost" "[I" ∈ lw_g := wd_t1 (List.mem_of_getElem? (i := 61) rfl) rfl
theorem wd_1_62 : Cond.fieldLink RX6 35 "BothWould$Houses" "stepCost" "[I" ∈ lw_g := wd_t1 (List.mem_of_getElem? (i := 62) rfl) rfl
theorem wd_1_63 : Cond.fieldLink RX9 124 "BothWould$Houses" "stepCost" "[I" ∈ lw_g := wd_t1 (List.mem_of_getElem? (i := 63) rfl) rfl
theorem wd_1_64 : Cond.fieldLink RX2 29 "BothWould$Houses" "kind" "[I" ∈ lw_g := wd_t1 (List.mem_of_getElem? (i := 64) rfl) rfl
theorem wd_1_65 : Cond.fieldLink RX6 38 "BothWould$Houses" "kind" "[I" ∈ lw_g := wd_t1 (List.mem_of_getElem? (i := 65) rfl) rfl
theorem wd_1_66 : Cond.fieldLink RX9 127 "BothWould$Houses" "kind" "[I" ∈ lw_g := wd_t1 (List.mem_of_getElem? (i := 66) rfl) rfl
theorem wd_1_67 : Cond.fieldLink RX2 32 "BothWould$Houses" "likings" "[I" ∈ lw_g := wd_t1 (List.mem_of_getElem? (i := 67) rfl) rfl
theorem wd_1_83 : Cond.classLink RX9 26 RX3 ∈ lw_g := wd_t1 (List.mem_of_getElem? (i := 83) rfl) rfl
theorem wd_1_84 : Cond.instantiable RX3 2 ∈ lw_g := wd_t1 (List.mem_of_getElem? (i := 84) rfl) rfl
theorem wd_1_85 : Cond.methodLink RX9 28 yX3_init ∈ lw_g := wd_t1 (List.mem_of_getElem? (i := 85) rfl) rfl
theorem wd_1_86 : Cond.instanceMethod yX3_init ∈ lw_g := wd_t1 (List.mem_of_getElem? (i := 86) rfl) rfl
theorem wd_1_87 : Cond.code yX3_init cX3_init 2 none ∈ lw_g := wd_t1 (List.mem_of_getElem? (i := 87) rfl) rfl
theorem wd_1_88 : Cond.methodLink RX3 1 objectInit ∈ lw_g := wd_t1 (List.mem_of_getElem? (i := 88) rfl) rfl
theorem wd_1_89 : Cond.methodLink RX3 13 Lib.Math.max.name ∈ lw_g := wd_t1 (List.mem_of_getElem? (i := 89) rfl) rfl
theorem wd_1_90 : Cond.static Lib.Math.max.name ∈ lw_g := wd_t1 (List.mem_of_getElem? (i := 90) rfl) rfl
theorem wd_1_91 : Cond.code Lib.Math.max.name Lib.Math.max.code 2 (some .int) ∈ lw_g := wd_t1 (List.mem_of_getElem? (i := 91) rfl) rfl
theorem wd_1_92 : Cond.fieldLink RX3 19 "BothWould$Pile" "numbers" "[I" ∈ lw_g := wd_t1 (List.mem_of_getElem? (i := 92) rfl) rfl
theorem wd_1_93 : Cond.fieldLink RX3 7 "BothWould$Pile" "size" "I" ∈ lw_g := wd_t1 (List.mem_of_getElem? (i := 93) rfl) rfl
theorem wd_1_94 : Cond.fieldLink RX9 112 "BothWould$Pile" "size" "I" ∈ lw_g := wd_t1 (List.mem_of_getElem? (i := 94) rfl) rfl
theorem wd_1_100 : Cond.classLink RX9 41 RX6 ∈ lw_g := wd_t1 (List.mem_of_getElem? (i := 100) rfl) rfl
theorem wd_1_101 : Cond.instantiable RX6 5 ∈ lw_g := wd_t1 (List.mem_of_getElem? (i := 101) rfl) rfl
theorem wd_1_103 : Cond.instanceMethod yX6_init ∈ lw_g := wd_t1 (List.mem_of_getElem? (i := 103) rfl) rfl
theorem wd_1_104 : Cond.code yX6_init cX6_init 1 none ∈ lw_g := wd_t1 (List.mem_of_getElem? (i := 104) rfl) rfl
theorem wd_1_105 : Cond.methodLink RX6 3 objectInit ∈ lw_g := wd_t1 (List.mem_of_getElem? (i := 105) rfl) rfl
theorem wd_1_106 : Cond.fieldLink RX6 9 "BothWould$Sightings" "who" "[I" ∈ lw_g := wd_t1 (List.mem_of_getElem? (i := 106) rfl) rfl
theorem wd_1_107 : Cond.fieldLink RX6 15 "BothWould$Sightings" "from" "[I" ∈ lw_g := wd_t1 (List.mem_of_getElem? (i := 107) rfl) rfl
theorem wd_1_108 : Cond.fieldLink RX6 18 "BothWould$Sightings" "to" "[I" ∈ lw_g := wd_t1 (List.mem_of_getElem? (i := 108) rfl) rfl
theorem wd_1_109 : Cond.fieldLink RX6 21 "BothWould$Sightings" "yes" "[Z" ∈ lw_g := wd_t1 (List.mem_of_getElem? (i := 109) rfl) rfl
theorem wd_1_110 : Cond.fieldLink RX6 25 "BothWould$Sightings" "size" "I" ∈ lw_g := wd_t1 (List.mem_of_getElem? (i := 110) rfl) rfl
theorem wd_1_111 : Cond.fieldLink RX9 115 "BothWould$Sightings" "size" "I" ∈ lw_g := wd_t1 (List.mem_of_getElem? (i := 111) rfl) rfl
theorem wd_1_123 : Cond.arrayClass .boolean ∈ lw_g := wd_t1 (List.mem_of_getElem? (i := 123) rfl) rfl
theorem wd_1_124 : Cond.classLink RX9 48 RX1 ∈ lw_g := wd_t1 (List.mem_of_getElem? (i := 124) rfl) rfl
theorem wd_1_125 : Cond.instantiable RX1 7 ∈ lw_g := wd_t1 (List.mem_of_getElem? (i := 125) rfl) rfl
theorem wd_1_127 : Cond.instanceMethod yX1_init ∈ lw_g := wd_t1 (List.mem_of_getElem? (i := 127) rfl) rfl
theorem wd_1_128 : Cond.code yX1_init cX1_init 1 none ∈ lw_g := wd_t1 (List.mem_of_getElem? (i := 128) rfl) rfl
theorem wd_1_129 : Cond.methodLink RX1 3 objectInit ∈ lw_g := wd_t1 (List.mem_of_getElem? (i := 129) rfl) rfl
theorem wd_1_130 : Cond.fieldLink RX1 9 "BothWould$Graph" "rows" "[I" ∈ lw_g := wd_t1 (List.mem_of_getElem? (i := 130) rfl) rfl
theorem wd_1_131 : Cond.fieldLink RX1 15 "BothWould$Graph" "edges" "[I" ∈ lw_g := wd_t1 (List.mem_of_getElem? (i := 131) rfl) rfl
theorem wd_1_132 : Cond.fieldLink RX1 18 "BothWould$Graph" "persons" "I" ∈ lw_g := wd_t1 (List.mem_of_getElem? (i := 132) rfl) rfl
theorem wd_1_133 : Cond.fieldLink RX1 22 "BothWould$Graph" "size" "I" ∈ lw_g := wd_t1 (List.mem_of_getElem? (i := 133) rfl) rfl
theorem wd_1_134 : Cond.fieldLink RX0 40 "BothWould$Graph" "size" "I" ∈ lw_g := wd_t1 (List.mem_of_getElem? (i := 134) rfl) rfl
theorem wd_1_135 : Cond.fieldLink RX1 25 "BothWould$Graph" "changes" "I" ∈ lw_g := wd_t1 (List.mem_of_getElem? (i := 135) rfl) rfl
theorem wd_1_136 : Cond.fieldLink RX0 35 "BothWould$Graph" "changes" "I" ∈ lw_g := wd_t1 (List.mem_of_getElem? (i := 136) rfl) rfl
theorem wd_1_137 : Cond.fieldLink RX5 38 "BothWould$Graph" "changes" "I" ∈ lw_g := wd_t1 (List.mem_of_getElem? (i := 137) rfl) rfl
theorem wd_1_138 : Cond.fieldLink RX1 28 "BothWould$Graph" "restCount" "I" ∈ lw_g := wd_t1 (List.mem_of_getElem? (i := 138) rfl) rfl
theorem wd_1_139 : Cond.fieldLink RX9 187 "BothWould$Graph" "restCount" "I" ∈ lw_g := wd_t1 (List.mem_of_getElem? (i := 139) rfl) rfl
theorem wd_1_140 : Cond.fieldLink RX1 31 "BothWould$Graph" "firstRest" "I" ∈ lw_g := wd_t1 (List.mem_of_getElem? (i := 140) rfl) rfl
theorem wd_1_141 : Cond.fieldLink RX9 190 "BothWould$Graph" "firstRest" "I" ∈ lw_g := wd_t1 (List.mem_of_getElem? (i := 141) rfl) rfl
theorem wd_1_157 : Cond.classLink RX9 59 RX5 ∈ lw_g := wd_t1 (List.mem_of_getElem? (i := 157) rfl) rfl
theorem wd_1_158 : Cond.instantiable RX5 5 ∈ lw_g := wd_t1 (List.mem_of_getElem? (i := 158) rfl) rfl
theorem wd_1_160 : Cond.instanceMethod yX5_init ∈ lw_g := wd_t1 (List.mem_of_getElem? (i := 160) rfl) rfl
theorem wd_1_161 : Cond.code yX5_init cX5_init 1 none ∈ lw_g := wd_t1 (List.mem_of_getElem? (i := 161) rfl) rfl
theorem wd_1_162 : Cond.methodLink RX5 3 objectInit ∈ lw_g := wd_t1 (List.mem_of_getElem? (i := 162) rfl) rfl
theorem wd_1_163 : Cond.fieldLink RX5 9 "BothWould$Search" "queue" "[I" ∈ lw_g := wd_t1 (List.mem_of_getElem? (i := 163) rfl) rfl
theorem wd_1_164 : Cond.fieldLink RX5 15 "BothWould$Search" "steps" "[I" ∈ lw_g := wd_t1 (List.mem_of_getElem? (i := 164) rfl) rfl
theorem wd_1_165 : Cond.fieldLink RX5 18 "BothWould$Search" "firsts" "[I" ∈ lw_g := wd_t1 (List.mem_of_getElem? (i := 165) rfl) rfl
theorem wd_1_166 : Cond.fieldLink RX5 21 "BothWould$Search" "waysIn" "[I" ∈ lw_g := wd_t1 (List.mem_of_getElem? (i := 166) rfl) rfl
theorem wd_1_167 : Cond.fieldLink RX5 24 "BothWould$Search" "reached" "I" ∈ lw_g := wd_t1 (List.mem_of_getElem? (i := 167) rfl) rfl
theorem wd_1_179 : Cond.classLink RX9 66 RX0 ∈ lw_g := wd_t1 (List.mem_of_getElem? (i := 179) rfl) rfl
theorem wd_1_180 : Cond.instantiable RX0 4 ∈ lw_g := wd_t1 (List.mem_of_getElem? (i := 180) rfl) rfl
theorem wd_1_182 : Cond.instanceMethod yX0_init ∈ lw_g := wd_t1 (List.mem_of_getElem? (i := 182) rfl) rfl
theorem wd_1_183 : Cond.code yX0_init cX0_init 1 none ∈ lw_g := wd_t1 (List.mem_of_getElem? (i := 183) rfl) rfl
theorem wd_1_184 : Cond.methodLink RX0 3 objectInit ∈ lw_g := wd_t1 (List.mem_of_getElem? (i := 184) rfl) rfl
theorem wd_1_185 : Cond.fieldLink RX0 9 "BothWould$Evenings" "now" "[I" ∈ lw_g := wd_t1 (List.mem_of_getElem? (i := 185) rfl) rfl
theorem wd_1_186 : Cond.fieldLink RX0 15 "BothWould$Evenings" "then" "[I" ∈ lw_g := wd_t1 (List.mem_of_getElem? (i := 186) rfl) rfl
theorem wd_1_187 : Cond.fieldLink RX0 18 "BothWould$Evenings" "above" "I" ∈ lw_g := wd_t1 (List.mem_of_getElem? (i := 187) rfl) rfl
theorem wd_1_188 : Cond.fieldLink RX9 288 "BothWould$Evenings" "above" "I" ∈ lw_g := wd_t1 (List.mem_of_getElem? (i := 188) rfl) rfl
theorem wd_1_189 : Cond.fieldLink RX0 22 "BothWould$Evenings" "below" "I" ∈ lw_g := wd_t1 (List.mem_of_getElem? (i := 189) rfl) rfl
theorem wd_1_190 : Cond.fieldLink RX9 292 "BothWould$Evenings" "below" "I" ∈ lw_g := wd_t1 (List.mem_of_getElem? (i := 190) rfl) rfl
theorem wd_1_200 : Cond.classLink RX9 73 RX8 ∈ lw_g := wd_t1 (List.mem_of_getElem? (i := 200) rfl) rfl
theorem wd_1_201 : Cond.instantiable RX8 2 ∈ lw_g := wd_t1 (List.mem_of_getElem? (i := 201) rfl) rfl
theorem wd_1_203 : Cond.instanceMethod yX8_init ∈ lw_g := wd_t1 (List.mem_of_getElem? (i := 203) rfl) rfl
theorem wd_1_204 : Cond.code yX8_init cX8_init 1 none ∈ lw_g := wd_t1 (List.mem_of_getElem? (i := 204) rfl) rfl
theorem wd_1_205 : Cond.methodLink RX8 3 objectInit ∈ lw_g := wd_t1 (List.mem_of_getElem? (i := 205) rfl) rfl
theorem wd_1_206 : Cond.fieldLink RX8 9 "BothWould$Walk" "steps" "I" ∈ lw_g := wd_t1 (List.mem_of_getElem? (i := 206) rfl) rfl
theorem wd_1_207 : Cond.fieldLink RX9 200 "BothWould$Walk" "steps" "I" ∈ lw_g := wd_t1 (List.mem_of_getElem? (i := 207) rfl) rfl
theorem wd_1_208 : Cond.fieldLink RX8 15 "BothWould$Walk" "end" "I" ∈ lw_g := wd_t1 (List.mem_of_getElem? (i := 208) rfl) rfl
theorem wd_1_209 : Cond.fieldLink RX9 203 "BothWould$Walk" "end" "I" ∈ lw_g := wd_t1 (List.mem_of_getElem? (i := 209) rfl) rfl
theorem wd_1_215 : Cond.methodLink RX9 80 yX2_addPerson ∈ lw_g := wd_t1 (List.mem_of_getElem? (i := 215) rfl) rfl
theorem wd_1_216 : Cond.instanceMethod yX2_addPerson ∈ lw_g := wd_t1 (List.mem_of_getElem? (i := 216) rfl) rfl
theorem wd_1_217 : Cond.selects RX2 yX2_addPerson yX2_addPerson ∈ lw_g := wd_t1 (List.mem_of_getElem? (i := 217) rfl) rfl
theorem wd_1_218 : Cond.code yX2_addPerson cX2_addPerson 4 (some .boolean) ∈ lw_g := wd_t1 (List.mem_of_getElem? (i := 218) rfl) rfl
theorem wd_1_219 : Cond.methodLink RX2 44 Lib.Math.max.name ∈ lw_g := wd_t1 (List.mem_of_getElem? (i := 219) rfl) rfl
theorem wd_1_220 : Cond.methodLink RX9 88 yX4_ordered ∈ lw_g := wd_t1 (List.mem_of_getElem? (i := 220) rfl) rfl
theorem wd_1_221 : Cond.static yX4_ordered ∈ lw_g := wd_t1 (List.mem_of_getElem? (i := 221) rfl) rfl
theorem wd_1_222 : Cond.code yX4_ordered cX4_ordered 3 (some .int) ∈ lw_g := wd_t1 (List.mem_of_getElem? (i := 222) rfl) rfl
theorem wd_1_223 : Cond.fieldLink RX9 10 "BothWould" "text" "LBothWould$Text;" ∈ lw_g := wd_t1 (List.mem_of_getElem? (i := 223) rfl) rfl
theorem wd_1_224 : Cond.fieldLink RX9 19 "BothWould" "houses" "LBothWould$Houses;" ∈ lw_g := wd_t1 (List.mem_of_getElem? (i := 224) rfl) rfl
theorem wd_1_225 : Cond.fieldLink RX9 23 "BothWould" "draft" "LBothWould$Houses;" ∈ lw_g := wd_t1 (List.mem_of_getElem? (i := 225) rfl) rfl
theorem wd_1_226 : Cond.fieldLink RX9 94 "BothWould" "row" "I" ∈ lw_g := wd_t1 (List.mem_of_getElem? (i := 226) rfl) rfl
theorem wd_1_227 : Cond.fieldLink RX9 31 "BothWould" "told" "LBothWould$Pile;" ∈ lw_g := wd_t1 (List.mem_of_getElem? (i := 227) rfl) rfl
theorem wd_1_228 : Cond.fieldLink RX9 35 "BothWould" "done" "LBothWould$Pile;" ∈ lw_g := wd_t1 (List.mem_of_getElem? (i := 228) rfl) rfl
theorem wd_1_229 : Cond.fieldLink RX9 38 "BothWould" "kept" "LBothWould$Pile;" ∈ lw_g := wd_t1 (List.mem_of_getElem? (i := 229) rfl) rfl
theorem wd_1_230 : Cond.fieldLink RX9 44 "BothWould" "sightings" "LBothWould$Sightings;" ∈ lw_g := wd_t1 (List.mem_of_getElem? (i := 230) rfl) rfl
theorem wd_1_231 : Cond.fieldLink RX9 51 "BothWould" "graph" "LBothWould$Graph;" ∈ lw_g := wd_t1 (List.mem_of_getElem? (i := 231) rfl) rfl
theorem wd_1_232 : Cond.fieldLink RX9 55 "BothWould" "graphDrawn" "Z" ∈ lw_g := wd_t1 (List.mem_of_getElem? (i := 232) rfl) rfl
theorem wd_1_233 : Cond.fieldLink RX9 62 "BothWould" "search" "LBothWould$Search;" ∈ lw_g := wd_t1 (List.mem_of_getElem? (i := 233) rfl) rfl
theorem wd_1_234 : Cond.fieldLink RX9 69 "BothWould" "evenings" "LBothWould$Evenings;" ∈ lw_g := wd_t1 (List.mem_of_getElem? (i := 234) rfl) rfl
theorem wd_1_235 : Cond.fieldLink RX9 76 "BothWould" "walk" "LBothWould$Walk;" ∈ lw_g := wd_t1 (List.mem_of_getElem? (i := 235) rfl) rfl
theorem wd_2_23 : Cond.methodLink RL 15 yX9_write ∈ lw_g := wd_t2 (List.mem_of_getElem? (i := 23) rfl) rfl
theorem wd_2_24 : Cond.instanceMethod yX9_write ∈ lw_g := wd_t2 (List.mem_of_getElem? (i := 24) rfl) rfl
theorem wd_2_25 : Cond.selects RX9 yX9_write yX9_write ∈ lw_g := wd_t2 (List.mem_of_getElem? (i := 25) rfl) rfl
theorem wd_2_26 : Cond.code yX9_write cX9_write 4 (some .int) ∈ lw_g := wd_t2 (List.mem_of_getElem? (i := 26) rfl) rfl
theorem wd_2_27 : Cond.methodLink RX9 97 yX7_append ∈ lw_g := wd_t2 (List.mem_of_getElem? (i := 27) rfl) rfl
theorem wd_2_28 : Cond.instanceMethod yX7_append ∈ lw_g := wd_t2 (List.mem_of_getElem? (i := 28) rfl) rfl
theorem wd_2_29 : Cond.selects RX7 yX7_append yX7_append ∈ lw_g := wd_t2 (List.mem_of_getElem? (i := 29) rfl) rfl
theorem wd_2_30 : Cond.code yX7_append cX7_append 5 (some .boolean) ∈ lw_g := wd_t2 (List.mem_of_getElem? (i := 30) rfl) rfl
theorem wd_2_31 : Cond.methodLink RL 20 yX9_wipe ∈ lw_g := wd_t2 (List.mem_of_getElem? (i := 31) rfl) rfl
theorem wd_2_32 : Cond.instanceMethod yX9_wipe ∈ lw_g := wd_t2 (List.mem_of_getElem? (i := 32) rfl) rfl
theorem wd_2_33 : Cond.selects RX9 yX9_wipe yX9_wipe ∈ lw_g := wd_t2 (List.mem_of_getElem? (i := 33) rfl) rfl
theorem wd_2_34 : Cond.code yX9_wipe cX9_wipe 2 (some .int) ∈ lw_g := wd_t2 (List.mem_of_getElem? (i := 34) rfl) rfl
theorem wd_2_35 : Cond.methodLink RL 25 yX9_fault ∈ lw_g := wd_t2 (List.mem_of_getElem? (i := 35) rfl) rfl
theorem wd_2_36 : Cond.instanceMethod yX9_fault ∈ lw_g := wd_t2 (List.mem_of_getElem? (i := 36) rfl) rfl
theorem wd_2_37 : Cond.selects RX9 yX9_fault yX9_fault ∈ lw_g := wd_t2 (List.mem_of_getElem? (i := 37) rfl) rfl
theorem wd_2_38 : Cond.code yX9_fault cX9_fault 2 (some .int) ∈ lw_g := wd_t2 (List.mem_of_getElem? (i := 38) rfl) rfl
theorem wd_2_39 : Cond.methodLink RX9 104 yX7_read ∈ lw_g := wd_t2 (List.mem_of_getElem? (i := 39) rfl) rfl
theorem wd_2_40 : Cond.instanceMethod yX7_read ∈ lw_g := wd_t2 (List.mem_of_getElem? (i := 40) rfl) rfl
theorem wd_2_41 : Cond.selects RX7 yX7_read yX7_read ∈ lw_g := wd_t2 (List.mem_of_getElem? (i := 41) rfl) rfl
theorem wd_2_42 : Cond.code yX7_read cX7_read 4 (some .int) ∈ lw_g := wd_t2 (List.mem_of_getElem? (i := 42) rfl) rfl
theorem wd_2_43 : Cond.methodLink RX7 22 yX2_clear ∈ lw_g := wd_t2 (List.mem_of_getElem? (i := 43) rfl) rfl
theorem wd_2_44 : Cond.methodLink RX7 27 yX7_readItem ∈ lw_g := wd_t2 (List.mem_of_getElem? (i := 44) rfl) rfl
theorem wd_2_46 : Cond.instanceMethod yX7_readItem ∈ lw_g := wd_t2 (List.mem_of_getElem? (i := 46) rfl) rfl
theorem wd_2_47 : Cond.code yX7_readItem cX7_readItem 6 (some .int) ∈ lw_g := wd_t2 (List.mem_of_getElem? (i := 47) rfl) rfl
theorem wd_2_48 : Cond.methodLink RX7 31 yX7_numbersOf ∈ lw_g := wd_t2 (List.mem_of_getElem? (i := 48) rfl) rfl
theorem wd_2_49 : Cond.static yX7_numbersOf ∈ lw_g := wd_t2 (List.mem_of_getElem? (i := 49) rfl) rfl
theorem wd_2_50 : Cond.code yX7_numbersOf cX7_numbersOf 1 (some .int) ∈ lw_g := wd_t2 (List.mem_of_getElem? (i := 50) rfl) rfl
theorem wd_2_51 : Cond.methodLink RX7 35 yX7_readNumbers ∈ lw_g := wd_t2 (List.mem_of_getElem? (i := 51) rfl) rfl
theorem wd_2_53 : Cond.instanceMethod yX7_readNumbers ∈ lw_g := wd_t2 (List.mem_of_getElem? (i := 53) rfl) rfl
theorem wd_2_54 : Cond.code yX7_readNumbers cX7_readNumbers 8 (some .int) ∈ lw_g := wd_t2 (List.mem_of_getElem? (i := 54) rfl) rfl
theorem wd_2_55 : Cond.methodLink RX7 43 yX7_isFigure ∈ lw_g := wd_t2 (List.mem_of_getElem? (i := 55) rfl) rfl
theorem wd_2_57 : Cond.instanceMethod yX7_isFigure ∈ lw_g := wd_t2 (List.mem_of_getElem? (i := 57) rfl) rfl
theorem wd_2_58 : Cond.code yX7_isFigure cX7_isFigure 2 (some .boolean) ∈ lw_g := wd_t2 (List.mem_of_getElem? (i := 58) rfl) rfl
theorem wd_2_59 : Cond.methodLink RX7 39 yX7_takeItem ∈ lw_g := wd_t2 (List.mem_of_getElem? (i := 59) rfl) rfl
theorem wd_2_61 : Cond.instanceMethod yX7_takeItem ∈ lw_g := wd_t2 (List.mem_of_getElem? (i := 61) rfl) rfl
theorem wd_2_62 : Cond.code yX7_takeItem cX7_takeItem 3 (some .boolean) ∈ lw_g := wd_t2 (List.mem_of_getElem? (i := 62) rfl) rfl
theorem wd_2_63 : Cond.methodLink RX7 47 yX2_addPerson ∈ lw_g := wd_t2 (List.mem_of_getElem? (i := 63) rfl) rfl
theorem wd_2_64 : Cond.methodLink RX7 51 yX2_setLiking ∈ lw_g := wd_t2 (List.mem_of_getElem? (i := 64) rfl) rfl
theorem wd_2_65 : Cond.instanceMethod yX2_setLiking ∈ lw_g := wd_t2 (List.mem_of_getElem? (i := 65) rfl) rfl
theorem wd_2_66 : Cond.selects RX2 yX2_setLiking yX2_setLiking ∈ lw_g := wd_t2 (List.mem_of_getElem? (i := 66) rfl) rfl
theorem wd_2_67 : Cond.code yX2_setLiking cX2_setLiking 4 (some .boolean) ∈ lw_g := wd_t2 (List.mem_of_getElem? (i := 67) rfl) rfl
theorem wd_2_68 : Cond.methodLink RX7 54 yX2_setRing ∈ lw_g := wd_t2 (List.mem_of_getElem? (i := 68) rfl) rfl
theorem wd_2_69 : Cond.instanceMethod yX2_setRing ∈ lw_g := wd_t2 (List.mem_of_getElem? (i := 69) rfl) rfl
theorem wd_2_70 : Cond.selects RX2 yX2_setRing yX2_setRing ∈ lw_g := wd_t2 (List.mem_of_getElem? (i := 70) rfl) rfl
theorem wd_2_71 : Cond.code yX2_setRing cX2_setRing 2 (some .boolean) ∈ lw_g := wd_t2 (List.mem_of_getElem? (i := 71) rfl) rfl
theorem wd_2_72 : Cond.methodLink RL 29 yX9_lay ∈ lw_g := wd_t2 (List.mem_of_getElem? (i := 72) rfl) rfl
theorem wd_2_73 : Cond.instanceMethod yX9_lay ∈ lw_g := wd_t2 (List.mem_of_getElem? (i := 73) rfl) rfl
theorem wd_2_74 : Cond.selects RX9 yX9_lay yX9_lay ∈ lw_g := wd_t2 (List.mem_of_getElem? (i := 74) rfl) rfl
theorem wd_2_75 : Cond.code yX9_lay cX9_lay 2 (some .int) ∈ lw_g := wd_t2 (List.mem_of_getElem? (i := 75) rfl) rfl
theorem wd_2_76 : Cond.methodLink RX9 108 yX2_canBeLaid ∈ lw_g := wd_t2 (List.mem_of_getElem? (i := 76) rfl) rfl
theorem wd_2_77 : Cond.instanceMethod yX2_canBeLaid ∈ lw_g := wd_t2 (List.mem_of_getElem? (i := 77) rfl) rfl
theorem wd_2_78 : Cond.selects RX2 yX2_canBeLaid yX2_canBeLaid ∈ lw_g := wd_t2 (List.mem_of_getElem? (i := 78) rfl) rfl
theorem wd_2_79 : Cond.code yX2_canBeLaid cX2_canBeLaid 1 (some .boolean) ∈ lw_g := wd_t2 (List.mem_of_getElem? (i := 79) rfl) rfl
theorem wd_2_80 : Cond.methodLink RL 33 yX9_person ∈ lw_g := wd_t2 (List.mem_of_getElem? (i := 80) rfl) rfl
theorem wd_2_81 : Cond.instanceMethod yX9_person ∈ lw_g := wd_t2 (List.mem_of_getElem? (i := 81) rfl) rfl
theorem wd_2_82 : Cond.selects RX9 yX9_person yX9_person ∈ lw_g := wd_t2 (List.mem_of_getElem? (i := 82) rfl) rfl
theorem wd_2_83 : Cond.code yX9_person cX9_person 3 (some .int) ∈ lw_g := wd_t2 (List.mem_of_getElem? (i := 83) rfl) rfl
theorem wd_2_84 : Cond.methodLink RX9 116 yX2_has ∈ lw_g := wd_t2 (List.mem_of_getElem? (i := 84) rfl) rfl
theorem wd_2_85 : Cond.instanceMethod yX2_has ∈ lw_g := wd_t2 (List.mem_of_getElem? (i := 85) rfl) rfl
theorem wd_2_86 : Cond.selects RX2 yX2_has yX2_has ∈ lw_g := wd_t2 (List.mem_of_getElem? (i := 86) rfl) rfl
theorem wd_2_87 : Cond.code yX2_has cX2_has 2 (some .boolean) ∈ lw_g := wd_t2 (List.mem_of_getElem? (i := 87) rfl) rfl
theorem wd_2_88 : Cond.methodLink RX9 130 yX4_placeOf ∈ lw_g := wd_t2 (List.mem_of_getElem? (i := 88) rfl) rfl
theorem wd_2_89 : Cond.static yX4_placeOf ∈ lw_g := wd_t2 (List.mem_of_getElem? (i := 89) rfl) rfl
theorem wd_2_90 : Cond.code yX4_placeOf cX4_placeOf 3 (some .int) ∈ lw_g := wd_t2 (List.mem_of_getElem? (i := 90) rfl) rfl
theorem wd_2_91 : Cond.methodLink RX4 9 yX4_who ∈ lw_g := wd_t2 (List.mem_of_getElem? (i := 91) rfl) rfl
theorem wd_2_92 : Cond.static yX4_who ∈ lw_g := wd_t2 (List.mem_of_getElem? (i := 92) rfl) rfl
theorem wd_2_93 : Cond.code yX4_who cX4_who 2 (some .int) ∈ lw_g := wd_t2 (List.mem_of_getElem? (i := 93) rfl) rfl
theorem wd_2_94 : Cond.methodLink RL 38 yX9_likes ∈ lw_g := wd_t2 (List.mem_of_getElem? (i := 94) rfl) rfl
theorem wd_2_95 : Cond.instanceMethod yX9_likes ∈ lw_g := wd_t2 (List.mem_of_getElem? (i := 95) rfl) rfl
theorem wd_2_96 : Cond.selects RX9 yX9_likes yX9_likes ∈ lw_g := wd_t2 (List.mem_of_getElem? (i := 96) rfl) rfl
theorem wd_2_97 : Cond.code yX9_likes cX9_likes 3 (some .int) ∈ lw_g := wd_t2 (List.mem_of_getElem? (i := 97) rfl) rfl
theorem wd_2_98 : Cond.methodLink RX9 134 yX2_liking ∈ lw_g := wd_t2 (List.mem_of_getElem? (i := 98) rfl) rfl
theorem wd_2_99 : Cond.instanceMethod yX2_liking ∈ lw_g := wd_t2 (List.mem_of_getElem? (i := 99) rfl) rfl
theorem wd_2_100 : Cond.selects RX2 yX2_liking yX2_liking ∈ lw_g := wd_t2 (List.mem_of_getElem? (i := 100) rfl) rfl
theorem wd_2_101 : Cond.code yX2_liking cX2_liking 3 (some .int) ∈ lw_g := wd_t2 (List.mem_of_getElem? (i := 101) rfl) rfl
theorem wd_2_102 : Cond.methodLink RL 42 yX9_worth ∈ lw_g := wd_t2 (List.mem_of_getElem? (i := 102) rfl) rfl
theorem wd_2_103 : Cond.instanceMethod yX9_worth ∈ lw_g := wd_t2 (List.mem_of_getElem? (i := 103) rfl) rfl
theorem wd_2_104 : Cond.selects RX9 yX9_worth yX9_worth ∈ lw_g := wd_t2 (List.mem_of_getElem? (i := 104) rfl) rfl
theorem wd_2_105 : Cond.code yX9_worth cX9_worth 2 (some .int) ∈ lw_g := wd_t2 (List.mem_of_getElem? (i := 105) rfl) rfl
theorem wd_2_106 : Cond.methodLink RX9 137 yX2_worthOf ∈ lw_g := wd_t2 (List.mem_of_getElem? (i := 106) rfl) rfl
theorem wd_2_107 : Cond.instanceMethod yX2_worthOf ∈ lw_g := wd_t2 (List.mem_of_getElem? (i := 107) rfl) rfl
theorem wd_2_108 : Cond.selects RX2 yX2_worthOf yX2_worthOf ∈ lw_g := wd_t2 (List.mem_of_getElem? (i := 108) rfl) rfl
theorem wd_2_109 : Cond.code yX2_worthOf cX2_worthOf 3 (some .int) ∈ lw_g := wd_t2 (List.mem_of_getElem? (i := 109) rfl) rfl
theorem wd_2_110 : Cond.methodLink RX2 73 yX4_placeOf ∈ lw_g := wd_t2 (List.mem_of_getElem? (i := 110) rfl) rfl
theorem wd_2_111 : Cond.methodLink RX2 76 yX2_worthAt ∈ lw_g := wd_t2 (List.mem_of_getElem? (i := 111) rfl) rfl
theorem wd_2_112 : Cond.instanceMethod yX2_worthAt ∈ lw_g := wd_t2 (List.mem_of_getElem? (i := 112) rfl) rfl
theorem wd_2_113 : Cond.selects RX2 yX2_worthAt yX2_worthAt ∈ lw_g := wd_t2 (List.mem_of_getElem? (i := 113) rfl) rfl
theorem wd_2_114 : Cond.code yX2_worthAt cX2_worthAt 7 (some .int) ∈ lw_g := wd_t2 (List.mem_of_getElem? (i := 114) rfl) rfl
theorem wd_2_115 : Cond.methodLink RX2 64 yX4_who ∈ lw_g := wd_t2 (List.mem_of_getElem? (i := 115) rfl) rfl
theorem wd_2_116 : Cond.methodLink RX2 54 yX2_after ∈ lw_g := wd_t2 (List.mem_of_getElem? (i := 116) rfl) rfl
theorem wd_2_117 : Cond.instanceMethod yX2_after ∈ lw_g := wd_t2 (List.mem_of_getElem? (i := 117) rfl) rfl
theorem wd_2_118 : Cond.selects RX2 yX2_after yX2_after ∈ lw_g := wd_t2 (List.mem_of_getElem? (i := 118) rfl) rfl
theorem wd_2_119 : Cond.code yX2_after cX2_after 2 (some .int) ∈ lw_g := wd_t2 (List.mem_of_getElem? (i := 119) rfl) rfl
theorem wd_2_120 : Cond.methodLink RX2 67 yX2_far ∈ lw_g := wd_t2 (List.mem_of_getElem? (i := 120) rfl) rfl
theorem wd_2_121 : Cond.instanceMethod yX2_far ∈ lw_g := wd_t2 (List.mem_of_getElem? (i := 121) rfl) rfl
theorem wd_2_122 : Cond.selects RX2 yX2_far yX2_far ∈ lw_g := wd_t2 (List.mem_of_getElem? (i := 122) rfl) rfl
theorem wd_2_123 : Cond.code yX2_far cX2_far 4 (some .int) ∈ lw_g := wd_t2 (List.mem_of_getElem? (i := 123) rfl) rfl
theorem wd_2_124 : Cond.methodLink RX2 70 yX2_liking ∈ lw_g := wd_t2 (List.mem_of_getElem? (i := 124) rfl) rfl
theorem wd_2_125 : Cond.methodLink RL 47 yX9_at ∈ lw_g := wd_t2 (List.mem_of_getElem? (i := 125) rfl) rfl
theorem wd_2_126 : Cond.instanceMethod yX9_at ∈ lw_g := wd_t2 (List.mem_of_getElem? (i := 126) rfl) rfl
theorem wd_2_127 : Cond.selects RX9 yX9_at yX9_at ∈ lw_g := wd_t2 (List.mem_of_getElem? (i := 127) rfl) rfl
theorem wd_2_128 : Cond.code yX9_at cX9_at 2 (some .int) ∈ lw_g := wd_t2 (List.mem_of_getElem? (i := 128) rfl) rfl
theorem wd_2_129 : Cond.methodLink RX9 140 yX4_who ∈ lw_g := wd_t2 (List.mem_of_getElem? (i := 129) rfl) rfl
theorem wd_2_130 : Cond.methodLink RL 51 yX9_suits ∈ lw_g := wd_t2 (List.mem_of_getElem? (i := 130) rfl) rfl
theorem wd_2_131 : Cond.instanceMethod yX9_suits ∈ lw_g := wd_t2 (List.mem_of_getElem? (i := 131) rfl) rfl
theorem wd_2_132 : Cond.selects RX9 yX9_suits yX9_suits ∈ lw_g := wd_t2 (List.mem_of_getElem? (i := 132) rfl) rfl
theorem wd_2_133 : Cond.code yX9_suits cX9_suits 3 (some .int) ∈ lw_g := wd_t2 (List.mem_of_getElem? (i := 133) rfl) rfl
theorem wd_2_134 : Cond.methodLink RX9 143 yX2_hasRound ∈ lw_g := wd_t2 (List.mem_of_getElem? (i := 134) rfl) rfl
theorem wd_2_135 : Cond.instanceMethod yX2_hasRound ∈ lw_g := wd_t2 (List.mem_of_getElem? (i := 135) rfl) rfl
theorem wd_2_136 : Cond.selects RX2 yX2_hasRound yX2_hasRound ∈ lw_g := wd_t2 (List.mem_of_getElem? (i := 136) rfl) rfl
theorem wd_2_137 : Cond.code yX2_hasRound cX2_hasRound 2 (some .boolean) ∈ lw_g := wd_t2 (List.mem_of_getElem? (i := 137) rfl) rfl
theorem wd_2_138 : Cond.methodLink RX9 146 yX2_hasChange ∈ lw_g := wd_t2 (List.mem_of_getElem? (i := 138) rfl) rfl
theorem wd_2_139 : Cond.instanceMethod yX2_hasChange ∈ lw_g := wd_t2 (List.mem_of_getElem? (i := 139) rfl) rfl
theorem wd_2_140 : Cond.selects RX2 yX2_hasChange yX2_hasChange ∈ lw_g := wd_t2 (List.mem_of_getElem? (i := 140) rfl) rfl
theorem wd_2_141 : Cond.code yX2_hasChange cX2_hasChange 2 (some .boolean) ∈ lw_g := wd_t2 (List.mem_of_getElem? (i := 141) rfl) rfl
theorem wd_2_142 : Cond.methodLink RX2 50 yX2_changeCount ∈ lw_g := wd_t2 (List.mem_of_getElem? (i := 142) rfl) rfl
theorem wd_2_143 : Cond.instanceMethod yX2_changeCount ∈ lw_g := wd_t2 (List.mem_of_getElem? (i := 143) rfl) rfl
theorem wd_2_144 : Cond.selects RX2 yX2_changeCount yX2_changeCount ∈ lw_g := wd_t2 (List.mem_of_getElem? (i := 144) rfl) rfl
theorem wd_2_145 : Cond.code yX2_changeCount cX2_changeCount 1 (some .int) ∈ lw_g := wd_t2 (List.mem_of_getElem? (i := 145) rfl) rfl
theorem wd_2_146 : Cond.methodLink RX9 149 yX2_roundSuits ∈ lw_g := wd_t2 (List.mem_of_getElem? (i := 146) rfl) rfl
theorem wd_2_147 : Cond.instanceMethod yX2_roundSuits ∈ lw_g := wd_t2 (List.mem_of_getElem? (i := 147) rfl) rfl
theorem wd_2_148 : Cond.selects RX2 yX2_roundSuits yX2_roundSuits ∈ lw_g := wd_t2 (List.mem_of_getElem? (i := 148) rfl) rfl
theorem wd_2_149 : Cond.code yX2_roundSuits cX2_roundSuits 6 (some .boolean) ∈ lw_g := wd_t2 (List.mem_of_getElem? (i := 149) rfl) rfl
theorem wd_2_150 : Cond.methodLink RX2 89 yX2_turned ∈ lw_g := wd_t2 (List.mem_of_getElem? (i := 150) rfl) rfl
theorem wd_2_151 : Cond.instanceMethod yX2_turned ∈ lw_g := wd_t2 (List.mem_of_getElem? (i := 151) rfl) rfl
theorem wd_2_152 : Cond.selects RX2 yX2_turned yX2_turned ∈ lw_g := wd_t2 (List.mem_of_getElem? (i := 152) rfl) rfl
theorem wd_2_153 : Cond.code yX2_turned cX2_turned 4 (some .int) ∈ lw_g := wd_t2 (List.mem_of_getElem? (i := 153) rfl) rfl
theorem wd_2_154 : Cond.methodLink RX2 58 yX4_swapped ∈ lw_g := wd_t2 (List.mem_of_getElem? (i := 154) rfl) rfl
theorem wd_2_155 : Cond.static yX4_swapped ∈ lw_g := wd_t2 (List.mem_of_getElem? (i := 155) rfl) rfl
theorem wd_2_156 : Cond.code yX4_swapped cX4_swapped 4 (some .int) ∈ lw_g := wd_t2 (List.mem_of_getElem? (i := 156) rfl) rfl
theorem wd_2_157 : Cond.methodLink RX2 85 yX2_agrees ∈ lw_g := wd_t2 (List.mem_of_getElem? (i := 157) rfl) rfl
theorem wd_2_158 : Cond.instanceMethod yX2_agrees ∈ lw_g := wd_t2 (List.mem_of_getElem? (i := 158) rfl) rfl
theorem wd_2_159 : Cond.selects RX2 yX2_agrees yX2_agrees ∈ lw_g := wd_t2 (List.mem_of_getElem? (i := 159) rfl) rfl
theorem wd_2_160 : Cond.code yX2_agrees cX2_agrees 6 (some .boolean) ∈ lw_g := wd_t2 (List.mem_of_getElem? (i := 160) rfl) rfl
theorem wd_2_161 : Cond.methodLink RX2 79 yX2_missing ∈ lw_g := wd_t2 (List.mem_of_getElem? (i := 161) rfl) rfl
theorem wd_2_162 : Cond.static yX2_missing ∈ lw_g := wd_t2 (List.mem_of_getElem? (i := 162) rfl) rfl
theorem wd_2_163 : Cond.code yX2_missing cX2_missing 2 (some .int) ∈ lw_g := wd_t2 (List.mem_of_getElem? (i := 163) rfl) rfl
theorem wd_2_164 : Cond.methodLink RX9 153 yX2_changeSuits ∈ lw_g := wd_t2 (List.mem_of_getElem? (i := 164) rfl) rfl
theorem wd_2_165 : Cond.instanceMethod yX2_changeSuits ∈ lw_g := wd_t2 (List.mem_of_getElem? (i := 165) rfl) rfl
theorem wd_2_166 : Cond.selects RX2 yX2_changeSuits yX2_changeSuits ∈ lw_g := wd_t2 (List.mem_of_getElem? (i := 166) rfl) rfl
theorem wd_2_167 : Cond.code yX2_changeSuits cX2_changeSuits 5 (some .boolean) ∈ lw_g := wd_t2 (List.mem_of_getElem? (i := 167) rfl) rfl
theorem wd_2_168 : Cond.methodLink RX2 82 yX2_changed ∈ lw_g := wd_t2 (List.mem_of_getElem? (i := 168) rfl) rfl
theorem wd_2_169 : Cond.instanceMethod yX2_changed ∈ lw_g := wd_t2 (List.mem_of_getElem? (i := 169) rfl) rfl
theorem wd_2_170 : Cond.selects RX2 yX2_changed yX2_changed ∈ lw_g := wd_t2 (List.mem_of_getElem? (i := 170) rfl) rfl
theorem wd_2_171 : Cond.code yX2_changed cX2_changed 3 (some .int) ∈ lw_g := wd_t2 (List.mem_of_getElem? (i := 171) rfl) rfl
theorem wd_2_172 : Cond.methodLink RL 56 yX9_change ∈ lw_g := wd_t2 (List.mem_of_getElem? (i := 172) rfl) rfl
theorem wd_2_173 : Cond.instanceMethod yX9_change ∈ lw_g := wd_t2 (List.mem_of_getElem? (i := 173) rfl) rfl
theorem wd_2_174 : Cond.selects RX9 yX9_change yX9_change ∈ lw_g := wd_t2 (List.mem_of_getElem? (i := 174) rfl) rfl
theorem wd_2_175 : Cond.code yX9_change cX9_change 2 (some .int) ∈ lw_g := wd_t2 (List.mem_of_getElem? (i := 175) rfl) rfl
theorem wd_2_176 : Cond.methodLink RX9 156 yX2_changed ∈ lw_g := wd_t2 (List.mem_of_getElem? (i := 176) rfl) rfl
theorem wd_2_177 : Cond.methodLink RX9 159 yX9_moveTo ∈ lw_g := wd_t2 (List.mem_of_getElem? (i := 177) rfl) rfl
theorem wd_2_179 : Cond.instanceMethod yX9_moveTo ∈ lw_g := wd_t2 (List.mem_of_getElem? (i := 179) rfl) rfl
theorem wd_2_180 : Cond.code yX9_moveTo cX9_moveTo 3 (some .int) ∈ lw_g := wd_t2 (List.mem_of_getElem? (i := 180) rfl) rfl
theorem wd_2_181 : Cond.methodLink RX9 165 yX3_isFull ∈ lw_g := wd_t2 (List.mem_of_getElem? (i := 181) rfl) rfl
theorem wd_2_182 : Cond.instanceMethod yX3_isFull ∈ lw_g := wd_t2 (List.mem_of_getElem? (i := 182) rfl) rfl
theorem wd_2_183 : Cond.selects RX3 yX3_isFull yX3_isFull ∈ lw_g := wd_t2 (List.mem_of_getElem? (i := 183) rfl) rfl
theorem wd_2_184 : Cond.code yX3_isFull cX3_isFull 1 (some .boolean) ∈ lw_g := wd_t2 (List.mem_of_getElem? (i := 184) rfl) rfl
theorem wd_2_185 : Cond.methodLink RX9 168 yX3_dropOldest ∈ lw_g := wd_t2 (List.mem_of_getElem? (i := 185) rfl) rfl
theorem wd_2_186 : Cond.instanceMethod yX3_dropOldest ∈ lw_g := wd_t2 (List.mem_of_getElem? (i := 186) rfl) rfl
theorem wd_2_187 : Cond.selects RX3 yX3_dropOldest yX3_dropOldest ∈ lw_g := wd_t2 (List.mem_of_getElem? (i := 187) rfl) rfl
theorem wd_2_188 : Cond.code yX3_dropOldest cX3_dropOldest 1 none ∈ lw_g := wd_t2 (List.mem_of_getElem? (i := 188) rfl) rfl
theorem wd_2_189 : Cond.methodLink RX3 27 arraycopyName ∈ lw_g := wd_t2 (List.mem_of_getElem? (i := 189) rfl) rfl
theorem wd_2_190 : Cond.static arraycopyName ∈ lw_g := wd_t2 (List.mem_of_getElem? (i := 190) rfl) rfl
theorem wd_2_191 : Cond.native arraycopyName ∈ lw_g := wd_t2 (List.mem_of_getElem? (i := 191) rfl) rfl
theorem wd_2_192 : Cond.methodLink RX9 171 yX3_push ∈ lw_g := wd_t2 (List.mem_of_getElem? (i := 192) rfl) rfl
theorem wd_2_193 : Cond.instanceMethod yX3_push ∈ lw_g := wd_t2 (List.mem_of_getElem? (i := 193) rfl) rfl
theorem wd_2_194 : Cond.selects RX3 yX3_push yX3_push ∈ lw_g := wd_t2 (List.mem_of_getElem? (i := 194) rfl) rfl
theorem wd_2_195 : Cond.code yX3_push cX3_push 2 none ∈ lw_g := wd_t2 (List.mem_of_getElem? (i := 195) rfl) rfl
theorem wd_2_196 : Cond.methodLink RX3 23 yX3_isFull ∈ lw_g := wd_t2 (List.mem_of_getElem? (i := 196) rfl) rfl
theorem wd_2_197 : Cond.methodLink RL 60 yX9_round ∈ lw_g := wd_t2 (List.mem_of_getElem? (i := 197) rfl) rfl
theorem wd_2_198 : Cond.instanceMethod yX9_round ∈ lw_g := wd_t2 (List.mem_of_getElem? (i := 198) rfl) rfl
theorem wd_2_199 : Cond.selects RX9 yX9_round yX9_round ∈ lw_g := wd_t2 (List.mem_of_getElem? (i := 199) rfl) rfl
theorem wd_2_200 : Cond.code yX9_round cX9_round 2 (some .int) ∈ lw_g := wd_t2 (List.mem_of_getElem? (i := 200) rfl) rfl
theorem wd_2_201 : Cond.methodLink RX9 162 yX2_turned ∈ lw_g := wd_t2 (List.mem_of_getElem? (i := 201) rfl) rfl
theorem wd_2_202 : Cond.methodLink RL 64 yX9_undo ∈ lw_g := wd_t2 (List.mem_of_getElem? (i := 202) rfl) rfl
theorem wd_2_203 : Cond.instanceMethod yX9_undo ∈ lw_g := wd_t2 (List.mem_of_getElem? (i := 203) rfl) rfl
theorem wd_2_204 : Cond.selects RX9 yX9_undo yX9_undo ∈ lw_g := wd_t2 (List.mem_of_getElem? (i := 204) rfl) rfl
theorem wd_2_205 : Cond.code yX9_undo cX9_undo 1 (some .int) ∈ lw_g := wd_t2 (List.mem_of_getElem? (i := 205) rfl) rfl
theorem wd_2_206 : Cond.methodLink RX9 174 yX3_pop ∈ lw_g := wd_t2 (List.mem_of_getElem? (i := 206) rfl) rfl
theorem wd_2_207 : Cond.instanceMethod yX3_pop ∈ lw_g := wd_t2 (List.mem_of_getElem? (i := 207) rfl) rfl
theorem wd_2_208 : Cond.selects RX3 yX3_pop yX3_pop ∈ lw_g := wd_t2 (List.mem_of_getElem? (i := 208) rfl) rfl
theorem wd_2_209 : Cond.code yX3_pop cX3_pop 1 (some .int) ∈ lw_g := wd_t2 (List.mem_of_getElem? (i := 209) rfl) rfl
theorem wd_2_210 : Cond.methodLink RL 68 yX9_tell ∈ lw_g := wd_t2 (List.mem_of_getElem? (i := 210) rfl) rfl
theorem wd_2_211 : Cond.instanceMethod yX9_tell ∈ lw_g := wd_t2 (List.mem_of_getElem? (i := 211) rfl) rfl
theorem wd_2_212 : Cond.selects RX9 yX9_tell yX9_tell ∈ lw_g := wd_t2 (List.mem_of_getElem? (i := 212) rfl) rfl
theorem wd_2_213 : Cond.code yX9_tell cX9_tell 2 (some .int) ∈ lw_g := wd_t2 (List.mem_of_getElem? (i := 213) rfl) rfl
theorem wd_2_214 : Cond.methodLink RL 72 yX9_noRow ∈ lw_g := wd_t2 (List.mem_of_getElem? (i := 214) rfl) rfl
theorem wd_2_215 : Cond.instanceMethod yX9_noRow ∈ lw_g := wd_t2 (List.mem_of_getElem? (i := 215) rfl) rfl
theorem wd_2_216 : Cond.selects RX9 yX9_noRow yX9_noRow ∈ lw_g := wd_t2 (List.mem_of_getElem? (i := 216) rfl) rfl
theorem wd_2_217 : Cond.code yX9_noRow cX9_noRow 2 (some .int) ∈ lw_g := wd_t2 (List.mem_of_getElem? (i := 217) rfl) rfl
theorem wd_2_218 : Cond.methodLink RL 76 yX9_judge ∈ lw_g := wd_t2 (List.mem_of_getElem? (i := 218) rfl) rfl
theorem wd_2_219 : Cond.instanceMethod yX9_judge ∈ lw_g := wd_t2 (List.mem_of_getElem? (i := 219) rfl) rfl
theorem wd_2_220 : Cond.selects RX9 yX9_judge yX9_judge ∈ lw_g := wd_t2 (List.mem_of_getElem? (i := 220) rfl) rfl
theorem wd_2_221 : Cond.code yX9_judge cX9_judge 4 (some .int) ∈ lw_g := wd_t2 (List.mem_of_getElem? (i := 221) rfl) rfl
theorem wd_2_222 : Cond.methodLink RX9 178 yX3_get ∈ lw_g := wd_t2 (List.mem_of_getElem? (i := 222) rfl) rfl
theorem wd_2_223 : Cond.instanceMethod yX3_get ∈ lw_g := wd_t2 (List.mem_of_getElem? (i := 223) rfl) rfl
theorem wd_2_224 : Cond.selects RX3 yX3_get yX3_get ∈ lw_g := wd_t2 (List.mem_of_getElem? (i := 224) rfl) rfl
theorem wd_2_225 : Cond.code yX3_get cX3_get 2 (some .int) ∈ lw_g := wd_t2 (List.mem_of_getElem? (i := 225) rfl) rfl
theorem wd_2_226 : Cond.methodLink RL 80 yX9_rests ∈ lw_g := wd_t2 (List.mem_of_getElem? (i := 226) rfl) rfl
theorem wd_2_227 : Cond.instanceMethod yX9_rests ∈ lw_g := wd_t2 (List.mem_of_getElem? (i := 227) rfl) rfl
theorem wd_2_228 : Cond.selects RX9 yX9_rests yX9_rests ∈ lw_g := wd_t2 (List.mem_of_getElem? (i := 228) rfl) rfl
theorem wd_2_229 : Cond.code yX9_rests cX9_rests 2 (some .int) ∈ lw_g := wd_t2 (List.mem_of_getElem? (i := 229) rfl) rfl
theorem wd_2_230 : Cond.methodLink RX9 181 yX9_isPlaceOrAll ∈ lw_g := wd_t2 (List.mem_of_getElem? (i := 230) rfl) rfl
theorem wd_2_232 : Cond.instanceMethod yX9_isPlaceOrAll ∈ lw_g := wd_t2 (List.mem_of_getElem? (i := 232) rfl) rfl
theorem wd_2_233 : Cond.code yX9_isPlaceOrAll cX9_isPlaceOrAll 2 (some .boolean) ∈ lw_g := wd_t2 (List.mem_of_getElem? (i := 233) rfl) rfl
theorem wd_2_234 : Cond.methodLink RX9 184 yX9_drawGraph ∈ lw_g := wd_t2 (List.mem_of_getElem? (i := 234) rfl) rfl
theorem wd_2_236 : Cond.instanceMethod yX9_drawGraph ∈ lw_g := wd_t2 (List.mem_of_getElem? (i := 236) rfl) rfl
theorem wd_2_237 : Cond.code yX9_drawGraph cX9_drawGraph 1 none ∈ lw_g := wd_t2 (List.mem_of_getElem? (i := 237) rfl) rfl
theorem wd_2_238 : Cond.methodLink RX9 237 yX1_draw ∈ lw_g := wd_t2 (List.mem_of_getElem? (i := 238) rfl) rfl
theorem wd_2_239 : Cond.instanceMethod yX1_draw ∈ lw_g := wd_t2 (List.mem_of_getElem? (i := 239) rfl) rfl
theorem wd_3_0 : Cond.selects RX1 yX1_draw yX1_draw ∈ lw_g := wd_t3 (List.mem_of_getElem? (i := 0) rfl) rfl
theorem wd_3_1 : Cond.code yX1_draw cX1_draw 4 none ∈ lw_g := wd_t3 (List.mem_of_getElem? (i := 1) rfl) rfl
theorem wd_3_2 : Cond.methodLink RX1 37 yX2_changeCount ∈ lw_g := wd_t3 (List.mem_of_getElem? (i := 2) rfl) rfl
theorem wd_3_3 : Cond.methodLink RX1 41 yX4_ordered ∈ lw_g := wd_t3 (List.mem_of_getElem? (i := 3) rfl) rfl
theorem wd_3_4 : Cond.methodLink RX1 47 yX4_following ∈ lw_g := wd_t3 (List.mem_of_getElem? (i := 4) rfl) rfl
theorem wd_3_5 : Cond.static yX4_following ∈ lw_g := wd_t3 (List.mem_of_getElem? (i := 5) rfl) rfl
theorem wd_3_6 : Cond.code yX4_following cX4_following 7 (some .int) ∈ lw_g := wd_t3 (List.mem_of_getElem? (i := 6) rfl) rfl
theorem wd_3_7 : Cond.methodLink RX4 15 yX4_swapped ∈ lw_g := wd_t3 (List.mem_of_getElem? (i := 7) rfl) rfl
theorem wd_3_8 : Cond.methodLink RX1 51 yX1_drawEdges ∈ lw_g := wd_t3 (List.mem_of_getElem? (i := 8) rfl) rfl
theorem wd_3_10 : Cond.instanceMethod yX1_drawEdges ∈ lw_g := wd_t3 (List.mem_of_getElem? (i := 10) rfl) rfl
theorem wd_3_11 : Cond.code yX1_drawEdges cX1_drawEdges 8 none ∈ lw_g := wd_t3 (List.mem_of_getElem? (i := 11) rfl) rfl
theorem wd_3_12 : Cond.methodLink RX1 58 yX2_after ∈ lw_g := wd_t3 (List.mem_of_getElem? (i := 12) rfl) rfl
theorem wd_3_13 : Cond.methodLink RX1 61 yX2_changed ∈ lw_g := wd_t3 (List.mem_of_getElem? (i := 13) rfl) rfl
theorem wd_3_14 : Cond.methodLink RX1 64 yX4_rank ∈ lw_g := wd_t3 (List.mem_of_getElem? (i := 14) rfl) rfl
theorem wd_3_15 : Cond.static yX4_rank ∈ lw_g := wd_t3 (List.mem_of_getElem? (i := 15) rfl) rfl
theorem wd_3_16 : Cond.code yX4_rank cX4_rank 5 (some .int) ∈ lw_g := wd_t3 (List.mem_of_getElem? (i := 16) rfl) rfl
theorem wd_3_17 : Cond.methodLink RX1 67 yX2_agrees ∈ lw_g := wd_t3 (List.mem_of_getElem? (i := 17) rfl) rfl
theorem wd_3_18 : Cond.methodLink RX1 55 yX1_countRests ∈ lw_g := wd_t3 (List.mem_of_getElem? (i := 18) rfl) rfl
theorem wd_3_20 : Cond.instanceMethod yX1_countRests ∈ lw_g := wd_t3 (List.mem_of_getElem? (i := 20) rfl) rfl
theorem wd_3_21 : Cond.code yX1_countRests cX1_countRests 2 none ∈ lw_g := wd_t3 (List.mem_of_getElem? (i := 21) rfl) rfl
theorem wd_3_22 : Cond.methodLink RX1 71 yX1_isRest ∈ lw_g := wd_t3 (List.mem_of_getElem? (i := 22) rfl) rfl
theorem wd_3_23 : Cond.instanceMethod yX1_isRest ∈ lw_g := wd_t3 (List.mem_of_getElem? (i := 23) rfl) rfl
theorem wd_3_24 : Cond.selects RX1 yX1_isRest yX1_isRest ∈ lw_g := wd_t3 (List.mem_of_getElem? (i := 24) rfl) rfl
theorem wd_3_25 : Cond.code yX1_isRest cX1_isRest 3 (some .boolean) ∈ lw_g := wd_t3 (List.mem_of_getElem? (i := 25) rfl) rfl
theorem wd_3_26 : Cond.methodLink RX1 75 yX1_leadsTo ∈ lw_g := wd_t3 (List.mem_of_getElem? (i := 26) rfl) rfl
theorem wd_3_27 : Cond.instanceMethod yX1_leadsTo ∈ lw_g := wd_t3 (List.mem_of_getElem? (i := 27) rfl) rfl
theorem wd_3_28 : Cond.selects RX1 yX1_leadsTo yX1_leadsTo ∈ lw_g := wd_t3 (List.mem_of_getElem? (i := 28) rfl) rfl
theorem wd_3_29 : Cond.code yX1_leadsTo cX1_leadsTo 7 (some .int) ∈ lw_g := wd_t3 (List.mem_of_getElem? (i := 29) rfl) rfl
theorem wd_3_30 : Cond.methodLink RX1 79 yX4_who ∈ lw_g := wd_t3 (List.mem_of_getElem? (i := 30) rfl) rfl
theorem wd_3_31 : Cond.methodLink RX9 193 yX1_rowOf ∈ lw_g := wd_t3 (List.mem_of_getElem? (i := 31) rfl) rfl
theorem wd_3_32 : Cond.instanceMethod yX1_rowOf ∈ lw_g := wd_t3 (List.mem_of_getElem? (i := 32) rfl) rfl
theorem wd_3_33 : Cond.selects RX1 yX1_rowOf yX1_rowOf ∈ lw_g := wd_t3 (List.mem_of_getElem? (i := 33) rfl) rfl
theorem wd_3_34 : Cond.code yX1_rowOf cX1_rowOf 2 (some .int) ∈ lw_g := wd_t3 (List.mem_of_getElem? (i := 34) rfl) rfl
theorem wd_3_35 : Cond.methodLink RL 84 yX9_goingOn ∈ lw_g := wd_t3 (List.mem_of_getElem? (i := 35) rfl) rfl
theorem wd_3_36 : Cond.instanceMethod yX9_goingOn ∈ lw_g := wd_t3 (List.mem_of_getElem? (i := 36) rfl) rfl
theorem wd_3_37 : Cond.selects RX9 yX9_goingOn yX9_goingOn ∈ lw_g := wd_t3 (List.mem_of_getElem? (i := 37) rfl) rfl
theorem wd_3_38 : Cond.code yX9_goingOn cX9_goingOn 2 (some .int) ∈ lw_g := wd_t3 (List.mem_of_getElem? (i := 38) rfl) rfl
theorem wd_3_39 : Cond.methodLink RX9 196 yX8_comesToRest ∈ lw_g := wd_t3 (List.mem_of_getElem? (i := 39) rfl) rfl
theorem wd_3_40 : Cond.instanceMethod yX8_comesToRest ∈ lw_g := wd_t3 (List.mem_of_getElem? (i := 40) rfl) rfl
theorem wd_3_41 : Cond.selects RX8 yX8_comesToRest yX8_comesToRest ∈ lw_g := wd_t3 (List.mem_of_getElem? (i := 41) rfl) rfl
theorem wd_3_42 : Cond.code yX8_comesToRest cX8_comesToRest 7 (some .boolean) ∈ lw_g := wd_t3 (List.mem_of_getElem? (i := 42) rfl) rfl
theorem wd_3_43 : Cond.methodLink RX8 18 yX2_changeCount ∈ lw_g := wd_t3 (List.mem_of_getElem? (i := 43) rfl) rfl
theorem wd_3_44 : Cond.methodLink RX8 24 yX2_changeSuits ∈ lw_g := wd_t3 (List.mem_of_getElem? (i := 44) rfl) rfl
theorem wd_3_45 : Cond.methodLink RX8 28 yX2_changed ∈ lw_g := wd_t3 (List.mem_of_getElem? (i := 45) rfl) rfl
theorem wd_3_46 : Cond.methodLink RL 88 yX9_longest ∈ lw_g := wd_t3 (List.mem_of_getElem? (i := 46) rfl) rfl
theorem wd_3_47 : Cond.instanceMethod yX9_longest ∈ lw_g := wd_t3 (List.mem_of_getElem? (i := 47) rfl) rfl
theorem wd_3_48 : Cond.selects RX9 yX9_longest yX9_longest ∈ lw_g := wd_t3 (List.mem_of_getElem? (i := 48) rfl) rfl
theorem wd_3_49 : Cond.code yX9_longest cX9_longest 2 (some .int) ∈ lw_g := wd_t3 (List.mem_of_getElem? (i := 49) rfl) rfl
theorem wd_3_50 : Cond.methodLink RX9 206 yX1_stateOf ∈ lw_g := wd_t3 (List.mem_of_getElem? (i := 50) rfl) rfl
theorem wd_3_51 : Cond.instanceMethod yX1_stateOf ∈ lw_g := wd_t3 (List.mem_of_getElem? (i := 51) rfl) rfl
theorem wd_3_52 : Cond.selects RX1 yX1_stateOf yX1_stateOf ∈ lw_g := wd_t3 (List.mem_of_getElem? (i := 52) rfl) rfl
theorem wd_3_53 : Cond.code yX1_stateOf cX1_stateOf 3 (some .int) ∈ lw_g := wd_t3 (List.mem_of_getElem? (i := 53) rfl) rfl
theorem wd_3_54 : Cond.methodLink RX9 209 yX5_longestFrom ∈ lw_g := wd_t3 (List.mem_of_getElem? (i := 54) rfl) rfl
theorem wd_3_55 : Cond.instanceMethod yX5_longestFrom ∈ lw_g := wd_t3 (List.mem_of_getElem? (i := 55) rfl) rfl
theorem wd_3_56 : Cond.selects RX5 yX5_longestFrom yX5_longestFrom ∈ lw_g := wd_t3 (List.mem_of_getElem? (i := 56) rfl) rfl
theorem wd_3_57 : Cond.code yX5_longestFrom cX5_longestFrom 8 (some .int) ∈ lw_g := wd_t3 (List.mem_of_getElem? (i := 57) rfl) rfl
theorem wd_3_58 : Cond.methodLink RX5 61 yX5_spread ∈ lw_g := wd_t3 (List.mem_of_getElem? (i := 58) rfl) rfl
theorem wd_3_59 : Cond.instanceMethod yX5_spread ∈ lw_g := wd_t3 (List.mem_of_getElem? (i := 59) rfl) rfl
theorem wd_3_60 : Cond.selects RX5 yX5_spread yX5_spread ∈ lw_g := wd_t3 (List.mem_of_getElem? (i := 60) rfl) rfl
theorem wd_3_61 : Cond.code yX5_spread cX5_spread 7 none ∈ lw_g := wd_t3 (List.mem_of_getElem? (i := 61) rfl) rfl
theorem wd_3_62 : Cond.methodLink RX5 28 yJ7_fill_53178 ∈ lw_g := wd_t3 (List.mem_of_getElem? (i := 62) rfl) rfl
theorem wd_3_63 : Cond.methodLink RX5 34 yX5_reach ∈ lw_g := wd_t3 (List.mem_of_getElem? (i := 63) rfl) rfl
theorem wd_3_65 : Cond.instanceMethod yX5_reach ∈ lw_g := wd_t3 (List.mem_of_getElem? (i := 65) rfl) rfl
theorem wd_3_66 : Cond.code yX5_reach cX5_reach 4 none ∈ lw_g := wd_t3 (List.mem_of_getElem? (i := 66) rfl) rfl
theorem wd_3_67 : Cond.methodLink RX5 43 yX1_leadsTo ∈ lw_g := wd_t3 (List.mem_of_getElem? (i := 67) rfl) rfl
theorem wd_3_68 : Cond.methodLink RX5 65 yX5_countWaysIn ∈ lw_g := wd_t3 (List.mem_of_getElem? (i := 68) rfl) rfl
theorem wd_3_70 : Cond.instanceMethod yX5_countWaysIn ∈ lw_g := wd_t3 (List.mem_of_getElem? (i := 70) rfl) rfl
theorem wd_3_71 : Cond.code yX5_countWaysIn cX5_countWaysIn 5 none ∈ lw_g := wd_t3 (List.mem_of_getElem? (i := 71) rfl) rfl
theorem wd_3_72 : Cond.methodLink RX5 69 Lib.Math.max.name ∈ lw_g := wd_t3 (List.mem_of_getElem? (i := 72) rfl) rfl
theorem wd_3_73 : Cond.methodLink RX5 74 yX5_goThrough ∈ lw_g := wd_t3 (List.mem_of_getElem? (i := 73) rfl) rfl
theorem wd_3_75 : Cond.instanceMethod yX5_goThrough ∈ lw_g := wd_t3 (List.mem_of_getElem? (i := 75) rfl) rfl
theorem wd_3_76 : Cond.code yX5_goThrough cX5_goThrough 3 none ∈ lw_g := wd_t3 (List.mem_of_getElem? (i := 76) rfl) rfl
theorem wd_3_77 : Cond.methodLink RL 92 yX9_shortest ∈ lw_g := wd_t3 (List.mem_of_getElem? (i := 77) rfl) rfl
theorem wd_3_78 : Cond.instanceMethod yX9_shortest ∈ lw_g := wd_t3 (List.mem_of_getElem? (i := 78) rfl) rfl
theorem wd_3_79 : Cond.selects RX9 yX9_shortest yX9_shortest ∈ lw_g := wd_t3 (List.mem_of_getElem? (i := 79) rfl) rfl
theorem wd_3_80 : Cond.code yX9_shortest cX9_shortest 3 (some .int) ∈ lw_g := wd_t3 (List.mem_of_getElem? (i := 80) rfl) rfl
theorem wd_3_81 : Cond.methodLink RX9 213 yX9_isEither ∈ lw_g := wd_t3 (List.mem_of_getElem? (i := 81) rfl) rfl
theorem wd_3_82 : Cond.static yX9_isEither ∈ lw_g := wd_t3 (List.mem_of_getElem? (i := 82) rfl) rfl
theorem wd_3_83 : Cond.code yX9_isEither cX9_isEither 1 (some .boolean) ∈ lw_g := wd_t3 (List.mem_of_getElem? (i := 83) rfl) rfl
theorem wd_3_84 : Cond.methodLink RX9 216 yX5_spread ∈ lw_g := wd_t3 (List.mem_of_getElem? (i := 84) rfl) rfl
theorem wd_3_85 : Cond.methodLink RX9 220 yX5_nearestRest ∈ lw_g := wd_t3 (List.mem_of_getElem? (i := 85) rfl) rfl
theorem wd_3_86 : Cond.instanceMethod yX5_nearestRest ∈ lw_g := wd_t3 (List.mem_of_getElem? (i := 86) rfl) rfl
theorem wd_3_87 : Cond.selects RX5 yX5_nearestRest yX5_nearestRest ∈ lw_g := wd_t3 (List.mem_of_getElem? (i := 87) rfl) rfl
theorem wd_3_88 : Cond.code yX5_nearestRest cX5_nearestRest 3 (some .int) ∈ lw_g := wd_t3 (List.mem_of_getElem? (i := 88) rfl) rfl
theorem wd_3_89 : Cond.methodLink RX5 47 yX1_isRest ∈ lw_g := wd_t3 (List.mem_of_getElem? (i := 89) rfl) rfl
theorem wd_3_90 : Cond.methodLink RX9 224 yX9_answerOfWay ∈ lw_g := wd_t3 (List.mem_of_getElem? (i := 90) rfl) rfl
theorem wd_3_92 : Cond.instanceMethod yX9_answerOfWay ∈ lw_g := wd_t3 (List.mem_of_getElem? (i := 92) rfl) rfl
theorem wd_3_93 : Cond.code yX9_answerOfWay cX9_answerOfWay 4 (some .int) ∈ lw_g := wd_t3 (List.mem_of_getElem? (i := 93) rfl) rfl
theorem wd_3_94 : Cond.methodLink RX9 245 yX5_stepsTo ∈ lw_g := wd_t3 (List.mem_of_getElem? (i := 94) rfl) rfl
theorem wd_3_95 : Cond.instanceMethod yX5_stepsTo ∈ lw_g := wd_t3 (List.mem_of_getElem? (i := 95) rfl) rfl
theorem wd_3_96 : Cond.selects RX5 yX5_stepsTo yX5_stepsTo ∈ lw_g := wd_t3 (List.mem_of_getElem? (i := 96) rfl) rfl
theorem wd_3_97 : Cond.code yX5_stepsTo cX5_stepsTo 2 (some .int) ∈ lw_g := wd_t3 (List.mem_of_getElem? (i := 97) rfl) rfl
theorem wd_3_98 : Cond.methodLink RX9 248 yX5_firstTo ∈ lw_g := wd_t3 (List.mem_of_getElem? (i := 98) rfl) rfl
theorem wd_3_99 : Cond.instanceMethod yX5_firstTo ∈ lw_g := wd_t3 (List.mem_of_getElem? (i := 99) rfl) rfl
theorem wd_3_100 : Cond.selects RX5 yX5_firstTo yX5_firstTo ∈ lw_g := wd_t3 (List.mem_of_getElem? (i := 100) rfl) rfl
theorem wd_3_101 : Cond.code yX5_firstTo cX5_firstTo 2 (some .int) ∈ lw_g := wd_t3 (List.mem_of_getElem? (i := 101) rfl) rfl
theorem wd_3_102 : Cond.methodLink RL 96 yX9_comes ∈ lw_g := wd_t3 (List.mem_of_getElem? (i := 102) rfl) rfl
theorem wd_3_103 : Cond.instanceMethod yX9_comes ∈ lw_g := wd_t3 (List.mem_of_getElem? (i := 103) rfl) rfl
theorem wd_3_104 : Cond.selects RX9 yX9_comes yX9_comes ∈ lw_g := wd_t3 (List.mem_of_getElem? (i := 104) rfl) rfl
theorem wd_3_105 : Cond.code yX9_comes cX9_comes 5 (some .int) ∈ lw_g := wd_t3 (List.mem_of_getElem? (i := 105) rfl) rfl
theorem wd_3_106 : Cond.methodLink RX9 227 yX9_stateWith ∈ lw_g := wd_t3 (List.mem_of_getElem? (i := 106) rfl) rfl
theorem wd_3_108 : Cond.instanceMethod yX9_stateWith ∈ lw_g := wd_t3 (List.mem_of_getElem? (i := 108) rfl) rfl
theorem wd_3_109 : Cond.code yX9_stateWith cX9_stateWith 4 (some .int) ∈ lw_g := wd_t3 (List.mem_of_getElem? (i := 109) rfl) rfl
theorem wd_3_110 : Cond.methodLink RX9 241 yX5_nearestWith ∈ lw_g := wd_t3 (List.mem_of_getElem? (i := 110) rfl) rfl
theorem wd_3_111 : Cond.instanceMethod yX5_nearestWith ∈ lw_g := wd_t3 (List.mem_of_getElem? (i := 111) rfl) rfl
theorem wd_3_112 : Cond.selects RX5 yX5_nearestWith yX5_nearestWith ∈ lw_g := wd_t3 (List.mem_of_getElem? (i := 112) rfl) rfl
theorem wd_3_113 : Cond.code yX5_nearestWith cX5_nearestWith 5 (some .int) ∈ lw_g := wd_t3 (List.mem_of_getElem? (i := 113) rfl) rfl
theorem wd_3_114 : Cond.methodLink RX5 51 yX1_rowOf ∈ lw_g := wd_t3 (List.mem_of_getElem? (i := 114) rfl) rfl
theorem wd_3_115 : Cond.methodLink RX5 55 yX4_who ∈ lw_g := wd_t3 (List.mem_of_getElem? (i := 115) rfl) rfl
theorem wd_3_116 : Cond.methodLink RL 101 yX9_bars ∈ lw_g := wd_t3 (List.mem_of_getElem? (i := 116) rfl) rfl
theorem wd_3_117 : Cond.instanceMethod yX9_bars ∈ lw_g := wd_t3 (List.mem_of_getElem? (i := 117) rfl) rfl
theorem wd_3_118 : Cond.selects RX9 yX9_bars yX9_bars ∈ lw_g := wd_t3 (List.mem_of_getElem? (i := 118) rfl) rfl
theorem wd_3_119 : Cond.code yX9_bars cX9_bars 4 (some .int) ∈ lw_g := wd_t3 (List.mem_of_getElem? (i := 119) rfl) rfl
theorem wd_3_120 : Cond.methodLink RL 105 yX9_best ∈ lw_g := wd_t3 (List.mem_of_getElem? (i := 120) rfl) rfl
theorem wd_3_121 : Cond.instanceMethod yX9_best ∈ lw_g := wd_t3 (List.mem_of_getElem? (i := 121) rfl) rfl
theorem wd_3_122 : Cond.selects RX9 yX9_best yX9_best ∈ lw_g := wd_t3 (List.mem_of_getElem? (i := 122) rfl) rfl
theorem wd_3_123 : Cond.code yX9_best cX9_best 7 (some .int) ∈ lw_g := wd_t3 (List.mem_of_getElem? (i := 123) rfl) rfl
theorem wd_3_124 : Cond.methodLink RX9 231 yX2_sumOfWorths ∈ lw_g := wd_t3 (List.mem_of_getElem? (i := 124) rfl) rfl
theorem wd_3_125 : Cond.instanceMethod yX2_sumOfWorths ∈ lw_g := wd_t3 (List.mem_of_getElem? (i := 125) rfl) rfl
theorem wd_3_126 : Cond.selects RX2 yX2_sumOfWorths yX2_sumOfWorths ∈ lw_g := wd_t3 (List.mem_of_getElem? (i := 126) rfl) rfl
theorem wd_3_127 : Cond.code yX2_sumOfWorths cX2_sumOfWorths 4 (some .int) ∈ lw_g := wd_t3 (List.mem_of_getElem? (i := 127) rfl) rfl
theorem wd_3_128 : Cond.methodLink RX9 234 yX4_following ∈ lw_g := wd_t3 (List.mem_of_getElem? (i := 128) rfl) rfl
theorem wd_3_129 : Cond.methodLink RL 109 yX9_price ∈ lw_g := wd_t3 (List.mem_of_getElem? (i := 129) rfl) rfl
theorem wd_3_130 : Cond.instanceMethod yX9_price ∈ lw_g := wd_t3 (List.mem_of_getElem? (i := 130) rfl) rfl
theorem wd_3_131 : Cond.selects RX9 yX9_price yX9_price ∈ lw_g := wd_t3 (List.mem_of_getElem? (i := 131) rfl) rfl
theorem wd_3_132 : Cond.code yX9_price cX9_price 4 (some .int) ∈ lw_g := wd_t3 (List.mem_of_getElem? (i := 132) rfl) rfl
theorem wd_3_133 : Cond.methodLink RX9 251 yX9_priceOf ∈ lw_g := wd_t3 (List.mem_of_getElem? (i := 133) rfl) rfl
theorem wd_3_135 : Cond.instanceMethod yX9_priceOf ∈ lw_g := wd_t3 (List.mem_of_getElem? (i := 135) rfl) rfl
theorem wd_3_136 : Cond.code yX9_priceOf cX9_priceOf 4 (some .int) ∈ lw_g := wd_t3 (List.mem_of_getElem? (i := 136) rfl) rfl
theorem wd_3_137 : Cond.methodLink RX9 257 yX2_after ∈ lw_g := wd_t3 (List.mem_of_getElem? (i := 137) rfl) rfl
theorem wd_3_138 : Cond.methodLink RX9 260 yX9_gainOf ∈ lw_g := wd_t3 (List.mem_of_getElem? (i := 138) rfl) rfl
theorem wd_3_140 : Cond.instanceMethod yX9_gainOf ∈ lw_g := wd_t3 (List.mem_of_getElem? (i := 140) rfl) rfl
theorem wd_3_141 : Cond.code yX9_gainOf cX9_gainOf 6 (some .int) ∈ lw_g := wd_t3 (List.mem_of_getElem? (i := 141) rfl) rfl
theorem wd_3_142 : Cond.methodLink RX9 266 yX2_worthAt ∈ lw_g := wd_t3 (List.mem_of_getElem? (i := 142) rfl) rfl
theorem wd_3_143 : Cond.methodLink RX9 263 yX2_missing ∈ lw_g := wd_t3 (List.mem_of_getElem? (i := 143) rfl) rfl
theorem wd_3_144 : Cond.methodLink RL 113 yX9_deal ∈ lw_g := wd_t3 (List.mem_of_getElem? (i := 144) rfl) rfl
theorem wd_3_145 : Cond.instanceMethod yX9_deal ∈ lw_g := wd_t3 (List.mem_of_getElem? (i := 145) rfl) rfl
theorem wd_3_146 : Cond.selects RX9 yX9_deal yX9_deal ∈ lw_g := wd_t3 (List.mem_of_getElem? (i := 146) rfl) rfl
theorem wd_3_147 : Cond.code yX9_deal cX9_deal 2 (some .int) ∈ lw_g := wd_t3 (List.mem_of_getElem? (i := 147) rfl) rfl
theorem wd_3_148 : Cond.methodLink RX9 254 yX9_pays ∈ lw_g := wd_t3 (List.mem_of_getElem? (i := 148) rfl) rfl
theorem wd_3_150 : Cond.instanceMethod yX9_pays ∈ lw_g := wd_t3 (List.mem_of_getElem? (i := 150) rfl) rfl
theorem wd_3_151 : Cond.code yX9_pays cX9_pays 4 (some .boolean) ∈ lw_g := wd_t3 (List.mem_of_getElem? (i := 151) rfl) rfl
theorem wd_3_152 : Cond.methodLink RL 117 yX9_lie ∈ lw_g := wd_t3 (List.mem_of_getElem? (i := 152) rfl) rfl
theorem wd_3_153 : Cond.instanceMethod yX9_lie ∈ lw_g := wd_t3 (List.mem_of_getElem? (i := 153) rfl) rfl
theorem wd_3_154 : Cond.selects RX9 yX9_lie yX9_lie ∈ lw_g := wd_t3 (List.mem_of_getElem? (i := 154) rfl) rfl
theorem wd_3_155 : Cond.code yX9_lie cX9_lie 8 (some .int) ∈ lw_g := wd_t3 (List.mem_of_getElem? (i := 155) rfl) rfl
theorem wd_3_156 : Cond.methodLink RX9 269 yX9_worthBySaying ∈ lw_g := wd_t3 (List.mem_of_getElem? (i := 156) rfl) rfl
theorem wd_3_158 : Cond.instanceMethod yX9_worthBySaying ∈ lw_g := wd_t3 (List.mem_of_getElem? (i := 158) rfl) rfl
theorem wd_3_159 : Cond.code yX9_worthBySaying cX9_worthBySaying 5 (some .int) ∈ lw_g := wd_t3 (List.mem_of_getElem? (i := 159) rfl) rfl
theorem wd_3_160 : Cond.constant RX9 272 (-1000000) ∈ lw_g := wd_t3 (List.mem_of_getElem? (i := 160) rfl) rfl
theorem wd_3_161 : Cond.methodLink RL 121 yX9_seen ∈ lw_g := wd_t3 (List.mem_of_getElem? (i := 161) rfl) rfl
theorem wd_3_162 : Cond.instanceMethod yX9_seen ∈ lw_g := wd_t3 (List.mem_of_getElem? (i := 162) rfl) rfl
theorem wd_3_163 : Cond.selects RX9 yX9_seen yX9_seen ∈ lw_g := wd_t3 (List.mem_of_getElem? (i := 163) rfl) rfl
theorem wd_3_164 : Cond.code yX9_seen cX9_seen 5 (some .int) ∈ lw_g := wd_t3 (List.mem_of_getElem? (i := 164) rfl) rfl
theorem wd_3_165 : Cond.methodLink RX9 273 yX6_add ∈ lw_g := wd_t3 (List.mem_of_getElem? (i := 165) rfl) rfl
theorem wd_3_166 : Cond.instanceMethod yX6_add ∈ lw_g := wd_t3 (List.mem_of_getElem? (i := 166) rfl) rfl
theorem wd_3_167 : Cond.selects RX6 yX6_add yX6_add ∈ lw_g := wd_t3 (List.mem_of_getElem? (i := 167) rfl) rfl
theorem wd_3_168 : Cond.code yX6_add cX6_add 5 (some .boolean) ∈ lw_g := wd_t3 (List.mem_of_getElem? (i := 168) rfl) rfl
theorem wd_3_169 : Cond.methodLink RL 126 yX9_forget ∈ lw_g := wd_t3 (List.mem_of_getElem? (i := 169) rfl) rfl
theorem wd_3_170 : Cond.instanceMethod yX9_forget ∈ lw_g := wd_t3 (List.mem_of_getElem? (i := 170) rfl) rfl
theorem wd_3_171 : Cond.selects RX9 yX9_forget yX9_forget ∈ lw_g := wd_t3 (List.mem_of_getElem? (i := 171) rfl) rfl
theorem wd_3_172 : Cond.code yX9_forget cX9_forget 2 (some .int) ∈ lw_g := wd_t3 (List.mem_of_getElem? (i := 172) rfl) rfl
theorem wd_3_173 : Cond.methodLink RL 130 yX9_fits ∈ lw_g := wd_t3 (List.mem_of_getElem? (i := 173) rfl) rfl
theorem wd_3_174 : Cond.instanceMethod yX9_fits ∈ lw_g := wd_t3 (List.mem_of_getElem? (i := 174) rfl) rfl
theorem wd_3_175 : Cond.selects RX9 yX9_fits yX9_fits ∈ lw_g := wd_t3 (List.mem_of_getElem? (i := 175) rfl) rfl
theorem wd_3_176 : Cond.code yX9_fits cX9_fits 6 (some .int) ∈ lw_g := wd_t3 (List.mem_of_getElem? (i := 176) rfl) rfl
theorem wd_3_177 : Cond.methodLink RX9 277 yX6_allow ∈ lw_g := wd_t3 (List.mem_of_getElem? (i := 177) rfl) rfl
theorem wd_3_178 : Cond.instanceMethod yX6_allow ∈ lw_g := wd_t3 (List.mem_of_getElem? (i := 178) rfl) rfl
theorem wd_3_179 : Cond.selects RX6 yX6_allow yX6_allow ∈ lw_g := wd_t3 (List.mem_of_getElem? (i := 179) rfl) rfl
theorem wd_3_180 : Cond.code yX6_allow cX6_allow 8 (some .boolean) ∈ lw_g := wd_t3 (List.mem_of_getElem? (i := 180) rfl) rfl
theorem wd_3_181 : Cond.methodLink RX6 29 yX2_far ∈ lw_g := wd_t3 (List.mem_of_getElem? (i := 181) rfl) rfl
theorem wd_3_182 : Cond.methodLink RX6 41 yX2_missing ∈ lw_g := wd_t3 (List.mem_of_getElem? (i := 182) rfl) rfl
theorem wd_3_183 : Cond.methodLink RL 134 yX9_mean ∈ lw_g := wd_t3 (List.mem_of_getElem? (i := 183) rfl) rfl
theorem wd_3_184 : Cond.instanceMethod yX9_mean ∈ lw_g := wd_t3 (List.mem_of_getElem? (i := 184) rfl) rfl
theorem wd_3_185 : Cond.selects RX9 yX9_mean yX9_mean ∈ lw_g := wd_t3 (List.mem_of_getElem? (i := 185) rfl) rfl
theorem wd_3_186 : Cond.code yX9_mean cX9_mean 4 (some .int) ∈ lw_g := wd_t3 (List.mem_of_getElem? (i := 186) rfl) rfl
theorem wd_3_187 : Cond.methodLink RX9 281 yX0_pass ∈ lw_g := wd_t3 (List.mem_of_getElem? (i := 187) rfl) rfl
theorem wd_3_188 : Cond.instanceMethod yX0_pass ∈ lw_g := wd_t3 (List.mem_of_getElem? (i := 188) rfl) rfl
theorem wd_3_189 : Cond.selects RX0 yX0_pass yX0_pass ∈ lw_g := wd_t3 (List.mem_of_getElem? (i := 189) rfl) rfl
theorem wd_3_190 : Cond.code yX0_pass cX0_pass 5 none ∈ lw_g := wd_t3 (List.mem_of_getElem? (i := 190) rfl) rfl
theorem wd_3_191 : Cond.methodLink RX0 25 yJ7_fill_53178 ∈ lw_g := wd_t3 (List.mem_of_getElem? (i := 191) rfl) rfl
theorem wd_3_192 : Cond.methodLink RX0 31 yX0_passOne ∈ lw_g := wd_t3 (List.mem_of_getElem? (i := 192) rfl) rfl
theorem wd_3_194 : Cond.instanceMethod yX0_passOne ∈ lw_g := wd_t3 (List.mem_of_getElem? (i := 194) rfl) rfl
theorem wd_3_195 : Cond.code yX0_passOne cX0_passOne 5 none ∈ lw_g := wd_t3 (List.mem_of_getElem? (i := 195) rfl) rfl
theorem wd_3_196 : Cond.methodLink RX0 43 yX1_leadsTo ∈ lw_g := wd_t3 (List.mem_of_getElem? (i := 196) rfl) rfl
theorem wd_3_197 : Cond.methodLink RX9 284 yX0_takeMean ∈ lw_g := wd_t3 (List.mem_of_getElem? (i := 197) rfl) rfl
theorem wd_3_198 : Cond.instanceMethod yX0_takeMean ∈ lw_g := wd_t3 (List.mem_of_getElem? (i := 198) rfl) rfl
theorem wd_3_199 : Cond.selects RX0 yX0_takeMean yX0_takeMean ∈ lw_g := wd_t3 (List.mem_of_getElem? (i := 199) rfl) rfl
theorem wd_3_200 : Cond.code yX0_takeMean cX0_takeMean 5 none ∈ lw_g := wd_t3 (List.mem_of_getElem? (i := 200) rfl) rfl
theorem wd_3_201 : Cond.methodLink RX0 47 yX1_rowOf ∈ lw_g := wd_t3 (List.mem_of_getElem? (i := 201) rfl) rfl
theorem wd_3_202 : Cond.methodLink RX0 51 yX2_worthOf ∈ lw_g := wd_t3 (List.mem_of_getElem? (i := 202) rfl) rfl
theorem wd_3_203 : Cond.methodLink RX0 57 Lib.Math.abs.name ∈ lw_g := wd_t3 (List.mem_of_getElem? (i := 203) rfl) rfl
theorem wd_3_204 : Cond.static Lib.Math.abs.name ∈ lw_g := wd_t3 (List.mem_of_getElem? (i := 204) rfl) rfl
theorem wd_3_205 : Cond.code Lib.Math.abs.name Lib.Math.abs.code 1 (some .int) ∈ lw_g := wd_t3 (List.mem_of_getElem? (i := 205) rfl) rfl
theorem wd_3_206 : Cond.methodLink RX0 62 yX0_commonDivisor ∈ lw_g := wd_t3 (List.mem_of_getElem? (i := 206) rfl) rfl
theorem wd_3_207 : Cond.static yX0_commonDivisor ∈ lw_g := wd_t3 (List.mem_of_getElem? (i := 207) rfl) rfl
theorem wd_3_208 : Cond.code yX0_commonDivisor cX0_commonDivisor 6 (some .int) ∈ lw_g := wd_t3 (List.mem_of_getElem? (i := 208) rfl) rfl
theorem wd_3_209 : Cond.constant RX9 291 (100000000) ∈ lw_g := wd_t3 (List.mem_of_getElem? (i := 209) rfl) rfl
theorem wd_3_210 : Cond.methodLink RL 138 yX9_keep ∈ lw_g := wd_t3 (List.mem_of_getElem? (i := 210) rfl) rfl
theorem wd_3_211 : Cond.instanceMethod yX9_keep ∈ lw_g := wd_t3 (List.mem_of_getElem? (i := 211) rfl) rfl
theorem wd_3_212 : Cond.selects RX9 yX9_keep yX9_keep ∈ lw_g := wd_t3 (List.mem_of_getElem? (i := 212) rfl) rfl
theorem wd_3_213 : Cond.code yX9_keep cX9_keep 1 (some .int) ∈ lw_g := wd_t3 (List.mem_of_getElem? (i := 213) rfl) rfl
theorem wd_3_214 : Cond.methodLink RL 142 yX9_back ∈ lw_g := wd_t3 (List.mem_of_getElem? (i := 214) rfl) rfl
theorem wd_3_215 : Cond.instanceMethod yX9_back ∈ lw_g := wd_t3 (List.mem_of_getElem? (i := 215) rfl) rfl
theorem wd_3_216 : Cond.selects RX9 yX9_back yX9_back ∈ lw_g := wd_t3 (List.mem_of_getElem? (i := 216) rfl) rfl
theorem wd_3_217 : Cond.code yX9_back cX9_back 1 (some .int) ∈ lw_g := wd_t3 (List.mem_of_getElem? (i := 217) rfl) rfl
theorem wd_3_218 : Cond.methodLink RL 146 yX9_count ∈ lw_g := wd_t3 (List.mem_of_getElem? (i := 218) rfl) rfl
theorem wd_3_219 : Cond.instanceMethod yX9_count ∈ lw_g := wd_t3 (List.mem_of_getElem? (i := 219) rfl) rfl
theorem wd_3_220 : Cond.selects RX9 yX9_count yX9_count ∈ lw_g := wd_t3 (List.mem_of_getElem? (i := 220) rfl) rfl
theorem wd_3_221 : Cond.code yX9_count cX9_count 2 (some .int) ∈ lw_g := wd_t3 (List.mem_of_getElem? (i := 221) rfl) rfl
theorem wd_3_222 : Cond.methodLink RX9 295 yX2_changeCount ∈ lw_g := wd_t3 (List.mem_of_getElem? (i := 222) rfl) rfl
theorem wd_3_223 : Cond.methodLink RX9 298 yX2_suitingCount ∈ lw_g := wd_t3 (List.mem_of_getElem? (i := 223) rfl) rfl
theorem wd_3_224 : Cond.instanceMethod yX2_suitingCount ∈ lw_g := wd_t3 (List.mem_of_getElem? (i := 224) rfl) rfl
theorem wd_3_225 : Cond.selects RX2 yX2_suitingCount yX2_suitingCount ∈ lw_g := wd_t3 (List.mem_of_getElem? (i := 225) rfl) rfl
theorem wd_3_226 : Cond.code yX2_suitingCount cX2_suitingCount 4 (some .int) ∈ lw_g := wd_t3 (List.mem_of_getElem? (i := 226) rfl) rfl
theorem wd_3_227 : Cond.methodLink RX2 92 yX2_changeSuits ∈ lw_g := wd_t3 (List.mem_of_getElem? (i := 227) rfl) rfl
theorem wd_3_228 : Cond.classLink RL 10 RX10 ∈ lw_g := wd_t3 (List.mem_of_getElem? (i := 228) rfl) rfl
theorem wd_3_229 : Cond.instantiable RX10 32 ∈ lw_g := wd_t3 (List.mem_of_getElem? (i := 229) rfl) rfl
theorem wd_3_230 : Cond.methodLink RL 12 yX10_init ∈ lw_g := wd_t3 (List.mem_of_getElem? (i := 230) rfl) rfl
theorem wd_3_231 : Cond.instanceMethod yX10_init ∈ lw_g := wd_t3 (List.mem_of_getElem? (i := 231) rfl) rfl
theorem wd_3_232 : Cond.code yX10_init cX10_init 1 none ∈ lw_g := wd_t3 (List.mem_of_getElem? (i := 232) rfl) rfl
theorem wd_3_233 : Cond.methodLink RX10 1 objectInit ∈ lw_g := wd_t3 (List.mem_of_getElem? (i := 233) rfl) rfl
theorem wd_3_234 : Cond.constant RX10 58 (46656) ∈ lw_g := wd_t3 (List.mem_of_getElem? (i := 234) rfl) rfl
theorem wd_3_235 : Cond.methodLink RX10 81 yX10_noHouses ∈ lw_g := wd_t3 (List.mem_of_getElem? (i := 235) rfl) rfl
theorem wd_3_237 : Cond.instanceMethod yX10_noHouses ∈ lw_g := wd_t3 (List.mem_of_getElem? (i := 237) rfl) rfl
theorem wd_3_238 : Cond.code yX10_noHouses cX10_noHouses 3 none ∈ lw_g := wd_t3 (List.mem_of_getElem? (i := 238) rfl) rfl
theorem wd_3_239 : Cond.methodLink RX10 85 yX10_layHouses ∈ lw_g := wd_t3 (List.mem_of_getElem? (i := 239) rfl) rfl
theorem wd_4_1 : Cond.instanceMethod yX10_layHouses ∈ lw_g := wd_t4 (List.mem_of_getElem? (i := 1) rfl) rfl
theorem wd_4_2 : Cond.code yX10_layHouses cX10_layHouses 2 none ∈ lw_g := wd_t4 (List.mem_of_getElem? (i := 2) rfl) rfl
theorem wd_4_3 : Cond.methodLink RX10 140 yX10_layAll ∈ lw_g := wd_t4 (List.mem_of_getElem? (i := 3) rfl) rfl
theorem wd_4_5 : Cond.instanceMethod yX10_layAll ∈ lw_g := wd_t4 (List.mem_of_getElem? (i := 5) rfl) rfl
theorem wd_4_6 : Cond.code yX10_layAll cX10_layAll 6 none ∈ lw_g := wd_t4 (List.mem_of_getElem? (i := 6) rfl) rfl
theorem wd_4_7 : Cond.fieldLink RX10 94 "BothWouldModel" "length" "I" ∈ lw_g := wd_t4 (List.mem_of_getElem? (i := 7) rfl) rfl
theorem wd_4_8 : Cond.fieldLink RX10 7 "BothWouldModel" "text" "[I" ∈ lw_g := wd_t4 (List.mem_of_getElem? (i := 8) rfl) rfl
theorem wd_4_9 : Cond.fieldLink RX10 13 "BothWouldModel" "many" "[I" ∈ lw_g := wd_t4 (List.mem_of_getElem? (i := 9) rfl) rfl
theorem wd_4_10 : Cond.fieldLink RX10 16 "BothWouldModel" "bests" "[I" ∈ lw_g := wd_t4 (List.mem_of_getElem? (i := 10) rfl) rfl
theorem wd_4_11 : Cond.fieldLink RX10 19 "BothWouldModel" "steps" "[I" ∈ lw_g := wd_t4 (List.mem_of_getElem? (i := 11) rfl) rfl
theorem wd_4_12 : Cond.fieldLink RX10 22 "BothWouldModel" "kinds" "[I" ∈ lw_g := wd_t4 (List.mem_of_getElem? (i := 12) rfl) rfl
theorem wd_4_13 : Cond.fieldLink RX10 25 "BothWouldModel" "likings" "[I" ∈ lw_g := wd_t4 (List.mem_of_getElem? (i := 13) rfl) rfl
theorem wd_4_14 : Cond.fieldLink RX10 28 "BothWouldModel" "ring" "[I" ∈ lw_g := wd_t4 (List.mem_of_getElem? (i := 14) rfl) rfl
theorem wd_4_15 : Cond.fieldLink RX10 117 "BothWouldModel" "liked" "I" ∈ lw_g := wd_t4 (List.mem_of_getElem? (i := 15) rfl) rfl
theorem wd_4_16 : Cond.fieldLink RX10 31 "BothWouldModel" "where" "[I" ∈ lw_g := wd_t4 (List.mem_of_getElem? (i := 16) rfl) rfl
theorem wd_4_17 : Cond.fieldLink RX10 128 "BothWouldModel" "keptMany" "I" ∈ lw_g := wd_t4 (List.mem_of_getElem? (i := 17) rfl) rfl
theorem wd_4_18 : Cond.fieldLink RX10 34 "BothWouldModel" "undos" "[I" ∈ lw_g := wd_t4 (List.mem_of_getElem? (i := 18) rfl) rfl
theorem wd_4_19 : Cond.fieldLink RX10 131 "BothWouldModel" "undoMany" "I" ∈ lw_g := wd_t4 (List.mem_of_getElem? (i := 19) rfl) rfl
theorem wd_4_20 : Cond.fieldLink RX10 134 "BothWouldModel" "rowMany" "I" ∈ lw_g := wd_t4 (List.mem_of_getElem? (i := 20) rfl) rfl
theorem wd_4_21 : Cond.fieldLink RX10 37 "BothWouldModel" "row" "[I" ∈ lw_g := wd_t4 (List.mem_of_getElem? (i := 21) rfl) rfl
theorem wd_4_22 : Cond.fieldLink RX10 137 "BothWouldModel" "seenMany" "I" ∈ lw_g := wd_t4 (List.mem_of_getElem? (i := 22) rfl) rfl
theorem wd_4_23 : Cond.fieldLink RX10 40 "BothWouldModel" "seenOf" "[I" ∈ lw_g := wd_t4 (List.mem_of_getElem? (i := 23) rfl) rfl
theorem wd_4_24 : Cond.fieldLink RX10 43 "BothWouldModel" "seenFrom" "[I" ∈ lw_g := wd_t4 (List.mem_of_getElem? (i := 24) rfl) rfl
theorem wd_4_25 : Cond.fieldLink RX10 46 "BothWouldModel" "seenTo" "[I" ∈ lw_g := wd_t4 (List.mem_of_getElem? (i := 25) rfl) rfl
theorem wd_4_26 : Cond.fieldLink RX10 49 "BothWouldModel" "seenSo" "[I" ∈ lw_g := wd_t4 (List.mem_of_getElem? (i := 26) rfl) rfl
theorem wd_4_27 : Cond.fieldLink RX10 100 "BothWouldModel" "place" "I" ∈ lw_g := wd_t4 (List.mem_of_getElem? (i := 27) rfl) rfl
theorem wd_4_28 : Cond.fieldLink RX10 52 "BothWouldModel" "told" "[I" ∈ lw_g := wd_t4 (List.mem_of_getElem? (i := 28) rfl) rfl
theorem wd_4_29 : Cond.fieldLink RX10 158 "BothWouldModel" "allMany" "I" ∈ lw_g := wd_t4 (List.mem_of_getElem? (i := 29) rfl) rfl
theorem wd_4_30 : Cond.fieldLink RX10 55 "BothWouldModel" "all" "[I" ∈ lw_g := wd_t4 (List.mem_of_getElem? (i := 30) rfl) rfl
theorem wd_4_31 : Cond.fieldLink RX10 59 "BothWouldModel" "numbers" "[I" ∈ lw_g := wd_t4 (List.mem_of_getElem? (i := 31) rfl) rfl
theorem wd_4_32 : Cond.fieldLink RX10 62 "BothWouldModel" "trial" "[I" ∈ lw_g := wd_t4 (List.mem_of_getElem? (i := 32) rfl) rfl
theorem wd_4_33 : Cond.fieldLink RX10 65 "BothWouldModel" "webs" "[I" ∈ lw_g := wd_t4 (List.mem_of_getElem? (i := 33) rfl) rfl
theorem wd_4_34 : Cond.fieldLink RX10 208 "BothWouldModel" "wentTo" "I" ∈ lw_g := wd_t4 (List.mem_of_getElem? (i := 34) rfl) rfl
theorem wd_4_35 : Cond.fieldLink RX10 68 "BothWouldModel" "longs" "[I" ∈ lw_g := wd_t4 (List.mem_of_getElem? (i := 35) rfl) rfl
theorem wd_4_36 : Cond.fieldLink RX10 71 "BothWouldModel" "reached" "[I" ∈ lw_g := wd_t4 (List.mem_of_getElem? (i := 36) rfl) rfl
theorem wd_4_37 : Cond.fieldLink RX10 74 "BothWouldModel" "ways" "[J" ∈ lw_g := wd_t4 (List.mem_of_getElem? (i := 37) rfl) rfl
theorem wd_4_38 : Cond.fieldLink RX10 78 "BothWouldModel" "next" "[J" ∈ lw_g := wd_t4 (List.mem_of_getElem? (i := 38) rfl) rfl
theorem wd_4_104 : Cond.arrayClass .long ∈ lw_g := wd_t4 (List.mem_of_getElem? (i := 104) rfl) rfl
theorem wd_4_105 : Cond.methodLink RL 19 yX10_write ∈ lw_g := wd_t4 (List.mem_of_getElem? (i := 105) rfl) rfl
theorem wd_4_106 : Cond.instanceMethod yX10_write ∈ lw_g := wd_t4 (List.mem_of_getElem? (i := 106) rfl) rfl
theorem wd_4_107 : Cond.selects RX10 yX10_write yX10_write ∈ lw_g := wd_t4 (List.mem_of_getElem? (i := 107) rfl) rfl
theorem wd_4_108 : Cond.code yX10_write cX10_write 5 (some .int) ∈ lw_g := wd_t4 (List.mem_of_getElem? (i := 108) rfl) rfl
theorem wd_4_109 : Cond.constantLong RX10 88 (8) ∈ lw_g := wd_t4 (List.mem_of_getElem? (i := 109) rfl) rfl
theorem wd_4_110 : Cond.methodLink RX10 90 yX10_in ∈ lw_g := wd_t4 (List.mem_of_getElem? (i := 110) rfl) rfl
theorem wd_4_111 : Cond.static yX10_in ∈ lw_g := wd_t4 (List.mem_of_getElem? (i := 111) rfl) rfl
theorem wd_4_112 : Cond.code yX10_in cX10_in 6 (some .boolean) ∈ lw_g := wd_t4 (List.mem_of_getElem? (i := 112) rfl) rfl
theorem wd_4_113 : Cond.constantLong RX10 98 (255) ∈ lw_g := wd_t4 (List.mem_of_getElem? (i := 113) rfl) rfl
theorem wd_4_114 : Cond.methodLink RL 24 yX10_wipe ∈ lw_g := wd_t4 (List.mem_of_getElem? (i := 114) rfl) rfl
theorem wd_4_115 : Cond.instanceMethod yX10_wipe ∈ lw_g := wd_t4 (List.mem_of_getElem? (i := 115) rfl) rfl
theorem wd_4_116 : Cond.selects RX10 yX10_wipe yX10_wipe ∈ lw_g := wd_t4 (List.mem_of_getElem? (i := 116) rfl) rfl
theorem wd_4_117 : Cond.code yX10_wipe cX10_wipe 2 (some .int) ∈ lw_g := wd_t4 (List.mem_of_getElem? (i := 117) rfl) rfl
theorem wd_4_118 : Cond.methodLink RL 28 yX10_fault ∈ lw_g := wd_t4 (List.mem_of_getElem? (i := 118) rfl) rfl
theorem wd_4_119 : Cond.instanceMethod yX10_fault ∈ lw_g := wd_t4 (List.mem_of_getElem? (i := 119) rfl) rfl
theorem wd_4_120 : Cond.selects RX10 yX10_fault yX10_fault ∈ lw_g := wd_t4 (List.mem_of_getElem? (i := 120) rfl) rfl
theorem wd_4_121 : Cond.code yX10_fault cX10_fault 1 (some .int) ∈ lw_g := wd_t4 (List.mem_of_getElem? (i := 121) rfl) rfl
theorem wd_4_122 : Cond.methodLink RX10 124 yX10_readAll ∈ lw_g := wd_t4 (List.mem_of_getElem? (i := 122) rfl) rfl
theorem wd_4_124 : Cond.instanceMethod yX10_readAll ∈ lw_g := wd_t4 (List.mem_of_getElem? (i := 124) rfl) rfl
theorem wd_4_125 : Cond.code yX10_readAll cX10_readAll 2 (some .int) ∈ lw_g := wd_t4 (List.mem_of_getElem? (i := 125) rfl) rfl
theorem wd_4_126 : Cond.methodLink RX10 120 yX10_item ∈ lw_g := wd_t4 (List.mem_of_getElem? (i := 126) rfl) rfl
theorem wd_4_128 : Cond.instanceMethod yX10_item ∈ lw_g := wd_t4 (List.mem_of_getElem? (i := 128) rfl) rfl
theorem wd_4_129 : Cond.code yX10_item cX10_item 2 (some .boolean) ∈ lw_g := wd_t4 (List.mem_of_getElem? (i := 129) rfl) rfl
theorem wd_4_130 : Cond.methodLink RX10 103 yX10_byteAt ∈ lw_g := wd_t4 (List.mem_of_getElem? (i := 130) rfl) rfl
theorem wd_4_132 : Cond.instanceMethod yX10_byteAt ∈ lw_g := wd_t4 (List.mem_of_getElem? (i := 132) rfl) rfl
theorem wd_4_133 : Cond.code yX10_byteAt cX10_byteAt 2 (some .int) ∈ lw_g := wd_t4 (List.mem_of_getElem? (i := 133) rfl) rfl
theorem wd_4_134 : Cond.methodLink RX10 113 yX10_figures ∈ lw_g := wd_t4 (List.mem_of_getElem? (i := 134) rfl) rfl
theorem wd_4_136 : Cond.instanceMethod yX10_figures ∈ lw_g := wd_t4 (List.mem_of_getElem? (i := 136) rfl) rfl
theorem wd_4_137 : Cond.code yX10_figures cX10_figures 5 (some .boolean) ∈ lw_g := wd_t4 (List.mem_of_getElem? (i := 137) rfl) rfl
theorem wd_4_138 : Cond.constantLong RX10 107 (48) ∈ lw_g := wd_t4 (List.mem_of_getElem? (i := 138) rfl) rfl
theorem wd_4_139 : Cond.constantLong RX10 109 (57) ∈ lw_g := wd_t4 (List.mem_of_getElem? (i := 139) rfl) rfl
theorem wd_4_140 : Cond.constantLong RX10 111 (2) ∈ lw_g := wd_t4 (List.mem_of_getElem? (i := 140) rfl) rfl
theorem wd_4_141 : Cond.methodLink RL 32 yX10_lay ∈ lw_g := wd_t4 (List.mem_of_getElem? (i := 141) rfl) rfl
theorem wd_4_142 : Cond.instanceMethod yX10_lay ∈ lw_g := wd_t4 (List.mem_of_getElem? (i := 142) rfl) rfl
theorem wd_4_143 : Cond.selects RX10 yX10_lay yX10_lay ∈ lw_g := wd_t4 (List.mem_of_getElem? (i := 143) rfl) rfl
theorem wd_4_144 : Cond.code yX10_lay cX10_lay 2 (some .int) ∈ lw_g := wd_t4 (List.mem_of_getElem? (i := 144) rfl) rfl
theorem wd_4_145 : Cond.methodLink RX10 143 yX10_areThere ∈ lw_g := wd_t4 (List.mem_of_getElem? (i := 145) rfl) rfl
theorem wd_4_147 : Cond.instanceMethod yX10_areThere ∈ lw_g := wd_t4 (List.mem_of_getElem? (i := 147) rfl) rfl
theorem wd_4_148 : Cond.code yX10_areThere cX10_areThere 3 (some .boolean) ∈ lw_g := wd_t4 (List.mem_of_getElem? (i := 148) rfl) rfl
theorem wd_4_149 : Cond.methodLink RL 37 yX10_person ∈ lw_g := wd_t4 (List.mem_of_getElem? (i := 149) rfl) rfl
theorem wd_4_150 : Cond.instanceMethod yX10_person ∈ lw_g := wd_t4 (List.mem_of_getElem? (i := 150) rfl) rfl
theorem wd_4_151 : Cond.selects RX10 yX10_person yX10_person ∈ lw_g := wd_t4 (List.mem_of_getElem? (i := 151) rfl) rfl
theorem wd_4_152 : Cond.code yX10_person cX10_person 3 (some .int) ∈ lw_g := wd_t4 (List.mem_of_getElem? (i := 152) rfl) rfl
theorem wd_4_153 : Cond.methodLink RX10 146 yX10_isPlace ∈ lw_g := wd_t4 (List.mem_of_getElem? (i := 153) rfl) rfl
theorem wd_4_155 : Cond.instanceMethod yX10_isPlace ∈ lw_g := wd_t4 (List.mem_of_getElem? (i := 155) rfl) rfl
theorem wd_4_156 : Cond.code yX10_isPlace cX10_isPlace 2 (some .boolean) ∈ lw_g := wd_t4 (List.mem_of_getElem? (i := 156) rfl) rfl
theorem wd_4_157 : Cond.constantLong RX10 149 (3) ∈ lw_g := wd_t4 (List.mem_of_getElem? (i := 157) rfl) rfl
theorem wd_4_158 : Cond.methodLink RX10 151 yX10_now ∈ lw_g := wd_t4 (List.mem_of_getElem? (i := 158) rfl) rfl
theorem wd_4_160 : Cond.instanceMethod yX10_now ∈ lw_g := wd_t4 (List.mem_of_getElem? (i := 160) rfl) rfl
theorem wd_4_161 : Cond.code yX10_now cX10_now 1 (some .int) ∈ lw_g := wd_t4 (List.mem_of_getElem? (i := 161) rfl) rfl
theorem wd_4_162 : Cond.methodLink RX10 161 yX10_code ∈ lw_g := wd_t4 (List.mem_of_getElem? (i := 162) rfl) rfl
theorem wd_4_164 : Cond.instanceMethod yX10_code ∈ lw_g := wd_t4 (List.mem_of_getElem? (i := 164) rfl) rfl
theorem wd_4_165 : Cond.code yX10_code cX10_code 5 (some .int) ∈ lw_g := wd_t4 (List.mem_of_getElem? (i := 165) rfl) rfl
theorem wd_4_166 : Cond.methodLink RX10 154 yX10_placeIn ∈ lw_g := wd_t4 (List.mem_of_getElem? (i := 166) rfl) rfl
theorem wd_4_168 : Cond.instanceMethod yX10_placeIn ∈ lw_g := wd_t4 (List.mem_of_getElem? (i := 168) rfl) rfl
theorem wd_4_169 : Cond.code yX10_placeIn cX10_placeIn 4 (some .int) ∈ lw_g := wd_t4 (List.mem_of_getElem? (i := 169) rfl) rfl
theorem wd_4_170 : Cond.methodLink RX10 165 yX10_whoIn ∈ lw_g := wd_t4 (List.mem_of_getElem? (i := 170) rfl) rfl
theorem wd_4_172 : Cond.instanceMethod yX10_whoIn ∈ lw_g := wd_t4 (List.mem_of_getElem? (i := 172) rfl) rfl
theorem wd_4_173 : Cond.code yX10_whoIn cX10_whoIn 3 (some .int) ∈ lw_g := wd_t4 (List.mem_of_getElem? (i := 173) rfl) rfl
theorem wd_4_174 : Cond.methodLink RL 41 yX10_likes ∈ lw_g := wd_t4 (List.mem_of_getElem? (i := 174) rfl) rfl
theorem wd_4_175 : Cond.instanceMethod yX10_likes ∈ lw_g := wd_t4 (List.mem_of_getElem? (i := 175) rfl) rfl
theorem wd_4_176 : Cond.selects RX10 yX10_likes yX10_likes ∈ lw_g := wd_t4 (List.mem_of_getElem? (i := 176) rfl) rfl
theorem wd_4_177 : Cond.code yX10_likes cX10_likes 3 (some .int) ∈ lw_g := wd_t4 (List.mem_of_getElem? (i := 177) rfl) rfl
theorem wd_4_178 : Cond.methodLink RL 46 yX10_worth ∈ lw_g := wd_t4 (List.mem_of_getElem? (i := 178) rfl) rfl
theorem wd_4_179 : Cond.instanceMethod yX10_worth ∈ lw_g := wd_t4 (List.mem_of_getElem? (i := 179) rfl) rfl
theorem wd_4_180 : Cond.selects RX10 yX10_worth yX10_worth ∈ lw_g := wd_t4 (List.mem_of_getElem? (i := 180) rfl) rfl
theorem wd_4_181 : Cond.code yX10_worth cX10_worth 2 (some .int) ∈ lw_g := wd_t4 (List.mem_of_getElem? (i := 181) rfl) rfl
theorem wd_4_182 : Cond.methodLink RX10 171 yX10_worthIn ∈ lw_g := wd_t4 (List.mem_of_getElem? (i := 182) rfl) rfl
theorem wd_4_184 : Cond.instanceMethod yX10_worthIn ∈ lw_g := wd_t4 (List.mem_of_getElem? (i := 184) rfl) rfl
theorem wd_4_185 : Cond.code yX10_worthIn cX10_worthIn 8 (some .int) ∈ lw_g := wd_t4 (List.mem_of_getElem? (i := 185) rfl) rfl
theorem wd_4_186 : Cond.methodLink RX10 168 yX10_far ∈ lw_g := wd_t4 (List.mem_of_getElem? (i := 186) rfl) rfl
theorem wd_4_188 : Cond.instanceMethod yX10_far ∈ lw_g := wd_t4 (List.mem_of_getElem? (i := 188) rfl) rfl
theorem wd_4_189 : Cond.code yX10_far cX10_far 4 (some .int) ∈ lw_g := wd_t4 (List.mem_of_getElem? (i := 189) rfl) rfl
theorem wd_4_190 : Cond.methodLink RL 50 yX10_at ∈ lw_g := wd_t4 (List.mem_of_getElem? (i := 190) rfl) rfl
theorem wd_4_191 : Cond.instanceMethod yX10_at ∈ lw_g := wd_t4 (List.mem_of_getElem? (i := 191) rfl) rfl
theorem wd_4_192 : Cond.selects RX10 yX10_at yX10_at ∈ lw_g := wd_t4 (List.mem_of_getElem? (i := 192) rfl) rfl
theorem wd_4_193 : Cond.code yX10_at cX10_at 2 (some .int) ∈ lw_g := wd_t4 (List.mem_of_getElem? (i := 193) rfl) rfl
theorem wd_4_194 : Cond.methodLink RL 55 yX10_suits ∈ lw_g := wd_t4 (List.mem_of_getElem? (i := 194) rfl) rfl
theorem wd_4_195 : Cond.instanceMethod yX10_suits ∈ lw_g := wd_t4 (List.mem_of_getElem? (i := 195) rfl) rfl
theorem wd_4_196 : Cond.selects RX10 yX10_suits yX10_suits ∈ lw_g := wd_t4 (List.mem_of_getElem? (i := 196) rfl) rfl
theorem wd_4_197 : Cond.code yX10_suits cX10_suits 3 (some .int) ∈ lw_g := wd_t4 (List.mem_of_getElem? (i := 197) rfl) rfl
theorem wd_4_198 : Cond.methodLink RX10 185 yX10_isRound ∈ lw_g := wd_t4 (List.mem_of_getElem? (i := 198) rfl) rfl
theorem wd_4_200 : Cond.instanceMethod yX10_isRound ∈ lw_g := wd_t4 (List.mem_of_getElem? (i := 200) rfl) rfl
theorem wd_4_201 : Cond.code yX10_isRound cX10_isRound 2 (some .boolean) ∈ lw_g := wd_t4 (List.mem_of_getElem? (i := 201) rfl) rfl
theorem wd_4_202 : Cond.methodLink RX10 188 yX10_isChange ∈ lw_g := wd_t4 (List.mem_of_getElem? (i := 202) rfl) rfl
theorem wd_4_204 : Cond.instanceMethod yX10_isChange ∈ lw_g := wd_t4 (List.mem_of_getElem? (i := 204) rfl) rfl
theorem wd_4_205 : Cond.code yX10_isChange cX10_isChange 2 (some .boolean) ∈ lw_g := wd_t4 (List.mem_of_getElem? (i := 205) rfl) rfl
theorem wd_4_206 : Cond.methodLink RX10 174 yX10_changeMany ∈ lw_g := wd_t4 (List.mem_of_getElem? (i := 206) rfl) rfl
theorem wd_4_208 : Cond.instanceMethod yX10_changeMany ∈ lw_g := wd_t4 (List.mem_of_getElem? (i := 208) rfl) rfl
theorem wd_4_209 : Cond.code yX10_changeMany cX10_changeMany 1 (some .int) ∈ lw_g := wd_t4 (List.mem_of_getElem? (i := 209) rfl) rfl
theorem wd_4_210 : Cond.methodLink RX10 191 yX10_doesSuit ∈ lw_g := wd_t4 (List.mem_of_getElem? (i := 210) rfl) rfl
theorem wd_4_212 : Cond.instanceMethod yX10_doesSuit ∈ lw_g := wd_t4 (List.mem_of_getElem? (i := 212) rfl) rfl
theorem wd_4_213 : Cond.code yX10_doesSuit cX10_doesSuit 8 (some .boolean) ∈ lw_g := wd_t4 (List.mem_of_getElem? (i := 213) rfl) rfl
theorem wd_4_214 : Cond.methodLink RX10 177 yX10_behind ∈ lw_g := wd_t4 (List.mem_of_getElem? (i := 214) rfl) rfl
theorem wd_4_216 : Cond.instanceMethod yX10_behind ∈ lw_g := wd_t4 (List.mem_of_getElem? (i := 216) rfl) rfl
theorem wd_4_217 : Cond.code yX10_behind cX10_behind 7 (some .int) ∈ lw_g := wd_t4 (List.mem_of_getElem? (i := 217) rfl) rfl
theorem wd_4_218 : Cond.methodLink RX10 181 yX10_agrees ∈ lw_g := wd_t4 (List.mem_of_getElem? (i := 218) rfl) rfl
theorem wd_4_219 : Cond.static yX10_agrees ∈ lw_g := wd_t4 (List.mem_of_getElem? (i := 219) rfl) rfl
theorem wd_4_220 : Cond.code yX10_agrees cX10_agrees 3 (some .boolean) ∈ lw_g := wd_t4 (List.mem_of_getElem? (i := 220) rfl) rfl
theorem wd_4_221 : Cond.methodLink RL 59 yX10_change ∈ lw_g := wd_t4 (List.mem_of_getElem? (i := 221) rfl) rfl
theorem wd_4_222 : Cond.instanceMethod yX10_change ∈ lw_g := wd_t4 (List.mem_of_getElem? (i := 222) rfl) rfl
theorem wd_4_223 : Cond.selects RX10 yX10_change yX10_change ∈ lw_g := wd_t4 (List.mem_of_getElem? (i := 223) rfl) rfl
theorem wd_4_224 : Cond.code yX10_change cX10_change 2 (some .int) ∈ lw_g := wd_t4 (List.mem_of_getElem? (i := 224) rfl) rfl
theorem wd_4_225 : Cond.methodLink RX10 198 yX10_doIt ∈ lw_g := wd_t4 (List.mem_of_getElem? (i := 225) rfl) rfl
theorem wd_4_227 : Cond.instanceMethod yX10_doIt ∈ lw_g := wd_t4 (List.mem_of_getElem? (i := 227) rfl) rfl
theorem wd_4_228 : Cond.code yX10_doIt cX10_doIt 5 (some .int) ∈ lw_g := wd_t4 (List.mem_of_getElem? (i := 228) rfl) rfl
theorem wd_4_229 : Cond.methodLink RX10 195 yX10_go ∈ lw_g := wd_t4 (List.mem_of_getElem? (i := 229) rfl) rfl
theorem wd_4_231 : Cond.instanceMethod yX10_go ∈ lw_g := wd_t4 (List.mem_of_getElem? (i := 231) rfl) rfl
theorem wd_4_232 : Cond.code yX10_go cX10_go 3 none ∈ lw_g := wd_t4 (List.mem_of_getElem? (i := 232) rfl) rfl
theorem wd_4_233 : Cond.methodLink RL 63 yX10_round ∈ lw_g := wd_t4 (List.mem_of_getElem? (i := 233) rfl) rfl
theorem wd_4_234 : Cond.instanceMethod yX10_round ∈ lw_g := wd_t4 (List.mem_of_getElem? (i := 234) rfl) rfl
theorem wd_4_235 : Cond.selects RX10 yX10_round yX10_round ∈ lw_g := wd_t4 (List.mem_of_getElem? (i := 235) rfl) rfl
theorem wd_4_236 : Cond.code yX10_round cX10_round 2 (some .int) ∈ lw_g := wd_t4 (List.mem_of_getElem? (i := 236) rfl) rfl
theorem wd_4_237 : Cond.methodLink RL 67 yX10_undo ∈ lw_g := wd_t4 (List.mem_of_getElem? (i := 237) rfl) rfl
theorem wd_4_238 : Cond.instanceMethod yX10_undo ∈ lw_g := wd_t4 (List.mem_of_getElem? (i := 238) rfl) rfl
theorem wd_4_239 : Cond.selects RX10 yX10_undo yX10_undo ∈ lw_g := wd_t4 (List.mem_of_getElem? (i := 239) rfl) rfl
theorem wd_5_0 : Cond.code yX10_undo cX10_undo 1 (some .int) ∈ lw_g := wd_t5 (List.mem_of_getElem? (i := 0) rfl) rfl
theorem wd_5_1 : Cond.methodLink RL 71 yX10_tell ∈ lw_g := wd_t5 (List.mem_of_getElem? (i := 1) rfl) rfl
theorem wd_5_2 : Cond.instanceMethod yX10_tell ∈ lw_g := wd_t5 (List.mem_of_getElem? (i := 2) rfl) rfl
theorem wd_5_3 : Cond.selects RX10 yX10_tell yX10_tell ∈ lw_g := wd_t5 (List.mem_of_getElem? (i := 3) rfl) rfl
theorem wd_5_4 : Cond.code yX10_tell cX10_tell 2 (some .int) ∈ lw_g := wd_t5 (List.mem_of_getElem? (i := 4) rfl) rfl
theorem wd_5_5 : Cond.methodLink RL 75 yX10_noRow ∈ lw_g := wd_t5 (List.mem_of_getElem? (i := 5) rfl) rfl
theorem wd_5_6 : Cond.instanceMethod yX10_noRow ∈ lw_g := wd_t5 (List.mem_of_getElem? (i := 6) rfl) rfl
theorem wd_5_7 : Cond.selects RX10 yX10_noRow yX10_noRow ∈ lw_g := wd_t5 (List.mem_of_getElem? (i := 7) rfl) rfl
theorem wd_5_8 : Cond.code yX10_noRow cX10_noRow 2 (some .int) ∈ lw_g := wd_t5 (List.mem_of_getElem? (i := 8) rfl) rfl
theorem wd_5_9 : Cond.methodLink RL 79 yX10_judge ∈ lw_g := wd_t5 (List.mem_of_getElem? (i := 9) rfl) rfl
theorem wd_5_10 : Cond.instanceMethod yX10_judge ∈ lw_g := wd_t5 (List.mem_of_getElem? (i := 10) rfl) rfl
theorem wd_5_11 : Cond.selects RX10 yX10_judge yX10_judge ∈ lw_g := wd_t5 (List.mem_of_getElem? (i := 11) rfl) rfl
theorem wd_5_12 : Cond.code yX10_judge cX10_judge 3 (some .int) ∈ lw_g := wd_t5 (List.mem_of_getElem? (i := 12) rfl) rfl
theorem wd_5_13 : Cond.methodLink RL 83 yX10_rests ∈ lw_g := wd_t5 (List.mem_of_getElem? (i := 13) rfl) rfl
theorem wd_5_14 : Cond.instanceMethod yX10_rests ∈ lw_g := wd_t5 (List.mem_of_getElem? (i := 14) rfl) rfl
theorem wd_5_15 : Cond.selects RX10 yX10_rests yX10_rests ∈ lw_g := wd_t5 (List.mem_of_getElem? (i := 15) rfl) rfl
theorem wd_5_16 : Cond.code yX10_rests cX10_rests 4 (some .int) ∈ lw_g := wd_t5 (List.mem_of_getElem? (i := 16) rfl) rfl
theorem wd_5_17 : Cond.methodLink RX10 202 yX10_layWeb ∈ lw_g := wd_t5 (List.mem_of_getElem? (i := 17) rfl) rfl
theorem wd_5_19 : Cond.instanceMethod yX10_layWeb ∈ lw_g := wd_t5 (List.mem_of_getElem? (i := 19) rfl) rfl
theorem wd_5_20 : Cond.code yX10_layWeb cX10_layWeb 3 none ∈ lw_g := wd_t5 (List.mem_of_getElem? (i := 20) rfl) rfl
theorem wd_5_21 : Cond.methodLink RX10 205 yX10_lowest ∈ lw_g := wd_t5 (List.mem_of_getElem? (i := 21) rfl) rfl
theorem wd_5_23 : Cond.instanceMethod yX10_lowest ∈ lw_g := wd_t5 (List.mem_of_getElem? (i := 23) rfl) rfl
theorem wd_5_24 : Cond.code yX10_lowest cX10_lowest 3 (some .int) ∈ lw_g := wd_t5 (List.mem_of_getElem? (i := 24) rfl) rfl
theorem wd_5_25 : Cond.methodLink RL 87 yX10_goingOn ∈ lw_g := wd_t5 (List.mem_of_getElem? (i := 25) rfl) rfl
theorem wd_5_26 : Cond.instanceMethod yX10_goingOn ∈ lw_g := wd_t5 (List.mem_of_getElem? (i := 26) rfl) rfl
theorem wd_5_27 : Cond.selects RX10 yX10_goingOn yX10_goingOn ∈ lw_g := wd_t5 (List.mem_of_getElem? (i := 27) rfl) rfl
theorem wd_5_28 : Cond.code yX10_goingOn cX10_goingOn 3 (some .int) ∈ lw_g := wd_t5 (List.mem_of_getElem? (i := 28) rfl) rfl
theorem wd_5_29 : Cond.methodLink RX10 211 yX10_goOn ∈ lw_g := wd_t5 (List.mem_of_getElem? (i := 29) rfl) rfl
theorem wd_5_31 : Cond.instanceMethod yX10_goOn ∈ lw_g := wd_t5 (List.mem_of_getElem? (i := 31) rfl) rfl
theorem wd_5_32 : Cond.code yX10_goOn cX10_goOn 4 (some .int) ∈ lw_g := wd_t5 (List.mem_of_getElem? (i := 32) rfl) rfl
theorem wd_5_33 : Cond.methodLink RL 91 yX10_longest ∈ lw_g := wd_t5 (List.mem_of_getElem? (i := 33) rfl) rfl
theorem wd_5_34 : Cond.instanceMethod yX10_longest ∈ lw_g := wd_t5 (List.mem_of_getElem? (i := 34) rfl) rfl
theorem wd_5_35 : Cond.selects RX10 yX10_longest yX10_longest ∈ lw_g := wd_t5 (List.mem_of_getElem? (i := 35) rfl) rfl
theorem wd_5_36 : Cond.code yX10_longest cX10_longest 6 (some .int) ∈ lw_g := wd_t5 (List.mem_of_getElem? (i := 36) rfl) rfl
theorem wd_5_37 : Cond.methodLink RX10 214 yX10_layReached ∈ lw_g := wd_t5 (List.mem_of_getElem? (i := 37) rfl) rfl
theorem wd_5_39 : Cond.instanceMethod yX10_layReached ∈ lw_g := wd_t5 (List.mem_of_getElem? (i := 39) rfl) rfl
theorem wd_5_40 : Cond.code yX10_layReached cX10_layReached 7 none ∈ lw_g := wd_t5 (List.mem_of_getElem? (i := 40) rfl) rfl
theorem wd_5_41 : Cond.methodLink RL 95 yX10_shortest ∈ lw_g := wd_t5 (List.mem_of_getElem? (i := 41) rfl) rfl
theorem wd_5_42 : Cond.instanceMethod yX10_shortest ∈ lw_g := wd_t5 (List.mem_of_getElem? (i := 42) rfl) rfl
theorem wd_5_43 : Cond.selects RX10 yX10_shortest yX10_shortest ∈ lw_g := wd_t5 (List.mem_of_getElem? (i := 43) rfl) rfl
theorem wd_5_44 : Cond.code yX10_shortest cX10_shortest 3 (some .int) ∈ lw_g := wd_t5 (List.mem_of_getElem? (i := 44) rfl) rfl
theorem wd_5_45 : Cond.methodLink RX10 217 yX10_fewestFrom ∈ lw_g := wd_t5 (List.mem_of_getElem? (i := 45) rfl) rfl
theorem wd_5_47 : Cond.instanceMethod yX10_fewestFrom ∈ lw_g := wd_t5 (List.mem_of_getElem? (i := 47) rfl) rfl
theorem wd_5_48 : Cond.code yX10_fewestFrom cX10_fewestFrom 7 (some .int) ∈ lw_g := wd_t5 (List.mem_of_getElem? (i := 48) rfl) rfl
theorem wd_5_49 : Cond.methodLink RX10 221 yX10_firstOf ∈ lw_g := wd_t5 (List.mem_of_getElem? (i := 49) rfl) rfl
theorem wd_5_51 : Cond.instanceMethod yX10_firstOf ∈ lw_g := wd_t5 (List.mem_of_getElem? (i := 51) rfl) rfl
theorem wd_5_52 : Cond.code yX10_firstOf cX10_firstOf 7 (some .int) ∈ lw_g := wd_t5 (List.mem_of_getElem? (i := 52) rfl) rfl
theorem wd_5_53 : Cond.methodLink RL 100 yX10_comes ∈ lw_g := wd_t5 (List.mem_of_getElem? (i := 53) rfl) rfl
theorem wd_5_54 : Cond.instanceMethod yX10_comes ∈ lw_g := wd_t5 (List.mem_of_getElem? (i := 54) rfl) rfl
theorem wd_5_55 : Cond.selects RX10 yX10_comes yX10_comes ∈ lw_g := wd_t5 (List.mem_of_getElem? (i := 55) rfl) rfl
theorem wd_5_56 : Cond.code yX10_comes cX10_comes 5 (some .int) ∈ lw_g := wd_t5 (List.mem_of_getElem? (i := 56) rfl) rfl
theorem wd_5_57 : Cond.methodLink RL 104 yX10_bars ∈ lw_g := wd_t5 (List.mem_of_getElem? (i := 57) rfl) rfl
theorem wd_5_58 : Cond.instanceMethod yX10_bars ∈ lw_g := wd_t5 (List.mem_of_getElem? (i := 58) rfl) rfl
theorem wd_5_59 : Cond.selects RX10 yX10_bars yX10_bars ∈ lw_g := wd_t5 (List.mem_of_getElem? (i := 59) rfl) rfl
theorem wd_5_60 : Cond.code yX10_bars cX10_bars 6 (some .int) ∈ lw_g := wd_t5 (List.mem_of_getElem? (i := 60) rfl) rfl
theorem wd_5_61 : Cond.methodLink RL 108 yX10_best ∈ lw_g := wd_t5 (List.mem_of_getElem? (i := 61) rfl) rfl
theorem wd_5_62 : Cond.instanceMethod yX10_best ∈ lw_g := wd_t5 (List.mem_of_getElem? (i := 62) rfl) rfl
theorem wd_5_63 : Cond.selects RX10 yX10_best yX10_best ∈ lw_g := wd_t5 (List.mem_of_getElem? (i := 63) rfl) rfl
theorem wd_5_64 : Cond.code yX10_best cX10_best 7 (some .int) ∈ lw_g := wd_t5 (List.mem_of_getElem? (i := 64) rfl) rfl
theorem wd_5_65 : Cond.constant RX10 224 (-1000000) ∈ lw_g := wd_t5 (List.mem_of_getElem? (i := 65) rfl) rfl
theorem wd_5_66 : Cond.methodLink RL 112 yX10_price ∈ lw_g := wd_t5 (List.mem_of_getElem? (i := 66) rfl) rfl
theorem wd_5_67 : Cond.instanceMethod yX10_price ∈ lw_g := wd_t5 (List.mem_of_getElem? (i := 67) rfl) rfl
theorem wd_5_68 : Cond.selects RX10 yX10_price yX10_price ∈ lw_g := wd_t5 (List.mem_of_getElem? (i := 68) rfl) rfl
theorem wd_5_69 : Cond.code yX10_price cX10_price 4 (some .int) ∈ lw_g := wd_t5 (List.mem_of_getElem? (i := 69) rfl) rfl
theorem wd_5_70 : Cond.methodLink RX10 225 yX10_priceOf ∈ lw_g := wd_t5 (List.mem_of_getElem? (i := 70) rfl) rfl
theorem wd_5_72 : Cond.instanceMethod yX10_priceOf ∈ lw_g := wd_t5 (List.mem_of_getElem? (i := 72) rfl) rfl
theorem wd_5_73 : Cond.code yX10_priceOf cX10_priceOf 6 (some .int) ∈ lw_g := wd_t5 (List.mem_of_getElem? (i := 73) rfl) rfl
theorem wd_5_74 : Cond.methodLink RL 116 yX10_deal ∈ lw_g := wd_t5 (List.mem_of_getElem? (i := 74) rfl) rfl
theorem wd_5_75 : Cond.instanceMethod yX10_deal ∈ lw_g := wd_t5 (List.mem_of_getElem? (i := 75) rfl) rfl
theorem wd_5_76 : Cond.selects RX10 yX10_deal yX10_deal ∈ lw_g := wd_t5 (List.mem_of_getElem? (i := 76) rfl) rfl
theorem wd_5_77 : Cond.code yX10_deal cX10_deal 11 (some .int) ∈ lw_g := wd_t5 (List.mem_of_getElem? (i := 77) rfl) rfl
theorem wd_5_78 : Cond.methodLink RL 120 yX10_lie ∈ lw_g := wd_t5 (List.mem_of_getElem? (i := 78) rfl) rfl
theorem wd_5_79 : Cond.instanceMethod yX10_lie ∈ lw_g := wd_t5 (List.mem_of_getElem? (i := 79) rfl) rfl
theorem wd_5_80 : Cond.selects RX10 yX10_lie yX10_lie ∈ lw_g := wd_t5 (List.mem_of_getElem? (i := 80) rfl) rfl
theorem wd_5_81 : Cond.code yX10_lie cX10_lie 11 (some .int) ∈ lw_g := wd_t5 (List.mem_of_getElem? (i := 81) rfl) rfl
theorem wd_5_82 : Cond.methodLink RL 125 yX10_seen ∈ lw_g := wd_t5 (List.mem_of_getElem? (i := 82) rfl) rfl
theorem wd_5_83 : Cond.instanceMethod yX10_seen ∈ lw_g := wd_t5 (List.mem_of_getElem? (i := 83) rfl) rfl
theorem wd_5_84 : Cond.selects RX10 yX10_seen yX10_seen ∈ lw_g := wd_t5 (List.mem_of_getElem? (i := 84) rfl) rfl
theorem wd_5_85 : Cond.code yX10_seen cX10_seen 5 (some .int) ∈ lw_g := wd_t5 (List.mem_of_getElem? (i := 85) rfl) rfl
theorem wd_5_86 : Cond.methodLink RL 129 yX10_forget ∈ lw_g := wd_t5 (List.mem_of_getElem? (i := 86) rfl) rfl
theorem wd_5_87 : Cond.instanceMethod yX10_forget ∈ lw_g := wd_t5 (List.mem_of_getElem? (i := 87) rfl) rfl
theorem wd_5_88 : Cond.selects RX10 yX10_forget yX10_forget ∈ lw_g := wd_t5 (List.mem_of_getElem? (i := 88) rfl) rfl
theorem wd_5_89 : Cond.code yX10_forget cX10_forget 2 (some .int) ∈ lw_g := wd_t5 (List.mem_of_getElem? (i := 89) rfl) rfl
theorem wd_5_90 : Cond.methodLink RL 133 yX10_fits ∈ lw_g := wd_t5 (List.mem_of_getElem? (i := 90) rfl) rfl
theorem wd_5_91 : Cond.instanceMethod yX10_fits ∈ lw_g := wd_t5 (List.mem_of_getElem? (i := 91) rfl) rfl
theorem wd_5_92 : Cond.selects RX10 yX10_fits yX10_fits ∈ lw_g := wd_t5 (List.mem_of_getElem? (i := 92) rfl) rfl
theorem wd_5_93 : Cond.code yX10_fits cX10_fits 6 (some .int) ∈ lw_g := wd_t5 (List.mem_of_getElem? (i := 93) rfl) rfl
theorem wd_5_94 : Cond.methodLink RX10 228 yX10_isFit ∈ lw_g := wd_t5 (List.mem_of_getElem? (i := 94) rfl) rfl
theorem wd_5_96 : Cond.instanceMethod yX10_isFit ∈ lw_g := wd_t5 (List.mem_of_getElem? (i := 96) rfl) rfl
theorem wd_5_97 : Cond.code yX10_isFit cX10_isFit 6 (some .boolean) ∈ lw_g := wd_t5 (List.mem_of_getElem? (i := 97) rfl) rfl
theorem wd_5_98 : Cond.methodLink RL 137 yX10_mean ∈ lw_g := wd_t5 (List.mem_of_getElem? (i := 98) rfl) rfl
theorem wd_5_99 : Cond.instanceMethod yX10_mean ∈ lw_g := wd_t5 (List.mem_of_getElem? (i := 99) rfl) rfl
theorem wd_5_100 : Cond.selects RX10 yX10_mean yX10_mean ∈ lw_g := wd_t5 (List.mem_of_getElem? (i := 100) rfl) rfl
theorem wd_5_101 : Cond.code yX10_mean cX10_mean 14 (some .int) ∈ lw_g := wd_t5 (List.mem_of_getElem? (i := 101) rfl) rfl
theorem wd_5_102 : Cond.constantLong RX10 232 (6) ∈ lw_g := wd_t5 (List.mem_of_getElem? (i := 102) rfl) rfl
theorem wd_5_103 : Cond.constantLong RX10 234 (100000000) ∈ lw_g := wd_t5 (List.mem_of_getElem? (i := 103) rfl) rfl
theorem wd_5_104 : Cond.methodLink RL 141 yX10_keep ∈ lw_g := wd_t5 (List.mem_of_getElem? (i := 104) rfl) rfl
theorem wd_5_105 : Cond.instanceMethod yX10_keep ∈ lw_g := wd_t5 (List.mem_of_getElem? (i := 105) rfl) rfl
theorem wd_5_106 : Cond.selects RX10 yX10_keep yX10_keep ∈ lw_g := wd_t5 (List.mem_of_getElem? (i := 106) rfl) rfl
theorem wd_5_107 : Cond.code yX10_keep cX10_keep 1 (some .int) ∈ lw_g := wd_t5 (List.mem_of_getElem? (i := 107) rfl) rfl
theorem wd_5_108 : Cond.methodLink RX10 236 yX10_copy ∈ lw_g := wd_t5 (List.mem_of_getElem? (i := 108) rfl) rfl
theorem wd_5_110 : Cond.instanceMethod yX10_copy ∈ lw_g := wd_t5 (List.mem_of_getElem? (i := 110) rfl) rfl
theorem wd_5_111 : Cond.code yX10_copy cX10_copy 4 none ∈ lw_g := wd_t5 (List.mem_of_getElem? (i := 111) rfl) rfl
theorem wd_5_112 : Cond.methodLink RL 145 yX10_back ∈ lw_g := wd_t5 (List.mem_of_getElem? (i := 112) rfl) rfl
theorem wd_5_113 : Cond.instanceMethod yX10_back ∈ lw_g := wd_t5 (List.mem_of_getElem? (i := 113) rfl) rfl
theorem wd_5_114 : Cond.selects RX10 yX10_back yX10_back ∈ lw_g := wd_t5 (List.mem_of_getElem? (i := 114) rfl) rfl
theorem wd_5_115 : Cond.code yX10_back cX10_back 1 (some .int) ∈ lw_g := wd_t5 (List.mem_of_getElem? (i := 115) rfl) rfl
theorem wd_5_116 : Cond.methodLink RL 149 yX10_count ∈ lw_g := wd_t5 (List.mem_of_getElem? (i := 116) rfl) rfl
theorem wd_5_117 : Cond.instanceMethod yX10_count ∈ lw_g := wd_t5 (List.mem_of_getElem? (i := 117) rfl) rfl
theorem wd_5_118 : Cond.selects RX10 yX10_count yX10_count ∈ lw_g := wd_t5 (List.mem_of_getElem? (i := 118) rfl) rfl
theorem wd_5_119 : Cond.code yX10_count cX10_count 2 (some .int) ∈ lw_g := wd_t5 (List.mem_of_getElem? (i := 119) rfl) rfl
theorem wd_5_120 : Cond.methodLink RX10 240 yX10_suitMany ∈ lw_g := wd_t5 (List.mem_of_getElem? (i := 120) rfl) rfl
theorem wd_5_122 : Cond.instanceMethod yX10_suitMany ∈ lw_g := wd_t5 (List.mem_of_getElem? (i := 122) rfl) rfl
theorem wd_5_123 : Cond.code yX10_suitMany cX10_suitMany 3 (some .int) ∈ lw_g := wd_t5 (List.mem_of_getElem? (i := 123) rfl) rfl
theorem wd_5_124 : Cond.constantLong RL 13 (4294967295) ∈ lw_g := wd_t5 (List.mem_of_getElem? (i := 124) rfl) rfl
theorem wd_s_0 : Cond.selects RX7 yX7_readItem yX7_readItem ∈ lw_g := List.mem_filter.mpr ⟨List.mem_append_left _ (List.mem_map.mpr ⟨(yX7_readItem, 3), List.mem_of_getElem? (i := 0) rfl, rfl⟩), rfl⟩
theorem wd_s_1 : Cond.selects RX7 yX7_readNumbers yX7_readNumbers ∈ lw_g := List.mem_filter.mpr ⟨List.mem_append_left _ (List.mem_map.mpr ⟨(yX7_readNumbers, 3), List.mem_of_getElem? (i := 1) rfl, rfl⟩), rfl⟩
theorem wd_s_2 : Cond.selects RX7 yX7_isFigure yX7_isFigure ∈ lw_g := List.mem_filter.mpr ⟨List.mem_append_left _ (List.mem_map.mpr ⟨(yX7_isFigure, 3), List.mem_of_getElem? (i := 2) rfl, rfl⟩), rfl⟩
theorem wd_s_3 : Cond.selects RX7 yX7_takeItem yX7_takeItem ∈ lw_g := List.mem_filter.mpr ⟨List.mem_append_left _ (List.mem_map.mpr ⟨(yX7_takeItem, 3), List.mem_of_getElem? (i := 3) rfl, rfl⟩), rfl⟩
theorem wd_s_4 : Cond.selects RX9 yX9_moveTo yX9_moveTo ∈ lw_g := List.mem_filter.mpr ⟨List.mem_append_left _ (List.mem_map.mpr ⟨(yX9_moveTo, 13), List.mem_of_getElem? (i := 4) rfl, rfl⟩), rfl⟩
theorem wd_s_5 : Cond.selects RX9 yX9_isPlaceOrAll yX9_isPlaceOrAll ∈ lw_g := List.mem_filter.mpr ⟨List.mem_append_left _ (List.mem_map.mpr ⟨(yX9_isPlaceOrAll, 13), List.mem_of_getElem? (i := 5) rfl, rfl⟩), rfl⟩
theorem wd_s_6 : Cond.selects RX9 yX9_drawGraph yX9_drawGraph ∈ lw_g := List.mem_filter.mpr ⟨List.mem_append_left _ (List.mem_map.mpr ⟨(yX9_drawGraph, 13), List.mem_of_getElem? (i := 6) rfl, rfl⟩), rfl⟩
theorem wd_s_7 : Cond.selects RX1 yX1_drawEdges yX1_drawEdges ∈ lw_g := List.mem_filter.mpr ⟨List.mem_append_left _ (List.mem_map.mpr ⟨(yX1_drawEdges, 7), List.mem_of_getElem? (i := 7) rfl, rfl⟩), rfl⟩
theorem wd_s_8 : Cond.selects RX1 yX1_countRests yX1_countRests ∈ lw_g := List.mem_filter.mpr ⟨List.mem_append_left _ (List.mem_map.mpr ⟨(yX1_countRests, 7), List.mem_of_getElem? (i := 8) rfl, rfl⟩), rfl⟩
theorem wd_s_9 : Cond.selects RX5 yX5_reach yX5_reach ∈ lw_g := List.mem_filter.mpr ⟨List.mem_append_left _ (List.mem_map.mpr ⟨(yX5_reach, 5), List.mem_of_getElem? (i := 9) rfl, rfl⟩), rfl⟩
theorem wd_s_10 : Cond.selects RX5 yX5_countWaysIn yX5_countWaysIn ∈ lw_g := List.mem_filter.mpr ⟨List.mem_append_left _ (List.mem_map.mpr ⟨(yX5_countWaysIn, 5), List.mem_of_getElem? (i := 10) rfl, rfl⟩), rfl⟩
theorem wd_s_11 : Cond.selects RX5 yX5_goThrough yX5_goThrough ∈ lw_g := List.mem_filter.mpr ⟨List.mem_append_left _ (List.mem_map.mpr ⟨(yX5_goThrough, 5), List.mem_of_getElem? (i := 11) rfl, rfl⟩), rfl⟩
theorem wd_s_12 : Cond.selects RX9 yX9_answerOfWay yX9_answerOfWay ∈ lw_g := List.mem_filter.mpr ⟨List.mem_append_left _ (List.mem_map.mpr ⟨(yX9_answerOfWay, 13), List.mem_of_getElem? (i := 12) rfl, rfl⟩), rfl⟩
theorem wd_s_13 : Cond.selects RX9 yX9_stateWith yX9_stateWith ∈ lw_g := List.mem_filter.mpr ⟨List.mem_append_left _ (List.mem_map.mpr ⟨(yX9_stateWith, 13), List.mem_of_getElem? (i := 13) rfl, rfl⟩), rfl⟩
theorem wd_s_14 : Cond.selects RX9 yX9_priceOf yX9_priceOf ∈ lw_g := List.mem_filter.mpr ⟨List.mem_append_left _ (List.mem_map.mpr ⟨(yX9_priceOf, 13), List.mem_of_getElem? (i := 14) rfl, rfl⟩), rfl⟩
theorem wd_s_15 : Cond.selects RX9 yX9_gainOf yX9_gainOf ∈ lw_g := List.mem_filter.mpr ⟨List.mem_append_left _ (List.mem_map.mpr ⟨(yX9_gainOf, 13), List.mem_of_getElem? (i := 15) rfl, rfl⟩), rfl⟩
theorem wd_s_16 : Cond.selects RX9 yX9_pays yX9_pays ∈ lw_g := List.mem_filter.mpr ⟨List.mem_append_left _ (List.mem_map.mpr ⟨(yX9_pays, 13), List.mem_of_getElem? (i := 16) rfl, rfl⟩), rfl⟩
theorem wd_s_17 : Cond.selects RX9 yX9_worthBySaying yX9_worthBySaying ∈ lw_g := List.mem_filter.mpr ⟨List.mem_append_left _ (List.mem_map.mpr ⟨(yX9_worthBySaying, 13), List.mem_of_getElem? (i := 17) rfl, rfl⟩), rfl⟩
theorem wd_s_18 : Cond.selects RX0 yX0_passOne yX0_passOne ∈ lw_g := List.mem_filter.mpr ⟨List.mem_append_left _ (List.mem_map.mpr ⟨(yX0_passOne, 4), List.mem_of_getElem? (i := 18) rfl, rfl⟩), rfl⟩
theorem wd_s_19 : Cond.selects RX10 yX10_noHouses yX10_noHouses ∈ lw_g := List.mem_filter.mpr ⟨List.mem_append_left _ (List.mem_map.mpr ⟨(yX10_noHouses, 32), List.mem_of_getElem? (i := 19) rfl, rfl⟩), rfl⟩
theorem wd_s_20 : Cond.selects RX10 yX10_layHouses yX10_layHouses ∈ lw_g := List.mem_filter.mpr ⟨List.mem_append_left _ (List.mem_map.mpr ⟨(yX10_layHouses, 32), List.mem_of_getElem? (i := 20) rfl, rfl⟩), rfl⟩
theorem wd_s_21 : Cond.selects RX10 yX10_layAll yX10_layAll ∈ lw_g := List.mem_filter.mpr ⟨List.mem_append_left _ (List.mem_map.mpr ⟨(yX10_layAll, 32), List.mem_of_getElem? (i := 21) rfl, rfl⟩), rfl⟩
theorem wd_s_22 : Cond.selects RX10 yX10_readAll yX10_readAll ∈ lw_g := List.mem_filter.mpr ⟨List.mem_append_left _ (List.mem_map.mpr ⟨(yX10_readAll, 32), List.mem_of_getElem? (i := 22) rfl, rfl⟩), rfl⟩
theorem wd_s_23 : Cond.selects RX10 yX10_item yX10_item ∈ lw_g := List.mem_filter.mpr ⟨List.mem_append_left _ (List.mem_map.mpr ⟨(yX10_item, 32), List.mem_of_getElem? (i := 23) rfl, rfl⟩), rfl⟩
theorem wd_s_24 : Cond.selects RX10 yX10_byteAt yX10_byteAt ∈ lw_g := List.mem_filter.mpr ⟨List.mem_append_left _ (List.mem_map.mpr ⟨(yX10_byteAt, 32), List.mem_of_getElem? (i := 24) rfl, rfl⟩), rfl⟩
theorem wd_s_25 : Cond.selects RX10 yX10_figures yX10_figures ∈ lw_g := List.mem_filter.mpr ⟨List.mem_append_left _ (List.mem_map.mpr ⟨(yX10_figures, 32), List.mem_of_getElem? (i := 25) rfl, rfl⟩), rfl⟩
theorem wd_s_26 : Cond.selects RX10 yX10_areThere yX10_areThere ∈ lw_g := List.mem_filter.mpr ⟨List.mem_append_left _ (List.mem_map.mpr ⟨(yX10_areThere, 32), List.mem_of_getElem? (i := 26) rfl, rfl⟩), rfl⟩
theorem wd_s_27 : Cond.selects RX10 yX10_isPlace yX10_isPlace ∈ lw_g := List.mem_filter.mpr ⟨List.mem_append_left _ (List.mem_map.mpr ⟨(yX10_isPlace, 32), List.mem_of_getElem? (i := 27) rfl, rfl⟩), rfl⟩
theorem wd_s_28 : Cond.selects RX10 yX10_now yX10_now ∈ lw_g := List.mem_filter.mpr ⟨List.mem_append_left _ (List.mem_map.mpr ⟨(yX10_now, 32), List.mem_of_getElem? (i := 28) rfl, rfl⟩), rfl⟩
theorem wd_s_29 : Cond.selects RX10 yX10_code yX10_code ∈ lw_g := List.mem_filter.mpr ⟨List.mem_append_left _ (List.mem_map.mpr ⟨(yX10_code, 32), List.mem_of_getElem? (i := 29) rfl, rfl⟩), rfl⟩
theorem wd_s_30 : Cond.selects RX10 yX10_placeIn yX10_placeIn ∈ lw_g := List.mem_filter.mpr ⟨List.mem_append_left _ (List.mem_map.mpr ⟨(yX10_placeIn, 32), List.mem_of_getElem? (i := 30) rfl, rfl⟩), rfl⟩
theorem wd_s_31 : Cond.selects RX10 yX10_whoIn yX10_whoIn ∈ lw_g := List.mem_filter.mpr ⟨List.mem_append_left _ (List.mem_map.mpr ⟨(yX10_whoIn, 32), List.mem_of_getElem? (i := 31) rfl, rfl⟩), rfl⟩
theorem wd_s_32 : Cond.selects RX10 yX10_worthIn yX10_worthIn ∈ lw_g := List.mem_filter.mpr ⟨List.mem_append_left _ (List.mem_map.mpr ⟨(yX10_worthIn, 32), List.mem_of_getElem? (i := 32) rfl, rfl⟩), rfl⟩
theorem wd_s_33 : Cond.selects RX10 yX10_far yX10_far ∈ lw_g := List.mem_filter.mpr ⟨List.mem_append_left _ (List.mem_map.mpr ⟨(yX10_far, 32), List.mem_of_getElem? (i := 33) rfl, rfl⟩), rfl⟩
theorem wd_s_34 : Cond.selects RX10 yX10_isRound yX10_isRound ∈ lw_g := List.mem_filter.mpr ⟨List.mem_append_left _ (List.mem_map.mpr ⟨(yX10_isRound, 32), List.mem_of_getElem? (i := 34) rfl, rfl⟩), rfl⟩
theorem wd_s_35 : Cond.selects RX10 yX10_isChange yX10_isChange ∈ lw_g := List.mem_filter.mpr ⟨List.mem_append_left _ (List.mem_map.mpr ⟨(yX10_isChange, 32), List.mem_of_getElem? (i := 35) rfl, rfl⟩), rfl⟩
theorem wd_s_36 : Cond.selects RX10 yX10_changeMany yX10_changeMany ∈ lw_g := List.mem_filter.mpr ⟨List.mem_append_left _ (List.mem_map.mpr ⟨(yX10_changeMany, 32), List.mem_of_getElem? (i := 36) rfl, rfl⟩), rfl⟩
theorem wd_s_37 : Cond.selects RX10 yX10_doesSuit yX10_doesSuit ∈ lw_g := List.mem_filter.mpr ⟨List.mem_append_left _ (List.mem_map.mpr ⟨(yX10_doesSuit, 32), List.mem_of_getElem? (i := 37) rfl, rfl⟩), rfl⟩
theorem wd_s_38 : Cond.selects RX10 yX10_behind yX10_behind ∈ lw_g := List.mem_filter.mpr ⟨List.mem_append_left _ (List.mem_map.mpr ⟨(yX10_behind, 32), List.mem_of_getElem? (i := 38) rfl, rfl⟩), rfl⟩
theorem wd_s_39 : Cond.selects RX10 yX10_doIt yX10_doIt ∈ lw_g := List.mem_filter.mpr ⟨List.mem_append_left _ (List.mem_map.mpr ⟨(yX10_doIt, 32), List.mem_of_getElem? (i := 39) rfl, rfl⟩), rfl⟩
theorem wd_s_40 : Cond.selects RX10 yX10_go yX10_go ∈ lw_g := List.mem_filter.mpr ⟨List.mem_append_left _ (List.mem_map.mpr ⟨(yX10_go, 32), List.mem_of_getElem? (i := 40) rfl, rfl⟩), rfl⟩
theorem wd_s_41 : Cond.selects RX10 yX10_layWeb yX10_layWeb ∈ lw_g := List.mem_filter.mpr ⟨List.mem_append_left _ (List.mem_map.mpr ⟨(yX10_layWeb, 32), List.mem_of_getElem? (i := 41) rfl, rfl⟩), rfl⟩
theorem wd_s_42 : Cond.selects RX10 yX10_lowest yX10_lowest ∈ lw_g := List.mem_filter.mpr ⟨List.mem_append_left _ (List.mem_map.mpr ⟨(yX10_lowest, 32), List.mem_of_getElem? (i := 42) rfl, rfl⟩), rfl⟩
theorem wd_s_43 : Cond.selects RX10 yX10_goOn yX10_goOn ∈ lw_g := List.mem_filter.mpr ⟨List.mem_append_left _ (List.mem_map.mpr ⟨(yX10_goOn, 32), List.mem_of_getElem? (i := 43) rfl, rfl⟩), rfl⟩
theorem wd_s_44 : Cond.selects RX10 yX10_layReached yX10_layReached ∈ lw_g := List.mem_filter.mpr ⟨List.mem_append_left _ (List.mem_map.mpr ⟨(yX10_layReached, 32), List.mem_of_getElem? (i := 44) rfl, rfl⟩), rfl⟩
theorem wd_s_45 : Cond.selects RX10 yX10_fewestFrom yX10_fewestFrom ∈ lw_g := List.mem_filter.mpr ⟨List.mem_append_left _ (List.mem_map.mpr ⟨(yX10_fewestFrom, 32), List.mem_of_getElem? (i := 45) rfl, rfl⟩), rfl⟩
theorem wd_s_46 : Cond.selects RX10 yX10_firstOf yX10_firstOf ∈ lw_g := List.mem_filter.mpr ⟨List.mem_append_left _ (List.mem_map.mpr ⟨(yX10_firstOf, 32), List.mem_of_getElem? (i := 46) rfl, rfl⟩), rfl⟩
theorem wd_s_47 : Cond.selects RX10 yX10_priceOf yX10_priceOf ∈ lw_g := List.mem_filter.mpr ⟨List.mem_append_left _ (List.mem_map.mpr ⟨(yX10_priceOf, 32), List.mem_of_getElem? (i := 47) rfl, rfl⟩), rfl⟩
theorem wd_s_48 : Cond.selects RX10 yX10_isFit yX10_isFit ∈ lw_g := List.mem_filter.mpr ⟨List.mem_append_left _ (List.mem_map.mpr ⟨(yX10_isFit, 32), List.mem_of_getElem? (i := 48) rfl, rfl⟩), rfl⟩
theorem wd_s_49 : Cond.selects RX10 yX10_copy yX10_copy ∈ lw_g := List.mem_filter.mpr ⟨List.mem_append_left _ (List.mem_map.mpr ⟨(yX10_copy, 32), List.mem_of_getElem? (i := 49) rfl, rfl⟩), rfl⟩
theorem wd_s_50 : Cond.selects RX10 yX10_suitMany yX10_suitMany ∈ lw_g := List.mem_filter.mpr ⟨List.mem_append_left _ (List.mem_map.mpr ⟨(yX10_suitMany, 32), List.mem_of_getElem? (i := 50) rfl, rfl⟩), rfl⟩
theorem inX0 : ∀ w ∈ u_ws RX0 TX0 4, w ∈ lw_g := fun w h => wd_t ((show ∀ w ∈ u_ws RX0 TX0 4, w ∈ tables_1 by decide +kernel) w h) (List.all_eq_true.mp (show (u_ws RX0 TX0 4).all goodWord = true by decide +kernel) w h)
theorem inX1 : ∀ w ∈ u_ws RX1 TX1 7, w ∈ lw_g := fun w h => wd_t ((show ∀ w ∈ u_ws RX1 TX1 7, w ∈ tables_1 by decide +kernel) w h) (List.all_eq_true.mp (show (u_ws RX1 TX1 7).all goodWord = true by decide +kernel) w h)
theorem inX2 : ∀ w ∈ u_ws RX2 TX2 7, w ∈ lw_g := fun w h => wd_t ((show ∀ w ∈ u_ws RX2 TX2 7, w ∈ tables_1 by decide +kernel) w h) (List.all_eq_true.mp (show (u_ws RX2 TX2 7).all goodWord = true by decide +kernel) w h)
theorem inX3 : ∀ w ∈ u_ws RX3 TX3 2, w ∈ lw_g := fun w h => wd_t ((show ∀ w ∈ u_ws RX3 TX3 2, w ∈ tables_1 by decide +kernel) w h) (List.all_eq_true.mp (show (u_ws RX3 TX3 2).all goodWord = true by decide +kernel) w h)
theorem inX5 : ∀ w ∈ u_ws RX5 TX5 5, w ∈ lw_g := fun w h => wd_t ((show ∀ w ∈ u_ws RX5 TX5 5, w ∈ tables_1 by decide +kernel) w h) (List.all_eq_true.mp (show (u_ws RX5 TX5 5).all goodWord = true by decide +kernel) w h)
theorem inX6 : ∀ w ∈ u_ws RX6 TX6 5, w ∈ lw_g := fun w h => wd_t ((show ∀ w ∈ u_ws RX6 TX6 5, w ∈ tables_1 by decide +kernel) w h) (List.all_eq_true.mp (show (u_ws RX6 TX6 5).all goodWord = true by decide +kernel) w h)
theorem inX7 : ∀ w ∈ u_ws RX7 TX7 3, w ∈ lw_g := fun w h => wd_t ((show ∀ w ∈ u_ws RX7 TX7 3, w ∈ tables_1 by decide +kernel) w h) (List.all_eq_true.mp (show (u_ws RX7 TX7 3).all goodWord = true by decide +kernel) w h)
theorem inX8 : ∀ w ∈ u_ws RX8 TX8 2, w ∈ lw_g := fun w h => wd_t ((show ∀ w ∈ u_ws RX8 TX8 2, w ∈ tables_1 by decide +kernel) w h) (List.all_eq_true.mp (show (u_ws RX8 TX8 2).all goodWord = true by decide +kernel) w h)
theorem inX9 : ∀ w ∈ u_ws RX9 TX9 13, w ∈ lw_g := fun w h => wd_t ((show ∀ w ∈ u_ws RX9 TX9 13, w ∈ tables_1 by decide +kernel) w h) (List.all_eq_true.mp (show (u_ws RX9 TX9 13).all goodWord = true by decide +kernel) w h)
theorem inX10 : ∀ w ∈ u_ws RX10 TX10 32, w ∈ lw_g := fun w h => wd_t ((show ∀ w ∈ u_ws RX10 TX10 32, w ∈ tables_1 by decide +kernel) w h) (List.all_eq_true.mp (show (u_ws RX10 TX10 32).all goodWord = true by decide +kernel) w h)
theorem lw_g_ok : ∀ w ∈ lw_g, goodWord w = true := fun w h => (List.mem_filter.mp h).2
theorem lw_g_in : ∀ w ∈ lw_g, w ∈ lw_tbl := fun w h => (List.mem_filter.mp h).1
