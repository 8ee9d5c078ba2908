def BIG : List Cond := lw_tbl.filter goodWord
theorem bgm {w : Cond} (h : w ∈ tables_1) (g : goodWord w = true) : w ∈ BIG := List.mem_filter.mpr ⟨List.mem_append_right _ h, g⟩
theorem bg1 {w : Cond} (i : Nat) (h : tables_1_1[i]? = some w) (g : goodWord w = true) : w ∈ BIG := bgm (List.mem_append_left _ (List.mem_of_getElem? h)) g
theorem bg2 {w : Cond} (i : Nat) (h : tables_1_2[i]? = some w) (g : goodWord w = true) : w ∈ BIG := bgm (List.mem_append_right _ (List.mem_append_left _ (List.mem_of_getElem? h))) g
theorem bg3 {w : Cond} (i : Nat) (h : tables_1_3[i]? = some w) (g : goodWord w = true) : w ∈ BIG := bgm (List.mem_append_right _ (List.mem_append_right _ (List.mem_append_left _ (List.mem_of_getElem? h)))) g
theorem bg4 {w : Cond} (i : Nat) (h : tables_1_4[i]? = some w) (g : goodWord w = true) : w ∈ BIG := bgm (List.mem_append_right _ (List.mem_append_right _ (List.mem_append_right _ (List.mem_append_left _ (List.mem_of_getElem? h))))) g
theorem bg5 {w : Cond} (i : Nat) (h : tables_1_5[i]? = some w) (g : goodWord w = true) : w ∈ BIG := bgm (List.mem_append_right _ (List.mem_append_right _ (List.mem_append_right _ (List.mem_append_right _ (List.mem_append_left _ (List.mem_of_getElem? h)))))) g
theorem bg6 {w : Cond} (i : Nat) (h : tables_1_6[i]? = some w) (g : goodWord w = true) : w ∈ BIG := bgm (List.mem_append_right _ (List.mem_append_right _ (List.mem_append_right _ (List.mem_append_right _ (List.mem_append_right _ (List.mem_of_getElem? h)))))) g
theorem bgS {w : Cond} (i : Nat) (h : (k2_sels lw_privs)[i]? = some w) (g : goodWord w = true) : w ∈ BIG := List.mem_filter.mpr ⟨List.mem_append_left _ (List.mem_of_getElem? h), g⟩
theorem BIG_in : ∀ w ∈ BIG, w ∈ lw_tbl := fun w h => (List.mem_filter.mp h).1
theorem BIG_good {w : Cond} (h : w ∈ BIG) : (w.onTables && w.keeps) = true ∨ ∃ ty, w = .arrayClass ty := good_of_word (List.mem_filter.mp h).2
theorem q1_14 : Cond.classLink RL 7 RX8 ∈ BIG := bg1 14 (by decide +kernel) rfl
theorem q1_16 : Cond.methodLink RL 9 yX8_init ∈ BIG := bg1 16 (by decide +kernel) rfl
theorem q4_103 : Cond.classLink RL 10 RX9 ∈ BIG := bg4 103 (by decide +kernel) rfl
theorem q4_105 : Cond.methodLink RL 12 yX9_init ∈ BIG := bg4 105 (by decide +kernel) rfl
theorem q2_100 : Cond.methodLink RL 13 yX8_feed ∈ BIG := bg2 100 (by decide +kernel) rfl
theorem q5_43 : Cond.methodLink RL 17 yX9_feed ∈ BIG := bg5 43 (by decide +kernel) rfl
theorem q2_108 : Cond.methodLink RL 18 yX8_tide ∈ BIG := bg2 108 (by decide +kernel) rfl
theorem q5_51 : Cond.methodLink RL 22 yX9_tide ∈ BIG := bg5 51 (by decide +kernel) rfl
theorem q2_139 : Cond.methodLink RL 23 yX8_wind ∈ BIG := bg2 139 (by decide +kernel) rfl
theorem q5_67 : Cond.methodLink RL 27 yX9_wind ∈ BIG := bg5 67 (by decide +kernel) rfl
theorem q2_150 : Cond.methodLink RL 28 yX8_sea ∈ BIG := bg2 150 (by decide +kernel) rfl
theorem q5_75 : Cond.methodLink RL 31 yX9_sea ∈ BIG := bg5 75 (by decide +kernel) rfl
theorem q2_172 : Cond.methodLink RL 32 yX8_place ∈ BIG := bg2 172 (by decide +kernel) rfl
theorem q5_100 : Cond.methodLink RL 36 yX9_place ∈ BIG := bg5 100 (by decide +kernel) rfl
theorem q2_176 : Cond.methodLink RL 37 yX8_way ∈ BIG := bg2 176 (by decide +kernel) rfl
theorem q5_105 : Cond.methodLink RL 40 yX9_way ∈ BIG := bg5 105 (by decide +kernel) rfl
theorem q2_192 : Cond.methodLink RL 41 yX8_safe ∈ BIG := bg2 192 (by decide +kernel) rfl
theorem q5_118 : Cond.methodLink RL 44 yX9_safe ∈ BIG := bg5 118 (by decide +kernel) rfl
theorem q2_209 : Cond.methodLink RL 45 yX8_alter ∈ BIG := bg2 209 (by decide +kernel) rfl
theorem q5_126 : Cond.methodLink RL 48 yX9_alter ∈ BIG := bg5 126 (by decide +kernel) rfl
theorem q2_217 : Cond.methodLink RL 49 yX8_sort ∈ BIG := bg2 217 (by decide +kernel) rfl
theorem q5_134 : Cond.methodLink RL 52 yX9_sort ∈ BIG := bg5 134 (by decide +kernel) rfl
theorem q2_224 : Cond.methodLink RL 53 yX8_light ∈ BIG := bg2 224 (by decide +kernel) rfl
theorem q5_144 : Cond.methodLink RL 56 yX9_light ∈ BIG := bg5 144 (by decide +kernel) rfl
theorem q2_228 : Cond.methodLink RL 57 yX8_takes ∈ BIG := bg2 228 (by decide +kernel) rfl
theorem q5_148 : Cond.methodLink RL 60 yX9_takes ∈ BIG := bg5 148 (by decide +kernel) rfl
theorem q2_236 : Cond.methodLink RL 61 yX8_open ∈ BIG := bg2 236 (by decide +kernel) rfl
theorem q5_156 : Cond.methodLink RL 65 yX9_open ∈ BIG := bg5 156 (by decide +kernel) rfl
theorem q3_35 : Cond.methodLink RL 66 yX8_soon ∈ BIG := bg3 35 (by decide +kernel) rfl
theorem q5_177 : Cond.methodLink RL 69 yX9_soon ∈ BIG := bg5 177 (by decide +kernel) rfl
theorem q3_74 : Cond.methodLink RL 70 yX8_last ∈ BIG := bg3 74 (by decide +kernel) rfl
theorem q5_212 : Cond.methodLink RL 73 yX9_last ∈ BIG := bg5 212 (by decide +kernel) rfl
theorem q3_86 : Cond.methodLink RL 74 yX8_best ∈ BIG := bg3 86 (by decide +kernel) rfl
theorem q5_228 : Cond.methodLink RL 77 yX9_best ∈ BIG := bg5 228 (by decide +kernel) rfl
theorem q3_112 : Cond.methodLink RL 78 yX8_days ∈ BIG := bg3 112 (by decide +kernel) rfl
theorem q6_4 : Cond.methodLink RL 81 yX9_days ∈ BIG := bg6 4 (by decide +kernel) rfl
theorem q3_116 : Cond.methodLink RL 82 yX8_two ∈ BIG := bg3 116 (by decide +kernel) rfl
theorem q6_8 : Cond.methodLink RL 86 yX9_two ∈ BIG := bg6 8 (by decide +kernel) rfl
theorem q3_124 : Cond.methodLink RL 87 yX8_worth ∈ BIG := bg3 124 (by decide +kernel) rfl
theorem q6_12 : Cond.methodLink RL 90 yX9_worth ∈ BIG := bg6 12 (by decide +kernel) rfl
theorem q3_132 : Cond.methodLink RL 91 yX8_higher ∈ BIG := bg3 132 (by decide +kernel) rfl
theorem q6_20 : Cond.methodLink RL 94 yX9_higher ∈ BIG := bg6 20 (by decide +kernel) rfl
theorem q3_140 : Cond.methodLink RL 95 yX8_must ∈ BIG := bg3 140 (by decide +kernel) rfl
theorem q6_28 : Cond.methodLink RL 98 yX9_must ∈ BIG := bg6 28 (by decide +kernel) rfl
theorem q3_148 : Cond.methodLink RL 99 yX8_move ∈ BIG := bg3 148 (by decide +kernel) rfl
theorem q6_32 : Cond.methodLink RL 102 yX9_move ∈ BIG := bg6 32 (by decide +kernel) rfl
theorem q3_160 : Cond.methodLink RL 103 yX8_moves ∈ BIG := bg3 160 (by decide +kernel) rfl
theorem q6_38 : Cond.methodLink RL 106 yX9_moves ∈ BIG := bg6 38 (by decide +kernel) rfl
theorem q3_171 : Cond.methodLink RL 107 yX8_drop ∈ BIG := bg3 171 (by decide +kernel) rfl
theorem q6_48 : Cond.methodLink RL 110 yX9_drop ∈ BIG := bg6 48 (by decide +kernel) rfl
theorem q3_175 : Cond.methodLink RL 111 yX8_judge ∈ BIG := bg3 175 (by decide +kernel) rfl
theorem q6_52 : Cond.methodLink RL 114 yX9_judge ∈ BIG := bg6 52 (by decide +kernel) rfl
theorem q3_197 : Cond.methodLink RL 115 yX8_wet ∈ BIG := bg3 197 (by decide +kernel) rfl
theorem q6_64 : Cond.methodLink RL 118 yX9_wet ∈ BIG := bg6 64 (by decide +kernel) rfl
theorem q3_206 : Cond.methodLink RL 119 yX8_chance ∈ BIG := bg3 206 (by decide +kernel) rfl
theorem q6_68 : Cond.methodLink RL 122 yX9_chance ∈ BIG := bg6 68 (by decide +kernel) rfl
theorem q3_210 : Cond.methodLink RL 123 yX8_mark ∈ BIG := bg3 210 (by decide +kernel) rfl
theorem q6_72 : Cond.methodLink RL 126 yX9_mark ∈ BIG := bg6 72 (by decide +kernel) rfl
theorem q3_214 : Cond.methodLink RL 127 yX8_old ∈ BIG := bg3 214 (by decide +kernel) rfl
theorem q6_80 : Cond.methodLink RL 130 yX9_old ∈ BIG := bg6 80 (by decide +kernel) rfl
theorem q3_226 : Cond.methodLink RL 131 yX8_unmark ∈ BIG := bg3 226 (by decide +kernel) rfl
theorem q6_76 : Cond.methodLink RL 134 yX9_unmark ∈ BIG := bg6 76 (by decide +kernel) rfl
theorem q3_230 : Cond.methodLink RL 135 yX8_undo ∈ BIG := bg3 230 (by decide +kernel) rfl
theorem q5_35 : Cond.methodLink RL 138 yX9_undo ∈ BIG := bg5 35 (by decide +kernel) rfl
theorem q3_238 : Cond.methodLink RL 139 yX8_redo ∈ BIG := bg3 238 (by decide +kernel) rfl
theorem q5_39 : Cond.methodLink RL 142 yX9_redo ∈ BIG := bg5 39 (by decide +kernel) rfl
theorem q4_6 : Cond.methodLink RL 143 yX8_body ∈ BIG := bg4 6 (by decide +kernel) rfl
theorem q6_84 : Cond.methodLink RL 146 yX9_body ∈ BIG := bg6 84 (by decide +kernel) rfl
theorem q4_14 : Cond.methodLink RL 147 yX8_act ∈ BIG := bg4 14 (by decide +kernel) rfl
theorem q6_89 : Cond.methodLink RL 150 yX9_act ∈ BIG := bg6 89 (by decide +kernel) rfl
theorem q4_43 : Cond.methodLink RL 151 yX8_trace ∈ BIG := bg4 43 (by decide +kernel) rfl
theorem q6_117 : Cond.methodLink RL 154 yX9_trace ∈ BIG := bg6 117 (by decide +kernel) rfl
theorem q4_48 : Cond.methodLink RL 155 yX8_keep ∈ BIG := bg4 48 (by decide +kernel) rfl
theorem q6_121 : Cond.methodLink RL 158 yX9_keep ∈ BIG := bg6 121 (by decide +kernel) rfl
theorem q4_57 : Cond.methodLink RL 159 yX8_row ∈ BIG := bg4 57 (by decide +kernel) rfl
theorem q6_125 : Cond.methodLink RL 162 yX9_row ∈ BIG := bg6 125 (by decide +kernel) rfl
theorem q6_164 : Cond.constantLong RL 163 (4294967295) ∈ BIG := bg6 164 (by decide +kernel) rfl
theorem q4_66 : Cond.methodLink RL 165 yX8_put ∈ BIG := bg4 66 (by decide +kernel) rfl
theorem q6_129 : Cond.methodLink RL 169 yX9_put ∈ BIG := bg6 129 (by decide +kernel) rfl
theorem q4_78 : Cond.methodLink RL 170 yX8_element ∈ BIG := bg4 78 (by decide +kernel) rfl
theorem q6_140 : Cond.methodLink RL 174 yX9_element ∈ BIG := bg6 140 (by decide +kernel) rfl
theorem q4_83 : Cond.methodLink RL 175 yX8_shift ∈ BIG := bg4 83 (by decide +kernel) rfl
theorem q6_145 : Cond.methodLink RL 178 yX9_shift ∈ BIG := bg6 145 (by decide +kernel) rfl
theorem q4_92 : Cond.methodLink RL 179 yX8_taken ∈ BIG := bg4 92 (by decide +kernel) rfl
theorem q6_149 : Cond.methodLink RL 182 yX9_taken ∈ BIG := bg6 149 (by decide +kernel) rfl
theorem q4_99 : Cond.methodLink RL 183 yX8_count ∈ BIG := bg4 99 (by decide +kernel) rfl
theorem q6_160 : Cond.methodLink RL 186 yX9_count ∈ BIG := bg6 160 (by decide +kernel) rfl
theorem q2_25 : Cond.methodLink RX0 3 objectInit ∈ BIG := bg2 25 (by decide +kernel) rfl
theorem q2_26 : Cond.fieldLink RX0 9 "RoundPoint$Bodies" "kinds" "[I" ∈ BIG := bg2 26 (by decide +kernel) rfl
theorem q2_30 : Cond.fieldLink RX0 15 "RoundPoint$Bodies" "began" "[I" ∈ BIG := bg2 30 (by decide +kernel) rfl
theorem q2_28 : Cond.fieldLink RX0 18 "RoundPoint$Bodies" "count" "I" ∈ BIG := bg2 28 (by decide +kernel) rfl
theorem q4_33 : Cond.fieldLink RX0 22 "RoundPoint$Bodies" "ABOVE" "[I" ∈ BIG := bg4 33 (by decide +kernel) rfl
theorem q2_32 : Cond.fieldLink RX0 25 "RoundPoint$Bodies" "ran" "I" ∈ BIG := bg2 32 (by decide +kernel) rfl
theorem q2_34 : Cond.fieldLink RX0 32 "RoundPoint$Bodies" "number" "I" ∈ BIG := bg2 34 (by decide +kernel) rfl
theorem q4_23 : Cond.methodLink RX0 35 yX0_own ∈ BIG := bg4 23 (by decide +kernel) rfl
theorem q4_27 : Cond.methodLink RX0 39 yX0_from ∈ BIG := bg4 27 (by decide +kernel) rfl
theorem q4_31 : Cond.fieldLink RX0 43 "RoundPoint$Bodies" "OWN" "[I" ∈ BIG := bg4 31 (by decide +kernel) rfl
theorem q4_35 : Cond.methodLink RX0 46 yX0_run ∈ BIG := bg4 35 (by decide +kernel) rfl
theorem q4_39 : Cond.methodLink RX0 49 yX0_note ∈ BIG := bg4 39 (by decide +kernel) rfl
theorem q1_235 : Cond.methodLink RX1 3 objectInit ∈ BIG := bg1 235 (by decide +kernel) rfl
theorem q1_237 : Cond.fieldLink RX1 9 "RoundPoint$Changes" "whats" "[I" ∈ BIG := bg1 237 (by decide +kernel) rfl
theorem q1_238 : Cond.fieldLink RX1 15 "RoundPoint$Changes" "numbers" "[I" ∈ BIG := bg1 238 (by decide +kernel) rfl
theorem q1_239 : Cond.fieldLink RX1 18 "RoundPoint$Changes" "befores" "[I" ∈ BIG := bg1 239 (by decide +kernel) rfl
theorem q2_0 : Cond.fieldLink RX1 21 "RoundPoint$Changes" "afters" "[I" ∈ BIG := bg2 0 (by decide +kernel) rfl
theorem q1_236 : Cond.fieldLink RX1 24 "RoundPoint$Changes" "coast" "LRoundPoint$Coast;" ∈ BIG := bg1 236 (by decide +kernel) rfl
theorem q2_200 : Cond.methodLink RX1 28 yX2_rowOf ∈ BIG := bg2 200 (by decide +kernel) rfl
theorem q2_1 : Cond.fieldLink RX1 34 "RoundPoint$Changes" "done" "I" ∈ BIG := bg2 1 (by decide +kernel) rfl
theorem q2_204 : Cond.methodLink RX1 38 yX1_forgetOldest ∈ BIG := bg2 204 (by decide +kernel) rfl
theorem q2_3 : Cond.fieldLink RX1 41 "RoundPoint$Changes" "known" "I" ∈ BIG := bg2 3 (by decide +kernel) rfl
theorem q2_208 : Cond.methodLink RX1 44 arraycopyName ∈ BIG := bg2 208 (by decide +kernel) rfl
theorem q1_57 : Cond.methodLink RX2 3 objectInit ∈ BIG := bg1 57 (by decide +kernel) rfl
theorem q1_60 : Cond.fieldLink RX2 9 "RoundPoint$Coast" "points" "[I" ∈ BIG := bg1 60 (by decide +kernel) rfl
theorem q1_61 : Cond.fieldLink RX2 15 "RoundPoint$Coast" "pointMinutes" "[I" ∈ BIG := bg1 61 (by decide +kernel) rfl
theorem q1_62 : Cond.fieldLink RX2 18 "RoundPoint$Coast" "pointHeights" "[I" ∈ BIG := bg1 62 (by decide +kernel) rfl
theorem q1_66 : Cond.fieldLink RX2 21 "RoundPoint$Coast" "lifts" "[I" ∈ BIG := bg1 66 (by decide +kernel) rfl
theorem q1_68 : Cond.fieldLink RX2 24 "RoundPoint$Coast" "earlies" "[I" ∈ BIG := bg1 68 (by decide +kernel) rfl
theorem q1_70 : Cond.fieldLink RX2 27 "RoundPoint$Coast" "chances" "[I" ∈ BIG := bg1 70 (by decide +kernel) rfl
theorem q1_73 : Cond.fieldLink RX2 30 "RoundPoint$Coast" "safes" "[I" ∈ BIG := bg1 73 (by decide +kernel) rfl
theorem q1_81 : Cond.fieldLink RX2 33 "RoundPoint$Coast" "ones" "[I" ∈ BIG := bg1 81 (by decide +kernel) rfl
theorem q1_84 : Cond.fieldLink RX2 36 "RoundPoint$Coast" "others" "[I" ∈ BIG := bg1 84 (by decide +kernel) rfl
theorem q1_87 : Cond.fieldLink RX2 39 "RoundPoint$Coast" "lengths" "[I" ∈ BIG := bg1 87 (by decide +kernel) rfl
theorem q1_88 : Cond.fieldLink RX2 42 "RoundPoint$Coast" "heights" "[I" ∈ BIG := bg1 88 (by decide +kernel) rfl
theorem q1_92 : Cond.fieldLink RX2 45 "RoundPoint$Coast" "firstHours" "[I" ∈ BIG := bg1 92 (by decide +kernel) rfl
theorem q1_96 : Cond.fieldLink RX2 48 "RoundPoint$Coast" "lastHours" "[I" ∈ BIG := bg1 96 (by decide +kernel) rfl
theorem q1_100 : Cond.fieldLink RX2 51 "RoundPoint$Coast" "hundredths" "[I" ∈ BIG := bg1 100 (by decide +kernel) rfl
theorem q1_103 : Cond.fieldLink RX2 54 "RoundPoint$Coast" "dark" "I" ∈ BIG := bg1 103 (by decide +kernel) rfl
theorem q1_63 : Cond.fieldLink RX2 58 "RoundPoint$Coast" "winds" "I" ∈ BIG := bg1 63 (by decide +kernel) rfl
theorem q1_58 : Cond.fieldLink RX2 61 "RoundPoint$Coast" "tides" "I" ∈ BIG := bg1 58 (by decide +kernel) rfl
theorem q2_136 : Cond.methodLink RX2 64 arraycopyName ∈ BIG := bg2 136 (by decide +kernel) rfl
theorem q1_78 : Cond.fieldLink RX2 70 "RoundPoint$Coast" "ways" "I" ∈ BIG := bg1 78 (by decide +kernel) rfl
theorem q3_110 : Cond.methodLink RX2 73 yX2_chanceOf ∈ BIG := bg3 110 (by decide +kernel) rfl
theorem q3_111 : Cond.methodLink RX2 77 yX2_allWinds ∈ BIG := bg3 111 (by decide +kernel) rfl
theorem q2_165 : Cond.methodLink RX2 81 Lib.Math.max.name ∈ BIG := bg2 165 (by decide +kernel) rfl
theorem q2_162 : Cond.methodLink RX2 87 Lib.Math.min.name ∈ BIG := bg2 162 (by decide +kernel) rfl
theorem q2_168 : Cond.methodLink RX2 90 yX2_tideAt ∈ BIG := bg2 168 (by decide +kernel) rfl
theorem q1_204 : Cond.methodLink RX3 3 objectInit ∈ BIG := bg1 204 (by decide +kernel) rfl
theorem q1_207 : Cond.fieldLink RX3 9 "RoundPoint$Plan" "told" "[I" ∈ BIG := bg1 207 (by decide +kernel) rfl
theorem q1_205 : Cond.fieldLink RX3 15 "RoundPoint$Plan" "coast" "LRoundPoint$Coast;" ∈ BIG := bg1 205 (by decide +kernel) rfl
theorem q1_206 : Cond.fieldLink RX3 19 "RoundPoint$Plan" "water" "LRoundPoint$Sea;" ∈ BIG := bg1 206 (by decide +kernel) rfl
theorem q1_208 : Cond.fieldLink RX3 23 "RoundPoint$Plan" "count" "I" ∈ BIG := bg1 208 (by decide +kernel) rfl
theorem q1_210 : Cond.fieldLink RX3 27 "RoundPoint$Plan" "place" "I" ∈ BIG := bg1 210 (by decide +kernel) rfl
theorem q1_212 : Cond.fieldLink RX3 30 "RoundPoint$Plan" "minute" "I" ∈ BIG := bg1 212 (by decide +kernel) rfl
theorem q1_214 : Cond.fieldLink RX3 33 "RoundPoint$Plan" "weary" "I" ∈ BIG := bg1 214 (by decide +kernel) rfl
theorem q3_183 : Cond.methodLink RX3 36 yX3_stay ∈ BIG := bg3 183 (by decide +kernel) rfl
theorem q3_187 : Cond.methodLink RX3 40 yX3_follow ∈ BIG := bg3 187 (by decide +kernel) rfl
theorem q1_74 : Cond.fieldLink RX3 44 "RoundPoint$Coast" "safes" "[I" ∈ BIG := bg1 74 (by decide +kernel) rfl
theorem q3_30 : Cond.methodLink RX3 49 yX4_firstAbove ∈ BIG := bg3 30 (by decide +kernel) rfl
theorem q3_191 : Cond.methodLink RX3 55 yX3_leadsOn ∈ BIG := bg3 191 (by decide +kernel) rfl
theorem q3_195 : Cond.methodLink RX3 58 yX3_wayGoes ∈ BIG := bg3 195 (by decide +kernel) rfl
theorem q3_34 : Cond.methodLink RX3 62 yX2_taking ∈ BIG := bg3 34 (by decide +kernel) rfl
theorem q1_82 : Cond.fieldLink RX3 66 "RoundPoint$Coast" "ones" "[I" ∈ BIG := bg1 82 (by decide +kernel) rfl
theorem q1_85 : Cond.fieldLink RX3 69 "RoundPoint$Coast" "others" "[I" ∈ BIG := bg1 85 (by decide +kernel) rfl
theorem q3_196 : Cond.methodLink RX3 72 Lib.Math.min.name ∈ BIG := bg3 196 (by decide +kernel) rfl
theorem q1_93 : Cond.fieldLink RX3 77 "RoundPoint$Coast" "firstHours" "[I" ∈ BIG := bg1 93 (by decide +kernel) rfl
theorem q1_97 : Cond.fieldLink RX3 80 "RoundPoint$Coast" "lastHours" "[I" ∈ BIG := bg1 97 (by decide +kernel) rfl
theorem q1_89 : Cond.fieldLink RX3 83 "RoundPoint$Coast" "heights" "[I" ∈ BIG := bg1 89 (by decide +kernel) rfl
theorem q3_205 : Cond.methodLink RX3 86 Lib.Math.max.name ∈ BIG := bg3 205 (by decide +kernel) rfl
theorem q1_80 : Cond.fieldLink RX3 89 "RoundPoint$Coast" "ways" "I" ∈ BIG := bg1 80 (by decide +kernel) rfl
theorem q1_152 : Cond.methodLink RX4 3 objectInit ∈ BIG := bg1 152 (by decide +kernel) rfl
theorem q1_154 : Cond.fieldLink RX4 9 "RoundPoint$Sea" "tideRow" "[I" ∈ BIG := bg1 154 (by decide +kernel) rfl
theorem q1_155 : Cond.fieldLink RX4 15 "RoundPoint$Sea" "row" "[I" ∈ BIG := bg1 155 (by decide +kernel) rfl
theorem q1_157 : Cond.fieldLink RX4 18 "RoundPoint$Sea" "tideOfRow" "I" ∈ BIG := bg1 157 (by decide +kernel) rfl
theorem q1_153 : Cond.fieldLink RX4 22 "RoundPoint$Sea" "coast" "LRoundPoint$Coast;" ∈ BIG := bg1 153 (by decide +kernel) rfl
theorem q1_158 : Cond.fieldLink RX4 26 "RoundPoint$Sea" "windsOfRow" "I" ∈ BIG := bg1 158 (by decide +kernel) rfl
theorem q3_16 : Cond.methodLink RX4 29 yX2_tideAt ∈ BIG := bg3 16 (by decide +kernel) rfl
theorem q3_17 : Cond.methodLink RX4 35 yJ7_fill_53178 ∈ BIG := bg3 17 (by decide +kernel) rfl
theorem q1_64 : Cond.fieldLink RX4 41 "RoundPoint$Coast" "winds" "I" ∈ BIG := bg1 64 (by decide +kernel) rfl
theorem q1_67 : Cond.fieldLink RX4 44 "RoundPoint$Coast" "lifts" "[I" ∈ BIG := bg1 67 (by decide +kernel) rfl
theorem q1_69 : Cond.fieldLink RX4 47 "RoundPoint$Coast" "earlies" "[I" ∈ BIG := bg1 69 (by decide +kernel) rfl
theorem q3_20 : Cond.methodLink RX4 50 yX4_raise ∈ BIG := bg3 20 (by decide +kernel) rfl
theorem q3_24 : Cond.methodLink RX4 54 Lib.Math.min.name ∈ BIG := bg3 24 (by decide +kernel) rfl
theorem q3_25 : Cond.methodLink RX4 59 Lib.Math.max.name ∈ BIG := bg3 25 (by decide +kernel) rfl
theorem q1_175 : Cond.methodLink RX5 3 objectInit ∈ BIG := bg1 175 (by decide +kernel) rfl
theorem q1_178 : Cond.fieldLink RX5 9 "RoundPoint$Search" "states" "[J" ∈ BIG := bg1 178 (by decide +kernel) rfl
theorem q1_179 : Cond.fieldLink RX5 15 "RoundPoint$Search" "otherStates" "[J" ∈ BIG := bg1 179 (by decide +kernel) rfl
theorem q1_180 : Cond.fieldLink RX5 18 "RoundPoint$Search" "taking" "[I" ∈ BIG := bg1 180 (by decide +kernel) rfl
theorem q1_181 : Cond.fieldLink RX5 22 "RoundPoint$Search" "above" "[I" ∈ BIG := bg1 181 (by decide +kernel) rfl
theorem q1_176 : Cond.fieldLink RX5 25 "RoundPoint$Search" "coast" "LRoundPoint$Coast;" ∈ BIG := bg1 176 (by decide +kernel) rfl
theorem q1_177 : Cond.fieldLink RX5 29 "RoundPoint$Search" "water" "LRoundPoint$Sea;" ∈ BIG := bg1 177 (by decide +kernel) rfl
theorem q3_47 : Cond.methodLink RX5 33 yX4_rise ∈ BIG := bg3 47 (by decide +kernel) rfl
theorem q3_48 : Cond.constantLong RX5 39 (-1) ∈ BIG := bg3 48 (by decide +kernel) rfl
theorem q1_182 : Cond.fieldLink RX5 41 "RoundPoint$Search" "mayWait" "J" ∈ BIG := bg1 182 (by decide +kernel) rfl
theorem q1_77 : Cond.fieldLink RX5 45 "RoundPoint$Coast" "ways" "I" ∈ BIG := bg1 77 (by decide +kernel) rfl
theorem q3_49 : Cond.methodLink RX5 51 yX2_taking ∈ BIG := bg3 49 (by decide +kernel) rfl
theorem q3_54 : Cond.constantLong RX5 54 (15) ∈ BIG := bg3 54 (by decide +kernel) rfl
theorem q3_55 : Cond.methodLink RX5 56 yX5_spread ∈ BIG := bg3 55 (by decide +kernel) rfl
theorem q3_67 : Cond.methodLink RX5 60 Lib.Math.max.name ∈ BIG := bg3 67 (by decide +kernel) rfl
theorem q1_72 : Cond.fieldLink RX5 66 "RoundPoint$Coast" "places" "I" ∈ BIG := bg1 72 (by decide +kernel) rfl
theorem q3_59 : Cond.methodLink RX5 69 yJ7_fill_d0a16 ∈ BIG := bg3 59 (by decide +kernel) rfl
theorem q3_62 : Cond.methodLink RX5 75 yJ7_fill_53178 ∈ BIG := bg3 62 (by decide +kernel) rfl
theorem q3_63 : Cond.methodLink RX5 78 yX5_waiting ∈ BIG := bg3 63 (by decide +kernel) rfl
theorem q3_68 : Cond.methodLink RX5 82 yX5_leave ∈ BIG := bg3 68 (by decide +kernel) rfl
theorem q1_156 : Cond.fieldLink RX5 86 "RoundPoint$Sea" "row" "[I" ∈ BIG := bg1 156 (by decide +kernel) rfl
theorem q1_76 : Cond.fieldLink RX5 89 "RoundPoint$Coast" "safes" "[I" ∈ BIG := bg1 76 (by decide +kernel) rfl
theorem q1_83 : Cond.fieldLink RX5 92 "RoundPoint$Coast" "ones" "[I" ∈ BIG := bg1 83 (by decide +kernel) rfl
theorem q1_86 : Cond.fieldLink RX5 95 "RoundPoint$Coast" "others" "[I" ∈ BIG := bg1 86 (by decide +kernel) rfl
theorem q1_94 : Cond.fieldLink RX5 98 "RoundPoint$Coast" "firstHours" "[I" ∈ BIG := bg1 94 (by decide +kernel) rfl
theorem q1_99 : Cond.fieldLink RX5 101 "RoundPoint$Coast" "lastHours" "[I" ∈ BIG := bg1 99 (by decide +kernel) rfl
theorem q1_90 : Cond.fieldLink RX5 104 "RoundPoint$Coast" "heights" "[I" ∈ BIG := bg1 90 (by decide +kernel) rfl
theorem q3_72 : Cond.methodLink RX5 107 yX4_firstAbove ∈ BIG := bg3 72 (by decide +kernel) rfl
theorem q3_73 : Cond.methodLink RX5 110 Lib.Math.min.name ∈ BIG := bg3 73 (by decide +kernel) rfl
theorem q1_104 : Cond.fieldLink RX5 113 "RoundPoint$Coast" "dark" "I" ∈ BIG := bg1 104 (by decide +kernel) rfl
theorem q1_101 : Cond.fieldLink RX5 116 "RoundPoint$Coast" "dawn" "I" ∈ BIG := bg1 101 (by decide +kernel) rfl
theorem q3_82 : Cond.methodLink RX5 119 yX5_goodToLeave ∈ BIG := bg3 82 (by decide +kernel) rfl
theorem q2_52 : Cond.methodLink RX6 3 objectInit ∈ BIG := bg2 52 (by decide +kernel) rfl
theorem q2_53 : Cond.fieldLink RX6 11 "RoundPoint$Shelf" "holds" "I" ∈ BIG := bg2 53 (by decide +kernel) rfl
theorem q2_57 : Cond.fieldLink RX6 15 "RoundPoint$Shelf" "elements" "[J" ∈ BIG := bg2 57 (by decide +kernel) rfl
theorem q4_56 : Cond.methodLink RX6 19 Lib.Math.max.name ∈ BIG := bg4 56 (by decide +kernel) rfl
theorem q2_55 : Cond.fieldLink RX6 25 "RoundPoint$Shelf" "body" "I" ∈ BIG := bg2 55 (by decide +kernel) rfl
theorem q2_59 : Cond.fieldLink RX6 28 "RoundPoint$Shelf" "length" "I" ∈ BIG := bg2 59 (by decide +kernel) rfl
theorem q4_65 : Cond.methodLink RX6 31 yJ7_fill_d0a16 ∈ BIG := bg4 65 (by decide +kernel) rfl
theorem q1_27 : Cond.methodLink RX7 3 objectInit ∈ BIG := bg1 27 (by decide +kernel) rfl
theorem q1_28 : Cond.fieldLink RX7 9 "RoundPoint$Tape" "bytes" "[I" ∈ BIG := bg1 28 (by decide +kernel) rfl
theorem q1_31 : Cond.fieldLink RX7 15 "RoundPoint$Tape" "minutes" "[I" ∈ BIG := bg1 31 (by decide +kernel) rfl
theorem q1_33 : Cond.fieldLink RX7 18 "RoundPoint$Tape" "heights" "[I" ∈ BIG := bg1 33 (by decide +kernel) rfl
theorem q1_29 : Cond.fieldLink RX7 21 "RoundPoint$Tape" "length" "I" ∈ BIG := bg1 29 (by decide +kernel) rfl
theorem q1_37 : Cond.fieldLink RX7 25 "RoundPoint$Tape" "at" "I" ∈ BIG := bg1 37 (by decide +kernel) rfl
theorem q1_35 : Cond.fieldLink RX7 28 "RoundPoint$Tape" "points" "I" ∈ BIG := bg1 35 (by decide +kernel) rfl
theorem q2_116 : Cond.methodLink RX7 31 yX7_readMinute ∈ BIG := bg2 116 (by decide +kernel) rfl
theorem q2_128 : Cond.methodLink RX7 35 yX7_readHeight ∈ BIG := bg2 128 (by decide +kernel) rfl
theorem q2_120 : Cond.methodLink RX7 39 yX7_readNumber ∈ BIG := bg2 120 (by decide +kernel) rfl
theorem q2_124 : Cond.methodLink RX7 42 yX7_digitIsNext ∈ BIG := bg2 124 (by decide +kernel) rfl
theorem q1_19 : Cond.methodLink RX8 1 objectInit ∈ BIG := bg1 19 (by decide +kernel) rfl
theorem q1_22 : Cond.classLink RX8 7 RX7 ∈ BIG := bg1 22 (by decide +kernel) rfl
theorem q2_69 : Cond.fieldLink RX8 10 "RoundPoint" "tape" "LRoundPoint$Tape;" ∈ BIG := bg2 69 (by decide +kernel) rfl
theorem q1_52 : Cond.classLink RX8 16 RX2 ∈ BIG := bg1 52 (by decide +kernel) rfl
theorem q1_54 : Cond.methodLink RX8 18 yX2_init ∈ BIG := bg1 54 (by decide +kernel) rfl
theorem q2_70 : Cond.fieldLink RX8 19 "RoundPoint" "coast" "LRoundPoint$Coast;" ∈ BIG := bg2 70 (by decide +kernel) rfl
theorem q1_147 : Cond.classLink RX8 23 RX4 ∈ BIG := bg1 147 (by decide +kernel) rfl
theorem q1_149 : Cond.methodLink RX8 25 yX4_init ∈ BIG := bg1 149 (by decide +kernel) rfl
theorem q2_71 : Cond.fieldLink RX8 28 "RoundPoint" "water" "LRoundPoint$Sea;" ∈ BIG := bg2 71 (by decide +kernel) rfl
theorem q1_170 : Cond.classLink RX8 32 RX5 ∈ BIG := bg1 170 (by decide +kernel) rfl
theorem q1_172 : Cond.methodLink RX8 34 yX5_init ∈ BIG := bg1 172 (by decide +kernel) rfl
theorem q2_72 : Cond.fieldLink RX8 37 "RoundPoint" "search" "LRoundPoint$Search;" ∈ BIG := bg2 72 (by decide +kernel) rfl
theorem q1_199 : Cond.classLink RX8 41 RX3 ∈ BIG := bg1 199 (by decide +kernel) rfl
theorem q1_201 : Cond.methodLink RX8 43 yX3_init ∈ BIG := bg1 201 (by decide +kernel) rfl
theorem q2_73 : Cond.fieldLink RX8 44 "RoundPoint" "plan" "LRoundPoint$Plan;" ∈ BIG := bg2 73 (by decide +kernel) rfl
theorem q1_230 : Cond.classLink RX8 48 RX1 ∈ BIG := bg1 230 (by decide +kernel) rfl
theorem q1_232 : Cond.methodLink RX8 50 yX1_init ∈ BIG := bg1 232 (by decide +kernel) rfl
theorem q2_74 : Cond.fieldLink RX8 51 "RoundPoint" "changes" "LRoundPoint$Changes;" ∈ BIG := bg2 74 (by decide +kernel) rfl
theorem q2_20 : Cond.classLink RX8 55 RX0 ∈ BIG := bg2 20 (by decide +kernel) rfl
theorem q2_75 : Cond.fieldLink RX8 58 "RoundPoint" "bodies" "LRoundPoint$Bodies;" ∈ BIG := bg2 75 (by decide +kernel) rfl
theorem q2_46 : Cond.classLink RX8 62 RX6 ∈ BIG := bg2 46 (by decide +kernel) rfl
theorem q2_76 : Cond.fieldLink RX8 64 "RoundPoint" "shelves" "[LRoundPoint$Shelf;" ∈ BIG := bg2 76 (by decide +kernel) rfl
theorem q2_77 : Cond.fieldLink RX8 68 "RoundPoint" "marks" "[I" ∈ BIG := bg2 77 (by decide +kernel) rfl
theorem q2_104 : Cond.methodLink RX8 73 yX7_add ∈ BIG := bg2 104 (by decide +kernel) rfl
theorem q1_30 : Cond.fieldLink RX8 77 "RoundPoint$Tape" "length" "I" ∈ BIG := bg1 30 (by decide +kernel) rfl
theorem q1_59 : Cond.fieldLink RX8 81 "RoundPoint$Coast" "tides" "I" ∈ BIG := bg1 59 (by decide +kernel) rfl
theorem q2_112 : Cond.methodLink RX8 84 yX7_read ∈ BIG := bg2 112 (by decide +kernel) rfl
theorem q1_32 : Cond.fieldLink RX8 88 "RoundPoint$Tape" "minutes" "[I" ∈ BIG := bg1 32 (by decide +kernel) rfl
theorem q1_34 : Cond.fieldLink RX8 91 "RoundPoint$Tape" "heights" "[I" ∈ BIG := bg1 34 (by decide +kernel) rfl
theorem q1_36 : Cond.fieldLink RX8 94 "RoundPoint$Tape" "points" "I" ∈ BIG := bg1 36 (by decide +kernel) rfl
theorem q2_132 : Cond.methodLink RX8 97 yX2_addTide ∈ BIG := bg2 132 (by decide +kernel) rfl
theorem q2_143 : Cond.methodLink RX8 101 yX8_within ∈ BIG := bg2 143 (by decide +kernel) rfl
theorem q1_65 : Cond.fieldLink RX8 105 "RoundPoint$Coast" "winds" "I" ∈ BIG := bg1 65 (by decide +kernel) rfl
theorem q2_146 : Cond.methodLink RX8 108 yX2_addWind ∈ BIG := bg2 146 (by decide +kernel) rfl
theorem q2_154 : Cond.methodLink RX8 112 yX8_isMinute ∈ BIG := bg2 154 (by decide +kernel) rfl
theorem q2_157 : Cond.constant RX8 116 (-2000000000) ∈ BIG := bg2 157 (by decide +kernel) rfl
theorem q2_158 : Cond.methodLink RX8 117 yX2_seaAt ∈ BIG := bg2 158 (by decide +kernel) rfl
theorem q1_71 : Cond.fieldLink RX8 120 "RoundPoint$Coast" "places" "I" ∈ BIG := bg1 71 (by decide +kernel) rfl
theorem q1_75 : Cond.fieldLink RX8 123 "RoundPoint$Coast" "safes" "[I" ∈ BIG := bg1 75 (by decide +kernel) rfl
theorem q2_180 : Cond.methodLink RX8 126 yX8_isPair ∈ BIG := bg2 180 (by decide +kernel) rfl
theorem q1_79 : Cond.fieldLink RX8 129 "RoundPoint$Coast" "ways" "I" ∈ BIG := bg1 79 (by decide +kernel) rfl
theorem q2_188 : Cond.methodLink RX8 132 yX2_addWay ∈ BIG := bg2 188 (by decide +kernel) rfl
theorem q2_184 : Cond.methodLink RX8 136 yX8_isPlace ∈ BIG := bg2 184 (by decide +kernel) rfl
theorem q2_196 : Cond.methodLink RX8 139 yX1_tell ∈ BIG := bg2 196 (by decide +kernel) rfl
theorem q2_213 : Cond.methodLink RX8 142 yX8_isWay ∈ BIG := bg2 213 (by decide +kernel) rfl
theorem q1_98 : Cond.fieldLink RX8 145 "RoundPoint$Coast" "lastHours" "[I" ∈ BIG := bg1 98 (by decide +kernel) rfl
theorem q1_95 : Cond.fieldLink RX8 148 "RoundPoint$Coast" "firstHours" "[I" ∈ BIG := bg1 95 (by decide +kernel) rfl
theorem q2_221 : Cond.methodLink RX8 151 yX8_isSort ∈ BIG := bg2 221 (by decide +kernel) rfl
theorem q1_105 : Cond.fieldLink RX8 154 "RoundPoint$Coast" "dark" "I" ∈ BIG := bg1 105 (by decide +kernel) rfl
theorem q1_102 : Cond.fieldLink RX8 157 "RoundPoint$Coast" "dawn" "I" ∈ BIG := bg1 102 (by decide +kernel) rfl
theorem q2_232 : Cond.methodLink RX8 160 yX2_taking ∈ BIG := bg2 232 (by decide +kernel) rfl
theorem q3_0 : Cond.methodLink RX8 163 yX8_isSortAndTide ∈ BIG := bg3 0 (by decide +kernel) rfl
theorem q3_4 : Cond.methodLink RX8 166 yX8_isWinds ∈ BIG := bg3 4 (by decide +kernel) rfl
theorem q3_12 : Cond.methodLink RX8 169 yX4_rise ∈ BIG := bg3 12 (by decide +kernel) rfl
theorem q3_26 : Cond.methodLink RX8 173 yX3_wayGoes ∈ BIG := bg3 26 (by decide +kernel) rfl
theorem q3_39 : Cond.methodLink RX8 177 yX8_isFrom ∈ BIG := bg3 39 (by decide +kernel) rfl
theorem q3_43 : Cond.methodLink RX8 180 yX5_prepare ∈ BIG := bg3 43 (by decide +kernel) rfl
theorem q3_50 : Cond.methodLink RX8 183 yX5_soonest ∈ BIG := bg3 50 (by decide +kernel) rfl
theorem q3_78 : Cond.methodLink RX8 186 yX5_latest ∈ BIG := bg3 78 (by decide +kernel) rfl
theorem q3_90 : Cond.methodLink RX8 190 yX8_bestSet ∈ BIG := bg3 90 (by decide +kernel) rfl
theorem q3_106 : Cond.methodLink RX8 193 yX2_thousandths ∈ BIG := bg3 106 (by decide +kernel) rfl
theorem q3_8 : Cond.methodLink RX8 197 yX2_allWinds ∈ BIG := bg3 8 (by decide +kernel) rfl
theorem q3_120 : Cond.methodLink RX8 200 yX5_meeting ∈ BIG := bg3 120 (by decide +kernel) rfl
theorem q3_128 : Cond.methodLink RX8 203 yX8_soonOrDay ∈ BIG := bg3 128 (by decide +kernel) rfl
theorem q3_136 : Cond.methodLink RX8 206 yX8_soonLifted ∈ BIG := bg3 136 (by decide +kernel) rfl
theorem q3_144 : Cond.methodLink RX8 209 yX5_barWaiting ∈ BIG := bg3 144 (by decide +kernel) rfl
theorem q3_152 : Cond.methodLink RX8 213 yX8_isMove ∈ BIG := bg3 152 (by decide +kernel) rfl
theorem q3_156 : Cond.methodLink RX8 216 yX3_add ∈ BIG := bg3 156 (by decide +kernel) rfl
theorem q1_209 : Cond.fieldLink RX8 218 "RoundPoint$Plan" "count" "I" ∈ BIG := bg1 209 (by decide +kernel) rfl
theorem q3_164 : Cond.methodLink RX8 221 yX8_isShelf ∈ BIG := bg3 164 (by decide +kernel) rfl
theorem q2_54 : Cond.fieldLink RX8 224 "RoundPoint$Shelf" "holds" "I" ∈ BIG := bg2 54 (by decide +kernel) rfl
theorem q3_167 : Cond.methodLink RX8 227 yX6_has ∈ BIG := bg3 167 (by decide +kernel) rfl
theorem q2_58 : Cond.fieldLink RX8 230 "RoundPoint$Shelf" "elements" "[J" ∈ BIG := bg2 58 (by decide +kernel) rfl
theorem q3_179 : Cond.methodLink RX8 234 yX3_walk ∈ BIG := bg3 179 (by decide +kernel) rfl
theorem q1_213 : Cond.fieldLink RX8 237 "RoundPoint$Plan" "minute" "I" ∈ BIG := bg1 213 (by decide +kernel) rfl
theorem q1_211 : Cond.fieldLink RX8 240 "RoundPoint$Plan" "place" "I" ∈ BIG := bg1 211 (by decide +kernel) rfl
theorem q3_201 : Cond.methodLink RX8 243 yX3_shutIn ∈ BIG := bg3 201 (by decide +kernel) rfl
theorem q2_78 : Cond.fieldLink RX8 246 "RoundPoint" "markCount" "I" ∈ BIG := bg2 78 (by decide +kernel) rfl
theorem q3_218 : Cond.methodLink RX8 249 yX8_marksCanHaveBeen ∈ BIG := bg3 218 (by decide +kernel) rfl
theorem q3_234 : Cond.methodLink RX8 253 yX1_back ∈ BIG := bg3 234 (by decide +kernel) rfl
theorem q2_2 : Cond.fieldLink RX8 256 "RoundPoint$Changes" "done" "I" ∈ BIG := bg2 2 (by decide +kernel) rfl
theorem q4_2 : Cond.methodLink RX8 259 yX1_again ∈ BIG := bg4 2 (by decide +kernel) rfl
theorem q2_4 : Cond.fieldLink RX8 262 "RoundPoint$Changes" "known" "I" ∈ BIG := bg2 4 (by decide +kernel) rfl
theorem q2_29 : Cond.fieldLink RX8 265 "RoundPoint$Bodies" "count" "I" ∈ BIG := bg2 29 (by decide +kernel) rfl
theorem q4_10 : Cond.methodLink RX8 266 yX0_add ∈ BIG := bg4 10 (by decide +kernel) rfl
theorem q4_18 : Cond.methodLink RX8 268 yX0_perform ∈ BIG := bg4 18 (by decide +kernel) rfl
theorem q2_33 : Cond.fieldLink RX8 271 "RoundPoint$Bodies" "ran" "I" ∈ BIG := bg2 33 (by decide +kernel) rfl
theorem q4_47 : Cond.methodLink RX8 274 Lib.Math.min.name ∈ BIG := bg4 47 (by decide +kernel) rfl
theorem q2_31 : Cond.fieldLink RX8 279 "RoundPoint$Bodies" "began" "[I" ∈ BIG := bg2 31 (by decide +kernel) rfl
theorem q4_52 : Cond.methodLink RX8 282 yX6_holdBody ∈ BIG := bg4 52 (by decide +kernel) rfl
theorem q4_61 : Cond.methodLink RX8 285 yX6_holdRow ∈ BIG := bg4 61 (by decide +kernel) rfl
theorem q4_70 : Cond.methodLink RX8 288 yX8_refusalOfElement ∈ BIG := bg4 70 (by decide +kernel) rfl
theorem q4_74 : Cond.methodLink RX8 291 yX6_kept ∈ BIG := bg4 74 (by decide +kernel) rfl
theorem q4_82 : Cond.constantLong RX8 297 (-9223372036854775808) ∈ BIG := bg4 82 (by decide +kernel) rfl
theorem q4_87 : Cond.methodLink RX8 299 yX6_hasRun ∈ BIG := bg4 87 (by decide +kernel) rfl
theorem q4_91 : Cond.methodLink RX8 302 arraycopyName ∈ BIG := bg4 91 (by decide +kernel) rfl
theorem q2_27 : Cond.fieldLink RX8 308 "RoundPoint$Bodies" "kinds" "[I" ∈ BIG := bg2 27 (by decide +kernel) rfl
theorem q2_56 : Cond.fieldLink RX8 311 "RoundPoint$Shelf" "body" "I" ∈ BIG := bg2 56 (by decide +kernel) rfl
theorem q4_96 : Cond.methodLink RX8 314 yX0_isOrUnder ∈ BIG := bg4 96 (by decide +kernel) rfl
theorem q1_91 : Cond.fieldLink RX8 317 "RoundPoint$Coast" "heights" "[I" ∈ BIG := bg1 91 (by decide +kernel) rfl
theorem q3_94 : Cond.methodLink RX8 318 yX8_reachedByDark ∈ BIG := bg3 94 (by decide +kernel) rfl
theorem q3_98 : Cond.methodLink RX8 321 yX8_likeliestUntried ∈ BIG := bg3 98 (by decide +kernel) rfl
theorem q3_102 : Cond.methodLink RX8 324 yX2_chanceOf ∈ BIG := bg3 102 (by decide +kernel) rfl
theorem q3_222 : Cond.methodLink RX8 327 yX5_isThere ∈ BIG := bg3 222 (by decide +kernel) rfl
theorem q5_90 : Cond.constantLong RX9 3 (1439) ∈ BIG := bg5 90 (by decide +kernel) rfl
theorem q5_48 : Cond.methodLink RX9 5 yX9_within ∈ BIG := bg5 48 (by decide +kernel) rfl
theorem q4_108 : Cond.methodLink RX9 9 objectInit ∈ BIG := bg4 108 (by decide +kernel) rfl
theorem q4_111 : Cond.fieldLink RX9 15 "RoundPointModel" "may" "[I" ∈ BIG := bg4 111 (by decide +kernel) rfl
theorem q4_112 : Cond.fieldLink RX9 19 "RoundPointModel" "changeAt" "[I" ∈ BIG := bg4 112 (by decide +kernel) rfl
theorem q4_113 : Cond.fieldLink RX9 22 "RoundPointModel" "changeWas" "[I" ∈ BIG := bg4 113 (by decide +kernel) rfl
theorem q4_114 : Cond.fieldLink RX9 25 "RoundPointModel" "changeIs" "[I" ∈ BIG := bg4 114 (by decide +kernel) rfl
theorem q4_117 : Cond.fieldLink RX9 28 "RoundPointModel" "tape" "[I" ∈ BIG := bg4 117 (by decide +kernel) rfl
theorem q4_120 : Cond.fieldLink RX9 31 "RoundPointModel" "pointMany" "[I" ∈ BIG := bg4 120 (by decide +kernel) rfl
theorem q4_121 : Cond.fieldLink RX9 34 "RoundPointModel" "pointMinute" "[I" ∈ BIG := bg4 121 (by decide +kernel) rfl
theorem q4_122 : Cond.fieldLink RX9 37 "RoundPointModel" "pointHeight" "[I" ∈ BIG := bg4 122 (by decide +kernel) rfl
theorem q4_123 : Cond.fieldLink RX9 40 "RoundPointModel" "readMinute" "[I" ∈ BIG := bg4 123 (by decide +kernel) rfl
theorem q4_124 : Cond.fieldLink RX9 43 "RoundPointModel" "readHeight" "[I" ∈ BIG := bg4 124 (by decide +kernel) rfl
theorem q4_128 : Cond.fieldLink RX9 46 "RoundPointModel" "lifts" "[I" ∈ BIG := bg4 128 (by decide +kernel) rfl
theorem q4_129 : Cond.fieldLink RX9 49 "RoundPointModel" "early" "[I" ∈ BIG := bg4 129 (by decide +kernel) rfl
theorem q4_130 : Cond.fieldLink RX9 52 "RoundPointModel" "chance" "[I" ∈ BIG := bg4 130 (by decide +kernel) rfl
theorem q4_133 : Cond.fieldLink RX9 55 "RoundPointModel" "wayA" "[I" ∈ BIG := bg4 133 (by decide +kernel) rfl
theorem q4_134 : Cond.fieldLink RX9 58 "RoundPointModel" "wayB" "[I" ∈ BIG := bg4 134 (by decide +kernel) rfl
theorem q4_135 : Cond.fieldLink RX9 61 "RoundPointModel" "minutesOf" "[I" ∈ BIG := bg4 135 (by decide +kernel) rfl
theorem q4_139 : Cond.fieldLink RX9 64 "RoundPointModel" "highest" "[I" ∈ BIG := bg4 139 (by decide +kernel) rfl
theorem q4_109 : Cond.constant RX9 67 (34584) ∈ BIG := bg4 109 (by decide +kernel) rfl
theorem q4_140 : Cond.fieldLink RX9 68 "RoundPointModel" "tooHigh" "[I" ∈ BIG := bg4 140 (by decide +kernel) rfl
theorem q4_141 : Cond.fieldLink RX9 71 "RoundPointModel" "isDry" "[Z" ∈ BIG := bg4 141 (by decide +kernel) rfl
theorem q4_142 : Cond.fieldLink RX9 75 "RoundPointModel" "freeWay" "I" ∈ BIG := bg4 142 (by decide +kernel) rfl
theorem q4_143 : Cond.fieldLink RX9 79 "RoundPointModel" "moreWay" "I" ∈ BIG := bg4 143 (by decide +kernel) rfl
theorem q4_145 : Cond.fieldLink RX9 82 "RoundPointModel" "noWait" "I" ∈ BIG := bg4 145 (by decide +kernel) rfl
theorem q4_110 : Cond.constant RX9 85 (69120) ∈ BIG := bg4 110 (by decide +kernel) rfl
theorem q4_146 : Cond.fieldLink RX9 86 "RoundPointModel" "reached" "[Z" ∈ BIG := bg4 146 (by decide +kernel) rfl
theorem q4_147 : Cond.fieldLink RX9 89 "RoundPointModel" "firstParty" "[Z" ∈ BIG := bg4 147 (by decide +kernel) rfl
theorem q4_149 : Cond.fieldLink RX9 92 "RoundPointModel" "moveOf" "[I" ∈ BIG := bg4 149 (by decide +kernel) rfl
theorem q4_154 : Cond.fieldLink RX9 95 "RoundPointModel" "markOf" "[I" ∈ BIG := bg4 154 (by decide +kernel) rfl
theorem q4_156 : Cond.fieldLink RX9 98 "RoundPointModel" "bodyKind" "[I" ∈ BIG := bg4 156 (by decide +kernel) rfl
theorem q4_157 : Cond.fieldLink RX9 101 "RoundPointModel" "trace" "[I" ∈ BIG := bg4 157 (by decide +kernel) rfl
theorem q4_161 : Cond.fieldLink RX9 104 "RoundPointModel" "shelf" "[I" ∈ BIG := bg4 161 (by decide +kernel) rfl
theorem q4_162 : Cond.fieldLink RX9 107 "RoundPointModel" "many" "[I" ∈ BIG := bg4 162 (by decide +kernel) rfl
theorem q4_163 : Cond.fieldLink RX9 110 "RoundPointModel" "items" "[J" ∈ BIG := bg4 163 (by decide +kernel) rfl
theorem q4_164 : Cond.fieldLink RX9 114 "RoundPointModel" "carried" "[J" ∈ BIG := bg4 164 (by decide +kernel) rfl
theorem q4_127 : Cond.fieldLink RX9 117 "RoundPointModel" "winds" "I" ∈ BIG := bg4 127 (by decide +kernel) rfl
theorem q4_137 : Cond.fieldLink RX9 120 "RoundPointModel" "dark" "I" ∈ BIG := bg4 137 (by decide +kernel) rfl
theorem q4_116 : Cond.fieldLink RX9 123 "RoundPointModel" "done" "I" ∈ BIG := bg4 116 (by decide +kernel) rfl
theorem q4_115 : Cond.fieldLink RX9 126 "RoundPointModel" "keptMany" "I" ∈ BIG := bg4 115 (by decide +kernel) rfl
theorem q5_47 : Cond.constantLong RX9 129 (4) ∈ BIG := bg5 47 (by decide +kernel) rfl
theorem q4_118 : Cond.fieldLink RX9 131 "RoundPointModel" "tapeMany" "I" ∈ BIG := bg4 118 (by decide +kernel) rfl
theorem q4_126 : Cond.fieldLink RX9 134 "RoundPointModel" "at" "I" ∈ BIG := bg4 126 (by decide +kernel) rfl
theorem q5_63 : Cond.methodLink RX9 137 yX9_byteAt ∈ BIG := bg5 63 (by decide +kernel) rfl
theorem q4_125 : Cond.fieldLink RX9 141 "RoundPointModel" "readMany" "I" ∈ BIG := bg4 125 (by decide +kernel) rfl
theorem q5_59 : Cond.methodLink RX9 144 yX9_number ∈ BIG := bg5 59 (by decide +kernel) rfl
theorem q4_119 : Cond.fieldLink RX9 148 "RoundPointModel" "tides" "I" ∈ BIG := bg4 119 (by decide +kernel) rfl
theorem q5_55 : Cond.methodLink RX9 151 yX9_readPoints ∈ BIG := bg5 55 (by decide +kernel) rfl
theorem q5_71 : Cond.constantLong RX9 155 (-99) ∈ BIG := bg5 71 (by decide +kernel) rfl
theorem q5_72 : Cond.constantLong RX9 157 (99) ∈ BIG := bg5 72 (by decide +kernel) rfl
theorem q5_73 : Cond.constantLong RX9 159 (-60) ∈ BIG := bg5 73 (by decide +kernel) rfl
theorem q5_74 : Cond.constantLong RX9 161 (60) ∈ BIG := bg5 74 (by decide +kernel) rfl
theorem q5_95 : Cond.methodLink RX9 163 yX9_tideAt ∈ BIG := bg5 95 (by decide +kernel) rfl
theorem q5_79 : Cond.methodLink RX9 167 yX9_isTide ∈ BIG := bg5 79 (by decide +kernel) rfl
theorem q5_83 : Cond.methodLink RX9 171 yX9_isWind ∈ BIG := bg5 83 (by decide +kernel) rfl
theorem q5_87 : Cond.methodLink RX9 174 yX9_isMinute ∈ BIG := bg5 87 (by decide +kernel) rfl
theorem q5_91 : Cond.methodLink RX9 177 yX9_seaAt ∈ BIG := bg5 91 (by decide +kernel) rfl
theorem q5_99 : Cond.constant RX9 180 (-2000000000) ∈ BIG := bg5 99 (by decide +kernel) rfl
theorem q4_131 : Cond.fieldLink RX9 181 "RoundPointModel" "places" "I" ∈ BIG := bg4 131 (by decide +kernel) rfl
theorem q4_132 : Cond.fieldLink RX9 184 "RoundPointModel" "ways" "I" ∈ BIG := bg4 132 (by decide +kernel) rfl
theorem q5_104 : Cond.constantLong RX9 187 (999) ∈ BIG := bg5 104 (by decide +kernel) rfl
theorem q5_113 : Cond.methodLink RX9 189 yX9_isPlace ∈ BIG := bg5 113 (by decide +kernel) rfl
theorem q5_109 : Cond.methodLink RX9 192 yX9_areTwo ∈ BIG := bg5 109 (by decide +kernel) rfl
theorem q5_117 : Cond.constantLong RX9 195 (90) ∈ BIG := bg5 117 (by decide +kernel) rfl
theorem q5_122 : Cond.methodLink RX9 197 yX9_becomes ∈ BIG := bg5 122 (by decide +kernel) rfl
theorem q5_130 : Cond.methodLink RX9 200 yX9_isWay ∈ BIG := bg5 130 (by decide +kernel) rfl
theorem q5_141 : Cond.constantLong RX9 203 (3) ∈ BIG := bg5 141 (by decide +kernel) rfl
theorem q5_138 : Cond.methodLink RX9 205 yX9_isSort ∈ BIG := bg5 138 (by decide +kernel) rfl
theorem q5_142 : Cond.constantLong RX9 208 (50) ∈ BIG := bg5 142 (by decide +kernel) rfl
theorem q5_143 : Cond.constantLong RX9 210 (400) ∈ BIG := bg5 143 (by decide +kernel) rfl
theorem q4_136 : Cond.fieldLink RX9 212 "RoundPointModel" "dawn" "I" ∈ BIG := bg4 136 (by decide +kernel) rfl
theorem q5_152 : Cond.methodLink RX9 215 yX9_takesOf ∈ BIG := bg5 152 (by decide +kernel) rfl
theorem q4_138 : Cond.fieldLink RX9 218 "RoundPointModel" "sortNow" "I" ∈ BIG := bg4 138 (by decide +kernel) rfl
theorem q4_144 : Cond.fieldLink RX9 221 "RoundPointModel" "more" "I" ∈ BIG := bg4 144 (by decide +kernel) rfl
theorem q5_196 : Cond.methodLink RX9 224 yX9_waits ∈ BIG := bg5 196 (by decide +kernel) rfl
theorem q5_189 : Cond.methodLink RX9 228 yX9_stateOf ∈ BIG := bg5 189 (by decide +kernel) rfl
theorem q5_200 : Cond.methodLink RX9 231 yX9_otherEnd ∈ BIG := bg5 200 (by decide +kernel) rfl
theorem q5_173 : Cond.methodLink RX9 234 yX9_goes ∈ BIG := bg5 173 (by decide +kernel) rfl
theorem q5_169 : Cond.methodLink RX9 238 yX9_layOut ∈ BIG := bg5 169 (by decide +kernel) rfl
theorem q5_192 : Cond.methodLink RX9 242 yX9_spread ∈ BIG := bg5 192 (by decide +kernel) rfl
theorem q5_208 : Cond.methodLink RX9 246 yX9_isAt ∈ BIG := bg5 208 (by decide +kernel) rfl
theorem q5_160 : Cond.methodLink RX9 249 yX9_isSt ∈ BIG := bg5 160 (by decide +kernel) rfl
theorem q5_164 : Cond.methodLink RX9 252 yX9_areWinds ∈ BIG := bg5 164 (by decide +kernel) rfl
theorem q5_168 : Cond.constantLong RX9 255 (2) ∈ BIG := bg5 168 (by decide +kernel) rfl
theorem q5_181 : Cond.methodLink RX9 257 yX9_isFrom ∈ BIG := bg5 181 (by decide +kernel) rfl
theorem q5_185 : Cond.methodLink RX9 260 yX9_reach ∈ BIG := bg5 185 (by decide +kernel) rfl
theorem q5_204 : Cond.methodLink RX9 263 yX9_soonAt ∈ BIG := bg5 204 (by decide +kernel) rfl
theorem q5_224 : Cond.methodLink RX9 267 yX9_comesFrom ∈ BIG := bg5 224 (by decide +kernel) rfl
theorem q5_220 : Cond.methodLink RX9 270 yX9_goBack ∈ BIG := bg5 220 (by decide +kernel) rfl
theorem q5_216 : Cond.methodLink RX9 273 yX9_lastFrom ∈ BIG := bg5 216 (by decide +kernel) rfl
theorem q5_232 : Cond.methodLink RX9 276 yX9_allWinds ∈ BIG := bg5 232 (by decide +kernel) rfl
theorem q5_236 : Cond.methodLink RX9 279 yX9_chancesOf ∈ BIG := bg5 236 (by decide +kernel) rfl
theorem q6_0 : Cond.methodLink RX9 282 yX9_byDark ∈ BIG := bg6 0 (by decide +kernel) rfl
theorem q6_16 : Cond.methodLink RX9 286 yX9_soonOrNever ∈ BIG := bg6 16 (by decide +kernel) rfl
theorem q6_24 : Cond.methodLink RX9 289 yX9_isSooner ∈ BIG := bg6 24 (by decide +kernel) rfl
theorem q6_36 : Cond.constantLong RX9 293 (101) ∈ BIG := bg6 36 (by decide +kernel) rfl
theorem q6_37 : Cond.constantLong RX9 295 (340) ∈ BIG := bg6 37 (by decide +kernel) rfl
theorem q4_148 : Cond.fieldLink RX9 297 "RoundPointModel" "moves" "I" ∈ BIG := bg4 148 (by decide +kernel) rfl
theorem q6_42 : Cond.methodLink RX9 300 yX9_isShelf ∈ BIG := bg6 42 (by decide +kernel) rfl
theorem q6_46 : Cond.constantLong RX9 303 (12) ∈ BIG := bg6 46 (by decide +kernel) rfl
theorem q6_47 : Cond.methodLink RX9 305 yX9_move ∈ BIG := bg6 47 (by decide +kernel) rfl
theorem q4_150 : Cond.fieldLink RX9 308 "RoundPointModel" "isPlaceNow" "I" ∈ BIG := bg4 150 (by decide +kernel) rfl
theorem q4_151 : Cond.fieldLink RX9 311 "RoundPointModel" "isMinuteNow" "I" ∈ BIG := bg4 151 (by decide +kernel) rfl
theorem q4_152 : Cond.fieldLink RX9 314 "RoundPointModel" "isWearyNow" "I" ∈ BIG := bg4 152 (by decide +kernel) rfl
theorem q6_60 : Cond.methodLink RX9 317 yX9_doesMove ∈ BIG := bg6 60 (by decide +kernel) rfl
theorem q6_56 : Cond.methodLink RX9 320 yX9_goPlan ∈ BIG := bg6 56 (by decide +kernel) rfl
theorem q4_153 : Cond.fieldLink RX9 323 "RoundPointModel" "marks" "I" ∈ BIG := bg4 153 (by decide +kernel) rfl
theorem q4_155 : Cond.fieldLink RX9 326 "RoundPointModel" "bodies" "I" ∈ BIG := bg4 155 (by decide +kernel) rfl
theorem q6_88 : Cond.constantLong RX9 329 (6) ∈ BIG := bg6 88 (by decide +kernel) rfl
theorem q4_158 : Cond.fieldLink RX9 331 "RoundPointModel" "ran" "I" ∈ BIG := bg4 158 (by decide +kernel) rfl
theorem q6_101 : Cond.methodLink RX9 334 yX9_begins ∈ BIG := bg6 101 (by decide +kernel) rfl
theorem q6_97 : Cond.methodLink RX9 338 yX9_goesAs ∈ BIG := bg6 97 (by decide +kernel) rfl
theorem q4_160 : Cond.fieldLink RX9 341 "RoundPointModel" "ownNumber" "I" ∈ BIG := bg4 160 (by decide +kernel) rfl
theorem q6_105 : Cond.methodLink RX9 344 yX9_waitsAs ∈ BIG := bg6 105 (by decide +kernel) rfl
theorem q4_159 : Cond.fieldLink RX9 347 "RoundPointModel" "ownKind" "I" ∈ BIG := bg4 159 (by decide +kernel) rfl
theorem q6_109 : Cond.methodLink RX9 350 yX9_wetsAs ∈ BIG := bg6 109 (by decide +kernel) rfl
theorem q6_113 : Cond.methodLink RX9 353 yX9_tellsAs ∈ BIG := bg6 113 (by decide +kernel) rfl
theorem q6_93 : Cond.methodLink RX9 356 yX9_isBody ∈ BIG := bg6 93 (by decide +kernel) rfl
theorem q6_45 : Cond.constantLong RX9 359 (5) ∈ BIG := bg6 45 (by decide +kernel) rfl
theorem q6_133 : Cond.methodLink RX9 361 yX9_refusal ∈ BIG := bg6 133 (by decide +kernel) rfl
theorem q6_137 : Cond.methodLink RX9 364 yX9_asSort ∈ BIG := bg6 137 (by decide +kernel) rfl
theorem q6_144 : Cond.constantLong RX9 370 (-9223372036854775808) ∈ BIG := bg6 144 (by decide +kernel) rfl
theorem q6_153 : Cond.methodLink RX9 372 yX9_kindOf ∈ BIG := bg6 153 (by decide +kernel) rfl
theorem q6_157 : Cond.methodLink RX9 375 yX9_above ∈ BIG := bg6 157 (by decide +kernel) rfl
set_option maxRecDepth 20000 in
theorem q2_24 : Cond.code yX0_init cX0_init 1 none ∈ BIG := bg2 24 rfl rfl
theorem q2_23 : Cond.instanceMethod yX0_init ∈ BIG := bg2 23 (by decide +kernel) rfl
theorem q1_8 : Cond.initialized RX0 ∈ BIG := bg1 8 (by decide +kernel) rfl
set_option maxRecDepth 20000 in
theorem q4_13 : Cond.code yX0_add cX0_add 2 (some .int) ∈ BIG := bg4 13 rfl rfl
theorem q4_11 : Cond.instanceMethod yX0_add ∈ BIG := bg4 11 (by decide +kernel) rfl
theorem q4_12 : Cond.selects RX0 yX0_add yX0_add ∈ BIG := bg4 12 (by decide +kernel) rfl
set_option maxRecDepth 20000 in
theorem q4_98 : Cond.code yX0_isOrUnder cX0_isOrUnder 4 (some .boolean) ∈ BIG := bg4 98 rfl rfl
theorem q4_97 : Cond.static yX0_isOrUnder ∈ BIG := bg4 97 (by decide +kernel) rfl
set_option maxRecDepth 20000 in
theorem q4_21 : Cond.code yX0_perform cX0_perform 4 (some .int) ∈ BIG := bg4 21 rfl rfl
theorem q4_19 : Cond.instanceMethod yX0_perform ∈ BIG := bg4 19 (by decide +kernel) rfl
theorem q4_20 : Cond.selects RX0 yX0_perform yX0_perform ∈ BIG := bg4 20 (by decide +kernel) rfl
set_option maxRecDepth 20000 in
theorem q4_26 : Cond.code yX0_own cX0_own 4 (some .int) ∈ BIG := bg4 26 rfl rfl
theorem q4_25 : Cond.instanceMethod yX0_own ∈ BIG := bg4 25 (by decide +kernel) rfl
theorem qs_26 : Cond.selects RX0 yX0_own yX0_own ∈ BIG := bgS 26 (by decide +kernel) rfl
set_option maxRecDepth 20000 in
theorem q4_30 : Cond.code yX0_from cX0_from 7 (some .int) ∈ BIG := bg4 30 rfl rfl
theorem q4_29 : Cond.instanceMethod yX0_from ∈ BIG := bg4 29 (by decide +kernel) rfl
theorem qs_27 : Cond.selects RX0 yX0_from yX0_from ∈ BIG := bgS 27 (by decide +kernel) rfl
set_option maxRecDepth 20000 in
theorem q4_42 : Cond.code yX0_note cX0_note 2 none ∈ BIG := bg4 42 rfl rfl
theorem q4_41 : Cond.instanceMethod yX0_note ∈ BIG := bg4 41 (by decide +kernel) rfl
theorem qs_29 : Cond.selects RX0 yX0_note yX0_note ∈ BIG := bgS 29 (by decide +kernel) rfl
set_option maxRecDepth 20000 in
theorem q4_38 : Cond.code yX0_run cX0_run 4 (some .int) ∈ BIG := bg4 38 rfl rfl
theorem q4_37 : Cond.instanceMethod yX0_run ∈ BIG := bg4 37 (by decide +kernel) rfl
theorem qs_28 : Cond.selects RX0 yX0_run yX0_run ∈ BIG := bgS 28 (by decide +kernel) rfl
set_option maxRecDepth 20000 in
theorem q1_234 : Cond.code yX1_init cX1_init 2 none ∈ BIG := bg1 234 rfl rfl
theorem q1_233 : Cond.instanceMethod yX1_init ∈ BIG := bg1 233 (by decide +kernel) rfl
theorem q1_7 : Cond.initialized RX1 ∈ BIG := bg1 7 (by decide +kernel) rfl
set_option maxRecDepth 20000 in
theorem q2_199 : Cond.code yX1_tell cX1_tell 6 (some .int) ∈ BIG := bg2 199 rfl rfl
theorem q2_197 : Cond.instanceMethod yX1_tell ∈ BIG := bg2 197 (by decide +kernel) rfl
theorem q2_198 : Cond.selects RX1 yX1_tell yX1_tell ∈ BIG := bg2 198 (by decide +kernel) rfl
set_option maxRecDepth 20000 in
theorem q2_207 : Cond.code yX1_forgetOldest cX1_forgetOldest 1 none ∈ BIG := bg2 207 rfl rfl
theorem q2_206 : Cond.instanceMethod yX1_forgetOldest ∈ BIG := bg2 206 (by decide +kernel) rfl
theorem qs_6 : Cond.selects RX1 yX1_forgetOldest yX1_forgetOldest ∈ BIG := bgS 6 (by decide +kernel) rfl
set_option maxRecDepth 20000 in
theorem q3_237 : Cond.code yX1_back cX1_back 1 (some .boolean) ∈ BIG := bg3 237 rfl rfl
theorem q3_235 : Cond.instanceMethod yX1_back ∈ BIG := bg3 235 (by decide +kernel) rfl
theorem q3_236 : Cond.selects RX1 yX1_back yX1_back ∈ BIG := bg3 236 (by decide +kernel) rfl
set_option maxRecDepth 20000 in
theorem q4_5 : Cond.code yX1_again cX1_again 1 (some .boolean) ∈ BIG := bg4 5 rfl rfl
theorem q4_3 : Cond.instanceMethod yX1_again ∈ BIG := bg4 3 (by decide +kernel) rfl
theorem q4_4 : Cond.selects RX1 yX1_again yX1_again ∈ BIG := bg4 4 (by decide +kernel) rfl
set_option maxRecDepth 20000 in
theorem q1_56 : Cond.code yX2_init cX2_init 1 none ∈ BIG := bg1 56 rfl rfl
theorem q1_55 : Cond.instanceMethod yX2_init ∈ BIG := bg1 55 (by decide +kernel) rfl
theorem q1_3 : Cond.initialized RX2 ∈ BIG := bg1 3 (by decide +kernel) rfl
set_option maxRecDepth 20000 in
theorem q2_135 : Cond.code yX2_addTide cX2_addTide 4 (some .int) ∈ BIG := bg2 135 rfl rfl
theorem q2_133 : Cond.instanceMethod yX2_addTide ∈ BIG := bg2 133 (by decide +kernel) rfl
theorem q2_134 : Cond.selects RX2 yX2_addTide yX2_addTide ∈ BIG := bg2 134 (by decide +kernel) rfl
set_option maxRecDepth 20000 in
theorem q2_149 : Cond.code yX2_addWind cX2_addWind 4 (some .int) ∈ BIG := bg2 149 rfl rfl
theorem q2_147 : Cond.instanceMethod yX2_addWind ∈ BIG := bg2 147 (by decide +kernel) rfl
theorem q2_148 : Cond.selects RX2 yX2_addWind yX2_addWind ∈ BIG := bg2 148 (by decide +kernel) rfl
set_option maxRecDepth 20000 in
theorem q2_191 : Cond.code yX2_addWay cX2_addWay 5 (some .int) ∈ BIG := bg2 191 rfl rfl
theorem q2_189 : Cond.instanceMethod yX2_addWay ∈ BIG := bg2 189 (by decide +kernel) rfl
theorem q2_190 : Cond.selects RX2 yX2_addWay yX2_addWay ∈ BIG := bg2 190 (by decide +kernel) rfl
set_option maxRecDepth 20000 in
theorem q3_11 : Cond.code yX2_allWinds cX2_allWinds 1 (some .int) ∈ BIG := bg3 11 rfl rfl
theorem q3_9 : Cond.instanceMethod yX2_allWinds ∈ BIG := bg3 9 (by decide +kernel) rfl
theorem q3_10 : Cond.selects RX2 yX2_allWinds yX2_allWinds ∈ BIG := bg3 10 (by decide +kernel) rfl
set_option maxRecDepth 20000 in
theorem q3_105 : Cond.code yX2_chanceOf cX2_chanceOf 4 (some .int) ∈ BIG := bg3 105 rfl rfl
theorem q3_103 : Cond.instanceMethod yX2_chanceOf ∈ BIG := bg3 103 (by decide +kernel) rfl
theorem q3_104 : Cond.selects RX2 yX2_chanceOf yX2_chanceOf ∈ BIG := bg3 104 (by decide +kernel) rfl
set_option maxRecDepth 20000 in
theorem q3_109 : Cond.code yX2_thousandths cX2_thousandths 2 (some .int) ∈ BIG := bg3 109 rfl rfl
theorem q3_107 : Cond.instanceMethod yX2_thousandths ∈ BIG := bg3 107 (by decide +kernel) rfl
theorem q3_108 : Cond.selects RX2 yX2_thousandths yX2_thousandths ∈ BIG := bg3 108 (by decide +kernel) rfl
set_option maxRecDepth 20000 in
theorem q2_235 : Cond.code yX2_taking cX2_taking 4 (some .int) ∈ BIG := bg2 235 rfl rfl
theorem q2_233 : Cond.instanceMethod yX2_taking ∈ BIG := bg2 233 (by decide +kernel) rfl
theorem q2_234 : Cond.selects RX2 yX2_taking yX2_taking ∈ BIG := bg2 234 (by decide +kernel) rfl
set_option maxRecDepth 20000 in
theorem q2_171 : Cond.code yX2_tideAt cX2_tideAt 8 (some .int) ∈ BIG := bg2 171 rfl rfl
theorem q2_169 : Cond.instanceMethod yX2_tideAt ∈ BIG := bg2 169 (by decide +kernel) rfl
theorem q2_170 : Cond.selects RX2 yX2_tideAt yX2_tideAt ∈ BIG := bg2 170 (by decide +kernel) rfl
set_option maxRecDepth 20000 in
theorem q2_161 : Cond.code yX2_seaAt cX2_seaAt 5 (some .int) ∈ BIG := bg2 161 rfl rfl
theorem q2_159 : Cond.instanceMethod yX2_seaAt ∈ BIG := bg2 159 (by decide +kernel) rfl
theorem q2_160 : Cond.selects RX2 yX2_seaAt yX2_seaAt ∈ BIG := bg2 160 (by decide +kernel) rfl
set_option maxRecDepth 20000 in
theorem q2_203 : Cond.code yX2_rowOf cX2_rowOf 2 (some (.array .int)) ∈ BIG := bg2 203 rfl rfl
theorem q2_201 : Cond.instanceMethod yX2_rowOf ∈ BIG := bg2 201 (by decide +kernel) rfl
theorem q2_202 : Cond.selects RX2 yX2_rowOf yX2_rowOf ∈ BIG := bg2 202 (by decide +kernel) rfl
set_option maxRecDepth 20000 in
theorem q1_203 : Cond.code yX3_init cX3_init 3 none ∈ BIG := bg1 203 rfl rfl
theorem q1_202 : Cond.instanceMethod yX3_init ∈ BIG := bg1 202 (by decide +kernel) rfl
theorem q1_6 : Cond.initialized RX3 ∈ BIG := bg1 6 (by decide +kernel) rfl
set_option maxRecDepth 20000 in
theorem q3_159 : Cond.code yX3_add cX3_add 2 (some .boolean) ∈ BIG := bg3 159 rfl rfl
theorem q3_157 : Cond.instanceMethod yX3_add ∈ BIG := bg3 157 (by decide +kernel) rfl
theorem q3_158 : Cond.selects RX3 yX3_add yX3_add ∈ BIG := bg3 158 (by decide +kernel) rfl
set_option maxRecDepth 20000 in
theorem q3_182 : Cond.code yX3_walk cX3_walk 5 (some .int) ∈ BIG := bg3 182 rfl rfl
theorem q3_180 : Cond.instanceMethod yX3_walk ∈ BIG := bg3 180 (by decide +kernel) rfl
theorem q3_181 : Cond.selects RX3 yX3_walk yX3_walk ∈ BIG := bg3 181 (by decide +kernel) rfl
set_option maxRecDepth 20000 in
theorem q3_186 : Cond.code yX3_stay cX3_stay 2 (some .boolean) ∈ BIG := bg3 186 rfl rfl
theorem q3_185 : Cond.instanceMethod yX3_stay ∈ BIG := bg3 185 (by decide +kernel) rfl
theorem qs_22 : Cond.selects RX3 yX3_stay yX3_stay ∈ BIG := bgS 22 (by decide +kernel) rfl
set_option maxRecDepth 20000 in
theorem q3_190 : Cond.code yX3_follow cX3_follow 3 (some .boolean) ∈ BIG := bg3 190 rfl rfl
theorem q3_189 : Cond.instanceMethod yX3_follow ∈ BIG := bg3 189 (by decide +kernel) rfl
theorem qs_23 : Cond.selects RX3 yX3_follow yX3_follow ∈ BIG := bgS 23 (by decide +kernel) rfl
set_option maxRecDepth 20000 in
theorem q3_194 : Cond.code yX3_leadsOn cX3_leadsOn 2 (some .boolean) ∈ BIG := bg3 194 rfl rfl
theorem q3_193 : Cond.instanceMethod yX3_leadsOn ∈ BIG := bg3 193 (by decide +kernel) rfl
theorem qs_24 : Cond.selects RX3 yX3_leadsOn yX3_leadsOn ∈ BIG := bgS 24 (by decide +kernel) rfl
set_option maxRecDepth 20000 in
theorem q3_29 : Cond.code yX3_wayGoes cX3_wayGoes 5 (some .boolean) ∈ BIG := bg3 29 rfl rfl
theorem q3_27 : Cond.instanceMethod yX3_wayGoes ∈ BIG := bg3 27 (by decide +kernel) rfl
theorem q3_28 : Cond.selects RX3 yX3_wayGoes yX3_wayGoes ∈ BIG := bg3 28 (by decide +kernel) rfl
set_option maxRecDepth 20000 in
theorem q3_204 : Cond.code yX3_shutIn cX3_shutIn 4 (some .int) ∈ BIG := bg3 204 rfl rfl
theorem q3_202 : Cond.instanceMethod yX3_shutIn ∈ BIG := bg3 202 (by decide +kernel) rfl
theorem q3_203 : Cond.selects RX3 yX3_shutIn yX3_shutIn ∈ BIG := bg3 203 (by decide +kernel) rfl
set_option maxRecDepth 20000 in
theorem q1_151 : Cond.code yX4_init cX4_init 2 none ∈ BIG := bg1 151 rfl rfl
theorem q1_150 : Cond.instanceMethod yX4_init ∈ BIG := bg1 150 (by decide +kernel) rfl
theorem q1_4 : Cond.initialized RX4 ∈ BIG := bg1 4 (by decide +kernel) rfl
set_option maxRecDepth 20000 in
theorem q3_15 : Cond.code yX4_rise cX4_rise 4 none ∈ BIG := bg3 15 rfl rfl
theorem q3_13 : Cond.instanceMethod yX4_rise ∈ BIG := bg3 13 (by decide +kernel) rfl
theorem q3_14 : Cond.selects RX4 yX4_rise yX4_rise ∈ BIG := bg3 14 (by decide +kernel) rfl
set_option maxRecDepth 20000 in
theorem q3_23 : Cond.code yX4_raise cX4_raise 5 none ∈ BIG := bg3 23 rfl rfl
theorem q3_22 : Cond.instanceMethod yX4_raise ∈ BIG := bg3 22 (by decide +kernel) rfl
theorem qs_10 : Cond.selects RX4 yX4_raise yX4_raise ∈ BIG := bgS 10 (by decide +kernel) rfl
set_option maxRecDepth 20000 in
theorem q3_33 : Cond.code yX4_firstAbove cX4_firstAbove 4 (some .int) ∈ BIG := bg3 33 rfl rfl
theorem q3_31 : Cond.instanceMethod yX4_firstAbove ∈ BIG := bg3 31 (by decide +kernel) rfl
theorem q3_32 : Cond.selects RX4 yX4_firstAbove yX4_firstAbove ∈ BIG := bg3 32 (by decide +kernel) rfl
set_option maxRecDepth 20000 in
theorem q1_174 : Cond.code yX5_init cX5_init 3 none ∈ BIG := bg1 174 rfl rfl
theorem q1_173 : Cond.instanceMethod yX5_init ∈ BIG := bg1 173 (by decide +kernel) rfl
theorem q1_5 : Cond.initialized RX5 ∈ BIG := bg1 5 (by decide +kernel) rfl
set_option maxRecDepth 20000 in
theorem q3_46 : Cond.code yX5_prepare cX5_prepare 5 none ∈ BIG := bg3 46 rfl rfl
theorem q3_44 : Cond.instanceMethod yX5_prepare ∈ BIG := bg3 44 (by decide +kernel) rfl
theorem q3_45 : Cond.selects RX5 yX5_prepare yX5_prepare ∈ BIG := bg3 45 (by decide +kernel) rfl
set_option maxRecDepth 20000 in
theorem q3_147 : Cond.code yX5_barWaiting cX5_barWaiting 2 none ∈ BIG := bg3 147 rfl rfl
theorem q3_145 : Cond.instanceMethod yX5_barWaiting ∈ BIG := bg3 145 (by decide +kernel) rfl
theorem q3_146 : Cond.selects RX5 yX5_barWaiting yX5_barWaiting ∈ BIG := bg3 146 (by decide +kernel) rfl
set_option maxRecDepth 20000 in
theorem q3_53 : Cond.code yX5_soonest cX5_soonest 4 (some .int) ∈ BIG := bg3 53 rfl rfl
theorem q3_51 : Cond.instanceMethod yX5_soonest ∈ BIG := bg3 51 (by decide +kernel) rfl
theorem q3_52 : Cond.selects RX5 yX5_soonest yX5_soonest ∈ BIG := bg3 52 (by decide +kernel) rfl
set_option maxRecDepth 20000 in
theorem q3_225 : Cond.code yX5_isThere cX5_isThere 4 (some .boolean) ∈ BIG := bg3 225 rfl rfl
theorem q3_223 : Cond.instanceMethod yX5_isThere ∈ BIG := bg3 223 (by decide +kernel) rfl
theorem q3_224 : Cond.selects RX5 yX5_isThere yX5_isThere ∈ BIG := bg3 224 (by decide +kernel) rfl
set_option maxRecDepth 20000 in
theorem q3_123 : Cond.code yX5_meeting cX5_meeting 7 (some .int) ∈ BIG := bg3 123 rfl rfl
theorem q3_121 : Cond.instanceMethod yX5_meeting ∈ BIG := bg3 121 (by decide +kernel) rfl
theorem q3_122 : Cond.selects RX5 yX5_meeting yX5_meeting ∈ BIG := bg3 122 (by decide +kernel) rfl
set_option maxRecDepth 20000 in
theorem q3_58 : Cond.code yX5_spread cX5_spread 10 (some .int) ∈ BIG := bg3 58 rfl rfl
theorem q3_57 : Cond.instanceMethod yX5_spread ∈ BIG := bg3 57 (by decide +kernel) rfl
theorem qs_12 : Cond.selects RX5 yX5_spread yX5_spread ∈ BIG := bgS 12 (by decide +kernel) rfl
set_option maxRecDepth 20000 in
theorem q3_66 : Cond.code yX5_waiting cX5_waiting 6 (some .long) ∈ BIG := bg3 66 rfl rfl
theorem q3_65 : Cond.instanceMethod yX5_waiting ∈ BIG := bg3 65 (by decide +kernel) rfl
theorem qs_13 : Cond.selects RX5 yX5_waiting yX5_waiting ∈ BIG := bgS 13 (by decide +kernel) rfl
set_option maxRecDepth 20000 in
theorem q3_71 : Cond.code yX5_leave cX5_leave 11 none ∈ BIG := bg3 71 rfl rfl
theorem q3_70 : Cond.instanceMethod yX5_leave ∈ BIG := bg3 70 (by decide +kernel) rfl
theorem qs_14 : Cond.selects RX5 yX5_leave yX5_leave ∈ BIG := bgS 14 (by decide +kernel) rfl
set_option maxRecDepth 20000 in
theorem q3_81 : Cond.code yX5_latest cX5_latest 7 (some .int) ∈ BIG := bg3 81 rfl rfl
theorem q3_79 : Cond.instanceMethod yX5_latest ∈ BIG := bg3 79 (by decide +kernel) rfl
theorem q3_80 : Cond.selects RX5 yX5_latest yX5_latest ∈ BIG := bg3 80 (by decide +kernel) rfl
set_option maxRecDepth 20000 in
theorem q3_85 : Cond.code yX5_goodToLeave cX5_goodToLeave 11 (some .long) ∈ BIG := bg3 85 rfl rfl
theorem q3_84 : Cond.instanceMethod yX5_goodToLeave ∈ BIG := bg3 84 (by decide +kernel) rfl
theorem qs_15 : Cond.selects RX5 yX5_goodToLeave yX5_goodToLeave ∈ BIG := bgS 15 (by decide +kernel) rfl
set_option maxRecDepth 20000 in
theorem q2_51 : Cond.code yX6_init cX6_init 1 none ∈ BIG := bg2 51 rfl rfl
theorem q2_50 : Cond.instanceMethod yX6_init ∈ BIG := bg2 50 (by decide +kernel) rfl
theorem q1_9 : Cond.initialized RX6 ∈ BIG := bg1 9 (by decide +kernel) rfl
set_option maxRecDepth 20000 in
theorem q4_55 : Cond.code yX6_holdBody cX6_holdBody 2 none ∈ BIG := bg4 55 rfl rfl
theorem q4_53 : Cond.instanceMethod yX6_holdBody ∈ BIG := bg4 53 (by decide +kernel) rfl
theorem q4_54 : Cond.selects RX6 yX6_holdBody yX6_holdBody ∈ BIG := bg4 54 (by decide +kernel) rfl
set_option maxRecDepth 20000 in
theorem q4_64 : Cond.code yX6_holdRow cX6_holdRow 3 none ∈ BIG := bg4 64 rfl rfl
theorem q4_62 : Cond.instanceMethod yX6_holdRow ∈ BIG := bg4 62 (by decide +kernel) rfl
theorem q4_63 : Cond.selects RX6 yX6_holdRow yX6_holdRow ∈ BIG := bg4 63 (by decide +kernel) rfl
set_option maxRecDepth 20000 in
theorem q3_170 : Cond.code yX6_has cX6_has 2 (some .boolean) ∈ BIG := bg3 170 rfl rfl
theorem q3_168 : Cond.instanceMethod yX6_has ∈ BIG := bg3 168 (by decide +kernel) rfl
theorem q3_169 : Cond.selects RX6 yX6_has yX6_has ∈ BIG := bg3 169 (by decide +kernel) rfl
set_option maxRecDepth 20000 in
theorem q4_90 : Cond.code yX6_hasRun cX6_hasRun 3 (some .boolean) ∈ BIG := bg4 90 rfl rfl
theorem q4_88 : Cond.instanceMethod yX6_hasRun ∈ BIG := bg4 88 (by decide +kernel) rfl
theorem q4_89 : Cond.selects RX6 yX6_hasRun yX6_hasRun ∈ BIG := bg4 89 (by decide +kernel) rfl
set_option maxRecDepth 20000 in
theorem q4_77 : Cond.code yX6_kept cX6_kept 3 (some .long) ∈ BIG := bg4 77 rfl rfl
theorem q4_75 : Cond.instanceMethod yX6_kept ∈ BIG := bg4 75 (by decide +kernel) rfl
theorem q4_76 : Cond.selects RX6 yX6_kept yX6_kept ∈ BIG := bg4 76 (by decide +kernel) rfl
set_option maxRecDepth 20000 in
theorem q1_26 : Cond.code yX7_init cX7_init 1 none ∈ BIG := bg1 26 rfl rfl
theorem q1_25 : Cond.instanceMethod yX7_init ∈ BIG := bg1 25 (by decide +kernel) rfl
theorem q1_2 : Cond.initialized RX7 ∈ BIG := bg1 2 (by decide +kernel) rfl
set_option maxRecDepth 20000 in
theorem q2_107 : Cond.code yX7_add cX7_add 4 (some .boolean) ∈ BIG := bg2 107 rfl rfl
theorem q2_105 : Cond.instanceMethod yX7_add ∈ BIG := bg2 105 (by decide +kernel) rfl
theorem q2_106 : Cond.selects RX7 yX7_add yX7_add ∈ BIG := bg2 106 (by decide +kernel) rfl
set_option maxRecDepth 20000 in
theorem q2_115 : Cond.code yX7_read cX7_read 3 (some .int) ∈ BIG := bg2 115 rfl rfl
theorem q2_113 : Cond.instanceMethod yX7_read ∈ BIG := bg2 113 (by decide +kernel) rfl
theorem q2_114 : Cond.selects RX7 yX7_read yX7_read ∈ BIG := bg2 114 (by decide +kernel) rfl
set_option maxRecDepth 20000 in
theorem q2_119 : Cond.code yX7_readMinute cX7_readMinute 4 (some .int) ∈ BIG := bg2 119 rfl rfl
theorem q2_118 : Cond.instanceMethod yX7_readMinute ∈ BIG := bg2 118 (by decide +kernel) rfl
theorem qs_0 : Cond.selects RX7 yX7_readMinute yX7_readMinute ∈ BIG := bgS 0 (by decide +kernel) rfl
set_option maxRecDepth 20000 in
theorem q2_131 : Cond.code yX7_readHeight cX7_readHeight 2 (some .int) ∈ BIG := bg2 131 rfl rfl
theorem q2_130 : Cond.instanceMethod yX7_readHeight ∈ BIG := bg2 130 (by decide +kernel) rfl
theorem qs_3 : Cond.selects RX7 yX7_readHeight yX7_readHeight ∈ BIG := bgS 3 (by decide +kernel) rfl
set_option maxRecDepth 20000 in
theorem q2_123 : Cond.code yX7_readNumber cX7_readNumber 4 (some .int) ∈ BIG := bg2 123 rfl rfl
theorem q2_122 : Cond.instanceMethod yX7_readNumber ∈ BIG := bg2 122 (by decide +kernel) rfl
theorem qs_1 : Cond.selects RX7 yX7_readNumber yX7_readNumber ∈ BIG := bgS 1 (by decide +kernel) rfl
set_option maxRecDepth 20000 in
theorem q2_127 : Cond.code yX7_digitIsNext cX7_digitIsNext 1 (some .boolean) ∈ BIG := bg2 127 rfl rfl
theorem q2_126 : Cond.instanceMethod yX7_digitIsNext ∈ BIG := bg2 126 (by decide +kernel) rfl
theorem qs_2 : Cond.selects RX7 yX7_digitIsNext yX7_digitIsNext ∈ BIG := bgS 2 (by decide +kernel) rfl
set_option maxRecDepth 20000 in
theorem q1_18 : Cond.code yX8_init cX8_init 2 none ∈ BIG := bg1 18 rfl rfl
theorem q1_17 : Cond.instanceMethod yX8_init ∈ BIG := bg1 17 (by decide +kernel) rfl
theorem q1_1 : Cond.initialized RX8 ∈ BIG := bg1 1 (by decide +kernel) rfl
set_option maxRecDepth 20000 in
theorem q2_103 : Cond.code yX8_feed cX8_feed 3 (some .int) ∈ BIG := bg2 103 rfl rfl
theorem q2_101 : Cond.instanceMethod yX8_feed ∈ BIG := bg2 101 (by decide +kernel) rfl
theorem q2_102 : Cond.selects RX8 yX8_feed yX8_feed ∈ BIG := bg2 102 (by decide +kernel) rfl
set_option maxRecDepth 20000 in
theorem q2_111 : Cond.code yX8_tide cX8_tide 2 (some .int) ∈ BIG := bg2 111 rfl rfl
theorem q2_109 : Cond.instanceMethod yX8_tide ∈ BIG := bg2 109 (by decide +kernel) rfl
theorem q2_110 : Cond.selects RX8 yX8_tide yX8_tide ∈ BIG := bg2 110 (by decide +kernel) rfl
set_option maxRecDepth 20000 in
theorem q2_142 : Cond.code yX8_wind cX8_wind 4 (some .int) ∈ BIG := bg2 142 rfl rfl
theorem q2_140 : Cond.instanceMethod yX8_wind ∈ BIG := bg2 140 (by decide +kernel) rfl
theorem q2_141 : Cond.selects RX8 yX8_wind yX8_wind ∈ BIG := bg2 141 (by decide +kernel) rfl
set_option maxRecDepth 20000 in
theorem q2_153 : Cond.code yX8_sea cX8_sea 4 (some .int) ∈ BIG := bg2 153 rfl rfl
theorem q2_151 : Cond.instanceMethod yX8_sea ∈ BIG := bg2 151 (by decide +kernel) rfl
theorem q2_152 : Cond.selects RX8 yX8_sea yX8_sea ∈ BIG := bg2 152 (by decide +kernel) rfl
set_option maxRecDepth 20000 in
theorem q2_175 : Cond.code yX8_place cX8_place 2 (some .int) ∈ BIG := bg2 175 rfl rfl
theorem q2_173 : Cond.instanceMethod yX8_place ∈ BIG := bg2 173 (by decide +kernel) rfl
theorem q2_174 : Cond.selects RX8 yX8_place yX8_place ∈ BIG := bg2 174 (by decide +kernel) rfl
set_option maxRecDepth 20000 in
theorem q2_179 : Cond.code yX8_way cX8_way 3 (some .int) ∈ BIG := bg2 179 rfl rfl
theorem q2_177 : Cond.instanceMethod yX8_way ∈ BIG := bg2 177 (by decide +kernel) rfl
theorem q2_178 : Cond.selects RX8 yX8_way yX8_way ∈ BIG := bg2 178 (by decide +kernel) rfl
set_option maxRecDepth 20000 in
theorem q2_195 : Cond.code yX8_safe cX8_safe 3 (some .int) ∈ BIG := bg2 195 rfl rfl
theorem q2_193 : Cond.instanceMethod yX8_safe ∈ BIG := bg2 193 (by decide +kernel) rfl
theorem q2_194 : Cond.selects RX8 yX8_safe yX8_safe ∈ BIG := bg2 194 (by decide +kernel) rfl
set_option maxRecDepth 20000 in
theorem q2_212 : Cond.code yX8_alter cX8_alter 4 (some .int) ∈ BIG := bg2 212 rfl rfl
theorem q2_210 : Cond.instanceMethod yX8_alter ∈ BIG := bg2 210 (by decide +kernel) rfl
theorem q2_211 : Cond.selects RX8 yX8_alter yX8_alter ∈ BIG := bg2 211 (by decide +kernel) rfl
set_option maxRecDepth 20000 in
theorem q2_220 : Cond.code yX8_sort cX8_sort 3 (some .int) ∈ BIG := bg2 220 rfl rfl
theorem q2_218 : Cond.instanceMethod yX8_sort ∈ BIG := bg2 218 (by decide +kernel) rfl
theorem q2_219 : Cond.selects RX8 yX8_sort yX8_sort ∈ BIG := bg2 219 (by decide +kernel) rfl
set_option maxRecDepth 20000 in
theorem q2_227 : Cond.code yX8_light cX8_light 4 (some .int) ∈ BIG := bg2 227 rfl rfl
theorem q2_225 : Cond.instanceMethod yX8_light ∈ BIG := bg2 225 (by decide +kernel) rfl
theorem q2_226 : Cond.selects RX8 yX8_light yX8_light ∈ BIG := bg2 226 (by decide +kernel) rfl
set_option maxRecDepth 20000 in
theorem q2_231 : Cond.code yX8_takes cX8_takes 4 (some .int) ∈ BIG := bg2 231 rfl rfl
theorem q2_229 : Cond.instanceMethod yX8_takes ∈ BIG := bg2 229 (by decide +kernel) rfl
theorem q2_230 : Cond.selects RX8 yX8_takes yX8_takes ∈ BIG := bg2 230 (by decide +kernel) rfl
set_option maxRecDepth 20000 in
theorem q2_239 : Cond.code yX8_open cX8_open 9 (some .int) ∈ BIG := bg2 239 rfl rfl
theorem q2_237 : Cond.instanceMethod yX8_open ∈ BIG := bg2 237 (by decide +kernel) rfl
theorem q2_238 : Cond.selects RX8 yX8_open yX8_open ∈ BIG := bg2 238 (by decide +kernel) rfl
set_option maxRecDepth 20000 in
theorem q3_38 : Cond.code yX8_soon cX8_soon 5 (some .int) ∈ BIG := bg3 38 rfl rfl
theorem q3_36 : Cond.instanceMethod yX8_soon ∈ BIG := bg3 36 (by decide +kernel) rfl
theorem q3_37 : Cond.selects RX8 yX8_soon yX8_soon ∈ BIG := bg3 37 (by decide +kernel) rfl
set_option maxRecDepth 20000 in
theorem q3_77 : Cond.code yX8_last cX8_last 4 (some .int) ∈ BIG := bg3 77 rfl rfl
theorem q3_75 : Cond.instanceMethod yX8_last ∈ BIG := bg3 75 (by decide +kernel) rfl
theorem q3_76 : Cond.selects RX8 yX8_last yX8_last ∈ BIG := bg3 76 (by decide +kernel) rfl
set_option maxRecDepth 20000 in
theorem q3_89 : Cond.code yX8_best cX8_best 6 (some .int) ∈ BIG := bg3 89 rfl rfl
theorem q3_87 : Cond.instanceMethod yX8_best ∈ BIG := bg3 87 (by decide +kernel) rfl
theorem q3_88 : Cond.selects RX8 yX8_best yX8_best ∈ BIG := bg3 88 (by decide +kernel) rfl
set_option maxRecDepth 20000 in
theorem q3_115 : Cond.code yX8_days cX8_days 9 (some .int) ∈ BIG := bg3 115 rfl rfl
theorem q3_113 : Cond.instanceMethod yX8_days ∈ BIG := bg3 113 (by decide +kernel) rfl
theorem q3_114 : Cond.selects RX8 yX8_days yX8_days ∈ BIG := bg3 114 (by decide +kernel) rfl
set_option maxRecDepth 20000 in
theorem q3_119 : Cond.code yX8_two cX8_two 7 (some .int) ∈ BIG := bg3 119 rfl rfl
theorem q3_117 : Cond.instanceMethod yX8_two ∈ BIG := bg3 117 (by decide +kernel) rfl
theorem q3_118 : Cond.selects RX8 yX8_two yX8_two ∈ BIG := bg3 118 (by decide +kernel) rfl
set_option maxRecDepth 20000 in
theorem q3_127 : Cond.code yX8_worth cX8_worth 9 (some .int) ∈ BIG := bg3 127 rfl rfl
theorem q3_125 : Cond.instanceMethod yX8_worth ∈ BIG := bg3 125 (by decide +kernel) rfl
theorem q3_126 : Cond.selects RX8 yX8_worth yX8_worth ∈ BIG := bg3 126 (by decide +kernel) rfl
set_option maxRecDepth 20000 in
theorem q3_135 : Cond.code yX8_higher cX8_higher 9 (some .int) ∈ BIG := bg3 135 rfl rfl
theorem q3_133 : Cond.instanceMethod yX8_higher ∈ BIG := bg3 133 (by decide +kernel) rfl
theorem q3_134 : Cond.selects RX8 yX8_higher yX8_higher ∈ BIG := bg3 134 (by decide +kernel) rfl
set_option maxRecDepth 20000 in
theorem q3_143 : Cond.code yX8_must cX8_must 6 (some .int) ∈ BIG := bg3 143 rfl rfl
theorem q3_141 : Cond.instanceMethod yX8_must ∈ BIG := bg3 141 (by decide +kernel) rfl
theorem q3_142 : Cond.selects RX8 yX8_must yX8_must ∈ BIG := bg3 142 (by decide +kernel) rfl
set_option maxRecDepth 20000 in
theorem q3_151 : Cond.code yX8_move cX8_move 2 (some .int) ∈ BIG := bg3 151 rfl rfl
theorem q3_149 : Cond.instanceMethod yX8_move ∈ BIG := bg3 149 (by decide +kernel) rfl
theorem q3_150 : Cond.selects RX8 yX8_move yX8_move ∈ BIG := bg3 150 (by decide +kernel) rfl
set_option maxRecDepth 20000 in
theorem q3_163 : Cond.code yX8_moves cX8_moves 6 (some .int) ∈ BIG := bg3 163 rfl rfl
theorem q3_161 : Cond.instanceMethod yX8_moves ∈ BIG := bg3 161 (by decide +kernel) rfl
theorem q3_162 : Cond.selects RX8 yX8_moves yX8_moves ∈ BIG := bg3 162 (by decide +kernel) rfl
set_option maxRecDepth 20000 in
theorem q3_174 : Cond.code yX8_drop cX8_drop 2 (some .int) ∈ BIG := bg3 174 rfl rfl
theorem q3_172 : Cond.instanceMethod yX8_drop ∈ BIG := bg3 172 (by decide +kernel) rfl
theorem q3_173 : Cond.selects RX8 yX8_drop yX8_drop ∈ BIG := bg3 173 (by decide +kernel) rfl
set_option maxRecDepth 20000 in
theorem q3_178 : Cond.code yX8_judge cX8_judge 6 (some .int) ∈ BIG := bg3 178 rfl rfl
theorem q3_176 : Cond.instanceMethod yX8_judge ∈ BIG := bg3 176 (by decide +kernel) rfl
theorem q3_177 : Cond.selects RX8 yX8_judge yX8_judge ∈ BIG := bg3 177 (by decide +kernel) rfl
set_option maxRecDepth 20000 in
theorem q3_200 : Cond.code yX8_wet cX8_wet 4 (some .int) ∈ BIG := bg3 200 rfl rfl
theorem q3_198 : Cond.instanceMethod yX8_wet ∈ BIG := bg3 198 (by decide +kernel) rfl
theorem q3_199 : Cond.selects RX8 yX8_wet yX8_wet ∈ BIG := bg3 199 (by decide +kernel) rfl
set_option maxRecDepth 20000 in
theorem q3_209 : Cond.code yX8_chance cX8_chance 5 (some .int) ∈ BIG := bg3 209 rfl rfl
theorem q3_207 : Cond.instanceMethod yX8_chance ∈ BIG := bg3 207 (by decide +kernel) rfl
theorem q3_208 : Cond.selects RX8 yX8_chance yX8_chance ∈ BIG := bg3 208 (by decide +kernel) rfl
set_option maxRecDepth 20000 in
theorem q3_213 : Cond.code yX8_mark cX8_mark 2 (some .int) ∈ BIG := bg3 213 rfl rfl
theorem q3_211 : Cond.instanceMethod yX8_mark ∈ BIG := bg3 211 (by decide +kernel) rfl
theorem q3_212 : Cond.selects RX8 yX8_mark yX8_mark ∈ BIG := bg3 212 (by decide +kernel) rfl
set_option maxRecDepth 20000 in
theorem q3_217 : Cond.code yX8_old cX8_old 4 (some .int) ∈ BIG := bg3 217 rfl rfl
theorem q3_215 : Cond.instanceMethod yX8_old ∈ BIG := bg3 215 (by decide +kernel) rfl
theorem q3_216 : Cond.selects RX8 yX8_old yX8_old ∈ BIG := bg3 216 (by decide +kernel) rfl
set_option maxRecDepth 20000 in
theorem q3_229 : Cond.code yX8_unmark cX8_unmark 2 (some .int) ∈ BIG := bg3 229 rfl rfl
theorem q3_227 : Cond.instanceMethod yX8_unmark ∈ BIG := bg3 227 (by decide +kernel) rfl
theorem q3_228 : Cond.selects RX8 yX8_unmark yX8_unmark ∈ BIG := bg3 228 (by decide +kernel) rfl
set_option maxRecDepth 20000 in
theorem q3_233 : Cond.code yX8_undo cX8_undo 1 (some .int) ∈ BIG := bg3 233 rfl rfl
theorem q3_231 : Cond.instanceMethod yX8_undo ∈ BIG := bg3 231 (by decide +kernel) rfl
theorem q3_232 : Cond.selects RX8 yX8_undo yX8_undo ∈ BIG := bg3 232 (by decide +kernel) rfl
set_option maxRecDepth 20000 in
theorem q4_1 : Cond.code yX8_redo cX8_redo 1 (some .int) ∈ BIG := bg4 1 rfl rfl
theorem q3_239 : Cond.instanceMethod yX8_redo ∈ BIG := bg3 239 (by decide +kernel) rfl
theorem q4_0 : Cond.selects RX8 yX8_redo yX8_redo ∈ BIG := bg4 0 (by decide +kernel) rfl
set_option maxRecDepth 20000 in
theorem q4_9 : Cond.code yX8_body cX8_body 2 (some .int) ∈ BIG := bg4 9 rfl rfl
theorem q4_7 : Cond.instanceMethod yX8_body ∈ BIG := bg4 7 (by decide +kernel) rfl
theorem q4_8 : Cond.selects RX8 yX8_body yX8_body ∈ BIG := bg4 8 (by decide +kernel) rfl
set_option maxRecDepth 20000 in
theorem q4_17 : Cond.code yX8_act cX8_act 4 (some .int) ∈ BIG := bg4 17 rfl rfl
theorem q4_15 : Cond.instanceMethod yX8_act ∈ BIG := bg4 15 (by decide +kernel) rfl
theorem q4_16 : Cond.selects RX8 yX8_act yX8_act ∈ BIG := bg4 16 (by decide +kernel) rfl
set_option maxRecDepth 20000 in
theorem q4_46 : Cond.code yX8_trace cX8_trace 2 (some .int) ∈ BIG := bg4 46 rfl rfl
theorem q4_44 : Cond.instanceMethod yX8_trace ∈ BIG := bg4 44 (by decide +kernel) rfl
theorem q4_45 : Cond.selects RX8 yX8_trace yX8_trace ∈ BIG := bg4 45 (by decide +kernel) rfl
set_option maxRecDepth 20000 in
theorem q4_51 : Cond.code yX8_keep cX8_keep 3 (some .int) ∈ BIG := bg4 51 rfl rfl
theorem q4_49 : Cond.instanceMethod yX8_keep ∈ BIG := bg4 49 (by decide +kernel) rfl
theorem q4_50 : Cond.selects RX8 yX8_keep yX8_keep ∈ BIG := bg4 50 (by decide +kernel) rfl
set_option maxRecDepth 20000 in
theorem q4_60 : Cond.code yX8_row cX8_row 4 (some .int) ∈ BIG := bg4 60 rfl rfl
theorem q4_58 : Cond.instanceMethod yX8_row ∈ BIG := bg4 58 (by decide +kernel) rfl
theorem q4_59 : Cond.selects RX8 yX8_row yX8_row ∈ BIG := bg4 59 (by decide +kernel) rfl
set_option maxRecDepth 20000 in
theorem q4_69 : Cond.code yX8_put cX8_put 6 (some .int) ∈ BIG := bg4 69 rfl rfl
theorem q4_67 : Cond.instanceMethod yX8_put ∈ BIG := bg4 67 (by decide +kernel) rfl
theorem q4_68 : Cond.selects RX8 yX8_put yX8_put ∈ BIG := bg4 68 (by decide +kernel) rfl
set_option maxRecDepth 20000 in
theorem q4_81 : Cond.code yX8_element cX8_element 3 (some .long) ∈ BIG := bg4 81 rfl rfl
theorem q4_79 : Cond.instanceMethod yX8_element ∈ BIG := bg4 79 (by decide +kernel) rfl
theorem q4_80 : Cond.selects RX8 yX8_element yX8_element ∈ BIG := bg4 80 (by decide +kernel) rfl
set_option maxRecDepth 20000 in
theorem q4_86 : Cond.code yX8_shift cX8_shift 8 (some .int) ∈ BIG := bg4 86 rfl rfl
theorem q4_84 : Cond.instanceMethod yX8_shift ∈ BIG := bg4 84 (by decide +kernel) rfl
theorem q4_85 : Cond.selects RX8 yX8_shift yX8_shift ∈ BIG := bg4 85 (by decide +kernel) rfl
set_option maxRecDepth 20000 in
theorem q4_95 : Cond.code yX8_taken cX8_taken 4 (some .int) ∈ BIG := bg4 95 rfl rfl
theorem q4_93 : Cond.instanceMethod yX8_taken ∈ BIG := bg4 93 (by decide +kernel) rfl
theorem q4_94 : Cond.selects RX8 yX8_taken yX8_taken ∈ BIG := bg4 94 (by decide +kernel) rfl
set_option maxRecDepth 20000 in
theorem q4_102 : Cond.code yX8_count cX8_count 2 (some .int) ∈ BIG := bg4 102 rfl rfl
theorem q4_100 : Cond.instanceMethod yX8_count ∈ BIG := bg4 100 (by decide +kernel) rfl
theorem q4_101 : Cond.selects RX8 yX8_count yX8_count ∈ BIG := bg4 101 (by decide +kernel) rfl
set_option maxRecDepth 20000 in
theorem q2_145 : Cond.code yX8_within cX8_within 3 (some .boolean) ∈ BIG := bg2 145 rfl rfl
theorem q2_144 : Cond.static yX8_within ∈ BIG := bg2 144 (by decide +kernel) rfl
set_option maxRecDepth 20000 in
theorem q2_156 : Cond.code yX8_isMinute cX8_isMinute 1 (some .boolean) ∈ BIG := bg2 156 rfl rfl
theorem q2_155 : Cond.static yX8_isMinute ∈ BIG := bg2 155 (by decide +kernel) rfl
set_option maxRecDepth 20000 in
theorem q2_223 : Cond.code yX8_isSort cX8_isSort 1 (some .boolean) ∈ BIG := bg2 223 rfl rfl
theorem q2_222 : Cond.static yX8_isSort ∈ BIG := bg2 222 (by decide +kernel) rfl
set_option maxRecDepth 20000 in
theorem q3_166 : Cond.code yX8_isShelf cX8_isShelf 1 (some .boolean) ∈ BIG := bg3 166 rfl rfl
theorem q3_165 : Cond.static yX8_isShelf ∈ BIG := bg3 165 (by decide +kernel) rfl
set_option maxRecDepth 20000 in
theorem q2_187 : Cond.code yX8_isPlace cX8_isPlace 2 (some .boolean) ∈ BIG := bg2 187 rfl rfl
theorem q2_186 : Cond.instanceMethod yX8_isPlace ∈ BIG := bg2 186 (by decide +kernel) rfl
theorem qs_5 : Cond.selects RX8 yX8_isPlace yX8_isPlace ∈ BIG := bgS 5 (by decide +kernel) rfl
set_option maxRecDepth 20000 in
theorem q2_216 : Cond.code yX8_isWay cX8_isWay 2 (some .boolean) ∈ BIG := bg2 216 rfl rfl
theorem q2_215 : Cond.instanceMethod yX8_isWay ∈ BIG := bg2 215 (by decide +kernel) rfl
theorem qs_7 : Cond.selects RX8 yX8_isWay yX8_isWay ∈ BIG := bgS 7 (by decide +kernel) rfl
set_option maxRecDepth 20000 in
theorem q2_183 : Cond.code yX8_isPair cX8_isPair 2 (some .boolean) ∈ BIG := bg2 183 rfl rfl
theorem q2_182 : Cond.instanceMethod yX8_isPair ∈ BIG := bg2 182 (by decide +kernel) rfl
theorem qs_4 : Cond.selects RX8 yX8_isPair yX8_isPair ∈ BIG := bgS 4 (by decide +kernel) rfl
set_option maxRecDepth 20000 in
theorem q3_42 : Cond.code yX8_isFrom cX8_isFrom 2 (some .boolean) ∈ BIG := bg3 42 rfl rfl
theorem q3_41 : Cond.instanceMethod yX8_isFrom ∈ BIG := bg3 41 (by decide +kernel) rfl
theorem qs_11 : Cond.selects RX8 yX8_isFrom yX8_isFrom ∈ BIG := bgS 11 (by decide +kernel) rfl
set_option maxRecDepth 20000 in
theorem q3_3 : Cond.code yX8_isSortAndTide cX8_isSortAndTide 2 (some .boolean) ∈ BIG := bg3 3 rfl rfl
theorem q3_2 : Cond.instanceMethod yX8_isSortAndTide ∈ BIG := bg3 2 (by decide +kernel) rfl
theorem qs_8 : Cond.selects RX8 yX8_isSortAndTide yX8_isSortAndTide ∈ BIG := bgS 8 (by decide +kernel) rfl
set_option maxRecDepth 20000 in
theorem q3_7 : Cond.code yX8_isWinds cX8_isWinds 2 (some .boolean) ∈ BIG := bg3 7 rfl rfl
theorem q3_6 : Cond.instanceMethod yX8_isWinds ∈ BIG := bg3 6 (by decide +kernel) rfl
theorem qs_9 : Cond.selects RX8 yX8_isWinds yX8_isWinds ∈ BIG := bgS 9 (by decide +kernel) rfl
set_option maxRecDepth 20000 in
theorem q3_155 : Cond.code yX8_isMove cX8_isMove 2 (some .boolean) ∈ BIG := bg3 155 rfl rfl
theorem q3_154 : Cond.instanceMethod yX8_isMove ∈ BIG := bg3 154 (by decide +kernel) rfl
theorem qs_21 : Cond.selects RX8 yX8_isMove yX8_isMove ∈ BIG := bgS 21 (by decide +kernel) rfl
set_option maxRecDepth 20000 in
theorem q4_73 : Cond.code yX8_refusalOfElement cX8_refusalOfElement 4 (some .int) ∈ BIG := bg4 73 rfl rfl
theorem q4_72 : Cond.instanceMethod yX8_refusalOfElement ∈ BIG := bg4 72 (by decide +kernel) rfl
theorem qs_30 : Cond.selects RX8 yX8_refusalOfElement yX8_refusalOfElement ∈ BIG := bgS 30 (by decide +kernel) rfl
set_option maxRecDepth 20000 in
theorem q3_131 : Cond.code yX8_soonOrDay cX8_soonOrDay 4 (some .int) ∈ BIG := bg3 131 rfl rfl
theorem q3_130 : Cond.instanceMethod yX8_soonOrDay ∈ BIG := bg3 130 (by decide +kernel) rfl
theorem qs_19 : Cond.selects RX8 yX8_soonOrDay yX8_soonOrDay ∈ BIG := bgS 19 (by decide +kernel) rfl
set_option maxRecDepth 20000 in
theorem q3_139 : Cond.code yX8_soonLifted cX8_soonLifted 7 (some .int) ∈ BIG := bg3 139 rfl rfl
theorem q3_138 : Cond.instanceMethod yX8_soonLifted ∈ BIG := bg3 138 (by decide +kernel) rfl
theorem qs_20 : Cond.selects RX8 yX8_soonLifted yX8_soonLifted ∈ BIG := bgS 20 (by decide +kernel) rfl
set_option maxRecDepth 20000 in
theorem q3_97 : Cond.code yX8_reachedByDark cX8_reachedByDark 5 (some .boolean) ∈ BIG := bg3 97 rfl rfl
theorem q3_96 : Cond.instanceMethod yX8_reachedByDark ∈ BIG := bg3 96 (by decide +kernel) rfl
theorem qs_17 : Cond.selects RX8 yX8_reachedByDark yX8_reachedByDark ∈ BIG := bgS 17 (by decide +kernel) rfl
set_option maxRecDepth 20000 in
theorem q3_93 : Cond.code yX8_bestSet cX8_bestSet 8 (some .int) ∈ BIG := bg3 93 rfl rfl
theorem q3_92 : Cond.instanceMethod yX8_bestSet ∈ BIG := bg3 92 (by decide +kernel) rfl
theorem qs_16 : Cond.selects RX8 yX8_bestSet yX8_bestSet ∈ BIG := bgS 16 (by decide +kernel) rfl
set_option maxRecDepth 20000 in
theorem q3_101 : Cond.code yX8_likeliestUntried cX8_likeliestUntried 6 (some .int) ∈ BIG := bg3 101 rfl rfl
theorem q3_100 : Cond.instanceMethod yX8_likeliestUntried ∈ BIG := bg3 100 (by decide +kernel) rfl
theorem qs_18 : Cond.selects RX8 yX8_likeliestUntried yX8_likeliestUntried ∈ BIG := bgS 18 (by decide +kernel) rfl
set_option maxRecDepth 20000 in
theorem q3_221 : Cond.code yX8_marksCanHaveBeen cX8_marksCanHaveBeen 2 (some .boolean) ∈ BIG := bg3 221 rfl rfl
theorem q3_220 : Cond.instanceMethod yX8_marksCanHaveBeen ∈ BIG := bg3 220 (by decide +kernel) rfl
theorem qs_25 : Cond.selects RX8 yX8_marksCanHaveBeen yX8_marksCanHaveBeen ∈ BIG := bgS 25 (by decide +kernel) rfl
set_option maxRecDepth 20000 in
theorem q5_50 : Cond.code yX9_within cX9_within 6 (some .boolean) ∈ BIG := bg5 50 rfl rfl
theorem q5_49 : Cond.static yX9_within ∈ BIG := bg5 49 (by decide +kernel) rfl
theorem q1_10 : Cond.initialized RX9 ∈ BIG := bg1 10 (by decide +kernel) rfl
set_option maxRecDepth 20000 in
theorem q5_89 : Cond.code yX9_isMinute cX9_isMinute 1 (some .boolean) ∈ BIG := bg5 89 rfl rfl
theorem q5_88 : Cond.static yX9_isMinute ∈ BIG := bg5 88 (by decide +kernel) rfl
set_option maxRecDepth 20000 in
theorem q4_107 : Cond.code yX9_init cX9_init 2 none ∈ BIG := bg4 107 rfl rfl
theorem q4_106 : Cond.instanceMethod yX9_init ∈ BIG := bg4 106 (by decide +kernel) rfl
set_option maxRecDepth 20000 in
theorem q5_125 : Cond.code yX9_becomes cX9_becomes 5 (some .int) ∈ BIG := bg5 125 rfl rfl
theorem q5_124 : Cond.instanceMethod yX9_becomes ∈ BIG := bg5 124 (by decide +kernel) rfl
theorem qs_40 : Cond.selects RX9 yX9_becomes yX9_becomes ∈ BIG := bgS 40 (by decide +kernel) rfl
set_option maxRecDepth 20000 in
theorem q5_38 : Cond.code yX9_undo cX9_undo 1 (some .int) ∈ BIG := bg5 38 rfl rfl
theorem q5_36 : Cond.instanceMethod yX9_undo ∈ BIG := bg5 36 (by decide +kernel) rfl
theorem q5_37 : Cond.selects RX9 yX9_undo yX9_undo ∈ BIG := bg5 37 (by decide +kernel) rfl
set_option maxRecDepth 20000 in
theorem q5_42 : Cond.code yX9_redo cX9_redo 1 (some .int) ∈ BIG := bg5 42 rfl rfl
theorem q5_40 : Cond.instanceMethod yX9_redo ∈ BIG := bg5 40 (by decide +kernel) rfl
theorem q5_41 : Cond.selects RX9 yX9_redo yX9_redo ∈ BIG := bg5 41 (by decide +kernel) rfl
set_option maxRecDepth 20000 in
theorem q5_46 : Cond.code yX9_feed cX9_feed 4 (some .int) ∈ BIG := bg5 46 rfl rfl
theorem q5_44 : Cond.instanceMethod yX9_feed ∈ BIG := bg5 44 (by decide +kernel) rfl
theorem q5_45 : Cond.selects RX9 yX9_feed yX9_feed ∈ BIG := bg5 45 (by decide +kernel) rfl
set_option maxRecDepth 20000 in
theorem q5_66 : Cond.code yX9_byteAt cX9_byteAt 1 (some .int) ∈ BIG := bg5 66 rfl rfl
theorem q5_65 : Cond.instanceMethod yX9_byteAt ∈ BIG := bg5 65 (by decide +kernel) rfl
theorem qs_33 : Cond.selects RX9 yX9_byteAt yX9_byteAt ∈ BIG := bgS 33 (by decide +kernel) rfl
set_option maxRecDepth 20000 in
theorem q5_62 : Cond.code yX9_number cX9_number 6 (some .int) ∈ BIG := bg5 62 rfl rfl
theorem q5_61 : Cond.instanceMethod yX9_number ∈ BIG := bg5 61 (by decide +kernel) rfl
theorem qs_32 : Cond.selects RX9 yX9_number yX9_number ∈ BIG := bgS 32 (by decide +kernel) rfl
set_option maxRecDepth 20000 in
theorem q5_58 : Cond.code yX9_readPoints cX9_readPoints 4 (some .boolean) ∈ BIG := bg5 58 rfl rfl
theorem q5_57 : Cond.instanceMethod yX9_readPoints ∈ BIG := bg5 57 (by decide +kernel) rfl
theorem qs_31 : Cond.selects RX9 yX9_readPoints yX9_readPoints ∈ BIG := bgS 31 (by decide +kernel) rfl
set_option maxRecDepth 20000 in
theorem q5_54 : Cond.code yX9_tide cX9_tide 3 (some .int) ∈ BIG := bg5 54 rfl rfl
theorem q5_52 : Cond.instanceMethod yX9_tide ∈ BIG := bg5 52 (by decide +kernel) rfl
theorem q5_53 : Cond.selects RX9 yX9_tide yX9_tide ∈ BIG := bg5 53 (by decide +kernel) rfl
set_option maxRecDepth 20000 in
theorem q5_82 : Cond.code yX9_isTide cX9_isTide 2 (some .boolean) ∈ BIG := bg5 82 rfl rfl
theorem q5_81 : Cond.instanceMethod yX9_isTide ∈ BIG := bg5 81 (by decide +kernel) rfl
theorem qs_34 : Cond.selects RX9 yX9_isTide yX9_isTide ∈ BIG := bgS 34 (by decide +kernel) rfl
set_option maxRecDepth 20000 in
theorem q5_86 : Cond.code yX9_isWind cX9_isWind 2 (some .boolean) ∈ BIG := bg5 86 rfl rfl
theorem q5_85 : Cond.instanceMethod yX9_isWind ∈ BIG := bg5 85 (by decide +kernel) rfl
theorem qs_35 : Cond.selects RX9 yX9_isWind yX9_isWind ∈ BIG := bgS 35 (by decide +kernel) rfl
set_option maxRecDepth 20000 in
theorem q5_70 : Cond.code yX9_wind cX9_wind 4 (some .int) ∈ BIG := bg5 70 rfl rfl
theorem q5_68 : Cond.instanceMethod yX9_wind ∈ BIG := bg5 68 (by decide +kernel) rfl
theorem q5_69 : Cond.selects RX9 yX9_wind yX9_wind ∈ BIG := bg5 69 (by decide +kernel) rfl
set_option maxRecDepth 20000 in
theorem q5_98 : Cond.code yX9_tideAt cX9_tideAt 8 (some .int) ∈ BIG := bg5 98 rfl rfl
theorem q5_97 : Cond.instanceMethod yX9_tideAt ∈ BIG := bg5 97 (by decide +kernel) rfl
theorem qs_37 : Cond.selects RX9 yX9_tideAt yX9_tideAt ∈ BIG := bgS 37 (by decide +kernel) rfl
set_option maxRecDepth 20000 in
theorem q5_94 : Cond.code yX9_seaAt cX9_seaAt 5 (some .int) ∈ BIG := bg5 94 rfl rfl
theorem q5_93 : Cond.instanceMethod yX9_seaAt ∈ BIG := bg5 93 (by decide +kernel) rfl
theorem qs_36 : Cond.selects RX9 yX9_seaAt yX9_seaAt ∈ BIG := bgS 36 (by decide +kernel) rfl
set_option maxRecDepth 20000 in
theorem q5_78 : Cond.code yX9_sea cX9_sea 4 (some .int) ∈ BIG := bg5 78 rfl rfl
theorem q5_76 : Cond.instanceMethod yX9_sea ∈ BIG := bg5 76 (by decide +kernel) rfl
theorem q5_77 : Cond.selects RX9 yX9_sea yX9_sea ∈ BIG := bg5 77 (by decide +kernel) rfl
set_option maxRecDepth 20000 in
theorem q5_116 : Cond.code yX9_isPlace cX9_isPlace 2 (some .boolean) ∈ BIG := bg5 116 rfl rfl
theorem q5_115 : Cond.instanceMethod yX9_isPlace ∈ BIG := bg5 115 (by decide +kernel) rfl
theorem qs_39 : Cond.selects RX9 yX9_isPlace yX9_isPlace ∈ BIG := bgS 39 (by decide +kernel) rfl
set_option maxRecDepth 20000 in
theorem q5_133 : Cond.code yX9_isWay cX9_isWay 2 (some .boolean) ∈ BIG := bg5 133 rfl rfl
theorem q5_132 : Cond.instanceMethod yX9_isWay ∈ BIG := bg5 132 (by decide +kernel) rfl
theorem qs_41 : Cond.selects RX9 yX9_isWay yX9_isWay ∈ BIG := bgS 41 (by decide +kernel) rfl
set_option maxRecDepth 20000 in
theorem q5_103 : Cond.code yX9_place cX9_place 2 (some .int) ∈ BIG := bg5 103 rfl rfl
theorem q5_101 : Cond.instanceMethod yX9_place ∈ BIG := bg5 101 (by decide +kernel) rfl
theorem q5_102 : Cond.selects RX9 yX9_place yX9_place ∈ BIG := bg5 102 (by decide +kernel) rfl
set_option maxRecDepth 20000 in
theorem q5_112 : Cond.code yX9_areTwo cX9_areTwo 2 (some .boolean) ∈ BIG := bg5 112 rfl rfl
theorem q5_111 : Cond.instanceMethod yX9_areTwo ∈ BIG := bg5 111 (by decide +kernel) rfl
theorem qs_38 : Cond.selects RX9 yX9_areTwo yX9_areTwo ∈ BIG := bgS 38 (by decide +kernel) rfl
set_option maxRecDepth 20000 in
theorem q5_108 : Cond.code yX9_way cX9_way 3 (some .int) ∈ BIG := bg5 108 rfl rfl
theorem q5_106 : Cond.instanceMethod yX9_way ∈ BIG := bg5 106 (by decide +kernel) rfl
theorem q5_107 : Cond.selects RX9 yX9_way yX9_way ∈ BIG := bg5 107 (by decide +kernel) rfl
set_option maxRecDepth 20000 in
theorem q5_121 : Cond.code yX9_safe cX9_safe 3 (some .int) ∈ BIG := bg5 121 rfl rfl
theorem q5_119 : Cond.instanceMethod yX9_safe ∈ BIG := bg5 119 (by decide +kernel) rfl
theorem q5_120 : Cond.selects RX9 yX9_safe yX9_safe ∈ BIG := bg5 120 (by decide +kernel) rfl
set_option maxRecDepth 20000 in
theorem q5_129 : Cond.code yX9_alter cX9_alter 4 (some .int) ∈ BIG := bg5 129 rfl rfl
theorem q5_127 : Cond.instanceMethod yX9_alter ∈ BIG := bg5 127 (by decide +kernel) rfl
theorem q5_128 : Cond.selects RX9 yX9_alter yX9_alter ∈ BIG := bg5 128 (by decide +kernel) rfl
set_option maxRecDepth 20000 in
theorem q5_140 : Cond.code yX9_isSort cX9_isSort 1 (some .boolean) ∈ BIG := bg5 140 rfl rfl
theorem q5_139 : Cond.static yX9_isSort ∈ BIG := bg5 139 (by decide +kernel) rfl
set_option maxRecDepth 20000 in
theorem q5_137 : Cond.code yX9_sort cX9_sort 3 (some .int) ∈ BIG := bg5 137 rfl rfl
theorem q5_135 : Cond.instanceMethod yX9_sort ∈ BIG := bg5 135 (by decide +kernel) rfl
theorem q5_136 : Cond.selects RX9 yX9_sort yX9_sort ∈ BIG := bg5 136 (by decide +kernel) rfl
set_option maxRecDepth 20000 in
theorem q5_147 : Cond.code yX9_light cX9_light 4 (some .int) ∈ BIG := bg5 147 rfl rfl
theorem q5_145 : Cond.instanceMethod yX9_light ∈ BIG := bg5 145 (by decide +kernel) rfl
theorem q5_146 : Cond.selects RX9 yX9_light yX9_light ∈ BIG := bg5 146 (by decide +kernel) rfl
set_option maxRecDepth 20000 in
theorem q5_155 : Cond.code yX9_takesOf cX9_takesOf 4 (some .int) ∈ BIG := bg5 155 rfl rfl
theorem q5_154 : Cond.instanceMethod yX9_takesOf ∈ BIG := bg5 154 (by decide +kernel) rfl
theorem qs_42 : Cond.selects RX9 yX9_takesOf yX9_takesOf ∈ BIG := bgS 42 (by decide +kernel) rfl
set_option maxRecDepth 20000 in
theorem q5_151 : Cond.code yX9_takes cX9_takes 4 (some .int) ∈ BIG := bg5 151 rfl rfl
theorem q5_149 : Cond.instanceMethod yX9_takes ∈ BIG := bg5 149 (by decide +kernel) rfl
theorem q5_150 : Cond.selects RX9 yX9_takes yX9_takes ∈ BIG := bg5 150 (by decide +kernel) rfl
set_option maxRecDepth 20000 in
theorem q5_172 : Cond.code yX9_layOut cX9_layOut 7 none ∈ BIG := bg5 172 rfl rfl
theorem q5_171 : Cond.instanceMethod yX9_layOut ∈ BIG := bg5 171 (by decide +kernel) rfl
theorem qs_45 : Cond.selects RX9 yX9_layOut yX9_layOut ∈ BIG := bgS 45 (by decide +kernel) rfl
set_option maxRecDepth 20000 in
theorem q5_176 : Cond.code yX9_goes cX9_goes 7 (some .boolean) ∈ BIG := bg5 176 rfl rfl
theorem q5_175 : Cond.instanceMethod yX9_goes ∈ BIG := bg5 175 (by decide +kernel) rfl
theorem qs_46 : Cond.selects RX9 yX9_goes yX9_goes ∈ BIG := bgS 46 (by decide +kernel) rfl
set_option maxRecDepth 20000 in
theorem q5_199 : Cond.code yX9_waits cX9_waits 3 (some .boolean) ∈ BIG := bg5 199 rfl rfl
theorem q5_198 : Cond.instanceMethod yX9_waits ∈ BIG := bg5 198 (by decide +kernel) rfl
theorem qs_50 : Cond.selects RX9 yX9_waits yX9_waits ∈ BIG := bgS 50 (by decide +kernel) rfl
set_option maxRecDepth 20000 in
theorem q5_203 : Cond.code yX9_otherEnd cX9_otherEnd 3 (some .int) ∈ BIG := bg5 203 rfl rfl
theorem q5_202 : Cond.instanceMethod yX9_otherEnd ∈ BIG := bg5 202 (by decide +kernel) rfl
theorem qs_51 : Cond.selects RX9 yX9_otherEnd yX9_otherEnd ∈ BIG := bgS 51 (by decide +kernel) rfl
set_option maxRecDepth 20000 in
theorem q5_191 : Cond.code yX9_stateOf cX9_stateOf 3 (some .int) ∈ BIG := bg5 191 rfl rfl
theorem q5_190 : Cond.static yX9_stateOf ∈ BIG := bg5 190 (by decide +kernel) rfl
set_option maxRecDepth 20000 in
theorem q5_195 : Cond.code yX9_spread cX9_spread 7 none ∈ BIG := bg5 195 rfl rfl
theorem q5_194 : Cond.instanceMethod yX9_spread ∈ BIG := bg5 194 (by decide +kernel) rfl
theorem qs_49 : Cond.selects RX9 yX9_spread yX9_spread ∈ BIG := bgS 49 (by decide +kernel) rfl
set_option maxRecDepth 20000 in
theorem q5_188 : Cond.code yX9_reach cX9_reach 7 none ∈ BIG := bg5 188 rfl rfl
theorem q5_187 : Cond.instanceMethod yX9_reach ∈ BIG := bg5 187 (by decide +kernel) rfl
theorem qs_48 : Cond.selects RX9 yX9_reach yX9_reach ∈ BIG := bgS 48 (by decide +kernel) rfl
set_option maxRecDepth 20000 in
theorem q5_211 : Cond.code yX9_isAt cX9_isAt 4 (some .boolean) ∈ BIG := bg5 211 rfl rfl
theorem q5_210 : Cond.instanceMethod yX9_isAt ∈ BIG := bg5 210 (by decide +kernel) rfl
theorem qs_53 : Cond.selects RX9 yX9_isAt yX9_isAt ∈ BIG := bgS 53 (by decide +kernel) rfl
set_option maxRecDepth 20000 in
theorem q5_207 : Cond.code yX9_soonAt cX9_soonAt 3 (some .int) ∈ BIG := bg5 207 rfl rfl
theorem q5_206 : Cond.instanceMethod yX9_soonAt ∈ BIG := bg5 206 (by decide +kernel) rfl
theorem qs_52 : Cond.selects RX9 yX9_soonAt yX9_soonAt ∈ BIG := bgS 52 (by decide +kernel) rfl
set_option maxRecDepth 20000 in
theorem q5_184 : Cond.code yX9_isFrom cX9_isFrom 2 (some .boolean) ∈ BIG := bg5 184 rfl rfl
theorem q5_183 : Cond.instanceMethod yX9_isFrom ∈ BIG := bg5 183 (by decide +kernel) rfl
theorem qs_47 : Cond.selects RX9 yX9_isFrom yX9_isFrom ∈ BIG := bgS 47 (by decide +kernel) rfl
set_option maxRecDepth 20000 in
theorem q5_163 : Cond.code yX9_isSt cX9_isSt 2 (some .boolean) ∈ BIG := bg5 163 rfl rfl
theorem q5_162 : Cond.instanceMethod yX9_isSt ∈ BIG := bg5 162 (by decide +kernel) rfl
theorem qs_43 : Cond.selects RX9 yX9_isSt yX9_isSt ∈ BIG := bgS 43 (by decide +kernel) rfl
set_option maxRecDepth 20000 in
theorem q5_167 : Cond.code yX9_areWinds cX9_areWinds 2 (some .boolean) ∈ BIG := bg5 167 rfl rfl
theorem q5_166 : Cond.instanceMethod yX9_areWinds ∈ BIG := bg5 166 (by decide +kernel) rfl
theorem qs_44 : Cond.selects RX9 yX9_areWinds yX9_areWinds ∈ BIG := bgS 44 (by decide +kernel) rfl
set_option maxRecDepth 20000 in
theorem q5_159 : Cond.code yX9_open cX9_open 9 (some .int) ∈ BIG := bg5 159 rfl rfl
theorem q5_157 : Cond.instanceMethod yX9_open ∈ BIG := bg5 157 (by decide +kernel) rfl
theorem q5_158 : Cond.selects RX9 yX9_open yX9_open ∈ BIG := bg5 158 (by decide +kernel) rfl
set_option maxRecDepth 20000 in
theorem q5_180 : Cond.code yX9_soon cX9_soon 5 (some .int) ∈ BIG := bg5 180 rfl rfl
theorem q5_178 : Cond.instanceMethod yX9_soon ∈ BIG := bg5 178 (by decide +kernel) rfl
theorem q5_179 : Cond.selects RX9 yX9_soon yX9_soon ∈ BIG := bg5 179 (by decide +kernel) rfl
set_option maxRecDepth 20000 in
theorem q5_223 : Cond.code yX9_goBack cX9_goBack 7 none ∈ BIG := bg5 223 rfl rfl
theorem q5_222 : Cond.instanceMethod yX9_goBack ∈ BIG := bg5 222 (by decide +kernel) rfl
theorem qs_55 : Cond.selects RX9 yX9_goBack yX9_goBack ∈ BIG := bgS 55 (by decide +kernel) rfl
set_option maxRecDepth 20000 in
theorem q5_227 : Cond.code yX9_comesFrom cX9_comesFrom 8 (some .boolean) ∈ BIG := bg5 227 rfl rfl
theorem q5_226 : Cond.instanceMethod yX9_comesFrom ∈ BIG := bg5 226 (by decide +kernel) rfl
theorem qs_56 : Cond.selects RX9 yX9_comesFrom yX9_comesFrom ∈ BIG := bgS 56 (by decide +kernel) rfl
set_option maxRecDepth 20000 in
theorem q5_219 : Cond.code yX9_lastFrom cX9_lastFrom 5 (some .int) ∈ BIG := bg5 219 rfl rfl
theorem q5_218 : Cond.instanceMethod yX9_lastFrom ∈ BIG := bg5 218 (by decide +kernel) rfl
theorem qs_54 : Cond.selects RX9 yX9_lastFrom yX9_lastFrom ∈ BIG := bgS 54 (by decide +kernel) rfl
set_option maxRecDepth 20000 in
theorem q5_215 : Cond.code yX9_last cX9_last 4 (some .int) ∈ BIG := bg5 215 rfl rfl
theorem q5_213 : Cond.instanceMethod yX9_last ∈ BIG := bg5 213 (by decide +kernel) rfl
theorem q5_214 : Cond.selects RX9 yX9_last yX9_last ∈ BIG := bg5 214 (by decide +kernel) rfl
set_option maxRecDepth 20000 in
theorem q5_235 : Cond.code yX9_allWinds cX9_allWinds 1 (some .int) ∈ BIG := bg5 235 rfl rfl
theorem q5_234 : Cond.instanceMethod yX9_allWinds ∈ BIG := bg5 234 (by decide +kernel) rfl
theorem qs_57 : Cond.selects RX9 yX9_allWinds yX9_allWinds ∈ BIG := bgS 57 (by decide +kernel) rfl
set_option maxRecDepth 20000 in
theorem q5_239 : Cond.code yX9_chancesOf cX9_chancesOf 4 (some .int) ∈ BIG := bg5 239 rfl rfl
theorem q5_238 : Cond.instanceMethod yX9_chancesOf ∈ BIG := bg5 238 (by decide +kernel) rfl
theorem qs_58 : Cond.selects RX9 yX9_chancesOf yX9_chancesOf ∈ BIG := bgS 58 (by decide +kernel) rfl
set_option maxRecDepth 20000 in
theorem q6_3 : Cond.code yX9_byDark cX9_byDark 6 (some .boolean) ∈ BIG := bg6 3 rfl rfl
theorem q6_2 : Cond.instanceMethod yX9_byDark ∈ BIG := bg6 2 (by decide +kernel) rfl
theorem qs_59 : Cond.selects RX9 yX9_byDark yX9_byDark ∈ BIG := bgS 59 (by decide +kernel) rfl
set_option maxRecDepth 20000 in
theorem q5_231 : Cond.code yX9_best cX9_best 7 (some .int) ∈ BIG := bg5 231 rfl rfl
theorem q5_229 : Cond.instanceMethod yX9_best ∈ BIG := bg5 229 (by decide +kernel) rfl
theorem q5_230 : Cond.selects RX9 yX9_best yX9_best ∈ BIG := bg5 230 (by decide +kernel) rfl
set_option maxRecDepth 20000 in
theorem q6_7 : Cond.code yX9_days cX9_days 9 (some .int) ∈ BIG := bg6 7 rfl rfl
theorem q6_5 : Cond.instanceMethod yX9_days ∈ BIG := bg6 5 (by decide +kernel) rfl
theorem q6_6 : Cond.selects RX9 yX9_days yX9_days ∈ BIG := bg6 6 (by decide +kernel) rfl
set_option maxRecDepth 20000 in
theorem q6_11 : Cond.code yX9_two cX9_two 8 (some .int) ∈ BIG := bg6 11 rfl rfl
theorem q6_9 : Cond.instanceMethod yX9_two ∈ BIG := bg6 9 (by decide +kernel) rfl
theorem q6_10 : Cond.selects RX9 yX9_two yX9_two ∈ BIG := bg6 10 (by decide +kernel) rfl
set_option maxRecDepth 20000 in
theorem q6_19 : Cond.code yX9_soonOrNever cX9_soonOrNever 5 (some .int) ∈ BIG := bg6 19 rfl rfl
theorem q6_18 : Cond.instanceMethod yX9_soonOrNever ∈ BIG := bg6 18 (by decide +kernel) rfl
theorem qs_60 : Cond.selects RX9 yX9_soonOrNever yX9_soonOrNever ∈ BIG := bgS 60 (by decide +kernel) rfl
set_option maxRecDepth 20000 in
theorem q6_15 : Cond.code yX9_worth cX9_worth 7 (some .int) ∈ BIG := bg6 15 rfl rfl
theorem q6_13 : Cond.instanceMethod yX9_worth ∈ BIG := bg6 13 (by decide +kernel) rfl
theorem q6_14 : Cond.selects RX9 yX9_worth yX9_worth ∈ BIG := bg6 14 (by decide +kernel) rfl
set_option maxRecDepth 20000 in
theorem q6_27 : Cond.code yX9_isSooner cX9_isSooner 8 (some .boolean) ∈ BIG := bg6 27 rfl rfl
theorem q6_26 : Cond.instanceMethod yX9_isSooner ∈ BIG := bg6 26 (by decide +kernel) rfl
theorem qs_61 : Cond.selects RX9 yX9_isSooner yX9_isSooner ∈ BIG := bgS 61 (by decide +kernel) rfl
set_option maxRecDepth 20000 in
theorem q6_23 : Cond.code yX9_higher cX9_higher 9 (some .int) ∈ BIG := bg6 23 rfl rfl
theorem q6_21 : Cond.instanceMethod yX9_higher ∈ BIG := bg6 21 (by decide +kernel) rfl
theorem q6_22 : Cond.selects RX9 yX9_higher yX9_higher ∈ BIG := bg6 22 (by decide +kernel) rfl
set_option maxRecDepth 20000 in
theorem q6_31 : Cond.code yX9_must cX9_must 6 (some .int) ∈ BIG := bg6 31 rfl rfl
theorem q6_29 : Cond.instanceMethod yX9_must ∈ BIG := bg6 29 (by decide +kernel) rfl
theorem q6_30 : Cond.selects RX9 yX9_must yX9_must ∈ BIG := bg6 30 (by decide +kernel) rfl
set_option maxRecDepth 20000 in
theorem q6_35 : Cond.code yX9_move cX9_move 2 (some .int) ∈ BIG := bg6 35 rfl rfl
theorem q6_33 : Cond.instanceMethod yX9_move ∈ BIG := bg6 33 (by decide +kernel) rfl
theorem q6_34 : Cond.selects RX9 yX9_move yX9_move ∈ BIG := bg6 34 (by decide +kernel) rfl
set_option maxRecDepth 20000 in
theorem q6_41 : Cond.code yX9_moves cX9_moves 6 (some .int) ∈ BIG := bg6 41 rfl rfl
theorem q6_39 : Cond.instanceMethod yX9_moves ∈ BIG := bg6 39 (by decide +kernel) rfl
theorem q6_40 : Cond.selects RX9 yX9_moves yX9_moves ∈ BIG := bg6 40 (by decide +kernel) rfl
set_option maxRecDepth 20000 in
theorem q6_51 : Cond.code yX9_drop cX9_drop 2 (some .int) ∈ BIG := bg6 51 rfl rfl
theorem q6_49 : Cond.instanceMethod yX9_drop ∈ BIG := bg6 49 (by decide +kernel) rfl
theorem q6_50 : Cond.selects RX9 yX9_drop yX9_drop ∈ BIG := bg6 50 (by decide +kernel) rfl
set_option maxRecDepth 20000 in
theorem q6_63 : Cond.code yX9_doesMove cX9_doesMove 3 (some .boolean) ∈ BIG := bg6 63 rfl rfl
theorem q6_62 : Cond.instanceMethod yX9_doesMove ∈ BIG := bg6 62 (by decide +kernel) rfl
theorem qs_63 : Cond.selects RX9 yX9_doesMove yX9_doesMove ∈ BIG := bgS 63 (by decide +kernel) rfl
set_option maxRecDepth 20000 in
theorem q6_59 : Cond.code yX9_goPlan cX9_goPlan 5 (some .int) ∈ BIG := bg6 59 rfl rfl
theorem q6_58 : Cond.instanceMethod yX9_goPlan ∈ BIG := bg6 58 (by decide +kernel) rfl
theorem qs_62 : Cond.selects RX9 yX9_goPlan yX9_goPlan ∈ BIG := bgS 62 (by decide +kernel) rfl
set_option maxRecDepth 20000 in
theorem q6_55 : Cond.code yX9_judge cX9_judge 6 (some .int) ∈ BIG := bg6 55 rfl rfl
theorem q6_53 : Cond.instanceMethod yX9_judge ∈ BIG := bg6 53 (by decide +kernel) rfl
theorem q6_54 : Cond.selects RX9 yX9_judge yX9_judge ∈ BIG := bg6 54 (by decide +kernel) rfl
set_option maxRecDepth 20000 in
theorem q6_67 : Cond.code yX9_wet cX9_wet 6 (some .int) ∈ BIG := bg6 67 rfl rfl
theorem q6_65 : Cond.instanceMethod yX9_wet ∈ BIG := bg6 65 (by decide +kernel) rfl
theorem q6_66 : Cond.selects RX9 yX9_wet yX9_wet ∈ BIG := bg6 66 (by decide +kernel) rfl
set_option maxRecDepth 20000 in
theorem q6_71 : Cond.code yX9_chance cX9_chance 5 (some .int) ∈ BIG := bg6 71 rfl rfl
theorem q6_69 : Cond.instanceMethod yX9_chance ∈ BIG := bg6 69 (by decide +kernel) rfl
theorem q6_70 : Cond.selects RX9 yX9_chance yX9_chance ∈ BIG := bg6 70 (by decide +kernel) rfl
set_option maxRecDepth 20000 in
theorem q6_75 : Cond.code yX9_mark cX9_mark 2 (some .int) ∈ BIG := bg6 75 rfl rfl
theorem q6_73 : Cond.instanceMethod yX9_mark ∈ BIG := bg6 73 (by decide +kernel) rfl
theorem q6_74 : Cond.selects RX9 yX9_mark yX9_mark ∈ BIG := bg6 74 (by decide +kernel) rfl
set_option maxRecDepth 20000 in
theorem q6_79 : Cond.code yX9_unmark cX9_unmark 2 (some .int) ∈ BIG := bg6 79 rfl rfl
theorem q6_77 : Cond.instanceMethod yX9_unmark ∈ BIG := bg6 77 (by decide +kernel) rfl
theorem q6_78 : Cond.selects RX9 yX9_unmark yX9_unmark ∈ BIG := bg6 78 (by decide +kernel) rfl
set_option maxRecDepth 20000 in
theorem q6_83 : Cond.code yX9_old cX9_old 6 (some .int) ∈ BIG := bg6 83 rfl rfl
theorem q6_81 : Cond.instanceMethod yX9_old ∈ BIG := bg6 81 (by decide +kernel) rfl
theorem q6_82 : Cond.selects RX9 yX9_old yX9_old ∈ BIG := bg6 82 (by decide +kernel) rfl
set_option maxRecDepth 20000 in
theorem q6_96 : Cond.code yX9_isBody cX9_isBody 2 (some .boolean) ∈ BIG := bg6 96 rfl rfl
theorem q6_95 : Cond.instanceMethod yX9_isBody ∈ BIG := bg6 95 (by decide +kernel) rfl
theorem qs_64 : Cond.selects RX9 yX9_isBody yX9_isBody ∈ BIG := bgS 64 (by decide +kernel) rfl
set_option maxRecDepth 20000 in
theorem q6_156 : Cond.code yX9_kindOf cX9_kindOf 2 (some .int) ∈ BIG := bg6 156 rfl rfl
theorem q6_155 : Cond.instanceMethod yX9_kindOf ∈ BIG := bg6 155 (by decide +kernel) rfl
theorem qs_71 : Cond.selects RX9 yX9_kindOf yX9_kindOf ∈ BIG := bgS 71 (by decide +kernel) rfl
set_option maxRecDepth 20000 in
theorem q6_87 : Cond.code yX9_body cX9_body 2 (some .int) ∈ BIG := bg6 87 rfl rfl
theorem q6_85 : Cond.instanceMethod yX9_body ∈ BIG := bg6 85 (by decide +kernel) rfl
theorem q6_86 : Cond.selects RX9 yX9_body yX9_body ∈ BIG := bg6 86 (by decide +kernel) rfl
set_option maxRecDepth 20000 in
theorem q6_159 : Cond.code yX9_above cX9_above 1 (some .int) ∈ BIG := bg6 159 rfl rfl
theorem q6_158 : Cond.static yX9_above ∈ BIG := bg6 158 (by decide +kernel) rfl
set_option maxRecDepth 20000 in
theorem q6_104 : Cond.code yX9_begins cX9_begins 2 none ∈ BIG := bg6 104 rfl rfl
theorem q6_103 : Cond.instanceMethod yX9_begins ∈ BIG := bg6 103 (by decide +kernel) rfl
theorem qs_66 : Cond.selects RX9 yX9_begins yX9_begins ∈ BIG := bgS 66 (by decide +kernel) rfl
set_option maxRecDepth 20000 in
theorem q6_100 : Cond.code yX9_goesAs cX9_goesAs 3 (some .int) ∈ BIG := bg6 100 rfl rfl
theorem q6_99 : Cond.instanceMethod yX9_goesAs ∈ BIG := bg6 99 (by decide +kernel) rfl
theorem qs_65 : Cond.selects RX9 yX9_goesAs yX9_goesAs ∈ BIG := bgS 65 (by decide +kernel) rfl
set_option maxRecDepth 20000 in
theorem q6_108 : Cond.code yX9_waitsAs cX9_waitsAs 4 (some .int) ∈ BIG := bg6 108 rfl rfl
theorem q6_107 : Cond.instanceMethod yX9_waitsAs ∈ BIG := bg6 107 (by decide +kernel) rfl
theorem qs_67 : Cond.selects RX9 yX9_waitsAs yX9_waitsAs ∈ BIG := bgS 67 (by decide +kernel) rfl
set_option maxRecDepth 20000 in
theorem q6_112 : Cond.code yX9_wetsAs cX9_wetsAs 4 (some .int) ∈ BIG := bg6 112 rfl rfl
theorem q6_111 : Cond.instanceMethod yX9_wetsAs ∈ BIG := bg6 111 (by decide +kernel) rfl
theorem qs_68 : Cond.selects RX9 yX9_wetsAs yX9_wetsAs ∈ BIG := bgS 68 (by decide +kernel) rfl
set_option maxRecDepth 20000 in
theorem q6_116 : Cond.code yX9_tellsAs cX9_tellsAs 4 (some .int) ∈ BIG := bg6 116 rfl rfl
theorem q6_115 : Cond.instanceMethod yX9_tellsAs ∈ BIG := bg6 115 (by decide +kernel) rfl
theorem qs_69 : Cond.selects RX9 yX9_tellsAs yX9_tellsAs ∈ BIG := bgS 69 (by decide +kernel) rfl
set_option maxRecDepth 20000 in
theorem q6_92 : Cond.code yX9_act cX9_act 4 (some .int) ∈ BIG := bg6 92 rfl rfl
theorem q6_90 : Cond.instanceMethod yX9_act ∈ BIG := bg6 90 (by decide +kernel) rfl
theorem q6_91 : Cond.selects RX9 yX9_act yX9_act ∈ BIG := bg6 91 (by decide +kernel) rfl
set_option maxRecDepth 20000 in
theorem q6_120 : Cond.code yX9_trace cX9_trace 2 (some .int) ∈ BIG := bg6 120 rfl rfl
theorem q6_118 : Cond.instanceMethod yX9_trace ∈ BIG := bg6 118 (by decide +kernel) rfl
theorem q6_119 : Cond.selects RX9 yX9_trace yX9_trace ∈ BIG := bg6 119 (by decide +kernel) rfl
set_option maxRecDepth 20000 in
theorem q6_44 : Cond.code yX9_isShelf cX9_isShelf 1 (some .boolean) ∈ BIG := bg6 44 rfl rfl
theorem q6_43 : Cond.static yX9_isShelf ∈ BIG := bg6 43 (by decide +kernel) rfl
set_option maxRecDepth 20000 in
theorem q6_124 : Cond.code yX9_keep cX9_keep 3 (some .int) ∈ BIG := bg6 124 rfl rfl
theorem q6_122 : Cond.instanceMethod yX9_keep ∈ BIG := bg6 122 (by decide +kernel) rfl
theorem q6_123 : Cond.selects RX9 yX9_keep yX9_keep ∈ BIG := bg6 123 (by decide +kernel) rfl
set_option maxRecDepth 20000 in
theorem q6_128 : Cond.code yX9_row cX9_row 5 (some .int) ∈ BIG := bg6 128 rfl rfl
theorem q6_126 : Cond.instanceMethod yX9_row ∈ BIG := bg6 126 (by decide +kernel) rfl
theorem q6_127 : Cond.selects RX9 yX9_row yX9_row ∈ BIG := bg6 127 (by decide +kernel) rfl
set_option maxRecDepth 20000 in
theorem q6_136 : Cond.code yX9_refusal cX9_refusal 3 (some .int) ∈ BIG := bg6 136 rfl rfl
theorem q6_135 : Cond.instanceMethod yX9_refusal ∈ BIG := bg6 135 (by decide +kernel) rfl
theorem qs_70 : Cond.selects RX9 yX9_refusal yX9_refusal ∈ BIG := bgS 70 (by decide +kernel) rfl
set_option maxRecDepth 20000 in
theorem q6_139 : Cond.code yX9_asSort cX9_asSort 3 (some .long) ∈ BIG := bg6 139 rfl rfl
theorem q6_138 : Cond.static yX9_asSort ∈ BIG := bg6 138 (by decide +kernel) rfl
set_option maxRecDepth 20000 in
theorem q6_132 : Cond.code yX9_put cX9_put 6 (some .int) ∈ BIG := bg6 132 rfl rfl
theorem q6_130 : Cond.instanceMethod yX9_put ∈ BIG := bg6 130 (by decide +kernel) rfl
theorem q6_131 : Cond.selects RX9 yX9_put yX9_put ∈ BIG := bg6 131 (by decide +kernel) rfl
set_option maxRecDepth 20000 in
theorem q6_143 : Cond.code yX9_element cX9_element 3 (some .long) ∈ BIG := bg6 143 rfl rfl
theorem q6_141 : Cond.instanceMethod yX9_element ∈ BIG := bg6 141 (by decide +kernel) rfl
theorem q6_142 : Cond.selects RX9 yX9_element yX9_element ∈ BIG := bg6 142 (by decide +kernel) rfl
set_option maxRecDepth 20000 in
theorem q6_148 : Cond.code yX9_shift cX9_shift 7 (some .int) ∈ BIG := bg6 148 rfl rfl
theorem q6_146 : Cond.instanceMethod yX9_shift ∈ BIG := bg6 146 (by decide +kernel) rfl
theorem q6_147 : Cond.selects RX9 yX9_shift yX9_shift ∈ BIG := bg6 147 (by decide +kernel) rfl
set_option maxRecDepth 20000 in
theorem q6_152 : Cond.code yX9_taken cX9_taken 4 (some .int) ∈ BIG := bg6 152 rfl rfl
theorem q6_150 : Cond.instanceMethod yX9_taken ∈ BIG := bg6 150 (by decide +kernel) rfl
theorem q6_151 : Cond.selects RX9 yX9_taken yX9_taken ∈ BIG := bg6 151 (by decide +kernel) rfl
set_option maxRecDepth 20000 in
theorem q6_163 : Cond.code yX9_count cX9_count 2 (some .int) ∈ BIG := bg6 163 rfl rfl
theorem q6_161 : Cond.instanceMethod yX9_count ∈ BIG := bg6 161 (by decide +kernel) rfl
theorem q6_162 : Cond.selects RX9 yX9_count yX9_count ∈ BIG := bg6 162 (by decide +kernel) rfl
set_option maxRecDepth 20000 in
theorem q2_167 : Cond.code yJ9_max_7cf53 cJ9_max_7cf53 2 (some .int) ∈ BIG := bg2 167 rfl rfl
theorem q2_166 : Cond.static yJ9_max_7cf53 ∈ BIG := bg2 166 (by decide +kernel) rfl
theorem q1_12 : Cond.initialized RJ9 ∈ BIG := bg1 12 (by decide +kernel) rfl
set_option maxRecDepth 20000 in
theorem q2_164 : Cond.code yJ9_min_7cf53 cJ9_min_7cf53 2 (some .int) ∈ BIG := bg2 164 rfl rfl
theorem q2_163 : Cond.static yJ9_min_7cf53 ∈ BIG := bg2 163 (by decide +kernel) rfl
set_option maxRecDepth 20000 in
theorem q3_61 : Cond.code yJ7_fill_d0a16 cJ7_fill_d0a16 5 none ∈ BIG := bg3 61 rfl rfl
theorem q3_60 : Cond.static yJ7_fill_d0a16 ∈ BIG := bg3 60 (by decide +kernel) rfl
theorem q1_13 : Cond.initialized RJ7 ∈ BIG := bg1 13 (by decide +kernel) rfl
set_option maxRecDepth 20000 in
theorem q3_19 : Cond.code yJ7_fill_53178 cJ7_fill_53178 4 none ∈ BIG := bg3 19 rfl rfl
theorem q3_18 : Cond.static yJ7_fill_53178 ∈ BIG := bg3 18 (by decide +kernel) rfl
theorem q2_166b : Cond.static Lib.Math.max.name ∈ BIG := bg2 166 (by decide +kernel) rfl
theorem q2_163b : Cond.static Lib.Math.min.name ∈ BIG := bg2 163 (by decide +kernel) rfl
theorem q1_12b : Cond.initialized "java/lang/Math" ∈ BIG := bg1 12 (by decide +kernel) rfl
theorem q1_11 : Cond.initialized "java/lang/System" ∈ BIG := bg1 11 (by decide +kernel) rfl
theorem q2_138 : Cond.native arraycopyName ∈ BIG := bg2 138 (by decide +kernel) rfl
theorem q2_137 : Cond.static arraycopyName ∈ BIG := bg2 137 (by decide +kernel) rfl
set_option maxRecDepth 20000 in
theorem qmaxC : Cond.code Lib.Math.max.name Lib.Math.max.code 2 (some .int) ∈ BIG := bg2 167 (by decide +kernel) rfl
set_option maxRecDepth 20000 in
theorem qminC : Cond.code Lib.Math.min.name Lib.Math.min.code 2 (some .int) ∈ BIG := bg2 164 (by decide +kernel) rfl
theorem inX0 : ∀ w ∈ wsX00, w ∈ BIG := by
  intro w hw
  obtain ⟨k, hk, rfl⟩ := List.mem_map.mp hw
  have hk := List.mem_range.mp hk
  match k, hk with
  | 0, _ => exact bg2 35 (by decide +kernel) rfl
  | 1, _ => exact bg2 37 (by decide +kernel) rfl
  | 2, _ => exact bg2 39 (by decide +kernel) rfl
  | 3, _ => exact bg2 41 (by decide +kernel) rfl
  | 4, _ => exact bg2 43 (by decide +kernel) rfl
  | n + 5, h => exact absurd h (by omega)
theorem inX1 : ∀ w ∈ wsX10, w ∈ BIG := by
  intro w hw
  obtain ⟨k, hk, rfl⟩ := List.mem_map.mp hw
  have hk := List.mem_range.mp hk
  match k, hk with
  | 0, _ => exact bg2 5 (by decide +kernel) rfl
  | 1, _ => exact bg2 7 (by decide +kernel) rfl
  | 2, _ => exact bg2 9 (by decide +kernel) rfl
  | 3, _ => exact bg2 11 (by decide +kernel) rfl
  | 4, _ => exact bg2 13 (by decide +kernel) rfl
  | 5, _ => exact bg2 15 (by decide +kernel) rfl
  | 6, _ => exact bg2 17 (by decide +kernel) rfl
  | n + 7, h => exact absurd h (by omega)
theorem inX2 : ∀ w ∈ wsX20, w ∈ BIG := by
  intro w hw
  obtain ⟨k, hk, rfl⟩ := List.mem_map.mp hw
  have hk := List.mem_range.mp hk
  match k, hk with
  | 0, _ => exact bg1 106 (by decide +kernel) rfl
  | 1, _ => exact bg1 108 (by decide +kernel) rfl
  | 2, _ => exact bg1 110 (by decide +kernel) rfl
  | 3, _ => exact bg1 112 (by decide +kernel) rfl
  | 4, _ => exact bg1 114 (by decide +kernel) rfl
  | 5, _ => exact bg1 116 (by decide +kernel) rfl
  | 6, _ => exact bg1 118 (by decide +kernel) rfl
  | 7, _ => exact bg1 120 (by decide +kernel) rfl
  | 8, _ => exact bg1 122 (by decide +kernel) rfl
  | 9, _ => exact bg1 124 (by decide +kernel) rfl
  | 10, _ => exact bg1 126 (by decide +kernel) rfl
  | 11, _ => exact bg1 128 (by decide +kernel) rfl
  | 12, _ => exact bg1 130 (by decide +kernel) rfl
  | 13, _ => exact bg1 132 (by decide +kernel) rfl
  | 14, _ => exact bg1 134 (by decide +kernel) rfl
  | 15, _ => exact bg1 136 (by decide +kernel) rfl
  | 16, _ => exact bg1 138 (by decide +kernel) rfl
  | 17, _ => exact bg1 140 (by decide +kernel) rfl
  | 18, _ => exact bg1 142 (by decide +kernel) rfl
  | 19, _ => exact bg1 144 (by decide +kernel) rfl
  | n + 20, h => exact absurd h (by omega)
theorem inX3 : ∀ w ∈ wsX30, w ∈ BIG := by
  intro w hw
  obtain ⟨k, hk, rfl⟩ := List.mem_map.mp hw
  have hk := List.mem_range.mp hk
  match k, hk with
  | 0, _ => exact bg1 215 (by decide +kernel) rfl
  | 1, _ => exact bg1 217 (by decide +kernel) rfl
  | 2, _ => exact bg1 219 (by decide +kernel) rfl
  | 3, _ => exact bg1 221 (by decide +kernel) rfl
  | 4, _ => exact bg1 223 (by decide +kernel) rfl
  | 5, _ => exact bg1 225 (by decide +kernel) rfl
  | 6, _ => exact bg1 227 (by decide +kernel) rfl
  | n + 7, h => exact absurd h (by omega)
theorem inX4 : ∀ w ∈ wsX40, w ∈ BIG := by
  intro w hw
  obtain ⟨k, hk, rfl⟩ := List.mem_map.mp hw
  have hk := List.mem_range.mp hk
  match k, hk with
  | 0, _ => exact bg1 159 (by decide +kernel) rfl
  | 1, _ => exact bg1 161 (by decide +kernel) rfl
  | 2, _ => exact bg1 163 (by decide +kernel) rfl
  | 3, _ => exact bg1 165 (by decide +kernel) rfl
  | 4, _ => exact bg1 167 (by decide +kernel) rfl
  | n + 5, h => exact absurd h (by omega)
theorem inX5 : ∀ w ∈ wsX50, w ∈ BIG := by
  intro w hw
  obtain ⟨k, hk, rfl⟩ := List.mem_map.mp hw
  have hk := List.mem_range.mp hk
  match k, hk with
  | 0, _ => exact bg1 183 (by decide +kernel) rfl
  | 1, _ => exact bg1 185 (by decide +kernel) rfl
  | 2, _ => exact bg1 187 (by decide +kernel) rfl
  | 3, _ => exact bg1 189 (by decide +kernel) rfl
  | 4, _ => exact bg1 191 (by decide +kernel) rfl
  | 5, _ => exact bg1 193 (by decide +kernel) rfl
  | 6, _ => exact bg1 195 (by decide +kernel) rfl
  | n + 7, h => exact absurd h (by omega)
theorem inX6 : ∀ w ∈ wsX60, w ∈ BIG := by
  intro w hw
  obtain ⟨k, hk, rfl⟩ := List.mem_map.mp hw
  have hk := List.mem_range.mp hk
  match k, hk with
  | 0, _ => exact bg2 60 (by decide +kernel) rfl
  | 1, _ => exact bg2 62 (by decide +kernel) rfl
  | 2, _ => exact bg2 64 (by decide +kernel) rfl
  | 3, _ => exact bg2 66 (by decide +kernel) rfl
  | n + 4, h => exact absurd h (by omega)
theorem inX7 : ∀ w ∈ wsX70, w ∈ BIG := by
  intro w hw
  obtain ⟨k, hk, rfl⟩ := List.mem_map.mp hw
  have hk := List.mem_range.mp hk
  match k, hk with
  | 0, _ => exact bg1 38 (by decide +kernel) rfl
  | 1, _ => exact bg1 40 (by decide +kernel) rfl
  | 2, _ => exact bg1 42 (by decide +kernel) rfl
  | 3, _ => exact bg1 44 (by decide +kernel) rfl
  | 4, _ => exact bg1 46 (by decide +kernel) rfl
  | 5, _ => exact bg1 48 (by decide +kernel) rfl
  | n + 6, h => exact absurd h (by omega)
theorem inX8 : ∀ w ∈ wsX80, w ∈ BIG := by
  intro w hw
  obtain ⟨k, hk, rfl⟩ := List.mem_map.mp hw
  have hk := List.mem_range.mp hk
  match k, hk with
  | 0, _ => exact bg2 79 (by decide +kernel) rfl
  | 1, _ => exact bg2 81 (by decide +kernel) rfl
  | 2, _ => exact bg2 83 (by decide +kernel) rfl
  | 3, _ => exact bg2 85 (by decide +kernel) rfl
  | 4, _ => exact bg2 87 (by decide +kernel) rfl
  | 5, _ => exact bg2 89 (by decide +kernel) rfl
  | 6, _ => exact bg2 91 (by decide +kernel) rfl
  | 7, _ => exact bg2 93 (by decide +kernel) rfl
  | 8, _ => exact bg2 95 (by decide +kernel) rfl
  | 9, _ => exact bg2 97 (by decide +kernel) rfl
  | n + 10, h => exact absurd h (by omega)
theorem inX9 : ∀ w ∈ wsX90, w ∈ BIG := by
  intro w hw
  obtain ⟨k, hk, rfl⟩ := List.mem_map.mp hw
  have hk := List.mem_range.mp hk
  match k, hk with
  | 0, _ => exact bg4 165 (by decide +kernel) rfl
  | 1, _ => exact bg4 167 (by decide +kernel) rfl
  | 2, _ => exact bg4 169 (by decide +kernel) rfl
  | 3, _ => exact bg4 171 (by decide +kernel) rfl
  | 4, _ => exact bg4 173 (by decide +kernel) rfl
  | 5, _ => exact bg4 175 (by decide +kernel) rfl
  | 6, _ => exact bg4 177 (by decide +kernel) rfl
  | 7, _ => exact bg4 179 (by decide +kernel) rfl
  | 8, _ => exact bg4 181 (by decide +kernel) rfl
  | 9, _ => exact bg4 183 (by decide +kernel) rfl
  | 10, _ => exact bg4 185 (by decide +kernel) rfl
  | 11, _ => exact bg4 187 (by decide +kernel) rfl
  | 12, _ => exact bg4 189 (by decide +kernel) rfl
  | 13, _ => exact bg4 191 (by decide +kernel) rfl
  | 14, _ => exact bg4 193 (by decide +kernel) rfl
  | 15, _ => exact bg4 195 (by decide +kernel) rfl
  | 16, _ => exact bg4 197 (by decide +kernel) rfl
  | 17, _ => exact bg4 199 (by decide +kernel) rfl
  | 18, _ => exact bg4 201 (by decide +kernel) rfl
  | 19, _ => exact bg4 203 (by decide +kernel) rfl
  | 20, _ => exact bg4 205 (by decide +kernel) rfl
  | 21, _ => exact bg4 207 (by decide +kernel) rfl
  | 22, _ => exact bg4 209 (by decide +kernel) rfl
  | 23, _ => exact bg4 211 (by decide +kernel) rfl
  | 24, _ => exact bg4 213 (by decide +kernel) rfl
  | 25, _ => exact bg4 215 (by decide +kernel) rfl
  | 26, _ => exact bg4 217 (by decide +kernel) rfl
  | 27, _ => exact bg4 219 (by decide +kernel) rfl
  | 28, _ => exact bg4 221 (by decide +kernel) rfl
  | 29, _ => exact bg4 223 (by decide +kernel) rfl
  | 30, _ => exact bg4 225 (by decide +kernel) rfl
  | 31, _ => exact bg4 227 (by decide +kernel) rfl
  | 32, _ => exact bg4 229 (by decide +kernel) rfl
  | 33, _ => exact bg4 231 (by decide +kernel) rfl
  | 34, _ => exact bg4 233 (by decide +kernel) rfl
  | 35, _ => exact bg4 235 (by decide +kernel) rfl
  | 36, _ => exact bg4 237 (by decide +kernel) rfl
  | 37, _ => exact bg4 239 (by decide +kernel) rfl
  | 38, _ => exact bg5 1 (by decide +kernel) rfl
  | 39, _ => exact bg5 3 (by decide +kernel) rfl
  | 40, _ => exact bg5 5 (by decide +kernel) rfl
  | 41, _ => exact bg5 7 (by decide +kernel) rfl
  | 42, _ => exact bg5 9 (by decide +kernel) rfl
  | 43, _ => exact bg5 11 (by decide +kernel) rfl
  | 44, _ => exact bg5 13 (by decide +kernel) rfl
  | 45, _ => exact bg5 15 (by decide +kernel) rfl
  | 46, _ => exact bg5 17 (by decide +kernel) rfl
  | 47, _ => exact bg5 19 (by decide +kernel) rfl
  | 48, _ => exact bg5 21 (by decide +kernel) rfl
  | 49, _ => exact bg5 23 (by decide +kernel) rfl
  | 50, _ => exact bg5 25 (by decide +kernel) rfl
  | 51, _ => exact bg5 27 (by decide +kernel) rfl
  | 52, _ => exact bg5 29 (by decide +kernel) rfl
  | 53, _ => exact bg5 31 (by decide +kernel) rfl
  | n + 54, h => exact absurd h (by omega)
