theorem tw_0 : Cond.constantLong RL 9 (347) ∈ TB := tb_3 (i := 6) (by decide +kernel) rfl
theorem tw_1 : Cond.constantLong RL 11 (31) ∈ TB := tb_3 (i := 7) (by decide +kernel) rfl
theorem tw_2 : Cond.methodLink RL 13 yX10_columns ∈ TB := tb_3 (i := 8) (by decide +kernel) rfl
theorem tw_3 : Cond.instanceMethod yX10_columns ∈ TB := tb_3 (i := 9) (by decide +kernel) rfl
theorem tw_4 : Cond.selects RX10 yX10_columns yX10_columns ∈ TB := tb_3 (i := 10) (by decide +kernel) rfl
theorem tw_5 : Cond.initialized RX10 ∈ TB := tb_1 (i := 1) (by decide +kernel) rfl
theorem tw_6 : Cond.code yX10_columns cX10_columns 2 (some .int) ∈ TB := tb_3 (i := 11) (by decide +kernel) rfl
theorem tw_7 : Cond.fieldLink RX10 10 "ProvenanceTables" "state" "LProvenanceTables$State;" ∈ TB := tb_1 (i := 204) (by decide +kernel) rfl
theorem tw_8 : Cond.methodLink RX10 69 yX10_isTable ∈ TB := tb_3 (i := 12) (by decide +kernel) rfl
theorem tw_9 : Cond.static yX10_isTable ∈ TB := tb_2 (i := 144) (by decide +kernel) rfl
theorem tw_10 : Cond.code yX10_isTable cX10_isTable 1 (some .boolean) ∈ TB := tb_2 (i := 145) (by decide +kernel) rfl
theorem tw_11 : Cond.methodLink RX10 79 yX8_widthOf ∈ TB := tb_3 (i := 13) (by decide +kernel) rfl
theorem tw_12 : Cond.instanceMethod yX8_widthOf ∈ TB := tb_2 (i := 140) (by decide +kernel) rfl
theorem tw_13 : Cond.selects RX8 yX8_widthOf yX8_widthOf ∈ TB := tb_2 (i := 141) (by decide +kernel) rfl
theorem tw_14 : Cond.initialized RX8 ∈ TB := tb_1 (i := 2) (by decide +kernel) rfl
theorem tw_15 : Cond.code yX8_widthOf cX8_widthOf 2 (some .int) ∈ TB := tb_2 (i := 142) (by decide +kernel) rfl
theorem tw_16 : Cond.fieldLink RX8 9 "ProvenanceTables$State" "widths" "[I" ∈ TB := tb_1 (i := 46) (by decide +kernel) rfl
theorem tw_17 : Cond.methodLink RL 19 yX10_tableOf ∈ TB := tb_3 (i := 14) (by decide +kernel) rfl
theorem tw_18 : Cond.instanceMethod yX10_tableOf ∈ TB := tb_3 (i := 15) (by decide +kernel) rfl
theorem tw_19 : Cond.selects RX10 yX10_tableOf yX10_tableOf ∈ TB := tb_3 (i := 16) (by decide +kernel) rfl
theorem tw_20 : Cond.code yX10_tableOf cX10_tableOf 2 (some .int) ∈ TB := tb_3 (i := 17) (by decide +kernel) rfl
theorem tw_21 : Cond.methodLink RX10 119 yX8_hasTag ∈ TB := tb_3 (i := 18) (by decide +kernel) rfl
theorem tw_22 : Cond.instanceMethod yX8_hasTag ∈ TB := tb_2 (i := 151) (by decide +kernel) rfl
theorem tw_23 : Cond.selects RX8 yX8_hasTag yX8_hasTag ∈ TB := tb_2 (i := 152) (by decide +kernel) rfl
theorem tw_24 : Cond.code yX8_hasTag cX8_hasTag 2 (some .boolean) ∈ TB := tb_2 (i := 153) (by decide +kernel) rfl
theorem tw_25 : Cond.fieldLink RX8 44 "ProvenanceTables$State" "tagMask" "I" ∈ TB := tb_1 (i := 52) (by decide +kernel) rfl
theorem tw_26 : Cond.methodLink RX10 196 yX8_tableAt ∈ TB := tb_3 (i := 19) (by decide +kernel) rfl
theorem tw_27 : Cond.instanceMethod yX8_tableAt ∈ TB := tb_2 (i := 147) (by decide +kernel) rfl
theorem tw_28 : Cond.selects RX8 yX8_tableAt yX8_tableAt ∈ TB := tb_2 (i := 148) (by decide +kernel) rfl
theorem tw_29 : Cond.code yX8_tableAt cX8_tableAt 2 (some .int) ∈ TB := tb_2 (i := 149) (by decide +kernel) rfl
theorem tw_30 : Cond.fieldLink RX8 15 "ProvenanceTables$State" "tables" "[I" ∈ TB := tb_1 (i := 47) (by decide +kernel) rfl
theorem tw_31 : Cond.methodLink RX8 51 yX8_hasTag ∈ TB := tb_2 (i := 150) (by decide +kernel) rfl
theorem tw_32 : Cond.methodLink RL 22 yX10_cost ∈ TB := tb_3 (i := 20) (by decide +kernel) rfl
theorem tw_33 : Cond.instanceMethod yX10_cost ∈ TB := tb_3 (i := 21) (by decide +kernel) rfl
theorem tw_34 : Cond.selects RX10 yX10_cost yX10_cost ∈ TB := tb_3 (i := 22) (by decide +kernel) rfl
theorem tw_35 : Cond.code yX10_cost cX10_cost 2 (some .int) ∈ TB := tb_3 (i := 23) (by decide +kernel) rfl
theorem tw_36 : Cond.methodLink RX10 136 yX8_costOf ∈ TB := tb_3 (i := 24) (by decide +kernel) rfl
theorem tw_37 : Cond.instanceMethod yX8_costOf ∈ TB := tb_3 (i := 25) (by decide +kernel) rfl
theorem tw_38 : Cond.selects RX8 yX8_costOf yX8_costOf ∈ TB := tb_3 (i := 26) (by decide +kernel) rfl
theorem tw_39 : Cond.code yX8_costOf cX8_costOf 2 (some .int) ∈ TB := tb_3 (i := 27) (by decide +kernel) rfl
theorem tw_40 : Cond.fieldLink RX8 21 "ProvenanceTables$State" "costs" "[I" ∈ TB := tb_1 (i := 49) (by decide +kernel) rfl
theorem tw_41 : Cond.methodLink RL 25 yX10_trust ∈ TB := tb_3 (i := 28) (by decide +kernel) rfl
theorem tw_42 : Cond.instanceMethod yX10_trust ∈ TB := tb_3 (i := 29) (by decide +kernel) rfl
theorem tw_43 : Cond.selects RX10 yX10_trust yX10_trust ∈ TB := tb_3 (i := 30) (by decide +kernel) rfl
theorem tw_44 : Cond.code yX10_trust cX10_trust 2 (some .int) ∈ TB := tb_3 (i := 31) (by decide +kernel) rfl
theorem tw_45 : Cond.methodLink RX10 142 yX8_trustOf ∈ TB := tb_3 (i := 32) (by decide +kernel) rfl
theorem tw_46 : Cond.instanceMethod yX8_trustOf ∈ TB := tb_3 (i := 33) (by decide +kernel) rfl
theorem tw_47 : Cond.selects RX8 yX8_trustOf yX8_trustOf ∈ TB := tb_3 (i := 34) (by decide +kernel) rfl
theorem tw_48 : Cond.code yX8_trustOf cX8_trustOf 2 (some .int) ∈ TB := tb_3 (i := 35) (by decide +kernel) rfl
theorem tw_49 : Cond.fieldLink RX8 24 "ProvenanceTables$State" "trusts" "[I" ∈ TB := tb_1 (i := 50) (by decide +kernel) rfl
theorem tw_50 : Cond.methodLink RL 28 yX10_value ∈ TB := tb_3 (i := 36) (by decide +kernel) rfl
theorem tw_51 : Cond.instanceMethod yX10_value ∈ TB := tb_3 (i := 37) (by decide +kernel) rfl
theorem tw_52 : Cond.selects RX10 yX10_value yX10_value ∈ TB := tb_3 (i := 38) (by decide +kernel) rfl
theorem tw_53 : Cond.code yX10_value cX10_value 4 (some .int) ∈ TB := tb_3 (i := 39) (by decide +kernel) rfl
theorem tw_54 : Cond.methodLink RX10 199 yX8_keyOf ∈ TB := tb_3 (i := 40) (by decide +kernel) rfl
theorem tw_55 : Cond.instanceMethod yX8_keyOf ∈ TB := tb_2 (i := 155) (by decide +kernel) rfl
theorem tw_56 : Cond.selects RX8 yX8_keyOf yX8_keyOf ∈ TB := tb_2 (i := 156) (by decide +kernel) rfl
theorem tw_57 : Cond.code yX8_keyOf cX8_keyOf 2 (some .int) ∈ TB := tb_2 (i := 157) (by decide +kernel) rfl
theorem tw_58 : Cond.fieldLink RX8 18 "ProvenanceTables$State" "keys" "[I" ∈ TB := tb_1 (i := 48) (by decide +kernel) rfl
theorem tw_59 : Cond.methodLink RX10 202 yX2_digit ∈ TB := tb_3 (i := 41) (by decide +kernel) rfl
theorem tw_60 : Cond.static yX2_digit ∈ TB := tb_2 (i := 195) (by decide +kernel) rfl
theorem tw_61 : Cond.initialized RX2 ∈ TB := tb_1 (i := 12) (by decide +kernel) rfl
theorem tw_62 : Cond.code yX2_digit cX2_digit 3 (some .int) ∈ TB := tb_2 (i := 196) (by decide +kernel) rfl
theorem tw_63 : Cond.methodLink RL 32 yX10_withdrawn ∈ TB := tb_3 (i := 42) (by decide +kernel) rfl
theorem tw_64 : Cond.instanceMethod yX10_withdrawn ∈ TB := tb_3 (i := 43) (by decide +kernel) rfl
theorem tw_65 : Cond.selects RX10 yX10_withdrawn yX10_withdrawn ∈ TB := tb_3 (i := 44) (by decide +kernel) rfl
theorem tw_66 : Cond.code yX10_withdrawn cX10_withdrawn 1 (some .int) ∈ TB := tb_3 (i := 45) (by decide +kernel) rfl
theorem tw_67 : Cond.methodLink RX10 193 yX8_withdrawnMask ∈ TB := tb_3 (i := 46) (by decide +kernel) rfl
theorem tw_68 : Cond.instanceMethod yX8_withdrawnMask ∈ TB := tb_3 (i := 47) (by decide +kernel) rfl
theorem tw_69 : Cond.selects RX8 yX8_withdrawnMask yX8_withdrawnMask ∈ TB := tb_3 (i := 48) (by decide +kernel) rfl
theorem tw_70 : Cond.code yX8_withdrawnMask cX8_withdrawnMask 1 (some .int) ∈ TB := tb_3 (i := 49) (by decide +kernel) rfl
theorem tw_71 : Cond.fieldLink RX8 48 "ProvenanceTables$State" "withdrawnMask" "I" ∈ TB := tb_1 (i := 53) (by decide +kernel) rfl
theorem tw_72 : Cond.methodLink RL 36 yX10_queryLength ∈ TB := tb_3 (i := 50) (by decide +kernel) rfl
theorem tw_73 : Cond.instanceMethod yX10_queryLength ∈ TB := tb_3 (i := 51) (by decide +kernel) rfl
theorem tw_74 : Cond.selects RX10 yX10_queryLength yX10_queryLength ∈ TB := tb_3 (i := 52) (by decide +kernel) rfl
theorem tw_75 : Cond.code yX10_queryLength cX10_queryLength 1 (some .int) ∈ TB := tb_3 (i := 53) (by decide +kernel) rfl
theorem tw_76 : Cond.methodLink RX10 163 yX8_queryLine ∈ TB := tb_2 (i := 30) (by decide +kernel) rfl
theorem tw_77 : Cond.instanceMethod yX8_queryLine ∈ TB := tb_2 (i := 31) (by decide +kernel) rfl
theorem tw_78 : Cond.selects RX8 yX8_queryLine yX8_queryLine ∈ TB := tb_2 (i := 32) (by decide +kernel) rfl
theorem tw_79 : Cond.code yX8_queryLine cX8_queryLine 1 (some (.object "ProvenanceTables$Line")) ∈ TB := tb_2 (i := 33) (by decide +kernel) rfl
theorem tw_80 : Cond.fieldLink RX8 32 "ProvenanceTables$State" "queryLine" "LProvenanceTables$Line;" ∈ TB := tb_1 (i := 51) (by decide +kernel) rfl
theorem tw_81 : Cond.methodLink RX10 173 yX3_length ∈ TB := tb_3 (i := 54) (by decide +kernel) rfl
theorem tw_82 : Cond.instanceMethod yX3_length ∈ TB := tb_2 (i := 19) (by decide +kernel) rfl
theorem tw_83 : Cond.selects RX3 yX3_length yX3_length ∈ TB := tb_2 (i := 20) (by decide +kernel) rfl
theorem tw_84 : Cond.initialized RX3 ∈ TB := tb_1 (i := 3) (by decide +kernel) rfl
theorem tw_85 : Cond.code yX3_length cX3_length 1 (some .int) ∈ TB := tb_2 (i := 21) (by decide +kernel) rfl
theorem tw_86 : Cond.fieldLink RX3 21 "ProvenanceTables$Line" "length" "I" ∈ TB := tb_1 (i := 38) (by decide +kernel) rfl
theorem tw_87 : Cond.methodLink RL 39 yX10_queryAt ∈ TB := tb_3 (i := 55) (by decide +kernel) rfl
theorem tw_88 : Cond.instanceMethod yX10_queryAt ∈ TB := tb_3 (i := 56) (by decide +kernel) rfl
theorem tw_89 : Cond.selects RX10 yX10_queryAt yX10_queryAt ∈ TB := tb_3 (i := 57) (by decide +kernel) rfl
theorem tw_90 : Cond.code yX10_queryAt cX10_queryAt 2 (some .int) ∈ TB := tb_3 (i := 58) (by decide +kernel) rfl
theorem tw_91 : Cond.methodLink RX10 206 yX3_codeAt ∈ TB := tb_3 (i := 59) (by decide +kernel) rfl
theorem tw_92 : Cond.instanceMethod yX3_codeAt ∈ TB := tb_2 (i := 23) (by decide +kernel) rfl
theorem tw_93 : Cond.selects RX3 yX3_codeAt yX3_codeAt ∈ TB := tb_2 (i := 24) (by decide +kernel) rfl
theorem tw_94 : Cond.code yX3_codeAt cX3_codeAt 2 (some .int) ∈ TB := tb_2 (i := 25) (by decide +kernel) rfl
theorem tw_95 : Cond.fieldLink RX3 15 "ProvenanceTables$Line" "signs" "[C" ∈ TB := tb_1 (i := 37) (by decide +kernel) rfl
theorem tw_96 : Cond.methodLink RL 42 yX10_answerRows ∈ TB := tb_3 (i := 60) (by decide +kernel) rfl
theorem tw_97 : Cond.instanceMethod yX10_answerRows ∈ TB := tb_3 (i := 61) (by decide +kernel) rfl
theorem tw_98 : Cond.selects RX10 yX10_answerRows yX10_answerRows ∈ TB := tb_3 (i := 62) (by decide +kernel) rfl
theorem tw_99 : Cond.code yX10_answerRows cX10_answerRows 1 (some .int) ∈ TB := tb_3 (i := 63) (by decide +kernel) rfl
theorem tw_100 : Cond.fieldLink RX10 51 "ProvenanceTables" "evaluator" "LProvenanceTables$Evaluator;" ∈ TB := tb_1 (i := 211) (by decide +kernel) rfl
theorem tw_101 : Cond.methodLink RX10 209 yX0_answer ∈ TB := tb_3 (i := 64) (by decide +kernel) rfl
theorem tw_102 : Cond.instanceMethod yX0_answer ∈ TB := tb_3 (i := 65) (by decide +kernel) rfl
theorem tw_103 : Cond.selects RX0 yX0_answer yX0_answer ∈ TB := tb_3 (i := 66) (by decide +kernel) rfl
theorem tw_104 : Cond.initialized RX0 ∈ TB := tb_1 (i := 7) (by decide +kernel) rfl
theorem tw_105 : Cond.code yX0_answer cX0_answer 1 (some (.object "ProvenanceTables$Relation")) ∈ TB := tb_3 (i := 67) (by decide +kernel) rfl
theorem tw_106 : Cond.fieldLink RX0 22 "ProvenanceTables$Evaluator" "answer" "LProvenanceTables$Relation;" ∈ TB := tb_1 (i := 172) (by decide +kernel) rfl
theorem tw_107 : Cond.methodLink RX10 213 yX7_size ∈ TB := tb_3 (i := 68) (by decide +kernel) rfl
theorem tw_108 : Cond.instanceMethod yX7_size ∈ TB := tb_2 (i := 183) (by decide +kernel) rfl
theorem tw_109 : Cond.selects RX7 yX7_size yX7_size ∈ TB := tb_2 (i := 184) (by decide +kernel) rfl
theorem tw_110 : Cond.initialized RX7 ∈ TB := tb_1 (i := 8) (by decide +kernel) rfl
theorem tw_111 : Cond.code yX7_size cX7_size 1 (some .int) ∈ TB := tb_2 (i := 185) (by decide +kernel) rfl
theorem tw_112 : Cond.fieldLink RX7 26 "ProvenanceTables$Relation" "size" "I" ∈ TB := tb_1 (i := 160) (by decide +kernel) rfl
theorem tw_113 : Cond.methodLink RL 45 yX10_answerColumns ∈ TB := tb_3 (i := 69) (by decide +kernel) rfl
theorem tw_114 : Cond.instanceMethod yX10_answerColumns ∈ TB := tb_3 (i := 70) (by decide +kernel) rfl
theorem tw_115 : Cond.selects RX10 yX10_answerColumns yX10_answerColumns ∈ TB := tb_3 (i := 71) (by decide +kernel) rfl
theorem tw_116 : Cond.code yX10_answerColumns cX10_answerColumns 1 (some .int) ∈ TB := tb_3 (i := 72) (by decide +kernel) rfl
theorem tw_117 : Cond.methodLink RX10 216 yX7_width ∈ TB := tb_3 (i := 73) (by decide +kernel) rfl
theorem tw_118 : Cond.instanceMethod yX7_width ∈ TB := tb_2 (i := 179) (by decide +kernel) rfl
theorem tw_119 : Cond.selects RX7 yX7_width yX7_width ∈ TB := tb_2 (i := 180) (by decide +kernel) rfl
theorem tw_120 : Cond.code yX7_width cX7_width 1 (some .int) ∈ TB := tb_2 (i := 181) (by decide +kernel) rfl
theorem tw_121 : Cond.fieldLink RX7 22 "ProvenanceTables$Relation" "width" "I" ∈ TB := tb_1 (i := 159) (by decide +kernel) rfl
theorem tw_122 : Cond.methodLink RL 48 yX10_answerValue ∈ TB := tb_3 (i := 74) (by decide +kernel) rfl
theorem tw_123 : Cond.instanceMethod yX10_answerValue ∈ TB := tb_3 (i := 75) (by decide +kernel) rfl
theorem tw_124 : Cond.selects RX10 yX10_answerValue yX10_answerValue ∈ TB := tb_3 (i := 76) (by decide +kernel) rfl
theorem tw_125 : Cond.code yX10_answerValue cX10_answerValue 4 (some .int) ∈ TB := tb_3 (i := 77) (by decide +kernel) rfl
theorem tw_126 : Cond.methodLink RX10 219 yX7_hasRow ∈ TB := tb_3 (i := 78) (by decide +kernel) rfl
theorem tw_127 : Cond.instanceMethod yX7_hasRow ∈ TB := tb_2 (i := 191) (by decide +kernel) rfl
theorem tw_128 : Cond.selects RX7 yX7_hasRow yX7_hasRow ∈ TB := tb_2 (i := 192) (by decide +kernel) rfl
theorem tw_129 : Cond.code yX7_hasRow cX7_hasRow 2 (some .boolean) ∈ TB := tb_2 (i := 193) (by decide +kernel) rfl
theorem tw_130 : Cond.methodLink RX10 222 yX7_keyAt ∈ TB := tb_3 (i := 79) (by decide +kernel) rfl
theorem tw_131 : Cond.instanceMethod yX7_keyAt ∈ TB := tb_2 (i := 187) (by decide +kernel) rfl
theorem tw_132 : Cond.selects RX7 yX7_keyAt yX7_keyAt ∈ TB := tb_2 (i := 188) (by decide +kernel) rfl
theorem tw_133 : Cond.code yX7_keyAt cX7_keyAt 2 (some .int) ∈ TB := tb_2 (i := 189) (by decide +kernel) rfl
theorem tw_134 : Cond.fieldLink RX7 9 "ProvenanceTables$Relation" "keys" "[I" ∈ TB := tb_1 (i := 157) (by decide +kernel) rfl
theorem tw_135 : Cond.methodLink RX7 29 yX7_hasRow ∈ TB := tb_2 (i := 190) (by decide +kernel) rfl
theorem tw_136 : Cond.methodLink RL 51 yX10_lineage ∈ TB := tb_3 (i := 80) (by decide +kernel) rfl
theorem tw_137 : Cond.instanceMethod yX10_lineage ∈ TB := tb_3 (i := 81) (by decide +kernel) rfl
theorem tw_138 : Cond.selects RX10 yX10_lineage yX10_lineage ∈ TB := tb_3 (i := 82) (by decide +kernel) rfl
theorem tw_139 : Cond.code yX10_lineage cX10_lineage 3 (some .int) ∈ TB := tb_3 (i := 83) (by decide +kernel) rfl
theorem tw_140 : Cond.methodLink RX10 225 yX7_polynomialAt ∈ TB := tb_3 (i := 84) (by decide +kernel) rfl
theorem tw_141 : Cond.instanceMethod yX7_polynomialAt ∈ TB := tb_2 (i := 202) (by decide +kernel) rfl
theorem tw_142 : Cond.selects RX7 yX7_polynomialAt yX7_polynomialAt ∈ TB := tb_2 (i := 203) (by decide +kernel) rfl
theorem tw_143 : Cond.code yX7_polynomialAt cX7_polynomialAt 2 (some (.object "ProvenanceTables$Polynomial")) ∈ TB := tb_2 (i := 204) (by decide +kernel) rfl
theorem tw_144 : Cond.fieldLink RX7 17 "ProvenanceTables$Relation" "polynomials" "[LProvenanceTables$Polynomial;" ∈ TB := tb_1 (i := 158) (by decide +kernel) rfl
theorem tw_145 : Cond.methodLink RX10 257 yX5_allTags ∈ TB := tb_3 (i := 85) (by decide +kernel) rfl
theorem tw_146 : Cond.instanceMethod yX5_allTags ∈ TB := tb_3 (i := 86) (by decide +kernel) rfl
theorem tw_147 : Cond.selects RX5 yX5_allTags yX5_allTags ∈ TB := tb_3 (i := 87) (by decide +kernel) rfl
theorem tw_148 : Cond.initialized RX5 ∈ TB := tb_1 (i := 9) (by decide +kernel) rfl
theorem tw_149 : Cond.code yX5_allTags cX5_allTags 4 (some .int) ∈ TB := tb_3 (i := 88) (by decide +kernel) rfl
theorem tw_150 : Cond.fieldLink RX5 18 "ProvenanceTables$Polynomial" "size" "I" ∈ TB := tb_1 (i := 148) (by decide +kernel) rfl
theorem tw_151 : Cond.methodLink RX5 34 yX5_monomialAt ∈ TB := tb_3 (i := 89) (by decide +kernel) rfl
theorem tw_152 : Cond.instanceMethod yX5_monomialAt ∈ TB := tb_3 (i := 90) (by decide +kernel) rfl
theorem tw_153 : Cond.selects RX5 yX5_monomialAt yX5_monomialAt ∈ TB := tb_3 (i := 91) (by decide +kernel) rfl
theorem tw_154 : Cond.code yX5_monomialAt cX5_monomialAt 2 (some .long) ∈ TB := tb_3 (i := 92) (by decide +kernel) rfl
theorem tw_155 : Cond.fieldLink RX5 9 "ProvenanceTables$Polynomial" "monomials" "[J" ∈ TB := tb_1 (i := 146) (by decide +kernel) rfl
theorem tw_156 : Cond.methodLink RX5 22 yX5_hasTerm ∈ TB := tb_3 (i := 93) (by decide +kernel) rfl
theorem tw_157 : Cond.instanceMethod yX5_hasTerm ∈ TB := tb_3 (i := 94) (by decide +kernel) rfl
theorem tw_158 : Cond.selects RX5 yX5_hasTerm yX5_hasTerm ∈ TB := tb_3 (i := 95) (by decide +kernel) rfl
theorem tw_159 : Cond.code yX5_hasTerm cX5_hasTerm 2 (some .boolean) ∈ TB := tb_3 (i := 96) (by decide +kernel) rfl
theorem tw_160 : Cond.methodLink RX5 38 yX4_tagSet ∈ TB := tb_3 (i := 97) (by decide +kernel) rfl
theorem tw_161 : Cond.static yX4_tagSet ∈ TB := tb_3 (i := 98) (by decide +kernel) rfl
theorem tw_162 : Cond.initialized RX4 ∈ TB := tb_1 (i := 11) (by decide +kernel) rfl
theorem tw_163 : Cond.code yX4_tagSet cX4_tagSet 4 (some .int) ∈ TB := tb_3 (i := 99) (by decide +kernel) rfl
theorem tw_164 : Cond.methodLink RX4 13 yX4_power ∈ TB := tb_3 (i := 100) (by decide +kernel) rfl
theorem tw_165 : Cond.static yX4_power ∈ TB := tb_3 (i := 101) (by decide +kernel) rfl
theorem tw_166 : Cond.code yX4_power cX4_power 3 (some .int) ∈ TB := tb_3 (i := 102) (by decide +kernel) rfl
theorem tw_167 : Cond.methodLink RL 54 yX10_derivations ∈ TB := tb_3 (i := 103) (by decide +kernel) rfl
theorem tw_168 : Cond.instanceMethod yX10_derivations ∈ TB := tb_3 (i := 104) (by decide +kernel) rfl
theorem tw_169 : Cond.selects RX10 yX10_derivations yX10_derivations ∈ TB := tb_3 (i := 105) (by decide +kernel) rfl
theorem tw_170 : Cond.code yX10_derivations cX10_derivations 5 (some .long) ∈ TB := tb_3 (i := 106) (by decide +kernel) rfl
theorem tw_171 : Cond.constantLong RX10 237 (-1) ∈ TB := tb_3 (i := 128) (by decide +kernel) rfl
theorem tw_172 : Cond.fieldLink RX10 58 "ProvenanceTables" "shown" "LProvenanceTables$Polynomial;" ∈ TB := tb_1 (i := 212) (by decide +kernel) rfl
theorem tw_173 : Cond.methodLink RX10 260 yX10_showAvailable ∈ TB := tb_3 (i := 107) (by decide +kernel) rfl
theorem tw_174 : Cond.instanceMethod yX10_showAvailable ∈ TB := tb_3 (i := 109) (by decide +kernel) rfl
theorem tw_175 : Cond.selects RX10 yX10_showAvailable yX10_showAvailable ∈ TB := tb_p (q := (yX10_showAvailable, 10)) (List.mem_of_getElem? (i := 21) (by decide +kernel))
theorem tw_176 : Cond.code yX10_showAvailable cX10_showAvailable 3 (some .boolean) ∈ TB := tb_3 (i := 110) (by decide +kernel) rfl
theorem tw_177 : Cond.methodLink RX10 303 yX5_setToAvailable ∈ TB := tb_3 (i := 111) (by decide +kernel) rfl
theorem tw_178 : Cond.instanceMethod yX5_setToAvailable ∈ TB := tb_3 (i := 112) (by decide +kernel) rfl
theorem tw_179 : Cond.selects RX5 yX5_setToAvailable yX5_setToAvailable ∈ TB := tb_3 (i := 113) (by decide +kernel) rfl
theorem tw_180 : Cond.code yX5_setToAvailable cX5_setToAvailable 6 none ∈ TB := tb_3 (i := 114) (by decide +kernel) rfl
theorem tw_181 : Cond.methodLink RX5 42 yX4_maskOf ∈ TB := tb_3 (i := 115) (by decide +kernel) rfl
theorem tw_182 : Cond.static yX4_maskOf ∈ TB := tb_3 (i := 116) (by decide +kernel) rfl
theorem tw_183 : Cond.code yX4_maskOf cX4_maskOf 4 (some .long) ∈ TB := tb_3 (i := 117) (by decide +kernel) rfl
theorem tw_184 : Cond.constantLong RX4 17 (15) ∈ TB := tb_3 (i := 118) (by decide +kernel) rfl
theorem tw_185 : Cond.methodLink RX5 45 yX5_clear ∈ TB := tb_3 (i := 119) (by decide +kernel) rfl
theorem tw_186 : Cond.instanceMethod yX5_clear ∈ TB := tb_2 (i := 163) (by decide +kernel) rfl
theorem tw_187 : Cond.selects RX5 yX5_clear yX5_clear ∈ TB := tb_2 (i := 164) (by decide +kernel) rfl
theorem tw_188 : Cond.code yX5_clear cX5_clear 1 none ∈ TB := tb_2 (i := 165) (by decide +kernel) rfl
theorem tw_189 : Cond.methodLink RX5 48 yX5_size ∈ TB := tb_3 (i := 120) (by decide +kernel) rfl
theorem tw_190 : Cond.instanceMethod yX5_size ∈ TB := tb_3 (i := 121) (by decide +kernel) rfl
theorem tw_191 : Cond.selects RX5 yX5_size yX5_size ∈ TB := tb_3 (i := 122) (by decide +kernel) rfl
theorem tw_192 : Cond.code yX5_size cX5_size 1 (some .int) ∈ TB := tb_3 (i := 123) (by decide +kernel) rfl
theorem tw_193 : Cond.methodLink RX5 51 yX5_factorAt ∈ TB := tb_3 (i := 124) (by decide +kernel) rfl
theorem tw_194 : Cond.instanceMethod yX5_factorAt ∈ TB := tb_3 (i := 125) (by decide +kernel) rfl
theorem tw_195 : Cond.selects RX5 yX5_factorAt yX5_factorAt ∈ TB := tb_3 (i := 126) (by decide +kernel) rfl
theorem tw_196 : Cond.code yX5_factorAt cX5_factorAt 2 (some .long) ∈ TB := tb_3 (i := 127) (by decide +kernel) rfl
theorem tw_197 : Cond.fieldLink RX5 15 "ProvenanceTables$Polynomial" "factors" "[J" ∈ TB := tb_1 (i := 147) (by decide +kernel) rfl
theorem tw_198 : Cond.methodLink RX5 30 yX5_addTerm ∈ TB := tb_2 (i := 209) (by decide +kernel) rfl
theorem tw_199 : Cond.instanceMethod yX5_addTerm ∈ TB := tb_2 (i := 170) (by decide +kernel) rfl
theorem tw_200 : Cond.selects RX5 yX5_addTerm yX5_addTerm ∈ TB := tb_2 (i := 171) (by decide +kernel) rfl
theorem tw_201 : Cond.code yX5_addTerm cX5_addTerm 9 (some .boolean) ∈ TB := tb_2 (i := 172) (by decide +kernel) rfl
theorem tw_202 : Cond.constantLong RX5 28 (-9223372036854775808) ∈ TB := tb_2 (i := 173) (by decide +kernel) rfl
theorem tw_203 : Cond.methodLink RX10 236 yX5_size ∈ TB := tb_3 (i := 129) (by decide +kernel) rfl
theorem tw_204 : Cond.methodLink RX10 244 yX5_factorAt ∈ TB := tb_3 (i := 130) (by decide +kernel) rfl
