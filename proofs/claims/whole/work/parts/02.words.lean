theorem tw_0 : Cond.classLink RL 7 RX10 ∈ TB := tb_1 (i := 15) (by decide +kernel) rfl
theorem tw_1 : Cond.instantiable RX10 10 ∈ TB := tb_1 (i := 16) (by decide +kernel) rfl
theorem tw_2 : Cond.initialized RX10 ∈ TB := tb_1 (i := 1) (by decide +kernel) rfl
theorem tw_3 : Cond.classLink RL 10 RX11 ∈ TB := tb_4 (i := 182) (by decide +kernel) rfl
theorem tw_4 : Cond.instantiable RX11 32 ∈ TB := tb_4 (i := 183) (by decide +kernel) rfl
theorem tw_5 : Cond.initialized RX11 ∈ TB := tb_1 (i := 11) (by decide +kernel) rfl
theorem tw_6 : Cond.methodLink RL 9 yX10_init ∈ TB := tb_1 (i := 17) (by decide +kernel) rfl
theorem tw_7 : Cond.instanceMethod yX10_init ∈ TB := tb_1 (i := 18) (by decide +kernel) rfl
theorem tw_8 : Cond.code yX10_init cX10_init 1 none ∈ TB := tb_1 (i := 19) (by decide +kernel) rfl
theorem tw_9 : Cond.methodLink RX10 1 objectInit ∈ TB := tb_1 (i := 20) (by decide +kernel) rfl
theorem tw_10 : Cond.instanceMethod objectInit ∈ TB := tb_1 (i := 21) (by decide +kernel) rfl
theorem tw_11 : Cond.code objectInit ⟨#[0xb1]⟩ 1 none ∈ TB := tb_1 (i := 22) (by decide +kernel) rfl
theorem tw_12 : Cond.classLink RX10 7 RX8 ∈ TB := tb_1 (i := 23) (by decide +kernel) rfl
theorem tw_13 : Cond.instantiable RX8 8 ∈ TB := tb_1 (i := 24) (by decide +kernel) rfl
theorem tw_14 : Cond.initialized RX8 ∈ TB := tb_1 (i := 2) (by decide +kernel) rfl
theorem tw_15 : Cond.fieldLink RX10 10 "ProvenanceTables" "state" "LProvenanceTables$State;" ∈ TB := tb_1 (i := 205) (by decide +kernel) rfl
theorem tw_16 : Cond.fieldLink RX10 16 "ProvenanceTables" "trial" "LProvenanceTables$State;" ∈ TB := tb_1 (i := 206) (by decide +kernel) rfl
theorem tw_17 : Cond.classLink RX10 19 RX1 ∈ TB := tb_1 (i := 72) (by decide +kernel) rfl
theorem tw_18 : Cond.instantiable RX1 2 ∈ TB := tb_1 (i := 73) (by decide +kernel) rfl
theorem tw_19 : Cond.initialized RX1 ∈ TB := tb_1 (i := 5) (by decide +kernel) rfl
theorem tw_20 : Cond.fieldLink RX10 22 "ProvenanceTables" "history" "LProvenanceTables$History;" ∈ TB := tb_1 (i := 207) (by decide +kernel) rfl
theorem tw_21 : Cond.classLink RX10 26 RX3 ∈ TB := tb_1 (i := 88) (by decide +kernel) rfl
theorem tw_22 : Cond.instantiable RX3 2 ∈ TB := tb_1 (i := 30) (by decide +kernel) rfl
theorem tw_23 : Cond.initialized RX3 ∈ TB := tb_1 (i := 3) (by decide +kernel) rfl
theorem tw_24 : Cond.fieldLink RX10 31 "ProvenanceTables" "text" "LProvenanceTables$Line;" ∈ TB := tb_1 (i := 208) (by decide +kernel) rfl
theorem tw_25 : Cond.fieldLink RX10 35 "ProvenanceTables" "paper" "LProvenanceTables$Line;" ∈ TB := tb_1 (i := 209) (by decide +kernel) rfl
theorem tw_26 : Cond.classLink RX10 38 RX6 ∈ TB := tb_1 (i := 90) (by decide +kernel) rfl
theorem tw_27 : Cond.instantiable RX6 10 ∈ TB := tb_1 (i := 91) (by decide +kernel) rfl
theorem tw_28 : Cond.initialized RX6 ∈ TB := tb_1 (i := 6) (by decide +kernel) rfl
theorem tw_29 : Cond.fieldLink RX10 41 "ProvenanceTables" "draft" "LProvenanceTables$Query;" ∈ TB := tb_1 (i := 210) (by decide +kernel) rfl
theorem tw_30 : Cond.fieldLink RX10 45 "ProvenanceTables" "current" "LProvenanceTables$Query;" ∈ TB := tb_1 (i := 211) (by decide +kernel) rfl
theorem tw_31 : Cond.classLink RX10 48 RX0 ∈ TB := tb_1 (i := 127) (by decide +kernel) rfl
theorem tw_32 : Cond.instantiable RX0 4 ∈ TB := tb_1 (i := 128) (by decide +kernel) rfl
theorem tw_33 : Cond.initialized RX0 ∈ TB := tb_1 (i := 7) (by decide +kernel) rfl
theorem tw_34 : Cond.fieldLink RX10 51 "ProvenanceTables" "evaluator" "LProvenanceTables$Evaluator;" ∈ TB := tb_1 (i := 212) (by decide +kernel) rfl
theorem tw_35 : Cond.classLink RX10 55 RX5 ∈ TB := tb_1 (i := 184) (by decide +kernel) rfl
theorem tw_36 : Cond.instantiable RX5 3 ∈ TB := tb_1 (i := 142) (by decide +kernel) rfl
theorem tw_37 : Cond.initialized RX5 ∈ TB := tb_1 (i := 9) (by decide +kernel) rfl
theorem tw_38 : Cond.fieldLink RX10 58 "ProvenanceTables" "shown" "LProvenanceTables$Polynomial;" ∈ TB := tb_1 (i := 213) (by decide +kernel) rfl
theorem tw_39 : Cond.classLink RX10 62 RX9 ∈ TB := tb_1 (i := 186) (by decide +kernel) rfl
theorem tw_40 : Cond.instantiable RX9 4 ∈ TB := tb_1 (i := 187) (by decide +kernel) rfl
theorem tw_41 : Cond.initialized RX9 ∈ TB := tb_1 (i := 10) (by decide +kernel) rfl
theorem tw_42 : Cond.fieldLink RX10 65 "ProvenanceTables" "tagSets" "LProvenanceTables$TagSets;" ∈ TB := tb_1 (i := 214) (by decide +kernel) rfl
theorem tw_43 : Cond.methodLink RX10 9 yX8_init ∈ TB := tb_1 (i := 25) (by decide +kernel) rfl
theorem tw_44 : Cond.instanceMethod yX8_init ∈ TB := tb_1 (i := 26) (by decide +kernel) rfl
theorem tw_45 : Cond.code yX8_init cX8_init 2 none ∈ TB := tb_1 (i := 27) (by decide +kernel) rfl
theorem tw_46 : Cond.methodLink RX8 3 objectInit ∈ TB := tb_1 (i := 28) (by decide +kernel) rfl
theorem tw_47 : Cond.arrayClass .int ∈ TB := tb_1 (i := 45) (by decide +kernel) rfl
theorem tw_48 : Cond.fieldLink RX8 9 "ProvenanceTables$State" "widths" "[I" ∈ TB := tb_1 (i := 47) (by decide +kernel) rfl
theorem tw_49 : Cond.fieldLink RX8 15 "ProvenanceTables$State" "tables" "[I" ∈ TB := tb_1 (i := 48) (by decide +kernel) rfl
theorem tw_50 : Cond.fieldLink RX8 18 "ProvenanceTables$State" "keys" "[I" ∈ TB := tb_1 (i := 49) (by decide +kernel) rfl
theorem tw_51 : Cond.fieldLink RX8 21 "ProvenanceTables$State" "costs" "[I" ∈ TB := tb_1 (i := 50) (by decide +kernel) rfl
theorem tw_52 : Cond.fieldLink RX8 24 "ProvenanceTables$State" "trusts" "[I" ∈ TB := tb_1 (i := 51) (by decide +kernel) rfl
theorem tw_53 : Cond.classLink RX8 27 RX3 ∈ TB := tb_1 (i := 29) (by decide +kernel) rfl
theorem tw_54 : Cond.fieldLink RX8 32 "ProvenanceTables$State" "queryLine" "LProvenanceTables$Line;" ∈ TB := tb_1 (i := 52) (by decide +kernel) rfl
theorem tw_55 : Cond.methodLink RX8 29 yX3_init ∈ TB := tb_1 (i := 31) (by decide +kernel) rfl
theorem tw_56 : Cond.instanceMethod yX3_init ∈ TB := tb_1 (i := 32) (by decide +kernel) rfl
theorem tw_57 : Cond.code yX3_init cX3_init 2 none ∈ TB := tb_1 (i := 33) (by decide +kernel) rfl
theorem tw_58 : Cond.methodLink RX3 3 objectInit ∈ TB := tb_1 (i := 34) (by decide +kernel) rfl
theorem tw_59 : Cond.methodLink RX3 9 Lib.Math.max.name ∈ TB := tb_1 (i := 35) (by decide +kernel) rfl
theorem tw_60 : Cond.static Lib.Math.max.name ∈ TB := tb_1 (i := 36) (by decide +kernel) rfl
theorem tw_61 : Cond.initialized "java/lang/Math" ∈ TB := tb_1 (i := 4) (by decide +kernel) rfl
theorem tw_62 : Cond.code Lib.Math.max.name Lib.Math.max.code 2 (some .int) ∈ TB := tb_1 (i := 37) (by decide +kernel) rfl
theorem tw_63 : Cond.arrayClass .char ∈ TB := tb_1 (i := 46) (by decide +kernel) rfl
theorem tw_64 : Cond.fieldLink RX3 15 "ProvenanceTables$Line" "signs" "[C" ∈ TB := tb_1 (i := 38) (by decide +kernel) rfl
theorem tw_65 : Cond.methodLink RX10 21 yX1_init ∈ TB := tb_1 (i := 74) (by decide +kernel) rfl
theorem tw_66 : Cond.instanceMethod yX1_init ∈ TB := tb_1 (i := 75) (by decide +kernel) rfl
theorem tw_67 : Cond.code yX1_init cX1_init 2 none ∈ TB := tb_1 (i := 76) (by decide +kernel) rfl
theorem tw_68 : Cond.methodLink RX1 3 objectInit ∈ TB := tb_1 (i := 77) (by decide +kernel) rfl
theorem tw_69 : Cond.classLink RX1 9 RX8 ∈ TB := tb_1 (i := 78) (by decide +kernel) rfl
theorem tw_70 : Cond.fieldLink RX1 11 "ProvenanceTables$History" "states" "[LProvenanceTables$State;" ∈ TB := tb_1 (i := 81) (by decide +kernel) rfl
theorem tw_71 : Cond.methodLink RX1 17 yX8_init ∈ TB := tb_1 (i := 80) (by decide +kernel) rfl
theorem tw_72 : Cond.methodLink RX10 28 yX3_init ∈ TB := tb_1 (i := 89) (by decide +kernel) rfl
theorem tw_73 : Cond.instanceMethod yX6_init ∈ TB := tb_1 (i := 93) (by decide +kernel) rfl
theorem tw_74 : Cond.code yX6_init cX6_init 1 none ∈ TB := tb_1 (i := 94) (by decide +kernel) rfl
theorem tw_75 : Cond.methodLink RX6 3 objectInit ∈ TB := tb_1 (i := 95) (by decide +kernel) rfl
theorem tw_76 : Cond.fieldLink RX6 9 "ProvenanceTables$Query" "kinds" "[I" ∈ TB := tb_1 (i := 96) (by decide +kernel) rfl
theorem tw_77 : Cond.fieldLink RX6 15 "ProvenanceTables$Query" "firsts" "[I" ∈ TB := tb_1 (i := 97) (by decide +kernel) rfl
theorem tw_78 : Cond.fieldLink RX6 18 "ProvenanceTables$Query" "seconds" "[I" ∈ TB := tb_1 (i := 98) (by decide +kernel) rfl
theorem tw_79 : Cond.fieldLink RX6 21 "ProvenanceTables$Query" "widthStack" "[I" ∈ TB := tb_1 (i := 99) (by decide +kernel) rfl
theorem tw_80 : Cond.fieldLink RX6 24 "ProvenanceTables$Query" "due" "[C" ∈ TB := tb_1 (i := 100) (by decide +kernel) rfl
theorem tw_81 : Cond.methodLink RX10 50 yX0_init ∈ TB := tb_1 (i := 129) (by decide +kernel) rfl
theorem tw_82 : Cond.instanceMethod yX0_init ∈ TB := tb_1 (i := 130) (by decide +kernel) rfl
theorem tw_83 : Cond.code yX0_init cX0_init 2 none ∈ TB := tb_1 (i := 131) (by decide +kernel) rfl
theorem tw_84 : Cond.methodLink RX0 3 objectInit ∈ TB := tb_1 (i := 132) (by decide +kernel) rfl
theorem tw_85 : Cond.classLink RX0 11 RX7 ∈ TB := tb_1 (i := 133) (by decide +kernel) rfl
theorem tw_86 : Cond.fieldLink RX0 13 "ProvenanceTables$Evaluator" "stack" "[LProvenanceTables$Relation;" ∈ TB := tb_1 (i := 171) (by decide +kernel) rfl
theorem tw_87 : Cond.instantiable RX7 4 ∈ TB := tb_1 (i := 135) (by decide +kernel) rfl
theorem tw_88 : Cond.initialized RX7 ∈ TB := tb_1 (i := 8) (by decide +kernel) rfl
theorem tw_89 : Cond.fieldLink RX0 18 "ProvenanceTables$Evaluator" "spare" "LProvenanceTables$Relation;" ∈ TB := tb_1 (i := 172) (by decide +kernel) rfl
theorem tw_90 : Cond.fieldLink RX0 22 "ProvenanceTables$Evaluator" "answer" "LProvenanceTables$Relation;" ∈ TB := tb_1 (i := 173) (by decide +kernel) rfl
theorem tw_91 : Cond.methodLink RX0 17 yX7_init ∈ TB := tb_1 (i := 136) (by decide +kernel) rfl
theorem tw_92 : Cond.instanceMethod yX7_init ∈ TB := tb_1 (i := 137) (by decide +kernel) rfl
theorem tw_93 : Cond.code yX7_init cX7_init 2 none ∈ TB := tb_1 (i := 138) (by decide +kernel) rfl
theorem tw_94 : Cond.methodLink RX7 3 objectInit ∈ TB := tb_1 (i := 139) (by decide +kernel) rfl
theorem tw_95 : Cond.fieldLink RX7 9 "ProvenanceTables$Relation" "keys" "[I" ∈ TB := tb_1 (i := 158) (by decide +kernel) rfl
theorem tw_96 : Cond.classLink RX7 15 RX5 ∈ TB := tb_1 (i := 140) (by decide +kernel) rfl
theorem tw_97 : Cond.fieldLink RX7 17 "ProvenanceTables$Relation" "polynomials" "[LProvenanceTables$Polynomial;" ∈ TB := tb_1 (i := 159) (by decide +kernel) rfl
theorem tw_98 : Cond.instanceMethod yX5_init ∈ TB := tb_1 (i := 144) (by decide +kernel) rfl
theorem tw_99 : Cond.code yX5_init cX5_init 1 none ∈ TB := tb_1 (i := 145) (by decide +kernel) rfl
theorem tw_100 : Cond.methodLink RX5 3 objectInit ∈ TB := tb_1 (i := 146) (by decide +kernel) rfl
theorem tw_101 : Cond.arrayClass .long ∈ TB := tb_1 (i := 157) (by decide +kernel) rfl
theorem tw_102 : Cond.fieldLink RX5 9 "ProvenanceTables$Polynomial" "monomials" "[J" ∈ TB := tb_1 (i := 147) (by decide +kernel) rfl
theorem tw_103 : Cond.fieldLink RX5 15 "ProvenanceTables$Polynomial" "factors" "[J" ∈ TB := tb_1 (i := 148) (by decide +kernel) rfl
theorem tw_104 : Cond.instanceMethod yX9_init ∈ TB := tb_1 (i := 189) (by decide +kernel) rfl
theorem tw_105 : Cond.code yX9_init cX9_init 1 none ∈ TB := tb_1 (i := 190) (by decide +kernel) rfl
theorem tw_106 : Cond.methodLink RX9 3 objectInit ∈ TB := tb_1 (i := 191) (by decide +kernel) rfl
theorem tw_107 : Cond.fieldLink RX9 9 "ProvenanceTables$TagSets" "sets" "[I" ∈ TB := tb_1 (i := 192) (by decide +kernel) rfl
theorem tw_108 : Cond.fieldLink RX9 15 "ProvenanceTables$TagSets" "users" "[I" ∈ TB := tb_1 (i := 193) (by decide +kernel) rfl
theorem tw_109 : Cond.fieldLink RX9 18 "ProvenanceTables$TagSets" "endings" "[I" ∈ TB := tb_1 (i := 194) (by decide +kernel) rfl
theorem tw_110 : Cond.methodLink RL 12 yX11_init ∈ TB := tb_4 (i := 184) (by decide +kernel) rfl
theorem tw_111 : Cond.instanceMethod yX11_init ∈ TB := tb_4 (i := 185) (by decide +kernel) rfl
theorem tw_112 : Cond.code yX11_init cX11_init 2 none ∈ TB := tb_4 (i := 186) (by decide +kernel) rfl
theorem tw_113 : Cond.methodLink RX11 1 objectInit ∈ TB := tb_4 (i := 187) (by decide +kernel) rfl
theorem tw_114 : Cond.fieldLink RX11 7 "ProvenanceTablesModel" "s" "[I" ∈ TB := tb_4 (i := 188) (by decide +kernel) rfl
theorem tw_115 : Cond.fieldLink RX11 13 "ProvenanceTablesModel" "past" "[I" ∈ TB := tb_4 (i := 189) (by decide +kernel) rfl
theorem tw_116 : Cond.fieldLink RX11 16 "ProvenanceTablesModel" "text" "[I" ∈ TB := tb_4 (i := 191) (by decide +kernel) rfl
theorem tw_117 : Cond.fieldLink RX11 19 "ProvenanceTablesModel" "source" "[I" ∈ TB := tb_4 (i := 193) (by decide +kernel) rfl
theorem tw_118 : Cond.fieldLink RX11 22 "ProvenanceTablesModel" "step" "[I" ∈ TB := tb_4 (i := 197) (by decide +kernel) rfl
theorem tw_119 : Cond.fieldLink RX11 25 "ProvenanceTablesModel" "stepA" "[I" ∈ TB := tb_4 (i := 198) (by decide +kernel) rfl
theorem tw_120 : Cond.fieldLink RX11 28 "ProvenanceTablesModel" "stepB" "[I" ∈ TB := tb_4 (i := 199) (by decide +kernel) rfl
theorem tw_121 : Cond.fieldLink RX11 31 "ProvenanceTablesModel" "open" "[I" ∈ TB := tb_4 (i := 201) (by decide +kernel) rfl
theorem tw_122 : Cond.fieldLink RX11 34 "ProvenanceTablesModel" "openA" "[I" ∈ TB := tb_4 (i := 202) (by decide +kernel) rfl
theorem tw_123 : Cond.fieldLink RX11 37 "ProvenanceTablesModel" "openB" "[I" ∈ TB := tb_4 (i := 203) (by decide +kernel) rfl
theorem tw_124 : Cond.fieldLink RX11 40 "ProvenanceTablesModel" "openHas" "[I" ∈ TB := tb_4 (i := 204) (by decide +kernel) rfl
theorem tw_125 : Cond.fieldLink RX11 43 "ProvenanceTablesModel" "columnsOf" "[I" ∈ TB := tb_4 (i := 206) (by decide +kernel) rfl
theorem tw_126 : Cond.fieldLink RX11 46 "ProvenanceTablesModel" "rowsOf" "[I" ∈ TB := tb_4 (i := 207) (by decide +kernel) rfl
theorem tw_127 : Cond.fieldLink RX11 49 "ProvenanceTablesModel" "key" "[I" ∈ TB := tb_4 (i := 208) (by decide +kernel) rfl
theorem tw_128 : Cond.fieldLink RX11 52 "ProvenanceTablesModel" "many" "[I" ∈ TB := tb_4 (i := 209) (by decide +kernel) rfl
theorem tw_129 : Cond.fieldLink RX11 55 "ProvenanceTablesModel" "monomial" "[J" ∈ TB := tb_4 (i := 210) (by decide +kernel) rfl
theorem tw_130 : Cond.fieldLink RX11 59 "ProvenanceTablesModel" "coefficient" "[J" ∈ TB := tb_4 (i := 211) (by decide +kernel) rfl
theorem tw_131 : Cond.arrayClass .boolean ∈ TB := tb_5 (i := 45) (by decide +kernel) rfl
theorem tw_132 : Cond.fieldLink RX11 62 "ProvenanceTablesModel" "wider" "[Z" ∈ TB := tb_4 (i := 215) (by decide +kernel) rfl
theorem tw_133 : Cond.fieldLink RX11 66 "ProvenanceTablesModel" "sets" "[I" ∈ TB := tb_4 (i := 216) (by decide +kernel) rfl
theorem tw_134 : Cond.fieldLink RX11 69 "ProvenanceTablesModel" "printing" "[I" ∈ TB := tb_4 (i := 218) (by decide +kernel) rfl
theorem tw_135 : Cond.methodLink RL 13 yX10_setColumns ∈ TB := tb_1 (i := 236) (by decide +kernel) rfl
theorem tw_136 : Cond.instanceMethod yX10_setColumns ∈ TB := tb_1 (i := 237) (by decide +kernel) rfl
theorem tw_137 : Cond.selects RX10 yX10_setColumns yX10_setColumns ∈ TB := tb_1 (i := 238) (by decide +kernel) rfl
theorem tw_138 : Cond.code yX10_setColumns cX10_setColumns 4 (some .int) ∈ TB := tb_1 (i := 239) (by decide +kernel) rfl
theorem tw_139 : Cond.methodLink RX10 69 yX10_isTable ∈ TB := tb_2 (i := 0) (by decide +kernel) rfl
theorem tw_140 : Cond.static yX10_isTable ∈ TB := tb_2 (i := 1) (by decide +kernel) rfl
theorem tw_141 : Cond.code yX10_isTable cX10_isTable 1 (some .boolean) ∈ TB := tb_2 (i := 2) (by decide +kernel) rfl
theorem tw_142 : Cond.methodLink RX10 73 yX8_hasRowIn ∈ TB := tb_2 (i := 3) (by decide +kernel) rfl
theorem tw_143 : Cond.instanceMethod yX8_hasRowIn ∈ TB := tb_2 (i := 4) (by decide +kernel) rfl
theorem tw_144 : Cond.selects RX8 yX8_hasRowIn yX8_hasRowIn ∈ TB := tb_2 (i := 5) (by decide +kernel) rfl
theorem tw_145 : Cond.code yX8_hasRowIn cX8_hasRowIn 3 (some .boolean) ∈ TB := tb_2 (i := 6) (by decide +kernel) rfl
theorem tw_146 : Cond.methodLink RX8 51 yX8_hasTag ∈ TB := tb_2 (i := 7) (by decide +kernel) rfl
theorem tw_147 : Cond.instanceMethod yX8_hasTag ∈ TB := tb_2 (i := 8) (by decide +kernel) rfl
theorem tw_148 : Cond.selects RX8 yX8_hasTag yX8_hasTag ∈ TB := tb_2 (i := 9) (by decide +kernel) rfl
theorem tw_149 : Cond.code yX8_hasTag cX8_hasTag 2 (some .boolean) ∈ TB := tb_2 (i := 10) (by decide +kernel) rfl
theorem tw_150 : Cond.fieldLink RX8 44 "ProvenanceTables$State" "tagMask" "I" ∈ TB := tb_1 (i := 53) (by decide +kernel) rfl
theorem tw_151 : Cond.methodLink RX10 76 yX8_queryNames ∈ TB := tb_2 (i := 11) (by decide +kernel) rfl
theorem tw_152 : Cond.instanceMethod yX8_queryNames ∈ TB := tb_2 (i := 12) (by decide +kernel) rfl
theorem tw_153 : Cond.selects RX8 yX8_queryNames yX8_queryNames ∈ TB := tb_2 (i := 13) (by decide +kernel) rfl
theorem tw_154 : Cond.code yX8_queryNames cX8_queryNames 2 (some .boolean) ∈ TB := tb_2 (i := 14) (by decide +kernel) rfl
theorem tw_155 : Cond.methodLink RX8 55 yX3_contains ∈ TB := tb_2 (i := 15) (by decide +kernel) rfl
theorem tw_156 : Cond.instanceMethod yX3_contains ∈ TB := tb_2 (i := 16) (by decide +kernel) rfl
theorem tw_157 : Cond.selects RX3 yX3_contains yX3_contains ∈ TB := tb_2 (i := 17) (by decide +kernel) rfl
theorem tw_158 : Cond.code yX3_contains cX3_contains 3 (some .boolean) ∈ TB := tb_2 (i := 18) (by decide +kernel) rfl
theorem tw_159 : Cond.fieldLink RX3 21 "ProvenanceTables$Line" "length" "I" ∈ TB := tb_1 (i := 39) (by decide +kernel) rfl
theorem tw_160 : Cond.methodLink RX3 33 yX3_codeAt ∈ TB := tb_2 (i := 19) (by decide +kernel) rfl
theorem tw_161 : Cond.instanceMethod yX3_codeAt ∈ TB := tb_2 (i := 20) (by decide +kernel) rfl
theorem tw_162 : Cond.selects RX3 yX3_codeAt yX3_codeAt ∈ TB := tb_2 (i := 21) (by decide +kernel) rfl
theorem tw_163 : Cond.code yX3_codeAt cX3_codeAt 2 (some .int) ∈ TB := tb_2 (i := 22) (by decide +kernel) rfl
theorem tw_164 : Cond.methodLink RX10 79 yX8_widthOf ∈ TB := tb_2 (i := 23) (by decide +kernel) rfl
theorem tw_165 : Cond.instanceMethod yX8_widthOf ∈ TB := tb_2 (i := 24) (by decide +kernel) rfl
theorem tw_166 : Cond.selects RX8 yX8_widthOf yX8_widthOf ∈ TB := tb_2 (i := 25) (by decide +kernel) rfl
theorem tw_167 : Cond.code yX8_widthOf cX8_widthOf 2 (some .int) ∈ TB := tb_2 (i := 26) (by decide +kernel) rfl
theorem tw_168 : Cond.methodLink RX10 83 yX1_record ∈ TB := tb_2 (i := 28) (by decide +kernel) rfl
theorem tw_169 : Cond.instanceMethod yX1_record ∈ TB := tb_2 (i := 29) (by decide +kernel) rfl
theorem tw_170 : Cond.selects RX1 yX1_record yX1_record ∈ TB := tb_2 (i := 30) (by decide +kernel) rfl
theorem tw_171 : Cond.code yX1_record cX1_record 3 none ∈ TB := tb_2 (i := 31) (by decide +kernel) rfl
theorem tw_172 : Cond.fieldLink RX1 18 "ProvenanceTables$History" "size" "I" ∈ TB := tb_1 (i := 82) (by decide +kernel) rfl
theorem tw_173 : Cond.methodLink RX1 22 yX1_moveOldestToEnd ∈ TB := tb_2 (i := 32) (by decide +kernel) rfl
theorem tw_174 : Cond.instanceMethod yX1_moveOldestToEnd ∈ TB := tb_2 (i := 34) (by decide +kernel) rfl
theorem tw_175 : Cond.selects RX1 yX1_moveOldestToEnd yX1_moveOldestToEnd ∈ TB := tb_p (q := (yX1_moveOldestToEnd, 2)) (List.mem_of_getElem? (i := 0) (by decide +kernel))
theorem tw_176 : Cond.code yX1_moveOldestToEnd cX1_moveOldestToEnd 3 none ∈ TB := tb_2 (i := 35) (by decide +kernel) rfl
theorem tw_177 : Cond.methodLink RX1 25 yX8_copy ∈ TB := tb_2 (i := 36) (by decide +kernel) rfl
theorem tw_178 : Cond.instanceMethod yX8_copy ∈ TB := tb_2 (i := 37) (by decide +kernel) rfl
theorem tw_179 : Cond.selects RX8 yX8_copy yX8_copy ∈ TB := tb_2 (i := 38) (by decide +kernel) rfl
theorem tw_180 : Cond.code yX8_copy cX8_copy 2 none ∈ TB := tb_2 (i := 39) (by decide +kernel) rfl
theorem tw_181 : Cond.fieldLink RX8 48 "ProvenanceTables$State" "withdrawnMask" "I" ∈ TB := tb_1 (i := 54) (by decide +kernel) rfl
theorem tw_182 : Cond.methodLink RX8 36 yX8_copyNumbers ∈ TB := tb_2 (i := 40) (by decide +kernel) rfl
theorem tw_183 : Cond.static yX8_copyNumbers ∈ TB := tb_2 (i := 41) (by decide +kernel) rfl
theorem tw_184 : Cond.code yX8_copyNumbers cX8_copyNumbers 3 none ∈ TB := tb_2 (i := 42) (by decide +kernel) rfl
theorem tw_185 : Cond.methodLink RX8 40 yX3_copy ∈ TB := tb_2 (i := 43) (by decide +kernel) rfl
theorem tw_186 : Cond.instanceMethod yX3_copy ∈ TB := tb_2 (i := 44) (by decide +kernel) rfl
theorem tw_187 : Cond.selects RX3 yX3_copy yX3_copy ∈ TB := tb_2 (i := 45) (by decide +kernel) rfl
theorem tw_188 : Cond.code yX3_copy cX3_copy 3 none ∈ TB := tb_2 (i := 46) (by decide +kernel) rfl
theorem tw_189 : Cond.methodLink RX3 37 yX3_clear ∈ TB := tb_2 (i := 47) (by decide +kernel) rfl
theorem tw_190 : Cond.instanceMethod yX3_clear ∈ TB := tb_2 (i := 48) (by decide +kernel) rfl
theorem tw_191 : Cond.selects RX3 yX3_clear yX3_clear ∈ TB := tb_2 (i := 49) (by decide +kernel) rfl
theorem tw_192 : Cond.code yX3_clear cX3_clear 1 none ∈ TB := tb_2 (i := 50) (by decide +kernel) rfl
theorem tw_193 : Cond.methodLink RX3 40 yX3_length ∈ TB := tb_2 (i := 51) (by decide +kernel) rfl
theorem tw_194 : Cond.instanceMethod yX3_length ∈ TB := tb_2 (i := 52) (by decide +kernel) rfl
theorem tw_195 : Cond.selects RX3 yX3_length yX3_length ∈ TB := tb_2 (i := 53) (by decide +kernel) rfl
theorem tw_196 : Cond.code yX3_length cX3_length 1 (some .int) ∈ TB := tb_2 (i := 54) (by decide +kernel) rfl
theorem tw_197 : Cond.methodLink RX3 29 yX3_add ∈ TB := tb_2 (i := 55) (by decide +kernel) rfl
theorem tw_198 : Cond.instanceMethod yX3_add ∈ TB := tb_2 (i := 56) (by decide +kernel) rfl
theorem tw_199 : Cond.selects RX3 yX3_add yX3_add ∈ TB := tb_2 (i := 57) (by decide +kernel) rfl
theorem tw_200 : Cond.code yX3_add cX3_add 2 (some .boolean) ∈ TB := tb_2 (i := 58) (by decide +kernel) rfl
theorem tw_201 : Cond.methodLink RX10 87 yX8_setWidth ∈ TB := tb_2 (i := 59) (by decide +kernel) rfl
theorem tw_202 : Cond.instanceMethod yX8_setWidth ∈ TB := tb_2 (i := 60) (by decide +kernel) rfl
theorem tw_203 : Cond.selects RX8 yX8_setWidth yX8_setWidth ∈ TB := tb_2 (i := 61) (by decide +kernel) rfl
theorem tw_204 : Cond.code yX8_setWidth cX8_setWidth 3 none ∈ TB := tb_2 (i := 62) (by decide +kernel) rfl
theorem tw_205 : Cond.methodLink RL 17 yX11_setColumns ∈ TB := tb_5 (i := 46) (by decide +kernel) rfl
theorem tw_206 : Cond.instanceMethod yX11_setColumns ∈ TB := tb_5 (i := 47) (by decide +kernel) rfl
theorem tw_207 : Cond.selects RX11 yX11_setColumns yX11_setColumns ∈ TB := tb_5 (i := 48) (by decide +kernel) rfl
theorem tw_208 : Cond.code yX11_setColumns cX11_setColumns 4 (some .int) ∈ TB := tb_5 (i := 49) (by decide +kernel) rfl
theorem tw_209 : Cond.methodLink RX11 215 yX11_isTable ∈ TB := tb_5 (i := 50) (by decide +kernel) rfl
theorem tw_210 : Cond.static yX11_isTable ∈ TB := tb_5 (i := 51) (by decide +kernel) rfl
theorem tw_211 : Cond.code yX11_isTable cX11_isTable 1 (some .boolean) ∈ TB := tb_5 (i := 52) (by decide +kernel) rfl
theorem tw_212 : Cond.methodLink RX11 80 yX11_in ∈ TB := tb_5 (i := 53) (by decide +kernel) rfl
theorem tw_213 : Cond.static yX11_in ∈ TB := tb_5 (i := 54) (by decide +kernel) rfl
theorem tw_214 : Cond.code yX11_in cX11_in 3 (some .boolean) ∈ TB := tb_5 (i := 55) (by decide +kernel) rfl
theorem tw_215 : Cond.methodLink RX11 218 yX11_hasRows ∈ TB := tb_5 (i := 56) (by decide +kernel) rfl
theorem tw_216 : Cond.instanceMethod yX11_hasRows ∈ TB := tb_5 (i := 58) (by decide +kernel) rfl
theorem tw_217 : Cond.selects RX11 yX11_hasRows yX11_hasRows ∈ TB := tb_p (q := (yX11_hasRows, 32)) (List.mem_of_getElem? (i := 32) (by decide +kernel))
theorem tw_218 : Cond.code yX11_hasRows cX11_hasRows 4 (some .boolean) ∈ TB := tb_5 (i := 59) (by decide +kernel) rfl
theorem tw_219 : Cond.methodLink RX11 84 yX11_of ∈ TB := tb_5 (i := 60) (by decide +kernel) rfl
theorem tw_220 : Cond.instanceMethod yX11_of ∈ TB := tb_5 (i := 62) (by decide +kernel) rfl
theorem tw_221 : Cond.selects RX11 yX11_of yX11_of ∈ TB := tb_p (q := (yX11_of, 32)) (List.mem_of_getElem? (i := 33) (by decide +kernel))
theorem tw_222 : Cond.code yX11_of cX11_of 3 (some .int) ∈ TB := tb_5 (i := 63) (by decide +kernel) rfl
theorem tw_223 : Cond.methodLink RX11 221 yX11_occurs ∈ TB := tb_5 (i := 64) (by decide +kernel) rfl
theorem tw_224 : Cond.instanceMethod yX11_occurs ∈ TB := tb_5 (i := 66) (by decide +kernel) rfl
theorem tw_225 : Cond.selects RX11 yX11_occurs yX11_occurs ∈ TB := tb_p (q := (yX11_occurs, 32)) (List.mem_of_getElem? (i := 34) (by decide +kernel))
theorem tw_226 : Cond.code yX11_occurs cX11_occurs 4 (some .boolean) ∈ TB := tb_5 (i := 67) (by decide +kernel) rfl
theorem tw_227 : Cond.methodLink RX11 224 yX11_records ∈ TB := tb_5 (i := 68) (by decide +kernel) rfl
theorem tw_228 : Cond.instanceMethod yX11_records ∈ TB := tb_5 (i := 70) (by decide +kernel) rfl
theorem tw_229 : Cond.selects RX11 yX11_records yX11_records ∈ TB := tb_p (q := (yX11_records, 32)) (List.mem_of_getElem? (i := 35) (by decide +kernel))
theorem tw_230 : Cond.code yX11_records cX11_records 2 none ∈ TB := tb_5 (i := 71) (by decide +kernel) rfl
theorem tw_231 : Cond.fieldLink RX11 72 "ProvenanceTablesModel" "known" "I" ∈ TB := tb_4 (i := 190) (by decide +kernel) rfl
theorem tw_232 : Cond.fieldLink RX11 76 "ProvenanceTablesModel" "isLaid" "Z" ∈ TB := tb_4 (i := 214) (by decide +kernel) rfl
theorem tw_233 : Cond.methodLink RL 18 yX10_addRow ∈ TB := tb_2 (i := 63) (by decide +kernel) rfl
theorem tw_234 : Cond.instanceMethod yX10_addRow ∈ TB := tb_2 (i := 64) (by decide +kernel) rfl
theorem tw_235 : Cond.selects RX10 yX10_addRow yX10_addRow ∈ TB := tb_2 (i := 65) (by decide +kernel) rfl
theorem tw_236 : Cond.code yX10_addRow cX10_addRow 5 (some .int) ∈ TB := tb_2 (i := 66) (by decide +kernel) rfl
theorem tw_237 : Cond.methodLink RX10 91 yX2_hasMoreDigits ∈ TB := tb_2 (i := 67) (by decide +kernel) rfl
theorem tw_238 : Cond.static yX2_hasMoreDigits ∈ TB := tb_2 (i := 68) (by decide +kernel) rfl
theorem tw_239 : Cond.initialized RX2 ∈ TB := tb_1 (i := 12) (by decide +kernel) rfl
theorem tw_240 : Cond.code yX2_hasMoreDigits cX2_hasMoreDigits 4 (some .boolean) ∈ TB := tb_2 (i := 69) (by decide +kernel) rfl
theorem tw_241 : Cond.methodLink RX10 97 yX8_freeTag ∈ TB := tb_2 (i := 70) (by decide +kernel) rfl
theorem tw_242 : Cond.instanceMethod yX8_freeTag ∈ TB := tb_2 (i := 71) (by decide +kernel) rfl
theorem tw_243 : Cond.selects RX8 yX8_freeTag yX8_freeTag ∈ TB := tb_2 (i := 72) (by decide +kernel) rfl
theorem tw_244 : Cond.code yX8_freeTag cX8_freeTag 2 (some .int) ∈ TB := tb_2 (i := 73) (by decide +kernel) rfl
theorem tw_245 : Cond.methodLink RX10 101 yX8_copy ∈ TB := tb_2 (i := 74) (by decide +kernel) rfl
theorem tw_246 : Cond.methodLink RX10 104 yX2_ofDecimal ∈ TB := tb_2 (i := 75) (by decide +kernel) rfl
theorem tw_247 : Cond.static yX2_ofDecimal ∈ TB := tb_2 (i := 76) (by decide +kernel) rfl
theorem tw_248 : Cond.code yX2_ofDecimal cX2_ofDecimal 5 (some .int) ∈ TB := tb_2 (i := 77) (by decide +kernel) rfl
theorem tw_249 : Cond.methodLink RX10 108 yX8_place ∈ TB := tb_2 (i := 78) (by decide +kernel) rfl
theorem tw_250 : Cond.instanceMethod yX8_place ∈ TB := tb_2 (i := 79) (by decide +kernel) rfl
theorem tw_251 : Cond.selects RX8 yX8_place yX8_place ∈ TB := tb_2 (i := 80) (by decide +kernel) rfl
theorem tw_252 : Cond.code yX8_place cX8_place 4 none ∈ TB := tb_2 (i := 81) (by decide +kernel) rfl
theorem tw_253 : Cond.methodLink RX10 112 yX0_compute ∈ TB := tb_2 (i := 82) (by decide +kernel) rfl
theorem tw_254 : Cond.instanceMethod yX0_compute ∈ TB := tb_2 (i := 83) (by decide +kernel) rfl
theorem tw_255 : Cond.selects RX0 yX0_compute yX0_compute ∈ TB := tb_2 (i := 84) (by decide +kernel) rfl
theorem tw_256 : Cond.code yX0_compute cX0_compute 4 (some .boolean) ∈ TB := tb_2 (i := 85) (by decide +kernel) rfl
theorem tw_257 : Cond.fieldLink RX0 25 "ProvenanceTables$Evaluator" "top" "I" ∈ TB := tb_1 (i := 174) (by decide +kernel) rfl
theorem tw_258 : Cond.methodLink RX0 29 yX6_isWhole ∈ TB := tb_2 (i := 86) (by decide +kernel) rfl
theorem tw_259 : Cond.instanceMethod yX6_isWhole ∈ TB := tb_2 (i := 87) (by decide +kernel) rfl
theorem tw_260 : Cond.selects RX6 yX6_isWhole yX6_isWhole ∈ TB := tb_2 (i := 88) (by decide +kernel) rfl
theorem tw_261 : Cond.code yX6_isWhole cX6_isWhole 1 (some .boolean) ∈ TB := tb_2 (i := 89) (by decide +kernel) rfl
theorem tw_262 : Cond.fieldLink RX6 28 "ProvenanceTables$Query" "isWhole" "Z" ∈ TB := tb_1 (i := 105) (by decide +kernel) rfl
theorem tw_263 : Cond.methodLink RX0 35 yX7_clear ∈ TB := tb_2 (i := 90) (by decide +kernel) rfl
theorem tw_264 : Cond.instanceMethod yX7_clear ∈ TB := tb_2 (i := 91) (by decide +kernel) rfl
theorem tw_265 : Cond.selects RX7 yX7_clear yX7_clear ∈ TB := tb_2 (i := 92) (by decide +kernel) rfl
theorem tw_266 : Cond.code yX7_clear cX7_clear 2 none ∈ TB := tb_2 (i := 93) (by decide +kernel) rfl
theorem tw_267 : Cond.fieldLink RX7 22 "ProvenanceTables$Relation" "width" "I" ∈ TB := tb_1 (i := 160) (by decide +kernel) rfl
theorem tw_268 : Cond.fieldLink RX7 26 "ProvenanceTables$Relation" "size" "I" ∈ TB := tb_1 (i := 161) (by decide +kernel) rfl
theorem tw_269 : Cond.methodLink RX0 39 yX0_pushSpare ∈ TB := tb_2 (i := 94) (by decide +kernel) rfl
theorem tw_270 : Cond.instanceMethod yX0_pushSpare ∈ TB := tb_2 (i := 96) (by decide +kernel) rfl
theorem tw_271 : Cond.selects RX0 yX0_pushSpare yX0_pushSpare ∈ TB := tb_p (q := (yX0_pushSpare, 4)) (List.mem_of_getElem? (i := 1) (by decide +kernel))
theorem tw_272 : Cond.code yX0_pushSpare cX0_pushSpare 4 (some .boolean) ∈ TB := tb_2 (i := 97) (by decide +kernel) rfl
theorem tw_273 : Cond.methodLink RX0 43 yX6_size ∈ TB := tb_2 (i := 98) (by decide +kernel) rfl
theorem tw_274 : Cond.instanceMethod yX6_size ∈ TB := tb_2 (i := 99) (by decide +kernel) rfl
theorem tw_275 : Cond.selects RX6 yX6_size yX6_size ∈ TB := tb_2 (i := 100) (by decide +kernel) rfl
theorem tw_276 : Cond.code yX6_size cX6_size 1 (some .int) ∈ TB := tb_2 (i := 101) (by decide +kernel) rfl
theorem tw_277 : Cond.fieldLink RX6 32 "ProvenanceTables$Query" "size" "I" ∈ TB := tb_1 (i := 102) (by decide +kernel) rfl
theorem tw_278 : Cond.methodLink RX0 47 yX0_computeNode ∈ TB := tb_2 (i := 102) (by decide +kernel) rfl
theorem tw_279 : Cond.instanceMethod yX0_computeNode ∈ TB := tb_2 (i := 104) (by decide +kernel) rfl
theorem tw_280 : Cond.selects RX0 yX0_computeNode yX0_computeNode ∈ TB := tb_p (q := (yX0_computeNode, 4)) (List.mem_of_getElem? (i := 2) (by decide +kernel))
theorem tw_281 : Cond.code yX0_computeNode cX0_computeNode 11 (some .boolean) ∈ TB := tb_2 (i := 105) (by decide +kernel) rfl
theorem tw_282 : Cond.methodLink RX0 51 yX6_kindAt ∈ TB := tb_2 (i := 106) (by decide +kernel) rfl
theorem tw_283 : Cond.instanceMethod yX6_kindAt ∈ TB := tb_2 (i := 107) (by decide +kernel) rfl
theorem tw_284 : Cond.selects RX6 yX6_kindAt yX6_kindAt ∈ TB := tb_2 (i := 108) (by decide +kernel) rfl
theorem tw_285 : Cond.code yX6_kindAt cX6_kindAt 2 (some .int) ∈ TB := tb_2 (i := 109) (by decide +kernel) rfl
theorem tw_286 : Cond.methodLink RX6 39 yX6_hasNode ∈ TB := tb_2 (i := 110) (by decide +kernel) rfl
theorem tw_287 : Cond.instanceMethod yX6_hasNode ∈ TB := tb_2 (i := 112) (by decide +kernel) rfl
theorem tw_288 : Cond.selects RX6 yX6_hasNode yX6_hasNode ∈ TB := tb_p (q := (yX6_hasNode, 10)) (List.mem_of_getElem? (i := 3) (by decide +kernel))
theorem tw_289 : Cond.code yX6_hasNode cX6_hasNode 2 (some .boolean) ∈ TB := tb_2 (i := 113) (by decide +kernel) rfl
theorem tw_290 : Cond.methodLink RX0 55 yX6_partsOf ∈ TB := tb_2 (i := 114) (by decide +kernel) rfl
theorem tw_291 : Cond.static yX6_partsOf ∈ TB := tb_2 (i := 115) (by decide +kernel) rfl
theorem tw_292 : Cond.code yX6_partsOf cX6_partsOf 1 (some .int) ∈ TB := tb_2 (i := 116) (by decide +kernel) rfl
theorem tw_293 : Cond.methodLink RX0 58 yX0_waiting ∈ TB := tb_2 (i := 117) (by decide +kernel) rfl
theorem tw_294 : Cond.instanceMethod yX0_waiting ∈ TB := tb_2 (i := 119) (by decide +kernel) rfl
theorem tw_295 : Cond.selects RX0 yX0_waiting yX0_waiting ∈ TB := tb_p (q := (yX0_waiting, 4)) (List.mem_of_getElem? (i := 4) (by decide +kernel))
theorem tw_296 : Cond.code yX0_waiting cX0_waiting 3 (some (.object "ProvenanceTables$Relation")) ∈ TB := tb_2 (i := 120) (by decide +kernel) rfl
theorem tw_297 : Cond.methodLink RX0 62 yX6_firstAt ∈ TB := tb_2 (i := 121) (by decide +kernel) rfl
theorem tw_298 : Cond.instanceMethod yX6_firstAt ∈ TB := tb_2 (i := 122) (by decide +kernel) rfl
theorem tw_299 : Cond.selects RX6 yX6_firstAt yX6_firstAt ∈ TB := tb_2 (i := 123) (by decide +kernel) rfl
theorem tw_300 : Cond.code yX6_firstAt cX6_firstAt 2 (some .int) ∈ TB := tb_2 (i := 124) (by decide +kernel) rfl
theorem tw_301 : Cond.methodLink RX0 65 yX6_secondAt ∈ TB := tb_2 (i := 125) (by decide +kernel) rfl
theorem tw_302 : Cond.instanceMethod yX6_secondAt ∈ TB := tb_2 (i := 126) (by decide +kernel) rfl
theorem tw_303 : Cond.selects RX6 yX6_secondAt yX6_secondAt ∈ TB := tb_2 (i := 127) (by decide +kernel) rfl
theorem tw_304 : Cond.code yX6_secondAt cX6_secondAt 2 (some .int) ∈ TB := tb_2 (i := 128) (by decide +kernel) rfl
theorem tw_305 : Cond.methodLink RX0 68 yX0_fillTable ∈ TB := tb_2 (i := 129) (by decide +kernel) rfl
theorem tw_306 : Cond.instanceMethod yX0_fillTable ∈ TB := tb_2 (i := 131) (by decide +kernel) rfl
theorem tw_307 : Cond.selects RX0 yX0_fillTable yX0_fillTable ∈ TB := tb_p (q := (yX0_fillTable, 4)) (List.mem_of_getElem? (i := 5) (by decide +kernel))
theorem tw_308 : Cond.code yX0_fillTable cX0_fillTable 5 (some .boolean) ∈ TB := tb_2 (i := 132) (by decide +kernel) rfl
theorem tw_309 : Cond.methodLink RX0 88 yX8_widthOf ∈ TB := tb_2 (i := 133) (by decide +kernel) rfl
theorem tw_310 : Cond.methodLink RX0 93 yX8_tableAt ∈ TB := tb_2 (i := 134) (by decide +kernel) rfl
theorem tw_311 : Cond.instanceMethod yX8_tableAt ∈ TB := tb_2 (i := 135) (by decide +kernel) rfl
theorem tw_312 : Cond.selects RX8 yX8_tableAt yX8_tableAt ∈ TB := tb_2 (i := 136) (by decide +kernel) rfl
theorem tw_313 : Cond.code yX8_tableAt cX8_tableAt 2 (some .int) ∈ TB := tb_2 (i := 137) (by decide +kernel) rfl
theorem tw_314 : Cond.methodLink RX0 96 yX8_keyOf ∈ TB := tb_2 (i := 138) (by decide +kernel) rfl
theorem tw_315 : Cond.instanceMethod yX8_keyOf ∈ TB := tb_2 (i := 139) (by decide +kernel) rfl
theorem tw_316 : Cond.selects RX8 yX8_keyOf yX8_keyOf ∈ TB := tb_2 (i := 140) (by decide +kernel) rfl
theorem tw_317 : Cond.code yX8_keyOf cX8_keyOf 2 (some .int) ∈ TB := tb_2 (i := 141) (by decide +kernel) rfl
theorem tw_318 : Cond.methodLink RX0 99 yX7_rowWith ∈ TB := tb_2 (i := 142) (by decide +kernel) rfl
theorem tw_319 : Cond.instanceMethod yX7_rowWith ∈ TB := tb_2 (i := 143) (by decide +kernel) rfl
theorem tw_320 : Cond.selects RX7 yX7_rowWith yX7_rowWith ∈ TB := tb_2 (i := 144) (by decide +kernel) rfl
theorem tw_321 : Cond.code yX7_rowWith cX7_rowWith 5 (some (.object "ProvenanceTables$Polynomial")) ∈ TB := tb_2 (i := 145) (by decide +kernel) rfl
theorem tw_322 : Cond.methodLink RX7 47 yX5_clear ∈ TB := tb_2 (i := 146) (by decide +kernel) rfl
theorem tw_323 : Cond.instanceMethod yX5_clear ∈ TB := tb_2 (i := 147) (by decide +kernel) rfl
theorem tw_324 : Cond.selects RX5 yX5_clear yX5_clear ∈ TB := tb_2 (i := 148) (by decide +kernel) rfl
theorem tw_325 : Cond.code yX5_clear cX5_clear 1 none ∈ TB := tb_2 (i := 149) (by decide +kernel) rfl
theorem tw_326 : Cond.fieldLink RX5 18 "ProvenanceTables$Polynomial" "size" "I" ∈ TB := tb_1 (i := 149) (by decide +kernel) rfl
theorem tw_327 : Cond.methodLink RX0 103 yX4_ofTag ∈ TB := tb_2 (i := 150) (by decide +kernel) rfl
theorem tw_328 : Cond.static yX4_ofTag ∈ TB := tb_2 (i := 151) (by decide +kernel) rfl
theorem tw_329 : Cond.initialized RX4 ∈ TB := tb_1 (i := 13) (by decide +kernel) rfl
theorem tw_330 : Cond.code yX4_ofTag cX4_ofTag 1 (some .long) ∈ TB := tb_2 (i := 152) (by decide +kernel) rfl
theorem tw_331 : Cond.methodLink RX0 109 yX5_addTerm ∈ TB := tb_2 (i := 153) (by decide +kernel) rfl
theorem tw_332 : Cond.instanceMethod yX5_addTerm ∈ TB := tb_2 (i := 154) (by decide +kernel) rfl
theorem tw_333 : Cond.selects RX5 yX5_addTerm yX5_addTerm ∈ TB := tb_2 (i := 155) (by decide +kernel) rfl
theorem tw_334 : Cond.code yX5_addTerm cX5_addTerm 9 (some .boolean) ∈ TB := tb_2 (i := 156) (by decide +kernel) rfl
theorem tw_335 : Cond.constantLong RX5 28 (-9223372036854775808) ∈ TB := tb_2 (i := 157) (by decide +kernel) rfl
theorem tw_336 : Cond.methodLink RX0 72 yX0_fillSelect ∈ TB := tb_2 (i := 158) (by decide +kernel) rfl
theorem tw_337 : Cond.instanceMethod yX0_fillSelect ∈ TB := tb_2 (i := 160) (by decide +kernel) rfl
theorem tw_338 : Cond.selects RX0 yX0_fillSelect yX0_fillSelect ∈ TB := tb_p (q := (yX0_fillSelect, 4)) (List.mem_of_getElem? (i := 6) (by decide +kernel))
theorem tw_339 : Cond.code yX0_fillSelect cX0_fillSelect 9 (some .boolean) ∈ TB := tb_2 (i := 161) (by decide +kernel) rfl
theorem tw_340 : Cond.methodLink RX0 115 yX7_width ∈ TB := tb_2 (i := 162) (by decide +kernel) rfl
theorem tw_341 : Cond.instanceMethod yX7_width ∈ TB := tb_2 (i := 163) (by decide +kernel) rfl
theorem tw_342 : Cond.selects RX7 yX7_width yX7_width ∈ TB := tb_2 (i := 164) (by decide +kernel) rfl
theorem tw_343 : Cond.code yX7_width cX7_width 1 (some .int) ∈ TB := tb_2 (i := 165) (by decide +kernel) rfl
theorem tw_344 : Cond.methodLink RX0 118 yX7_size ∈ TB := tb_2 (i := 166) (by decide +kernel) rfl
theorem tw_345 : Cond.instanceMethod yX7_size ∈ TB := tb_2 (i := 167) (by decide +kernel) rfl
theorem tw_346 : Cond.selects RX7 yX7_size yX7_size ∈ TB := tb_2 (i := 168) (by decide +kernel) rfl
theorem tw_347 : Cond.code yX7_size cX7_size 1 (some .int) ∈ TB := tb_2 (i := 169) (by decide +kernel) rfl
theorem tw_348 : Cond.methodLink RX0 119 yX7_keyAt ∈ TB := tb_2 (i := 170) (by decide +kernel) rfl
theorem tw_349 : Cond.instanceMethod yX7_keyAt ∈ TB := tb_2 (i := 171) (by decide +kernel) rfl
theorem tw_350 : Cond.selects RX7 yX7_keyAt yX7_keyAt ∈ TB := tb_2 (i := 172) (by decide +kernel) rfl
theorem tw_351 : Cond.code yX7_keyAt cX7_keyAt 2 (some .int) ∈ TB := tb_2 (i := 173) (by decide +kernel) rfl
theorem tw_352 : Cond.methodLink RX7 29 yX7_hasRow ∈ TB := tb_2 (i := 174) (by decide +kernel) rfl
theorem tw_353 : Cond.instanceMethod yX7_hasRow ∈ TB := tb_2 (i := 175) (by decide +kernel) rfl
theorem tw_354 : Cond.selects RX7 yX7_hasRow yX7_hasRow ∈ TB := tb_2 (i := 176) (by decide +kernel) rfl
theorem tw_355 : Cond.code yX7_hasRow cX7_hasRow 2 (some .boolean) ∈ TB := tb_2 (i := 177) (by decide +kernel) rfl
theorem tw_356 : Cond.methodLink RX0 122 yX2_digit ∈ TB := tb_2 (i := 178) (by decide +kernel) rfl
theorem tw_357 : Cond.static yX2_digit ∈ TB := tb_2 (i := 179) (by decide +kernel) rfl
theorem tw_358 : Cond.code yX2_digit cX2_digit 3 (some .int) ∈ TB := tb_2 (i := 180) (by decide +kernel) rfl
theorem tw_359 : Cond.methodLink RX0 128 yX0_addToSpare ∈ TB := tb_2 (i := 181) (by decide +kernel) rfl
theorem tw_360 : Cond.instanceMethod yX0_addToSpare ∈ TB := tb_2 (i := 183) (by decide +kernel) rfl
theorem tw_361 : Cond.selects RX0 yX0_addToSpare yX0_addToSpare ∈ TB := tb_p (q := (yX0_addToSpare, 4)) (List.mem_of_getElem? (i := 7) (by decide +kernel))
theorem tw_362 : Cond.code yX0_addToSpare cX0_addToSpare 6 (some .boolean) ∈ TB := tb_2 (i := 184) (by decide +kernel) rfl
theorem tw_363 : Cond.methodLink RX0 135 yX7_polynomialAt ∈ TB := tb_2 (i := 185) (by decide +kernel) rfl
theorem tw_364 : Cond.instanceMethod yX7_polynomialAt ∈ TB := tb_2 (i := 186) (by decide +kernel) rfl
theorem tw_365 : Cond.selects RX7 yX7_polynomialAt yX7_polynomialAt ∈ TB := tb_2 (i := 187) (by decide +kernel) rfl
theorem tw_366 : Cond.code yX7_polynomialAt cX7_polynomialAt 2 (some (.object "ProvenanceTables$Polynomial")) ∈ TB := tb_2 (i := 188) (by decide +kernel) rfl
theorem tw_367 : Cond.methodLink RX0 142 yX5_addAll ∈ TB := tb_2 (i := 189) (by decide +kernel) rfl
theorem tw_368 : Cond.instanceMethod yX5_addAll ∈ TB := tb_2 (i := 190) (by decide +kernel) rfl
theorem tw_369 : Cond.selects RX5 yX5_addAll yX5_addAll ∈ TB := tb_2 (i := 191) (by decide +kernel) rfl
theorem tw_370 : Cond.code yX5_addAll cX5_addAll 3 (some .boolean) ∈ TB := tb_2 (i := 192) (by decide +kernel) rfl
theorem tw_371 : Cond.methodLink RX5 30 yX5_addTerm ∈ TB := tb_2 (i := 193) (by decide +kernel) rfl
theorem tw_372 : Cond.methodLink RX0 76 yX0_fillProject ∈ TB := tb_2 (i := 194) (by decide +kernel) rfl
theorem tw_373 : Cond.instanceMethod yX0_fillProject ∈ TB := tb_2 (i := 196) (by decide +kernel) rfl
theorem tw_374 : Cond.selects RX0 yX0_fillProject yX0_fillProject ∈ TB := tb_p (q := (yX0_fillProject, 4)) (List.mem_of_getElem? (i := 8) (by decide +kernel))
theorem tw_375 : Cond.code yX0_fillProject cX0_fillProject 8 (some .boolean) ∈ TB := tb_2 (i := 197) (by decide +kernel) rfl
theorem tw_376 : Cond.methodLink RX0 132 yX2_join ∈ TB := tb_2 (i := 198) (by decide +kernel) rfl
theorem tw_377 : Cond.static yX2_join ∈ TB := tb_2 (i := 199) (by decide +kernel) rfl
theorem tw_378 : Cond.code yX2_join cX2_join 3 (some .int) ∈ TB := tb_2 (i := 200) (by decide +kernel) rfl
theorem tw_379 : Cond.methodLink RX0 80 yX0_fillJoin ∈ TB := tb_2 (i := 201) (by decide +kernel) rfl
theorem tw_380 : Cond.instanceMethod yX0_fillJoin ∈ TB := tb_2 (i := 203) (by decide +kernel) rfl
theorem tw_381 : Cond.selects RX0 yX0_fillJoin yX0_fillJoin ∈ TB := tb_p (q := (yX0_fillJoin, 4)) (List.mem_of_getElem? (i := 9) (by decide +kernel))
theorem tw_382 : Cond.code yX0_fillJoin cX0_fillJoin 11 (some .boolean) ∈ TB := tb_2 (i := 204) (by decide +kernel) rfl
theorem tw_383 : Cond.methodLink RX0 138 yX5_addProduct ∈ TB := tb_2 (i := 205) (by decide +kernel) rfl
theorem tw_384 : Cond.instanceMethod yX5_addProduct ∈ TB := tb_2 (i := 206) (by decide +kernel) rfl
theorem tw_385 : Cond.selects RX5 yX5_addProduct yX5_addProduct ∈ TB := tb_2 (i := 207) (by decide +kernel) rfl
theorem tw_386 : Cond.code yX5_addProduct cX5_addProduct 7 (some .boolean) ∈ TB := tb_2 (i := 208) (by decide +kernel) rfl
theorem tw_387 : Cond.methodLink RX0 84 yX0_fillUnion ∈ TB := tb_2 (i := 209) (by decide +kernel) rfl
theorem tw_388 : Cond.instanceMethod yX0_fillUnion ∈ TB := tb_2 (i := 211) (by decide +kernel) rfl
theorem tw_389 : Cond.selects RX0 yX0_fillUnion yX0_fillUnion ∈ TB := tb_p (q := (yX0_fillUnion, 4)) (List.mem_of_getElem? (i := 10) (by decide +kernel))
theorem tw_390 : Cond.code yX0_fillUnion cX0_fillUnion 4 (some .boolean) ∈ TB := tb_2 (i := 212) (by decide +kernel) rfl
theorem tw_391 : Cond.methodLink RX10 116 yX0_keepResult ∈ TB := tb_2 (i := 213) (by decide +kernel) rfl
theorem tw_392 : Cond.instanceMethod yX0_keepResult ∈ TB := tb_2 (i := 214) (by decide +kernel) rfl
theorem tw_393 : Cond.selects RX0 yX0_keepResult yX0_keepResult ∈ TB := tb_2 (i := 215) (by decide +kernel) rfl
theorem tw_394 : Cond.code yX0_keepResult cX0_keepResult 2 none ∈ TB := tb_2 (i := 216) (by decide +kernel) rfl
theorem tw_395 : Cond.methodLink RL 21 yX11_addRow ∈ TB := tb_5 (i := 72) (by decide +kernel) rfl
theorem tw_396 : Cond.instanceMethod yX11_addRow ∈ TB := tb_5 (i := 73) (by decide +kernel) rfl
theorem tw_397 : Cond.selects RX11 yX11_addRow yX11_addRow ∈ TB := tb_5 (i := 74) (by decide +kernel) rfl
theorem tw_398 : Cond.code yX11_addRow cX11_addRow 5 (some .int) ∈ TB := tb_5 (i := 75) (by decide +kernel) rfl
theorem tw_399 : Cond.methodLink RX11 138 yX11_power ∈ TB := tb_5 (i := 76) (by decide +kernel) rfl
theorem tw_400 : Cond.static yX11_power ∈ TB := tb_5 (i := 77) (by decide +kernel) rfl
theorem tw_401 : Cond.code yX11_power cX11_power 3 (some .int) ∈ TB := tb_5 (i := 78) (by decide +kernel) rfl
theorem tw_402 : Cond.methodLink RX11 230 yX11_freeTag ∈ TB := tb_5 (i := 79) (by decide +kernel) rfl
theorem tw_403 : Cond.instanceMethod yX11_freeTag ∈ TB := tb_5 (i := 81) (by decide +kernel) rfl
theorem tw_404 : Cond.selects RX11 yX11_freeTag yX11_freeTag ∈ TB := tb_p (q := (yX11_freeTag, 32)) (List.mem_of_getElem? (i := 36) (by decide +kernel))
theorem tw_405 : Cond.code yX11_freeTag cX11_freeTag 3 (some .int) ∈ TB := tb_5 (i := 82) (by decide +kernel) rfl
theorem tw_406 : Cond.methodLink RX11 233 yX11_laysRow ∈ TB := tb_5 (i := 83) (by decide +kernel) rfl
theorem tw_407 : Cond.instanceMethod yX11_laysRow ∈ TB := tb_5 (i := 85) (by decide +kernel) rfl
theorem tw_408 : Cond.selects RX11 yX11_laysRow yX11_laysRow ∈ TB := tb_p (q := (yX11_laysRow, 32)) (List.mem_of_getElem? (i := 37) (by decide +kernel))
theorem tw_409 : Cond.code yX11_laysRow cX11_laysRow 4 none ∈ TB := tb_5 (i := 86) (by decide +kernel) rfl
theorem tw_410 : Cond.methodLink RX11 227 yX11_lays ∈ TB := tb_5 (i := 87) (by decide +kernel) rfl
theorem tw_411 : Cond.instanceMethod yX11_lays ∈ TB := tb_5 (i := 89) (by decide +kernel) rfl
theorem tw_412 : Cond.selects RX11 yX11_lays yX11_lays ∈ TB := tb_p (q := (yX11_lays, 32)) (List.mem_of_getElem? (i := 38) (by decide +kernel))
theorem tw_413 : Cond.code yX11_lays cX11_lays 4 none ∈ TB := tb_5 (i := 90) (by decide +kernel) rfl
theorem tw_414 : Cond.methodLink RX11 236 yX11_isPossible ∈ TB := tb_5 (i := 91) (by decide +kernel) rfl
theorem tw_415 : Cond.instanceMethod yX11_isPossible ∈ TB := tb_5 (i := 93) (by decide +kernel) rfl
theorem tw_416 : Cond.selects RX11 yX11_isPossible yX11_isPossible ∈ TB := tb_p (q := (yX11_isPossible, 32)) (List.mem_of_getElem? (i := 39) (by decide +kernel))
theorem tw_417 : Cond.code yX11_isPossible cX11_isPossible 1 (some .boolean) ∈ TB := tb_5 (i := 94) (by decide +kernel) rfl
theorem tw_418 : Cond.methodLink RX11 206 yX11_takesQuery ∈ TB := tb_5 (i := 95) (by decide +kernel) rfl
theorem tw_419 : Cond.instanceMethod yX11_takesQuery ∈ TB := tb_5 (i := 97) (by decide +kernel) rfl
theorem tw_420 : Cond.selects RX11 yX11_takesQuery yX11_takesQuery ∈ TB := tb_p (q := (yX11_takesQuery, 32)) (List.mem_of_getElem? (i := 40) (by decide +kernel))
theorem tw_421 : Cond.code yX11_takesQuery cX11_takesQuery 2 none ∈ TB := tb_5 (i := 98) (by decide +kernel) rfl
theorem tw_422 : Cond.fieldLink RX11 91 "ProvenanceTablesModel" "sourceLong" "I" ∈ TB := tb_4 (i := 194) (by decide +kernel) rfl
theorem tw_423 : Cond.methodLink RX11 209 yX11_reads ∈ TB := tb_5 (i := 99) (by decide +kernel) rfl
theorem tw_424 : Cond.instanceMethod yX11_reads ∈ TB := tb_5 (i := 101) (by decide +kernel) rfl
theorem tw_425 : Cond.selects RX11 yX11_reads yX11_reads ∈ TB := tb_p (q := (yX11_reads, 32)) (List.mem_of_getElem? (i := 41) (by decide +kernel))
theorem tw_426 : Cond.code yX11_reads cX11_reads 2 (some .boolean) ∈ TB := tb_5 (i := 102) (by decide +kernel) rfl
theorem tw_427 : Cond.fieldLink RX11 88 "ProvenanceTablesModel" "spot" "I" ∈ TB := tb_4 (i := 195) (by decide +kernel) rfl
theorem tw_428 : Cond.fieldLink RX11 94 "ProvenanceTablesModel" "isForm" "Z" ∈ TB := tb_4 (i := 196) (by decide +kernel) rfl
theorem tw_429 : Cond.fieldLink RX11 105 "ProvenanceTablesModel" "steps" "I" ∈ TB := tb_4 (i := 200) (by decide +kernel) rfl
theorem tw_430 : Cond.fieldLink RX11 108 "ProvenanceTablesModel" "opens" "I" ∈ TB := tb_4 (i := 205) (by decide +kernel) rfl
theorem tw_431 : Cond.methodLink RX11 128 yX11_closes ∈ TB := tb_5 (i := 103) (by decide +kernel) rfl
theorem tw_432 : Cond.instanceMethod yX11_closes ∈ TB := tb_5 (i := 105) (by decide +kernel) rfl
theorem tw_433 : Cond.selects RX11 yX11_closes yX11_closes ∈ TB := tb_p (q := (yX11_closes, 32)) (List.mem_of_getElem? (i := 42) (by decide +kernel))
theorem tw_434 : Cond.code yX11_closes cX11_closes 3 (some .boolean) ∈ TB := tb_5 (i := 106) (by decide +kernel) rfl
theorem tw_435 : Cond.methodLink RX11 97 yX11_here ∈ TB := tb_5 (i := 107) (by decide +kernel) rfl
theorem tw_436 : Cond.instanceMethod yX11_here ∈ TB := tb_5 (i := 109) (by decide +kernel) rfl
theorem tw_437 : Cond.selects RX11 yX11_here yX11_here ∈ TB := tb_p (q := (yX11_here, 32)) (List.mem_of_getElem? (i := 43) (by decide +kernel))
theorem tw_438 : Cond.code yX11_here cX11_here 1 (some .int) ∈ TB := tb_5 (i := 110) (by decide +kernel) rfl
theorem tw_439 : Cond.methodLink RX11 101 yX11_takes ∈ TB := tb_5 (i := 111) (by decide +kernel) rfl
theorem tw_440 : Cond.instanceMethod yX11_takes ∈ TB := tb_5 (i := 113) (by decide +kernel) rfl
theorem tw_441 : Cond.selects RX11 yX11_takes yX11_takes ∈ TB := tb_p (q := (yX11_takes, 32)) (List.mem_of_getElem? (i := 44) (by decide +kernel))
theorem tw_442 : Cond.code yX11_takes cX11_takes 2 none ∈ TB := tb_5 (i := 114) (by decide +kernel) rfl
theorem tw_443 : Cond.methodLink RX11 125 yX11_emits ∈ TB := tb_5 (i := 115) (by decide +kernel) rfl
theorem tw_444 : Cond.instanceMethod yX11_emits ∈ TB := tb_5 (i := 117) (by decide +kernel) rfl
theorem tw_445 : Cond.selects RX11 yX11_emits yX11_emits ∈ TB := tb_p (q := (yX11_emits, 32)) (List.mem_of_getElem? (i := 45) (by decide +kernel))
theorem tw_446 : Cond.code yX11_emits cX11_emits 4 none ∈ TB := tb_5 (i := 118) (by decide +kernel) rfl
theorem tw_447 : Cond.methodLink RX11 132 yX11_takesBegin ∈ TB := tb_5 (i := 119) (by decide +kernel) rfl
theorem tw_448 : Cond.instanceMethod yX11_takesBegin ∈ TB := tb_5 (i := 121) (by decide +kernel) rfl
theorem tw_449 : Cond.selects RX11 yX11_takesBegin yX11_takesBegin ∈ TB := tb_p (q := (yX11_takesBegin, 32)) (List.mem_of_getElem? (i := 46) (by decide +kernel))
theorem tw_450 : Cond.code yX11_takesBegin cX11_takesBegin 3 (some .boolean) ∈ TB := tb_5 (i := 122) (by decide +kernel) rfl
theorem tw_451 : Cond.methodLink RX11 119 yX11_takesSelect ∈ TB := tb_5 (i := 123) (by decide +kernel) rfl
theorem tw_452 : Cond.instanceMethod yX11_takesSelect ∈ TB := tb_5 (i := 125) (by decide +kernel) rfl
theorem tw_453 : Cond.selects RX11 yX11_takesSelect yX11_takesSelect ∈ TB := tb_p (q := (yX11_takesSelect, 32)) (List.mem_of_getElem? (i := 47) (by decide +kernel))
theorem tw_454 : Cond.code yX11_takesSelect cX11_takesSelect 4 none ∈ TB := tb_5 (i := 126) (by decide +kernel) rfl
theorem tw_455 : Cond.methodLink RX11 111 yX11_takesDigit ∈ TB := tb_5 (i := 127) (by decide +kernel) rfl
theorem tw_456 : Cond.instanceMethod yX11_takesDigit ∈ TB := tb_5 (i := 129) (by decide +kernel) rfl
theorem tw_457 : Cond.selects RX11 yX11_takesDigit yX11_takesDigit ∈ TB := tb_p (q := (yX11_takesDigit, 32)) (List.mem_of_getElem? (i := 48) (by decide +kernel))
theorem tw_458 : Cond.code yX11_takesDigit cX11_takesDigit 3 (some .int) ∈ TB := tb_5 (i := 130) (by decide +kernel) rfl
theorem tw_459 : Cond.methodLink RX11 115 yX11_opensOne ∈ TB := tb_5 (i := 131) (by decide +kernel) rfl
theorem tw_460 : Cond.instanceMethod yX11_opensOne ∈ TB := tb_5 (i := 133) (by decide +kernel) rfl
theorem tw_461 : Cond.selects RX11 yX11_opensOne yX11_opensOne ∈ TB := tb_p (q := (yX11_opensOne, 32)) (List.mem_of_getElem? (i := 49) (by decide +kernel))
theorem tw_462 : Cond.code yX11_opensOne cX11_opensOne 4 none ∈ TB := tb_5 (i := 134) (by decide +kernel) rfl
theorem tw_463 : Cond.methodLink RX11 122 yX11_takesProject ∈ TB := tb_5 (i := 135) (by decide +kernel) rfl
theorem tw_464 : Cond.instanceMethod yX11_takesProject ∈ TB := tb_5 (i := 137) (by decide +kernel) rfl
theorem tw_465 : Cond.selects RX11 yX11_takesProject yX11_takesProject ∈ TB := tb_p (q := (yX11_takesProject, 32)) (List.mem_of_getElem? (i := 50) (by decide +kernel))
theorem tw_466 : Cond.code yX11_takesProject cX11_takesProject 3 none ∈ TB := tb_5 (i := 138) (by decide +kernel) rfl
theorem tw_467 : Cond.methodLink RX11 212 yX11_works ∈ TB := tb_5 (i := 139) (by decide +kernel) rfl
theorem tw_468 : Cond.instanceMethod yX11_works ∈ TB := tb_5 (i := 141) (by decide +kernel) rfl
theorem tw_469 : Cond.selects RX11 yX11_works yX11_works ∈ TB := tb_p (q := (yX11_works, 32)) (List.mem_of_getElem? (i := 51) (by decide +kernel))
theorem tw_470 : Cond.code yX11_works cX11_works 2 (some .boolean) ∈ TB := tb_5 (i := 142) (by decide +kernel) rfl
theorem tw_471 : Cond.fieldLink RX11 141 "ProvenanceTablesModel" "top" "I" ∈ TB := tb_4 (i := 212) (by decide +kernel) rfl
theorem tw_472 : Cond.fieldLink RX11 151 "ProvenanceTablesModel" "isLarge" "Z" ∈ TB := tb_4 (i := 213) (by decide +kernel) rfl
theorem tw_473 : Cond.methodLink RX11 191 yX11_pilesTable ∈ TB := tb_5 (i := 143) (by decide +kernel) rfl
theorem tw_474 : Cond.instanceMethod yX11_pilesTable ∈ TB := tb_5 (i := 145) (by decide +kernel) rfl
theorem tw_475 : Cond.selects RX11 yX11_pilesTable yX11_pilesTable ∈ TB := tb_p (q := (yX11_pilesTable, 32)) (List.mem_of_getElem? (i := 52) (by decide +kernel))
theorem tw_476 : Cond.code yX11_pilesTable cX11_pilesTable 3 none ∈ TB := tb_5 (i := 146) (by decide +kernel) rfl
theorem tw_477 : Cond.methodLink RX11 160 yX11_rowFor ∈ TB := tb_5 (i := 147) (by decide +kernel) rfl
theorem tw_478 : Cond.instanceMethod yX11_rowFor ∈ TB := tb_5 (i := 149) (by decide +kernel) rfl
theorem tw_479 : Cond.selects RX11 yX11_rowFor yX11_rowFor ∈ TB := tb_p (q := (yX11_rowFor, 32)) (List.mem_of_getElem? (i := 53) (by decide +kernel))
theorem tw_480 : Cond.code yX11_rowFor cX11_rowFor 6 (some .int) ∈ TB := tb_5 (i := 150) (by decide +kernel) rfl
theorem tw_481 : Cond.methodLink RX11 154 yX11_copiesRow ∈ TB := tb_5 (i := 151) (by decide +kernel) rfl
theorem tw_482 : Cond.instanceMethod yX11_copiesRow ∈ TB := tb_5 (i := 153) (by decide +kernel) rfl
theorem tw_483 : Cond.selects RX11 yX11_copiesRow yX11_copiesRow ∈ TB := tb_p (q := (yX11_copiesRow, 32)) (List.mem_of_getElem? (i := 54) (by decide +kernel))
theorem tw_484 : Cond.code yX11_copiesRow cX11_copiesRow 8 none ∈ TB := tb_5 (i := 154) (by decide +kernel) rfl
theorem tw_485 : Cond.methodLink RX11 169 yX11_tagAlone ∈ TB := tb_5 (i := 155) (by decide +kernel) rfl
theorem tw_486 : Cond.static yX11_tagAlone ∈ TB := tb_5 (i := 156) (by decide +kernel) rfl
theorem tw_487 : Cond.code yX11_tagAlone cX11_tagAlone 1 (some .long) ∈ TB := tb_5 (i := 157) (by decide +kernel) rfl
theorem tw_488 : Cond.methodLink RX11 163 yX11_addsTerm ∈ TB := tb_5 (i := 158) (by decide +kernel) rfl
theorem tw_489 : Cond.instanceMethod yX11_addsTerm ∈ TB := tb_5 (i := 160) (by decide +kernel) rfl
theorem tw_490 : Cond.selects RX11 yX11_addsTerm yX11_addsTerm ∈ TB := tb_p (q := (yX11_addsTerm, 32)) (List.mem_of_getElem? (i := 55) (by decide +kernel))
theorem tw_491 : Cond.code yX11_addsTerm cX11_addsTerm 11 none ∈ TB := tb_5 (i := 161) (by decide +kernel) rfl
theorem tw_492 : Cond.constantLong RX11 158 (-9223372036854775808) ∈ TB := tb_5 (i := 162) (by decide +kernel) rfl
theorem tw_493 : Cond.methodLink RX11 194 yX11_selects ∈ TB := tb_5 (i := 163) (by decide +kernel) rfl
theorem tw_494 : Cond.instanceMethod yX11_selects ∈ TB := tb_5 (i := 165) (by decide +kernel) rfl
theorem tw_495 : Cond.selects RX11 yX11_selects yX11_selects ∈ TB := tb_p (q := (yX11_selects, 32)) (List.mem_of_getElem? (i := 56) (by decide +kernel))
theorem tw_496 : Cond.code yX11_selects cX11_selects 7 none ∈ TB := tb_5 (i := 166) (by decide +kernel) rfl
theorem tw_497 : Cond.methodLink RX11 173 yX11_digit ∈ TB := tb_5 (i := 167) (by decide +kernel) rfl
theorem tw_498 : Cond.static yX11_digit ∈ TB := tb_5 (i := 168) (by decide +kernel) rfl
theorem tw_499 : Cond.code yX11_digit cX11_digit 3 (some .int) ∈ TB := tb_5 (i := 169) (by decide +kernel) rfl
theorem tw_500 : Cond.methodLink RX11 177 yX11_addsRow ∈ TB := tb_5 (i := 170) (by decide +kernel) rfl
theorem tw_501 : Cond.instanceMethod yX11_addsRow ∈ TB := tb_5 (i := 172) (by decide +kernel) rfl
theorem tw_502 : Cond.selects RX11 yX11_addsRow yX11_addsRow ∈ TB := tb_p (q := (yX11_addsRow, 32)) (List.mem_of_getElem? (i := 57) (by decide +kernel))
theorem tw_503 : Cond.code yX11_addsRow cX11_addsRow 8 none ∈ TB := tb_5 (i := 173) (by decide +kernel) rfl
theorem tw_504 : Cond.methodLink RX11 180 yX11_replaces ∈ TB := tb_5 (i := 174) (by decide +kernel) rfl
theorem tw_505 : Cond.instanceMethod yX11_replaces ∈ TB := tb_5 (i := 176) (by decide +kernel) rfl
theorem tw_506 : Cond.selects RX11 yX11_replaces yX11_replaces ∈ TB := tb_p (q := (yX11_replaces, 32)) (List.mem_of_getElem? (i := 58) (by decide +kernel))
theorem tw_507 : Cond.code yX11_replaces cX11_replaces 4 none ∈ TB := tb_5 (i := 177) (by decide +kernel) rfl
theorem tw_508 : Cond.methodLink RX11 197 yX11_projects ∈ TB := tb_5 (i := 178) (by decide +kernel) rfl
theorem tw_509 : Cond.instanceMethod yX11_projects ∈ TB := tb_5 (i := 180) (by decide +kernel) rfl
theorem tw_510 : Cond.selects RX11 yX11_projects yX11_projects ∈ TB := tb_p (q := (yX11_projects, 32)) (List.mem_of_getElem? (i := 59) (by decide +kernel))
theorem tw_511 : Cond.code yX11_projects cX11_projects 4 none ∈ TB := tb_5 (i := 181) (by decide +kernel) rfl
theorem tw_512 : Cond.methodLink RX11 184 yX11_projected ∈ TB := tb_5 (i := 182) (by decide +kernel) rfl
theorem tw_513 : Cond.static yX11_projected ∈ TB := tb_5 (i := 183) (by decide +kernel) rfl
theorem tw_514 : Cond.code yX11_projected cX11_projected 6 (some .int) ∈ TB := tb_5 (i := 184) (by decide +kernel) rfl
theorem tw_515 : Cond.methodLink RX11 200 yX11_joins ∈ TB := tb_5 (i := 185) (by decide +kernel) rfl
theorem tw_516 : Cond.instanceMethod yX11_joins ∈ TB := tb_5 (i := 187) (by decide +kernel) rfl
theorem tw_517 : Cond.selects RX11 yX11_joins yX11_joins ∈ TB := tb_p (q := (yX11_joins, 32)) (List.mem_of_getElem? (i := 60) (by decide +kernel))
theorem tw_518 : Cond.code yX11_joins cX11_joins 8 none ∈ TB := tb_5 (i := 188) (by decide +kernel) rfl
theorem tw_519 : Cond.methodLink RX11 188 yX11_multiplies ∈ TB := tb_5 (i := 189) (by decide +kernel) rfl
theorem tw_520 : Cond.instanceMethod yX11_multiplies ∈ TB := tb_5 (i := 191) (by decide +kernel) rfl
theorem tw_521 : Cond.selects RX11 yX11_multiplies yX11_multiplies ∈ TB := tb_p (q := (yX11_multiplies, 32)) (List.mem_of_getElem? (i := 61) (by decide +kernel))
theorem tw_522 : Cond.code yX11_multiplies cX11_multiplies 7 none ∈ TB := tb_5 (i := 192) (by decide +kernel) rfl
theorem tw_523 : Cond.methodLink RX11 203 yX11_unites ∈ TB := tb_5 (i := 193) (by decide +kernel) rfl
theorem tw_524 : Cond.instanceMethod yX11_unites ∈ TB := tb_5 (i := 195) (by decide +kernel) rfl
theorem tw_525 : Cond.selects RX11 yX11_unites yX11_unites ∈ TB := tb_p (q := (yX11_unites, 32)) (List.mem_of_getElem? (i := 62) (by decide +kernel))
theorem tw_526 : Cond.code yX11_unites cX11_unites 3 none ∈ TB := tb_5 (i := 196) (by decide +kernel) rfl
theorem tw_527 : Cond.methodLink RL 22 yX10_dropRow ∈ TB := tb_2 (i := 217) (by decide +kernel) rfl
theorem tw_528 : Cond.instanceMethod yX10_dropRow ∈ TB := tb_2 (i := 218) (by decide +kernel) rfl
theorem tw_529 : Cond.selects RX10 yX10_dropRow yX10_dropRow ∈ TB := tb_2 (i := 219) (by decide +kernel) rfl
theorem tw_530 : Cond.code yX10_dropRow cX10_dropRow 2 (some .int) ∈ TB := tb_2 (i := 220) (by decide +kernel) rfl
theorem tw_531 : Cond.methodLink RX10 119 yX8_hasTag ∈ TB := tb_2 (i := 221) (by decide +kernel) rfl
theorem tw_532 : Cond.methodLink RX10 122 yX8_remove ∈ TB := tb_2 (i := 222) (by decide +kernel) rfl
theorem tw_533 : Cond.instanceMethod yX8_remove ∈ TB := tb_2 (i := 223) (by decide +kernel) rfl
theorem tw_534 : Cond.selects RX8 yX8_remove yX8_remove ∈ TB := tb_2 (i := 224) (by decide +kernel) rfl
theorem tw_535 : Cond.code yX8_remove cX8_remove 2 none ∈ TB := tb_2 (i := 225) (by decide +kernel) rfl
theorem tw_536 : Cond.methodLink RX10 125 yX10_refreshAnswer ∈ TB := tb_2 (i := 226) (by decide +kernel) rfl
theorem tw_537 : Cond.instanceMethod yX10_refreshAnswer ∈ TB := tb_2 (i := 228) (by decide +kernel) rfl
theorem tw_538 : Cond.selects RX10 yX10_refreshAnswer yX10_refreshAnswer ∈ TB := tb_p (q := (yX10_refreshAnswer, 10)) (List.mem_of_getElem? (i := 11) (by decide +kernel))
theorem tw_539 : Cond.code yX10_refreshAnswer cX10_refreshAnswer 1 none ∈ TB := tb_2 (i := 229) (by decide +kernel) rfl
theorem tw_540 : Cond.methodLink RX10 128 yX8_tagMask ∈ TB := tb_2 (i := 230) (by decide +kernel) rfl
theorem tw_541 : Cond.instanceMethod yX8_tagMask ∈ TB := tb_2 (i := 231) (by decide +kernel) rfl
theorem tw_542 : Cond.selects RX8 yX8_tagMask yX8_tagMask ∈ TB := tb_2 (i := 232) (by decide +kernel) rfl
theorem tw_543 : Cond.code yX8_tagMask cX8_tagMask 1 (some .int) ∈ TB := tb_2 (i := 233) (by decide +kernel) rfl
theorem tw_544 : Cond.methodLink RX10 131 yJ6_bitCount_0f7a4 ∈ TB := tb_2 (i := 234) (by decide +kernel) rfl
theorem tw_545 : Cond.static yJ6_bitCount_0f7a4 ∈ TB := tb_2 (i := 235) (by decide +kernel) rfl
theorem tw_546 : Cond.initialized RJ6 ∈ TB := tb_1 (i := 14) (by decide +kernel) rfl
theorem tw_547 : Cond.code yJ6_bitCount_0f7a4 cJ6_bitCount_0f7a4 1 (some .int) ∈ TB := tb_2 (i := 236) (by decide +kernel) rfl
theorem tw_548 : Cond.constant RJ6 265 (1431655765) ∈ TB := tb_2 (i := 237) (by decide +kernel) rfl
theorem tw_549 : Cond.constant RJ6 266 (858993459) ∈ TB := tb_2 (i := 238) (by decide +kernel) rfl
theorem tw_550 : Cond.constant RJ6 267 (252645135) ∈ TB := tb_2 (i := 239) (by decide +kernel) rfl
theorem tw_551 : Cond.methodLink RL 26 yX11_dropRow ∈ TB := tb_5 (i := 197) (by decide +kernel) rfl
theorem tw_552 : Cond.instanceMethod yX11_dropRow ∈ TB := tb_5 (i := 198) (by decide +kernel) rfl
theorem tw_553 : Cond.selects RX11 yX11_dropRow yX11_dropRow ∈ TB := tb_5 (i := 199) (by decide +kernel) rfl
theorem tw_554 : Cond.code yX11_dropRow cX11_dropRow 2 (some .int) ∈ TB := tb_5 (i := 200) (by decide +kernel) rfl
theorem tw_555 : Cond.methodLink RX11 239 yX11_isTag ∈ TB := tb_5 (i := 201) (by decide +kernel) rfl
theorem tw_556 : Cond.instanceMethod yX11_isTag ∈ TB := tb_5 (i := 203) (by decide +kernel) rfl
theorem tw_557 : Cond.selects RX11 yX11_isTag yX11_isTag ∈ TB := tb_p (q := (yX11_isTag, 32)) (List.mem_of_getElem? (i := 63) (by decide +kernel))
theorem tw_558 : Cond.code yX11_isTag cX11_isTag 2 (some .boolean) ∈ TB := tb_5 (i := 204) (by decide +kernel) rfl
theorem tw_559 : Cond.methodLink RX11 242 yX11_mask ∈ TB := tb_5 (i := 205) (by decide +kernel) rfl
theorem tw_560 : Cond.instanceMethod yX11_mask ∈ TB := tb_5 (i := 207) (by decide +kernel) rfl
theorem tw_561 : Cond.selects RX11 yX11_mask yX11_mask ∈ TB := tb_p (q := (yX11_mask, 32)) (List.mem_of_getElem? (i := 64) (by decide +kernel))
theorem tw_562 : Cond.code yX11_mask cX11_mask 4 (some .int) ∈ TB := tb_5 (i := 208) (by decide +kernel) rfl
theorem tw_563 : Cond.methodLink RX11 246 yX11_ones ∈ TB := tb_5 (i := 209) (by decide +kernel) rfl
theorem tw_564 : Cond.static yX11_ones ∈ TB := tb_5 (i := 210) (by decide +kernel) rfl
theorem tw_565 : Cond.code yX11_ones cX11_ones 3 (some .int) ∈ TB := tb_5 (i := 211) (by decide +kernel) rfl
theorem tw_566 : Cond.methodLink RL 27 yX10_setCost ∈ TB := tb_3 (i := 0) (by decide +kernel) rfl
theorem tw_567 : Cond.instanceMethod yX10_setCost ∈ TB := tb_3 (i := 1) (by decide +kernel) rfl
theorem tw_568 : Cond.selects RX10 yX10_setCost yX10_setCost ∈ TB := tb_3 (i := 2) (by decide +kernel) rfl
theorem tw_569 : Cond.code yX10_setCost cX10_setCost 4 (some .int) ∈ TB := tb_3 (i := 3) (by decide +kernel) rfl
theorem tw_570 : Cond.methodLink RX10 136 yX8_costOf ∈ TB := tb_3 (i := 4) (by decide +kernel) rfl
theorem tw_571 : Cond.instanceMethod yX8_costOf ∈ TB := tb_3 (i := 5) (by decide +kernel) rfl
theorem tw_572 : Cond.selects RX8 yX8_costOf yX8_costOf ∈ TB := tb_3 (i := 6) (by decide +kernel) rfl
theorem tw_573 : Cond.code yX8_costOf cX8_costOf 2 (some .int) ∈ TB := tb_3 (i := 7) (by decide +kernel) rfl
theorem tw_574 : Cond.methodLink RX10 139 yX8_changeCost ∈ TB := tb_3 (i := 8) (by decide +kernel) rfl
theorem tw_575 : Cond.instanceMethod yX8_changeCost ∈ TB := tb_3 (i := 9) (by decide +kernel) rfl
theorem tw_576 : Cond.selects RX8 yX8_changeCost yX8_changeCost ∈ TB := tb_3 (i := 10) (by decide +kernel) rfl
theorem tw_577 : Cond.code yX8_changeCost cX8_changeCost 3 none ∈ TB := tb_3 (i := 11) (by decide +kernel) rfl
theorem tw_578 : Cond.methodLink RL 30 yX11_setCost ∈ TB := tb_5 (i := 212) (by decide +kernel) rfl
theorem tw_579 : Cond.instanceMethod yX11_setCost ∈ TB := tb_5 (i := 213) (by decide +kernel) rfl
theorem tw_580 : Cond.selects RX11 yX11_setCost yX11_setCost ∈ TB := tb_5 (i := 214) (by decide +kernel) rfl
theorem tw_581 : Cond.code yX11_setCost cX11_setCost 4 (some .int) ∈ TB := tb_5 (i := 215) (by decide +kernel) rfl
theorem tw_582 : Cond.methodLink RL 31 yX10_setTrust ∈ TB := tb_3 (i := 12) (by decide +kernel) rfl
theorem tw_583 : Cond.instanceMethod yX10_setTrust ∈ TB := tb_3 (i := 13) (by decide +kernel) rfl
theorem tw_584 : Cond.selects RX10 yX10_setTrust yX10_setTrust ∈ TB := tb_3 (i := 14) (by decide +kernel) rfl
theorem tw_585 : Cond.code yX10_setTrust cX10_setTrust 4 (some .int) ∈ TB := tb_3 (i := 15) (by decide +kernel) rfl
theorem tw_586 : Cond.methodLink RX10 142 yX8_trustOf ∈ TB := tb_3 (i := 16) (by decide +kernel) rfl
theorem tw_587 : Cond.instanceMethod yX8_trustOf ∈ TB := tb_3 (i := 17) (by decide +kernel) rfl
theorem tw_588 : Cond.selects RX8 yX8_trustOf yX8_trustOf ∈ TB := tb_3 (i := 18) (by decide +kernel) rfl
theorem tw_589 : Cond.code yX8_trustOf cX8_trustOf 2 (some .int) ∈ TB := tb_3 (i := 19) (by decide +kernel) rfl
theorem tw_590 : Cond.methodLink RX10 145 yX8_changeTrust ∈ TB := tb_3 (i := 20) (by decide +kernel) rfl
theorem tw_591 : Cond.instanceMethod yX8_changeTrust ∈ TB := tb_3 (i := 21) (by decide +kernel) rfl
theorem tw_592 : Cond.selects RX8 yX8_changeTrust yX8_changeTrust ∈ TB := tb_3 (i := 22) (by decide +kernel) rfl
theorem tw_593 : Cond.code yX8_changeTrust cX8_changeTrust 3 none ∈ TB := tb_3 (i := 23) (by decide +kernel) rfl
theorem tw_594 : Cond.methodLink RL 34 yX11_setTrust ∈ TB := tb_5 (i := 216) (by decide +kernel) rfl
theorem tw_595 : Cond.instanceMethod yX11_setTrust ∈ TB := tb_5 (i := 217) (by decide +kernel) rfl
theorem tw_596 : Cond.selects RX11 yX11_setTrust yX11_setTrust ∈ TB := tb_5 (i := 218) (by decide +kernel) rfl
theorem tw_597 : Cond.code yX11_setTrust cX11_setTrust 4 (some .int) ∈ TB := tb_5 (i := 219) (by decide +kernel) rfl
theorem tw_598 : Cond.methodLink RL 35 yX10_setWithdrawn ∈ TB := tb_3 (i := 24) (by decide +kernel) rfl
theorem tw_599 : Cond.instanceMethod yX10_setWithdrawn ∈ TB := tb_3 (i := 25) (by decide +kernel) rfl
theorem tw_600 : Cond.selects RX10 yX10_setWithdrawn yX10_setWithdrawn ∈ TB := tb_3 (i := 26) (by decide +kernel) rfl
theorem tw_601 : Cond.code yX10_setWithdrawn cX10_setWithdrawn 3 (some .int) ∈ TB := tb_3 (i := 27) (by decide +kernel) rfl
theorem tw_602 : Cond.methodLink RX10 148 yX8_withdraw ∈ TB := tb_3 (i := 28) (by decide +kernel) rfl
theorem tw_603 : Cond.instanceMethod yX8_withdraw ∈ TB := tb_3 (i := 29) (by decide +kernel) rfl
theorem tw_604 : Cond.selects RX8 yX8_withdraw yX8_withdraw ∈ TB := tb_3 (i := 30) (by decide +kernel) rfl
theorem tw_605 : Cond.code yX8_withdraw cX8_withdraw 3 none ∈ TB := tb_3 (i := 31) (by decide +kernel) rfl
theorem tw_606 : Cond.methodLink RX10 152 yX10_presentRows ∈ TB := tb_3 (i := 32) (by decide +kernel) rfl
theorem tw_607 : Cond.instanceMethod yX10_presentRows ∈ TB := tb_3 (i := 34) (by decide +kernel) rfl
theorem tw_608 : Cond.selects RX10 yX10_presentRows yX10_presentRows ∈ TB := tb_p (q := (yX10_presentRows, 10)) (List.mem_of_getElem? (i := 12) (by decide +kernel))
theorem tw_609 : Cond.code yX10_presentRows cX10_presentRows 1 (some .int) ∈ TB := tb_3 (i := 35) (by decide +kernel) rfl
theorem tw_610 : Cond.methodLink RX10 209 yX0_answer ∈ TB := tb_3 (i := 36) (by decide +kernel) rfl
theorem tw_611 : Cond.instanceMethod yX0_answer ∈ TB := tb_3 (i := 37) (by decide +kernel) rfl
theorem tw_612 : Cond.selects RX0 yX0_answer yX0_answer ∈ TB := tb_3 (i := 38) (by decide +kernel) rfl
theorem tw_613 : Cond.code yX0_answer cX0_answer 1 (some (.object "ProvenanceTables$Relation")) ∈ TB := tb_3 (i := 39) (by decide +kernel) rfl
theorem tw_614 : Cond.methodLink RX10 193 yX8_withdrawnMask ∈ TB := tb_3 (i := 40) (by decide +kernel) rfl
theorem tw_615 : Cond.instanceMethod yX8_withdrawnMask ∈ TB := tb_3 (i := 41) (by decide +kernel) rfl
theorem tw_616 : Cond.selects RX8 yX8_withdrawnMask yX8_withdrawnMask ∈ TB := tb_3 (i := 42) (by decide +kernel) rfl
theorem tw_617 : Cond.code yX8_withdrawnMask cX8_withdrawnMask 1 (some .int) ∈ TB := tb_3 (i := 43) (by decide +kernel) rfl
theorem tw_618 : Cond.methodLink RX10 296 yX7_countPresent ∈ TB := tb_3 (i := 44) (by decide +kernel) rfl
theorem tw_619 : Cond.instanceMethod yX7_countPresent ∈ TB := tb_3 (i := 45) (by decide +kernel) rfl
theorem tw_620 : Cond.selects RX7 yX7_countPresent yX7_countPresent ∈ TB := tb_3 (i := 46) (by decide +kernel) rfl
theorem tw_621 : Cond.code yX7_countPresent cX7_countPresent 7 (some .int) ∈ TB := tb_3 (i := 47) (by decide +kernel) rfl
theorem tw_622 : Cond.methodLink RX7 33 yX4_maskOf ∈ TB := tb_3 (i := 48) (by decide +kernel) rfl
theorem tw_623 : Cond.static yX4_maskOf ∈ TB := tb_3 (i := 49) (by decide +kernel) rfl
theorem tw_624 : Cond.code yX4_maskOf cX4_maskOf 4 (some .long) ∈ TB := tb_3 (i := 50) (by decide +kernel) rfl
theorem tw_625 : Cond.constantLong RX4 17 (15) ∈ TB := tb_3 (i := 51) (by decide +kernel) rfl
theorem tw_626 : Cond.methodLink RX7 39 yX7_polynomialAt ∈ TB := tb_3 (i := 52) (by decide +kernel) rfl
theorem tw_627 : Cond.methodLink RX7 43 yX5_hasTermWithout ∈ TB := tb_3 (i := 53) (by decide +kernel) rfl
theorem tw_628 : Cond.instanceMethod yX5_hasTermWithout ∈ TB := tb_3 (i := 54) (by decide +kernel) rfl
theorem tw_629 : Cond.selects RX5 yX5_hasTermWithout yX5_hasTermWithout ∈ TB := tb_3 (i := 55) (by decide +kernel) rfl
theorem tw_630 : Cond.code yX5_hasTermWithout cX5_hasTermWithout 4 (some .boolean) ∈ TB := tb_3 (i := 56) (by decide +kernel) rfl
theorem tw_631 : Cond.methodLink RX5 34 yX5_monomialAt ∈ TB := tb_3 (i := 57) (by decide +kernel) rfl
theorem tw_632 : Cond.instanceMethod yX5_monomialAt ∈ TB := tb_3 (i := 58) (by decide +kernel) rfl
theorem tw_633 : Cond.selects RX5 yX5_monomialAt yX5_monomialAt ∈ TB := tb_3 (i := 59) (by decide +kernel) rfl
theorem tw_634 : Cond.code yX5_monomialAt cX5_monomialAt 2 (some .long) ∈ TB := tb_3 (i := 60) (by decide +kernel) rfl
theorem tw_635 : Cond.methodLink RX5 22 yX5_hasTerm ∈ TB := tb_3 (i := 61) (by decide +kernel) rfl
theorem tw_636 : Cond.instanceMethod yX5_hasTerm ∈ TB := tb_3 (i := 62) (by decide +kernel) rfl
theorem tw_637 : Cond.selects RX5 yX5_hasTerm yX5_hasTerm ∈ TB := tb_3 (i := 63) (by decide +kernel) rfl
theorem tw_638 : Cond.code yX5_hasTerm cX5_hasTerm 2 (some .boolean) ∈ TB := tb_3 (i := 64) (by decide +kernel) rfl
theorem tw_639 : Cond.methodLink RL 39 yX11_setWithdrawn ∈ TB := tb_5 (i := 220) (by decide +kernel) rfl
theorem tw_640 : Cond.instanceMethod yX11_setWithdrawn ∈ TB := tb_5 (i := 221) (by decide +kernel) rfl
theorem tw_641 : Cond.selects RX11 yX11_setWithdrawn yX11_setWithdrawn ∈ TB := tb_5 (i := 222) (by decide +kernel) rfl
theorem tw_642 : Cond.code yX11_setWithdrawn cX11_setWithdrawn 3 (some .int) ∈ TB := tb_5 (i := 223) (by decide +kernel) rfl
theorem tw_643 : Cond.methodLink RX11 249 yX11_presentRows ∈ TB := tb_5 (i := 224) (by decide +kernel) rfl
theorem tw_644 : Cond.instanceMethod yX11_presentRows ∈ TB := tb_5 (i := 226) (by decide +kernel) rfl
theorem tw_645 : Cond.selects RX11 yX11_presentRows yX11_presentRows ∈ TB := tb_p (q := (yX11_presentRows, 32)) (List.mem_of_getElem? (i := 65) (by decide +kernel))
theorem tw_646 : Cond.code yX11_presentRows cX11_presentRows 4 (some .int) ∈ TB := tb_5 (i := 227) (by decide +kernel) rfl
theorem tw_647 : Cond.methodLink RX11 258 yX11_laysAnswer ∈ TB := tb_5 (i := 228) (by decide +kernel) rfl
theorem tw_648 : Cond.instanceMethod yX11_laysAnswer ∈ TB := tb_5 (i := 230) (by decide +kernel) rfl
theorem tw_649 : Cond.selects RX11 yX11_laysAnswer yX11_laysAnswer ∈ TB := tb_p (q := (yX11_laysAnswer, 32)) (List.mem_of_getElem? (i := 66) (by decide +kernel))
theorem tw_650 : Cond.code yX11_laysAnswer cX11_laysAnswer 2 none ∈ TB := tb_5 (i := 231) (by decide +kernel) rfl
theorem tw_651 : Cond.methodLink RX11 298 yX11_isPresent ∈ TB := tb_5 (i := 232) (by decide +kernel) rfl
theorem tw_652 : Cond.instanceMethod yX11_isPresent ∈ TB := tb_5 (i := 234) (by decide +kernel) rfl
theorem tw_653 : Cond.selects RX11 yX11_isPresent yX11_isPresent ∈ TB := tb_p (q := (yX11_isPresent, 32)) (List.mem_of_getElem? (i := 67) (by decide +kernel))
theorem tw_654 : Cond.code yX11_isPresent cX11_isPresent 5 (some .boolean) ∈ TB := tb_5 (i := 235) (by decide +kernel) rfl
theorem tw_655 : Cond.methodLink RX11 295 yX11_isAvailable ∈ TB := tb_5 (i := 236) (by decide +kernel) rfl
theorem tw_656 : Cond.instanceMethod yX11_isAvailable ∈ TB := tb_5 (i := 238) (by decide +kernel) rfl
theorem tw_657 : Cond.selects RX11 yX11_isAvailable yX11_isAvailable ∈ TB := tb_p (q := (yX11_isAvailable, 32)) (List.mem_of_getElem? (i := 68) (by decide +kernel))
theorem tw_658 : Cond.code yX11_isAvailable cX11_isAvailable 4 (some .boolean) ∈ TB := tb_5 (i := 239) (by decide +kernel) rfl
theorem tw_659 : Cond.methodLink RX11 275 yX11_setOf ∈ TB := tb_6 (i := 0) (by decide +kernel) rfl
theorem tw_660 : Cond.static yX11_setOf ∈ TB := tb_6 (i := 1) (by decide +kernel) rfl
theorem tw_661 : Cond.code yX11_setOf cX11_setOf 4 (some .int) ∈ TB := tb_6 (i := 2) (by decide +kernel) rfl
theorem tw_662 : Cond.methodLink RX11 264 yX11_exponentOf ∈ TB := tb_6 (i := 3) (by decide +kernel) rfl
theorem tw_663 : Cond.static yX11_exponentOf ∈ TB := tb_6 (i := 4) (by decide +kernel) rfl
theorem tw_664 : Cond.code yX11_exponentOf cX11_exponentOf 3 (some .int) ∈ TB := tb_6 (i := 5) (by decide +kernel) rfl
theorem tw_665 : Cond.constantLong RX11 167 (15) ∈ TB := tb_6 (i := 6) (by decide +kernel) rfl
theorem tw_666 : Cond.methodLink RL 40 yX10_setQuery ∈ TB := tb_3 (i := 65) (by decide +kernel) rfl
theorem tw_667 : Cond.instanceMethod yX10_setQuery ∈ TB := tb_3 (i := 66) (by decide +kernel) rfl
theorem tw_668 : Cond.selects RX10 yX10_setQuery yX10_setQuery ∈ TB := tb_3 (i := 67) (by decide +kernel) rfl
theorem tw_669 : Cond.code yX10_setQuery cX10_setQuery 1 (some .int) ∈ TB := tb_3 (i := 68) (by decide +kernel) rfl
theorem tw_670 : Cond.methodLink RX10 155 yX6_read ∈ TB := tb_3 (i := 69) (by decide +kernel) rfl
theorem tw_671 : Cond.instanceMethod yX6_read ∈ TB := tb_3 (i := 70) (by decide +kernel) rfl
theorem tw_672 : Cond.selects RX6 yX6_read yX6_read ∈ TB := tb_3 (i := 71) (by decide +kernel) rfl
theorem tw_673 : Cond.code yX6_read cX6_read 5 (some .boolean) ∈ TB := tb_3 (i := 72) (by decide +kernel) rfl
theorem tw_674 : Cond.fieldLink RX6 43 "ProvenanceTables$Query" "line" "LProvenanceTables$Line;" ∈ TB := tb_1 (i := 101) (by decide +kernel) rfl
theorem tw_675 : Cond.fieldLink RX6 36 "ProvenanceTables$Query" "at" "I" ∈ TB := tb_1 (i := 103) (by decide +kernel) rfl
theorem tw_676 : Cond.fieldLink RX6 47 "ProvenanceTables$Query" "dueCount" "I" ∈ TB := tb_1 (i := 104) (by decide +kernel) rfl
theorem tw_677 : Cond.methodLink RX6 50 yX6_push ∈ TB := tb_3 (i := 73) (by decide +kernel) rfl
theorem tw_678 : Cond.instanceMethod yX6_push ∈ TB := tb_3 (i := 75) (by decide +kernel) rfl
theorem tw_679 : Cond.selects RX6 yX6_push yX6_push ∈ TB := tb_p (q := (yX6_push, 10)) (List.mem_of_getElem? (i := 13) (by decide +kernel))
theorem tw_680 : Cond.code yX6_push cX6_push 2 none ∈ TB := tb_3 (i := 76) (by decide +kernel) rfl
theorem tw_681 : Cond.methodLink RX6 54 yX6_pop ∈ TB := tb_3 (i := 77) (by decide +kernel) rfl
theorem tw_682 : Cond.instanceMethod yX6_pop ∈ TB := tb_3 (i := 79) (by decide +kernel) rfl
theorem tw_683 : Cond.selects RX6 yX6_pop yX6_pop ∈ TB := tb_p (q := (yX6_pop, 10)) (List.mem_of_getElem? (i := 14) (by decide +kernel))
theorem tw_684 : Cond.code yX6_pop cX6_pop 1 (some .char) ∈ TB := tb_3 (i := 80) (by decide +kernel) rfl
theorem tw_685 : Cond.methodLink RX6 58 yX6_readHead ∈ TB := tb_3 (i := 81) (by decide +kernel) rfl
theorem tw_686 : Cond.instanceMethod yX6_readHead ∈ TB := tb_3 (i := 83) (by decide +kernel) rfl
theorem tw_687 : Cond.selects RX6 yX6_readHead yX6_readHead ∈ TB := tb_p (q := (yX6_readHead, 10)) (List.mem_of_getElem? (i := 15) (by decide +kernel))
theorem tw_688 : Cond.code yX6_readHead cX6_readHead 2 (some .boolean) ∈ TB := tb_3 (i := 84) (by decide +kernel) rfl
theorem tw_689 : Cond.methodLink RX6 104 yX6_nextCode ∈ TB := tb_3 (i := 85) (by decide +kernel) rfl
theorem tw_690 : Cond.instanceMethod yX6_nextCode ∈ TB := tb_3 (i := 87) (by decide +kernel) rfl
theorem tw_691 : Cond.selects RX6 yX6_nextCode yX6_nextCode ∈ TB := tb_p (q := (yX6_nextCode, 10)) (List.mem_of_getElem? (i := 16) (by decide +kernel))
theorem tw_692 : Cond.code yX6_nextCode cX6_nextCode 1 (some .int) ∈ TB := tb_3 (i := 88) (by decide +kernel) rfl
theorem tw_693 : Cond.methodLink RX6 125 yX3_codeAt ∈ TB := tb_3 (i := 89) (by decide +kernel) rfl
theorem tw_694 : Cond.methodLink RX6 107 yX6_addNode ∈ TB := tb_3 (i := 90) (by decide +kernel) rfl
theorem tw_695 : Cond.instanceMethod yX6_addNode ∈ TB := tb_3 (i := 92) (by decide +kernel) rfl
theorem tw_696 : Cond.selects RX6 yX6_addNode yX6_addNode ∈ TB := tb_p (q := (yX6_addNode, 10)) (List.mem_of_getElem? (i := 17) (by decide +kernel))
theorem tw_697 : Cond.code yX6_addNode cX6_addNode 5 (some .boolean) ∈ TB := tb_3 (i := 93) (by decide +kernel) rfl
theorem tw_698 : Cond.methodLink RX6 80 yX6_partsOf ∈ TB := tb_3 (i := 94) (by decide +kernel) rfl
theorem tw_699 : Cond.methodLink RX6 110 yX6_readSelect ∈ TB := tb_3 (i := 95) (by decide +kernel) rfl
theorem tw_700 : Cond.instanceMethod yX6_readSelect ∈ TB := tb_3 (i := 97) (by decide +kernel) rfl
theorem tw_701 : Cond.selects RX6 yX6_readSelect yX6_readSelect ∈ TB := tb_p (q := (yX6_readSelect, 10)) (List.mem_of_getElem? (i := 18) (by decide +kernel))
theorem tw_702 : Cond.code yX6_readSelect cX6_readSelect 4 (some .boolean) ∈ TB := tb_3 (i := 98) (by decide +kernel) rfl
theorem tw_703 : Cond.methodLink RX6 119 yX6_takeDigit ∈ TB := tb_3 (i := 99) (by decide +kernel) rfl
theorem tw_704 : Cond.instanceMethod yX6_takeDigit ∈ TB := tb_3 (i := 101) (by decide +kernel) rfl
theorem tw_705 : Cond.selects RX6 yX6_takeDigit yX6_takeDigit ∈ TB := tb_p (q := (yX6_takeDigit, 10)) (List.mem_of_getElem? (i := 19) (by decide +kernel))
theorem tw_706 : Cond.code yX6_takeDigit cX6_takeDigit 3 (some .int) ∈ TB := tb_3 (i := 102) (by decide +kernel) rfl
theorem tw_707 : Cond.methodLink RX6 62 yX6_take ∈ TB := tb_3 (i := 103) (by decide +kernel) rfl
theorem tw_708 : Cond.instanceMethod yX6_take ∈ TB := tb_3 (i := 105) (by decide +kernel) rfl
theorem tw_709 : Cond.selects RX6 yX6_take yX6_take ∈ TB := tb_p (q := (yX6_take, 10)) (List.mem_of_getElem? (i := 20) (by decide +kernel))
theorem tw_710 : Cond.code yX6_take cX6_take 2 (some .boolean) ∈ TB := tb_3 (i := 106) (by decide +kernel) rfl
theorem tw_711 : Cond.methodLink RX6 113 yX6_readProject ∈ TB := tb_3 (i := 107) (by decide +kernel) rfl
theorem tw_712 : Cond.instanceMethod yX6_readProject ∈ TB := tb_3 (i := 109) (by decide +kernel) rfl
theorem tw_713 : Cond.selects RX6 yX6_readProject yX6_readProject ∈ TB := tb_p (q := (yX6_readProject, 10)) (List.mem_of_getElem? (i := 21) (by decide +kernel))
theorem tw_714 : Cond.code yX6_readProject cX6_readProject 5 (some .boolean) ∈ TB := tb_3 (i := 110) (by decide +kernel) rfl
theorem tw_715 : Cond.methodLink RX6 122 yX2_join ∈ TB := tb_3 (i := 111) (by decide +kernel) rfl
theorem tw_716 : Cond.methodLink RX6 116 yX6_readJoin ∈ TB := tb_3 (i := 112) (by decide +kernel) rfl
theorem tw_717 : Cond.instanceMethod yX6_readJoin ∈ TB := tb_3 (i := 114) (by decide +kernel) rfl
theorem tw_718 : Cond.selects RX6 yX6_readJoin yX6_readJoin ∈ TB := tb_p (q := (yX6_readJoin, 10)) (List.mem_of_getElem? (i := 22) (by decide +kernel))
theorem tw_719 : Cond.code yX6_readJoin cX6_readJoin 3 (some .boolean) ∈ TB := tb_3 (i := 115) (by decide +kernel) rfl
theorem tw_720 : Cond.methodLink RX6 66 yX3_length ∈ TB := tb_3 (i := 116) (by decide +kernel) rfl
theorem tw_721 : Cond.methodLink RX10 159 yX6_fits ∈ TB := tb_3 (i := 117) (by decide +kernel) rfl
theorem tw_722 : Cond.instanceMethod yX6_fits ∈ TB := tb_3 (i := 118) (by decide +kernel) rfl
theorem tw_723 : Cond.selects RX6 yX6_fits yX6_fits ∈ TB := tb_3 (i := 119) (by decide +kernel) rfl
theorem tw_724 : Cond.code yX6_fits cX6_fits 7 (some .boolean) ∈ TB := tb_3 (i := 120) (by decide +kernel) rfl
theorem tw_725 : Cond.methodLink RX6 72 yX6_widthOfNode ∈ TB := tb_3 (i := 121) (by decide +kernel) rfl
theorem tw_726 : Cond.instanceMethod yX6_widthOfNode ∈ TB := tb_3 (i := 123) (by decide +kernel) rfl
theorem tw_727 : Cond.selects RX6 yX6_widthOfNode yX6_widthOfNode ∈ TB := tb_p (q := (yX6_widthOfNode, 10)) (List.mem_of_getElem? (i := 23) (by decide +kernel))
theorem tw_728 : Cond.code yX6_widthOfNode cX6_widthOfNode 7 (some .int) ∈ TB := tb_3 (i := 124) (by decide +kernel) rfl
theorem tw_729 : Cond.methodLink RX6 83 yX6_firstAt ∈ TB := tb_3 (i := 125) (by decide +kernel) rfl
theorem tw_730 : Cond.methodLink RX6 86 yX6_secondAt ∈ TB := tb_3 (i := 126) (by decide +kernel) rfl
theorem tw_731 : Cond.methodLink RX6 76 yX6_kindAt ∈ TB := tb_3 (i := 127) (by decide +kernel) rfl
theorem tw_732 : Cond.methodLink RX6 89 yX8_widthOf ∈ TB := tb_3 (i := 128) (by decide +kernel) rfl
theorem tw_733 : Cond.methodLink RX6 94 yX6_namesColumnsBelow ∈ TB := tb_3 (i := 129) (by decide +kernel) rfl
theorem tw_734 : Cond.static yX6_namesColumnsBelow ∈ TB := tb_3 (i := 130) (by decide +kernel) rfl
theorem tw_735 : Cond.code yX6_namesColumnsBelow cX6_namesColumnsBelow 4 (some .boolean) ∈ TB := tb_3 (i := 131) (by decide +kernel) rfl
theorem tw_736 : Cond.methodLink RX6 98 yX2_digit ∈ TB := tb_3 (i := 132) (by decide +kernel) rfl
theorem tw_737 : Cond.methodLink RX10 163 yX8_queryLine ∈ TB := tb_3 (i := 133) (by decide +kernel) rfl
theorem tw_738 : Cond.instanceMethod yX8_queryLine ∈ TB := tb_3 (i := 134) (by decide +kernel) rfl
theorem tw_739 : Cond.selects RX8 yX8_queryLine yX8_queryLine ∈ TB := tb_3 (i := 135) (by decide +kernel) rfl
theorem tw_740 : Cond.code yX8_queryLine cX8_queryLine 1 (some (.object "ProvenanceTables$Line")) ∈ TB := tb_3 (i := 136) (by decide +kernel) rfl
theorem tw_741 : Cond.methodLink RX10 167 yX3_copy ∈ TB := tb_3 (i := 137) (by decide +kernel) rfl
theorem tw_742 : Cond.methodLink RX10 170 yX10_answerRows ∈ TB := tb_3 (i := 138) (by decide +kernel) rfl
theorem tw_743 : Cond.instanceMethod yX10_answerRows ∈ TB := tb_3 (i := 139) (by decide +kernel) rfl
theorem tw_744 : Cond.selects RX10 yX10_answerRows yX10_answerRows ∈ TB := tb_3 (i := 140) (by decide +kernel) rfl
theorem tw_745 : Cond.code yX10_answerRows cX10_answerRows 1 (some .int) ∈ TB := tb_3 (i := 141) (by decide +kernel) rfl
theorem tw_746 : Cond.methodLink RX10 213 yX7_size ∈ TB := tb_3 (i := 142) (by decide +kernel) rfl
theorem tw_747 : Cond.methodLink RL 44 yX11_setQuery ∈ TB := tb_6 (i := 7) (by decide +kernel) rfl
theorem tw_748 : Cond.instanceMethod yX11_setQuery ∈ TB := tb_6 (i := 8) (by decide +kernel) rfl
theorem tw_749 : Cond.selects RX11 yX11_setQuery yX11_setQuery ∈ TB := tb_6 (i := 9) (by decide +kernel) rfl
theorem tw_750 : Cond.code yX11_setQuery cX11_setQuery 2 (some .int) ∈ TB := tb_6 (i := 10) (by decide +kernel) rfl
theorem tw_751 : Cond.fieldLink RX11 135 "ProvenanceTablesModel" "length" "I" ∈ TB := tb_4 (i := 192) (by decide +kernel) rfl
theorem tw_752 : Cond.methodLink RX11 252 yX11_takesText ∈ TB := tb_6 (i := 11) (by decide +kernel) rfl
theorem tw_753 : Cond.instanceMethod yX11_takesText ∈ TB := tb_6 (i := 13) (by decide +kernel) rfl
theorem tw_754 : Cond.selects RX11 yX11_takesText yX11_takesText ∈ TB := tb_p (q := (yX11_takesText, 32)) (List.mem_of_getElem? (i := 69) (by decide +kernel))
theorem tw_755 : Cond.code yX11_takesText cX11_takesText 2 none ∈ TB := tb_6 (i := 14) (by decide +kernel) rfl
theorem tw_756 : Cond.methodLink RX11 255 yX11_fits ∈ TB := tb_6 (i := 15) (by decide +kernel) rfl
theorem tw_757 : Cond.instanceMethod yX11_fits ∈ TB := tb_6 (i := 17) (by decide +kernel) rfl
theorem tw_758 : Cond.selects RX11 yX11_fits yX11_fits ∈ TB := tb_p (q := (yX11_fits, 32)) (List.mem_of_getElem? (i := 70) (by decide +kernel))
theorem tw_759 : Cond.code yX11_fits cX11_fits 3 (some .boolean) ∈ TB := tb_6 (i := 18) (by decide +kernel) rfl
theorem tw_760 : Cond.methodLink RX11 147 yX11_fitsStep ∈ TB := tb_6 (i := 19) (by decide +kernel) rfl
theorem tw_761 : Cond.instanceMethod yX11_fitsStep ∈ TB := tb_6 (i := 21) (by decide +kernel) rfl
theorem tw_762 : Cond.selects RX11 yX11_fitsStep yX11_fitsStep ∈ TB := tb_p (q := (yX11_fitsStep, 32)) (List.mem_of_getElem? (i := 71) (by decide +kernel))
theorem tw_763 : Cond.code yX11_fitsStep cX11_fitsStep 3 (some .boolean) ∈ TB := tb_6 (i := 22) (by decide +kernel) rfl
theorem tw_764 : Cond.methodLink RX11 144 yX11_greatest ∈ TB := tb_6 (i := 23) (by decide +kernel) rfl
theorem tw_765 : Cond.static yX11_greatest ∈ TB := tb_6 (i := 24) (by decide +kernel) rfl
theorem tw_766 : Cond.code yX11_greatest cX11_greatest 5 (some .int) ∈ TB := tb_6 (i := 25) (by decide +kernel) rfl
theorem tw_767 : Cond.methodLink RL 45 yX10_dropQuery ∈ TB := tb_3 (i := 143) (by decide +kernel) rfl
theorem tw_768 : Cond.instanceMethod yX10_dropQuery ∈ TB := tb_3 (i := 144) (by decide +kernel) rfl
theorem tw_769 : Cond.selects RX10 yX10_dropQuery yX10_dropQuery ∈ TB := tb_3 (i := 145) (by decide +kernel) rfl
theorem tw_770 : Cond.code yX10_dropQuery cX10_dropQuery 2 (some .int) ∈ TB := tb_3 (i := 146) (by decide +kernel) rfl
theorem tw_771 : Cond.methodLink RX10 173 yX3_length ∈ TB := tb_3 (i := 147) (by decide +kernel) rfl
theorem tw_772 : Cond.methodLink RX10 176 yX3_clear ∈ TB := tb_3 (i := 148) (by decide +kernel) rfl
theorem tw_773 : Cond.methodLink RL 48 yX11_dropQuery ∈ TB := tb_6 (i := 26) (by decide +kernel) rfl
theorem tw_774 : Cond.instanceMethod yX11_dropQuery ∈ TB := tb_6 (i := 27) (by decide +kernel) rfl
theorem tw_775 : Cond.selects RX11 yX11_dropQuery yX11_dropQuery ∈ TB := tb_6 (i := 28) (by decide +kernel) rfl
theorem tw_776 : Cond.code yX11_dropQuery cX11_dropQuery 3 (some .int) ∈ TB := tb_6 (i := 29) (by decide +kernel) rfl
theorem tw_777 : Cond.methodLink RL 49 yX10_append ∈ TB := tb_3 (i := 149) (by decide +kernel) rfl
theorem tw_778 : Cond.instanceMethod yX10_append ∈ TB := tb_3 (i := 150) (by decide +kernel) rfl
theorem tw_779 : Cond.selects RX10 yX10_append yX10_append ∈ TB := tb_3 (i := 151) (by decide +kernel) rfl
theorem tw_780 : Cond.code yX10_append cX10_append 2 (some .int) ∈ TB := tb_3 (i := 152) (by decide +kernel) rfl
theorem tw_781 : Cond.methodLink RX10 179 yX3_add ∈ TB := tb_3 (i := 153) (by decide +kernel) rfl
theorem tw_782 : Cond.methodLink RL 52 yX11_append ∈ TB := tb_6 (i := 30) (by decide +kernel) rfl
theorem tw_783 : Cond.instanceMethod yX11_append ∈ TB := tb_6 (i := 31) (by decide +kernel) rfl
theorem tw_784 : Cond.selects RX11 yX11_append yX11_append ∈ TB := tb_6 (i := 32) (by decide +kernel) rfl
theorem tw_785 : Cond.code yX11_append cX11_append 2 (some .int) ∈ TB := tb_6 (i := 33) (by decide +kernel) rfl
theorem tw_786 : Cond.methodLink RL 53 yX10_clearText ∈ TB := tb_3 (i := 154) (by decide +kernel) rfl
theorem tw_787 : Cond.instanceMethod yX10_clearText ∈ TB := tb_3 (i := 155) (by decide +kernel) rfl
theorem tw_788 : Cond.selects RX10 yX10_clearText yX10_clearText ∈ TB := tb_3 (i := 156) (by decide +kernel) rfl
theorem tw_789 : Cond.code yX10_clearText cX10_clearText 2 (some .int) ∈ TB := tb_3 (i := 157) (by decide +kernel) rfl
theorem tw_790 : Cond.methodLink RL 56 yX11_clearText ∈ TB := tb_6 (i := 34) (by decide +kernel) rfl
theorem tw_791 : Cond.instanceMethod yX11_clearText ∈ TB := tb_6 (i := 35) (by decide +kernel) rfl
theorem tw_792 : Cond.selects RX11 yX11_clearText yX11_clearText ∈ TB := tb_6 (i := 36) (by decide +kernel) rfl
theorem tw_793 : Cond.code yX11_clearText cX11_clearText 2 (some .int) ∈ TB := tb_6 (i := 37) (by decide +kernel) rfl
theorem tw_794 : Cond.methodLink RL 57 yX10_fault ∈ TB := tb_3 (i := 158) (by decide +kernel) rfl
theorem tw_795 : Cond.instanceMethod yX10_fault ∈ TB := tb_3 (i := 159) (by decide +kernel) rfl
theorem tw_796 : Cond.selects RX10 yX10_fault yX10_fault ∈ TB := tb_3 (i := 160) (by decide +kernel) rfl
theorem tw_797 : Cond.code yX10_fault cX10_fault 1 (some .int) ∈ TB := tb_3 (i := 161) (by decide +kernel) rfl
theorem tw_798 : Cond.methodLink RX10 183 yX6_stoppedAt ∈ TB := tb_3 (i := 162) (by decide +kernel) rfl
theorem tw_799 : Cond.instanceMethod yX6_stoppedAt ∈ TB := tb_3 (i := 163) (by decide +kernel) rfl
theorem tw_800 : Cond.selects RX6 yX6_stoppedAt yX6_stoppedAt ∈ TB := tb_3 (i := 164) (by decide +kernel) rfl
theorem tw_801 : Cond.code yX6_stoppedAt cX6_stoppedAt 1 (some .int) ∈ TB := tb_3 (i := 165) (by decide +kernel) rfl
theorem tw_802 : Cond.methodLink RL 60 yX11_fault ∈ TB := tb_6 (i := 38) (by decide +kernel) rfl
theorem tw_803 : Cond.instanceMethod yX11_fault ∈ TB := tb_6 (i := 39) (by decide +kernel) rfl
theorem tw_804 : Cond.selects RX11 yX11_fault yX11_fault ∈ TB := tb_6 (i := 40) (by decide +kernel) rfl
theorem tw_805 : Cond.code yX11_fault cX11_fault 1 (some .int) ∈ TB := tb_6 (i := 41) (by decide +kernel) rfl
theorem tw_806 : Cond.methodLink RL 61 yX10_undo ∈ TB := tb_3 (i := 166) (by decide +kernel) rfl
theorem tw_807 : Cond.instanceMethod yX10_undo ∈ TB := tb_3 (i := 167) (by decide +kernel) rfl
theorem tw_808 : Cond.selects RX10 yX10_undo yX10_undo ∈ TB := tb_3 (i := 168) (by decide +kernel) rfl
theorem tw_809 : Cond.code yX10_undo cX10_undo 2 (some .int) ∈ TB := tb_3 (i := 169) (by decide +kernel) rfl
theorem tw_810 : Cond.methodLink RX10 186 yX1_takeLatest ∈ TB := tb_3 (i := 170) (by decide +kernel) rfl
theorem tw_811 : Cond.instanceMethod yX1_takeLatest ∈ TB := tb_3 (i := 171) (by decide +kernel) rfl
theorem tw_812 : Cond.selects RX1 yX1_takeLatest yX1_takeLatest ∈ TB := tb_3 (i := 172) (by decide +kernel) rfl
theorem tw_813 : Cond.code yX1_takeLatest cX1_takeLatest 1 (some (.object "ProvenanceTables$State")) ∈ TB := tb_3 (i := 173) (by decide +kernel) rfl
theorem tw_814 : Cond.methodLink RX10 190 yX1_size ∈ TB := tb_3 (i := 174) (by decide +kernel) rfl
theorem tw_815 : Cond.instanceMethod yX1_size ∈ TB := tb_3 (i := 175) (by decide +kernel) rfl
theorem tw_816 : Cond.selects RX1 yX1_size yX1_size ∈ TB := tb_3 (i := 176) (by decide +kernel) rfl
theorem tw_817 : Cond.code yX1_size cX1_size 1 (some .int) ∈ TB := tb_3 (i := 177) (by decide +kernel) rfl
theorem tw_818 : Cond.methodLink RL 64 yX11_undo ∈ TB := tb_6 (i := 42) (by decide +kernel) rfl
theorem tw_819 : Cond.instanceMethod yX11_undo ∈ TB := tb_6 (i := 43) (by decide +kernel) rfl
theorem tw_820 : Cond.selects RX11 yX11_undo yX11_undo ∈ TB := tb_6 (i := 44) (by decide +kernel) rfl
theorem tw_821 : Cond.code yX11_undo cX11_undo 2 (some .int) ∈ TB := tb_6 (i := 45) (by decide +kernel) rfl
theorem tw_822 : Cond.methodLink RL 65 yX10_columns ∈ TB := tb_3 (i := 178) (by decide +kernel) rfl
theorem tw_823 : Cond.instanceMethod yX10_columns ∈ TB := tb_3 (i := 179) (by decide +kernel) rfl
theorem tw_824 : Cond.selects RX10 yX10_columns yX10_columns ∈ TB := tb_3 (i := 180) (by decide +kernel) rfl
theorem tw_825 : Cond.code yX10_columns cX10_columns 2 (some .int) ∈ TB := tb_3 (i := 181) (by decide +kernel) rfl
theorem tw_826 : Cond.methodLink RL 68 yX11_columns ∈ TB := tb_6 (i := 46) (by decide +kernel) rfl
theorem tw_827 : Cond.instanceMethod yX11_columns ∈ TB := tb_6 (i := 47) (by decide +kernel) rfl
theorem tw_828 : Cond.selects RX11 yX11_columns yX11_columns ∈ TB := tb_6 (i := 48) (by decide +kernel) rfl
theorem tw_829 : Cond.code yX11_columns cX11_columns 2 (some .int) ∈ TB := tb_6 (i := 49) (by decide +kernel) rfl
theorem tw_830 : Cond.methodLink RL 69 yX10_tags ∈ TB := tb_3 (i := 182) (by decide +kernel) rfl
theorem tw_831 : Cond.instanceMethod yX10_tags ∈ TB := tb_3 (i := 183) (by decide +kernel) rfl
theorem tw_832 : Cond.selects RX10 yX10_tags yX10_tags ∈ TB := tb_3 (i := 184) (by decide +kernel) rfl
theorem tw_833 : Cond.code yX10_tags cX10_tags 1 (some .int) ∈ TB := tb_3 (i := 185) (by decide +kernel) rfl
theorem tw_834 : Cond.methodLink RL 72 yX11_tags ∈ TB := tb_6 (i := 50) (by decide +kernel) rfl
theorem tw_835 : Cond.instanceMethod yX11_tags ∈ TB := tb_6 (i := 51) (by decide +kernel) rfl
theorem tw_836 : Cond.selects RX11 yX11_tags yX11_tags ∈ TB := tb_6 (i := 52) (by decide +kernel) rfl
theorem tw_837 : Cond.code yX11_tags cX11_tags 1 (some .int) ∈ TB := tb_6 (i := 53) (by decide +kernel) rfl
theorem tw_838 : Cond.methodLink RL 73 yX10_withdrawn ∈ TB := tb_3 (i := 186) (by decide +kernel) rfl
theorem tw_839 : Cond.instanceMethod yX10_withdrawn ∈ TB := tb_3 (i := 187) (by decide +kernel) rfl
theorem tw_840 : Cond.selects RX10 yX10_withdrawn yX10_withdrawn ∈ TB := tb_3 (i := 188) (by decide +kernel) rfl
theorem tw_841 : Cond.code yX10_withdrawn cX10_withdrawn 1 (some .int) ∈ TB := tb_3 (i := 189) (by decide +kernel) rfl
theorem tw_842 : Cond.methodLink RL 76 yX11_withdrawn ∈ TB := tb_6 (i := 54) (by decide +kernel) rfl
theorem tw_843 : Cond.instanceMethod yX11_withdrawn ∈ TB := tb_6 (i := 55) (by decide +kernel) rfl
theorem tw_844 : Cond.selects RX11 yX11_withdrawn yX11_withdrawn ∈ TB := tb_6 (i := 56) (by decide +kernel) rfl
theorem tw_845 : Cond.code yX11_withdrawn cX11_withdrawn 1 (some .int) ∈ TB := tb_6 (i := 57) (by decide +kernel) rfl
theorem tw_846 : Cond.methodLink RL 77 yX10_tableOf ∈ TB := tb_3 (i := 190) (by decide +kernel) rfl
theorem tw_847 : Cond.instanceMethod yX10_tableOf ∈ TB := tb_3 (i := 191) (by decide +kernel) rfl
theorem tw_848 : Cond.selects RX10 yX10_tableOf yX10_tableOf ∈ TB := tb_3 (i := 192) (by decide +kernel) rfl
theorem tw_849 : Cond.code yX10_tableOf cX10_tableOf 2 (some .int) ∈ TB := tb_3 (i := 193) (by decide +kernel) rfl
theorem tw_850 : Cond.methodLink RX10 196 yX8_tableAt ∈ TB := tb_3 (i := 194) (by decide +kernel) rfl
theorem tw_851 : Cond.methodLink RL 80 yX11_tableOf ∈ TB := tb_6 (i := 58) (by decide +kernel) rfl
theorem tw_852 : Cond.instanceMethod yX11_tableOf ∈ TB := tb_6 (i := 59) (by decide +kernel) rfl
theorem tw_853 : Cond.selects RX11 yX11_tableOf yX11_tableOf ∈ TB := tb_6 (i := 60) (by decide +kernel) rfl
theorem tw_854 : Cond.code yX11_tableOf cX11_tableOf 2 (some .int) ∈ TB := tb_6 (i := 61) (by decide +kernel) rfl
theorem tw_855 : Cond.methodLink RL 81 yX10_value ∈ TB := tb_3 (i := 195) (by decide +kernel) rfl
theorem tw_856 : Cond.instanceMethod yX10_value ∈ TB := tb_3 (i := 196) (by decide +kernel) rfl
theorem tw_857 : Cond.selects RX10 yX10_value yX10_value ∈ TB := tb_3 (i := 197) (by decide +kernel) rfl
theorem tw_858 : Cond.code yX10_value cX10_value 4 (some .int) ∈ TB := tb_3 (i := 198) (by decide +kernel) rfl
theorem tw_859 : Cond.methodLink RX10 199 yX8_keyOf ∈ TB := tb_3 (i := 199) (by decide +kernel) rfl
theorem tw_860 : Cond.methodLink RX10 202 yX2_digit ∈ TB := tb_3 (i := 200) (by decide +kernel) rfl
theorem tw_861 : Cond.methodLink RL 84 yX11_value ∈ TB := tb_6 (i := 62) (by decide +kernel) rfl
theorem tw_862 : Cond.instanceMethod yX11_value ∈ TB := tb_6 (i := 63) (by decide +kernel) rfl
theorem tw_863 : Cond.selects RX11 yX11_value yX11_value ∈ TB := tb_6 (i := 64) (by decide +kernel) rfl
theorem tw_864 : Cond.code yX11_value cX11_value 4 (some .int) ∈ TB := tb_6 (i := 65) (by decide +kernel) rfl
theorem tw_865 : Cond.methodLink RL 85 yX10_cost ∈ TB := tb_3 (i := 201) (by decide +kernel) rfl
theorem tw_866 : Cond.instanceMethod yX10_cost ∈ TB := tb_3 (i := 202) (by decide +kernel) rfl
theorem tw_867 : Cond.selects RX10 yX10_cost yX10_cost ∈ TB := tb_3 (i := 203) (by decide +kernel) rfl
theorem tw_868 : Cond.code yX10_cost cX10_cost 2 (some .int) ∈ TB := tb_3 (i := 204) (by decide +kernel) rfl
theorem tw_869 : Cond.methodLink RL 88 yX11_cost ∈ TB := tb_6 (i := 66) (by decide +kernel) rfl
theorem tw_870 : Cond.instanceMethod yX11_cost ∈ TB := tb_6 (i := 67) (by decide +kernel) rfl
theorem tw_871 : Cond.selects RX11 yX11_cost yX11_cost ∈ TB := tb_6 (i := 68) (by decide +kernel) rfl
theorem tw_872 : Cond.code yX11_cost cX11_cost 2 (some .int) ∈ TB := tb_6 (i := 69) (by decide +kernel) rfl
theorem tw_873 : Cond.methodLink RL 89 yX10_trust ∈ TB := tb_3 (i := 205) (by decide +kernel) rfl
theorem tw_874 : Cond.instanceMethod yX10_trust ∈ TB := tb_3 (i := 206) (by decide +kernel) rfl
theorem tw_875 : Cond.selects RX10 yX10_trust yX10_trust ∈ TB := tb_3 (i := 207) (by decide +kernel) rfl
theorem tw_876 : Cond.code yX10_trust cX10_trust 2 (some .int) ∈ TB := tb_3 (i := 208) (by decide +kernel) rfl
theorem tw_877 : Cond.methodLink RL 92 yX11_trust ∈ TB := tb_6 (i := 70) (by decide +kernel) rfl
theorem tw_878 : Cond.instanceMethod yX11_trust ∈ TB := tb_6 (i := 71) (by decide +kernel) rfl
theorem tw_879 : Cond.selects RX11 yX11_trust yX11_trust ∈ TB := tb_6 (i := 72) (by decide +kernel) rfl
theorem tw_880 : Cond.code yX11_trust cX11_trust 2 (some .int) ∈ TB := tb_6 (i := 73) (by decide +kernel) rfl
theorem tw_881 : Cond.methodLink RL 93 yX10_queryLength ∈ TB := tb_3 (i := 209) (by decide +kernel) rfl
theorem tw_882 : Cond.instanceMethod yX10_queryLength ∈ TB := tb_3 (i := 210) (by decide +kernel) rfl
theorem tw_883 : Cond.selects RX10 yX10_queryLength yX10_queryLength ∈ TB := tb_3 (i := 211) (by decide +kernel) rfl
theorem tw_884 : Cond.code yX10_queryLength cX10_queryLength 1 (some .int) ∈ TB := tb_3 (i := 212) (by decide +kernel) rfl
theorem tw_885 : Cond.methodLink RL 96 yX11_queryLength ∈ TB := tb_6 (i := 74) (by decide +kernel) rfl
theorem tw_886 : Cond.instanceMethod yX11_queryLength ∈ TB := tb_6 (i := 75) (by decide +kernel) rfl
theorem tw_887 : Cond.selects RX11 yX11_queryLength yX11_queryLength ∈ TB := tb_6 (i := 76) (by decide +kernel) rfl
theorem tw_888 : Cond.code yX11_queryLength cX11_queryLength 1 (some .int) ∈ TB := tb_6 (i := 77) (by decide +kernel) rfl
theorem tw_889 : Cond.methodLink RL 97 yX10_queryAt ∈ TB := tb_3 (i := 213) (by decide +kernel) rfl
theorem tw_890 : Cond.instanceMethod yX10_queryAt ∈ TB := tb_3 (i := 214) (by decide +kernel) rfl
theorem tw_891 : Cond.selects RX10 yX10_queryAt yX10_queryAt ∈ TB := tb_3 (i := 215) (by decide +kernel) rfl
theorem tw_892 : Cond.code yX10_queryAt cX10_queryAt 2 (some .int) ∈ TB := tb_3 (i := 216) (by decide +kernel) rfl
theorem tw_893 : Cond.methodLink RX10 206 yX3_codeAt ∈ TB := tb_3 (i := 217) (by decide +kernel) rfl
theorem tw_894 : Cond.methodLink RL 100 yX11_queryAt ∈ TB := tb_6 (i := 78) (by decide +kernel) rfl
theorem tw_895 : Cond.instanceMethod yX11_queryAt ∈ TB := tb_6 (i := 79) (by decide +kernel) rfl
theorem tw_896 : Cond.selects RX11 yX11_queryAt yX11_queryAt ∈ TB := tb_6 (i := 80) (by decide +kernel) rfl
theorem tw_897 : Cond.code yX11_queryAt cX11_queryAt 2 (some .int) ∈ TB := tb_6 (i := 81) (by decide +kernel) rfl
theorem tw_898 : Cond.methodLink RL 101 yX10_answerRows ∈ TB := tb_3 (i := 218) (by decide +kernel) rfl
theorem tw_899 : Cond.methodLink RL 104 yX11_answerRows ∈ TB := tb_6 (i := 82) (by decide +kernel) rfl
theorem tw_900 : Cond.instanceMethod yX11_answerRows ∈ TB := tb_6 (i := 83) (by decide +kernel) rfl
theorem tw_901 : Cond.selects RX11 yX11_answerRows yX11_answerRows ∈ TB := tb_6 (i := 84) (by decide +kernel) rfl
theorem tw_902 : Cond.code yX11_answerRows cX11_answerRows 1 (some .int) ∈ TB := tb_6 (i := 85) (by decide +kernel) rfl
theorem tw_903 : Cond.methodLink RL 105 yX10_answerColumns ∈ TB := tb_3 (i := 219) (by decide +kernel) rfl
theorem tw_904 : Cond.instanceMethod yX10_answerColumns ∈ TB := tb_3 (i := 220) (by decide +kernel) rfl
theorem tw_905 : Cond.selects RX10 yX10_answerColumns yX10_answerColumns ∈ TB := tb_3 (i := 221) (by decide +kernel) rfl
theorem tw_906 : Cond.code yX10_answerColumns cX10_answerColumns 1 (some .int) ∈ TB := tb_3 (i := 222) (by decide +kernel) rfl
theorem tw_907 : Cond.methodLink RX10 216 yX7_width ∈ TB := tb_3 (i := 223) (by decide +kernel) rfl
theorem tw_908 : Cond.methodLink RL 108 yX11_answerColumns ∈ TB := tb_6 (i := 86) (by decide +kernel) rfl
theorem tw_909 : Cond.instanceMethod yX11_answerColumns ∈ TB := tb_6 (i := 87) (by decide +kernel) rfl
theorem tw_910 : Cond.selects RX11 yX11_answerColumns yX11_answerColumns ∈ TB := tb_6 (i := 88) (by decide +kernel) rfl
theorem tw_911 : Cond.code yX11_answerColumns cX11_answerColumns 1 (some .int) ∈ TB := tb_6 (i := 89) (by decide +kernel) rfl
theorem tw_912 : Cond.methodLink RL 109 yX10_answerValue ∈ TB := tb_3 (i := 224) (by decide +kernel) rfl
theorem tw_913 : Cond.instanceMethod yX10_answerValue ∈ TB := tb_3 (i := 225) (by decide +kernel) rfl
theorem tw_914 : Cond.selects RX10 yX10_answerValue yX10_answerValue ∈ TB := tb_3 (i := 226) (by decide +kernel) rfl
theorem tw_915 : Cond.code yX10_answerValue cX10_answerValue 4 (some .int) ∈ TB := tb_3 (i := 227) (by decide +kernel) rfl
theorem tw_916 : Cond.methodLink RX10 219 yX7_hasRow ∈ TB := tb_3 (i := 228) (by decide +kernel) rfl
theorem tw_917 : Cond.methodLink RX10 222 yX7_keyAt ∈ TB := tb_3 (i := 229) (by decide +kernel) rfl
theorem tw_918 : Cond.methodLink RL 112 yX11_answerValue ∈ TB := tb_6 (i := 90) (by decide +kernel) rfl
theorem tw_919 : Cond.instanceMethod yX11_answerValue ∈ TB := tb_6 (i := 91) (by decide +kernel) rfl
theorem tw_920 : Cond.selects RX11 yX11_answerValue yX11_answerValue ∈ TB := tb_6 (i := 92) (by decide +kernel) rfl
theorem tw_921 : Cond.code yX11_answerValue cX11_answerValue 3 (some .int) ∈ TB := tb_6 (i := 93) (by decide +kernel) rfl
theorem tw_922 : Cond.methodLink RX11 261 yX11_isRow ∈ TB := tb_6 (i := 94) (by decide +kernel) rfl
theorem tw_923 : Cond.instanceMethod yX11_isRow ∈ TB := tb_6 (i := 96) (by decide +kernel) rfl
theorem tw_924 : Cond.selects RX11 yX11_isRow yX11_isRow ∈ TB := tb_p (q := (yX11_isRow, 32)) (List.mem_of_getElem? (i := 72) (by decide +kernel))
theorem tw_925 : Cond.code yX11_isRow cX11_isRow 2 (some .boolean) ∈ TB := tb_6 (i := 97) (by decide +kernel) rfl
theorem tw_926 : Cond.methodLink RL 113 yX10_terms ∈ TB := tb_3 (i := 230) (by decide +kernel) rfl
theorem tw_927 : Cond.instanceMethod yX10_terms ∈ TB := tb_3 (i := 231) (by decide +kernel) rfl
theorem tw_928 : Cond.selects RX10 yX10_terms yX10_terms ∈ TB := tb_3 (i := 232) (by decide +kernel) rfl
theorem tw_929 : Cond.code yX10_terms cX10_terms 4 (some .int) ∈ TB := tb_3 (i := 233) (by decide +kernel) rfl
theorem tw_930 : Cond.methodLink RX10 225 yX7_polynomialAt ∈ TB := tb_3 (i := 234) (by decide +kernel) rfl
theorem tw_931 : Cond.methodLink RX10 229 yX10_isForm ∈ TB := tb_3 (i := 235) (by decide +kernel) rfl
theorem tw_932 : Cond.static yX10_isForm ∈ TB := tb_3 (i := 236) (by decide +kernel) rfl
theorem tw_933 : Cond.code yX10_isForm cX10_isForm 1 (some .boolean) ∈ TB := tb_3 (i := 237) (by decide +kernel) rfl
theorem tw_934 : Cond.methodLink RX10 232 yX5_setToForm ∈ TB := tb_3 (i := 238) (by decide +kernel) rfl
theorem tw_935 : Cond.instanceMethod yX5_setToForm ∈ TB := tb_3 (i := 239) (by decide +kernel) rfl
theorem tw_936 : Cond.selects RX5 yX5_setToForm yX5_setToForm ∈ TB := tb_4 (i := 0) (by decide +kernel) rfl
theorem tw_937 : Cond.code yX5_setToForm cX5_setToForm 6 none ∈ TB := tb_4 (i := 1) (by decide +kernel) rfl
theorem tw_938 : Cond.methodLink RX5 45 yX5_clear ∈ TB := tb_4 (i := 2) (by decide +kernel) rfl
theorem tw_939 : Cond.methodLink RX5 48 yX5_size ∈ TB := tb_4 (i := 3) (by decide +kernel) rfl
theorem tw_940 : Cond.instanceMethod yX5_size ∈ TB := tb_4 (i := 4) (by decide +kernel) rfl
theorem tw_941 : Cond.selects RX5 yX5_size yX5_size ∈ TB := tb_4 (i := 5) (by decide +kernel) rfl
theorem tw_942 : Cond.code yX5_size cX5_size 1 (some .int) ∈ TB := tb_4 (i := 6) (by decide +kernel) rfl
theorem tw_943 : Cond.methodLink RX5 54 yX4_withoutPowers ∈ TB := tb_4 (i := 7) (by decide +kernel) rfl
theorem tw_944 : Cond.static yX4_withoutPowers ∈ TB := tb_4 (i := 8) (by decide +kernel) rfl
theorem tw_945 : Cond.code yX4_withoutPowers cX4_withoutPowers 2 (some .long) ∈ TB := tb_4 (i := 9) (by decide +kernel) rfl
theorem tw_946 : Cond.constantLong RX4 11 (1229782938247303441) ∈ TB := tb_4 (i := 10) (by decide +kernel) rfl
theorem tw_947 : Cond.methodLink RX5 51 yX5_factorAt ∈ TB := tb_4 (i := 11) (by decide +kernel) rfl
theorem tw_948 : Cond.instanceMethod yX5_factorAt ∈ TB := tb_4 (i := 12) (by decide +kernel) rfl
theorem tw_949 : Cond.selects RX5 yX5_factorAt yX5_factorAt ∈ TB := tb_4 (i := 13) (by decide +kernel) rfl
theorem tw_950 : Cond.code yX5_factorAt cX5_factorAt 2 (some .long) ∈ TB := tb_4 (i := 14) (by decide +kernel) rfl
theorem tw_951 : Cond.methodLink RX5 58 yX5_dropContaining ∈ TB := tb_4 (i := 15) (by decide +kernel) rfl
theorem tw_952 : Cond.instanceMethod yX5_dropContaining ∈ TB := tb_4 (i := 17) (by decide +kernel) rfl
theorem tw_953 : Cond.selects RX5 yX5_dropContaining yX5_dropContaining ∈ TB := tb_p (q := (yX5_dropContaining, 3)) (List.mem_of_getElem? (i := 24) (by decide +kernel))
theorem tw_954 : Cond.code yX5_dropContaining cX5_dropContaining 4 none ∈ TB := tb_4 (i := 18) (by decide +kernel) rfl
theorem tw_955 : Cond.methodLink RX5 64 yX5_containsAnother ∈ TB := tb_4 (i := 19) (by decide +kernel) rfl
theorem tw_956 : Cond.instanceMethod yX5_containsAnother ∈ TB := tb_4 (i := 21) (by decide +kernel) rfl
theorem tw_957 : Cond.selects RX5 yX5_containsAnother yX5_containsAnother ∈ TB := tb_p (q := (yX5_containsAnother, 3)) (List.mem_of_getElem? (i := 25) (by decide +kernel))
theorem tw_958 : Cond.code yX5_containsAnother cX5_containsAnother 7 (some .boolean) ∈ TB := tb_4 (i := 22) (by decide +kernel) rfl
theorem tw_959 : Cond.methodLink RX5 61 yX5_setFactorsToOne ∈ TB := tb_4 (i := 23) (by decide +kernel) rfl
theorem tw_960 : Cond.instanceMethod yX5_setFactorsToOne ∈ TB := tb_4 (i := 25) (by decide +kernel) rfl
theorem tw_961 : Cond.selects RX5 yX5_setFactorsToOne yX5_setFactorsToOne ∈ TB := tb_p (q := (yX5_setFactorsToOne, 3)) (List.mem_of_getElem? (i := 26) (by decide +kernel))
theorem tw_962 : Cond.code yX5_setFactorsToOne cX5_setFactorsToOne 2 none ∈ TB := tb_4 (i := 26) (by decide +kernel) rfl
theorem tw_963 : Cond.methodLink RX10 236 yX5_size ∈ TB := tb_4 (i := 27) (by decide +kernel) rfl
theorem tw_964 : Cond.methodLink RL 116 yX11_terms ∈ TB := tb_6 (i := 98) (by decide +kernel) rfl
theorem tw_965 : Cond.instanceMethod yX11_terms ∈ TB := tb_6 (i := 99) (by decide +kernel) rfl
theorem tw_966 : Cond.selects RX11 yX11_terms yX11_terms ∈ TB := tb_6 (i := 100) (by decide +kernel) rfl
theorem tw_967 : Cond.code yX11_terms cX11_terms 3 (some .int) ∈ TB := tb_6 (i := 101) (by decide +kernel) rfl
theorem tw_968 : Cond.methodLink RX11 282 yX11_isForm ∈ TB := tb_6 (i := 102) (by decide +kernel) rfl
theorem tw_969 : Cond.static yX11_isForm ∈ TB := tb_6 (i := 103) (by decide +kernel) rfl
theorem tw_970 : Cond.code yX11_isForm cX11_isForm 1 (some .boolean) ∈ TB := tb_6 (i := 104) (by decide +kernel) rfl
theorem tw_971 : Cond.methodLink RX11 284 yX11_laysForm ∈ TB := tb_6 (i := 105) (by decide +kernel) rfl
theorem tw_972 : Cond.instanceMethod yX11_laysForm ∈ TB := tb_6 (i := 107) (by decide +kernel) rfl
theorem tw_973 : Cond.selects RX11 yX11_laysForm yX11_laysForm ∈ TB := tb_p (q := (yX11_laysForm, 32)) (List.mem_of_getElem? (i := 73) (by decide +kernel))
theorem tw_974 : Cond.code yX11_laysForm cX11_laysForm 6 none ∈ TB := tb_6 (i := 108) (by decide +kernel) rfl
theorem tw_975 : Cond.methodLink RX11 268 yX11_flat ∈ TB := tb_6 (i := 109) (by decide +kernel) rfl
theorem tw_976 : Cond.static yX11_flat ∈ TB := tb_6 (i := 110) (by decide +kernel) rfl
theorem tw_977 : Cond.code yX11_flat cX11_flat 5 (some .long) ∈ TB := tb_6 (i := 111) (by decide +kernel) rfl
theorem tw_978 : Cond.methodLink RX11 272 yX11_dropsWider ∈ TB := tb_6 (i := 112) (by decide +kernel) rfl
theorem tw_979 : Cond.instanceMethod yX11_dropsWider ∈ TB := tb_6 (i := 114) (by decide +kernel) rfl
theorem tw_980 : Cond.selects RX11 yX11_dropsWider yX11_dropsWider ∈ TB := tb_p (q := (yX11_dropsWider, 32)) (List.mem_of_getElem? (i := 74) (by decide +kernel))
theorem tw_981 : Cond.code yX11_dropsWider cX11_dropsWider 3 none ∈ TB := tb_6 (i := 115) (by decide +kernel) rfl
theorem tw_982 : Cond.methodLink RX11 279 yX11_isWider ∈ TB := tb_6 (i := 116) (by decide +kernel) rfl
theorem tw_983 : Cond.instanceMethod yX11_isWider ∈ TB := tb_6 (i := 118) (by decide +kernel) rfl
theorem tw_984 : Cond.selects RX11 yX11_isWider yX11_isWider ∈ TB := tb_p (q := (yX11_isWider, 32)) (List.mem_of_getElem? (i := 75) (by decide +kernel))
theorem tw_985 : Cond.code yX11_isWider cX11_isWider 6 (some .boolean) ∈ TB := tb_6 (i := 119) (by decide +kernel) rfl
theorem tw_986 : Cond.methodLink RL 117 yX10_coefficient ∈ TB := tb_4 (i := 28) (by decide +kernel) rfl
theorem tw_987 : Cond.instanceMethod yX10_coefficient ∈ TB := tb_4 (i := 29) (by decide +kernel) rfl
theorem tw_988 : Cond.selects RX10 yX10_coefficient yX10_coefficient ∈ TB := tb_4 (i := 30) (by decide +kernel) rfl
theorem tw_989 : Cond.code yX10_coefficient cX10_coefficient 5 (some .long) ∈ TB := tb_4 (i := 31) (by decide +kernel) rfl
theorem tw_990 : Cond.constantLong RX10 237 (-1) ∈ TB := tb_4 (i := 32) (by decide +kernel) rfl
theorem tw_991 : Cond.constantLong RX10 239 (-2) ∈ TB := tb_4 (i := 33) (by decide +kernel) rfl
theorem tw_992 : Cond.methodLink RX10 241 yX5_hasTerm ∈ TB := tb_4 (i := 34) (by decide +kernel) rfl
theorem tw_993 : Cond.methodLink RX10 244 yX5_factorAt ∈ TB := tb_4 (i := 35) (by decide +kernel) rfl
theorem tw_994 : Cond.methodLink RL 121 yX11_coefficient ∈ TB := tb_6 (i := 120) (by decide +kernel) rfl
theorem tw_995 : Cond.instanceMethod yX11_coefficient ∈ TB := tb_6 (i := 121) (by decide +kernel) rfl
theorem tw_996 : Cond.selects RX11 yX11_coefficient yX11_coefficient ∈ TB := tb_6 (i := 122) (by decide +kernel) rfl
theorem tw_997 : Cond.code yX11_coefficient cX11_coefficient 4 (some .long) ∈ TB := tb_6 (i := 123) (by decide +kernel) rfl
theorem tw_998 : Cond.constantLong RX11 288 (-1) ∈ TB := tb_6 (i := 124) (by decide +kernel) rfl
theorem tw_999 : Cond.constantLong RX11 290 (-2) ∈ TB := tb_6 (i := 125) (by decide +kernel) rfl
theorem tw_1000 : Cond.methodLink RL 122 yX10_exponent ∈ TB := tb_4 (i := 36) (by decide +kernel) rfl
theorem tw_1001 : Cond.instanceMethod yX10_exponent ∈ TB := tb_4 (i := 37) (by decide +kernel) rfl
theorem tw_1002 : Cond.selects RX10 yX10_exponent yX10_exponent ∈ TB := tb_4 (i := 38) (by decide +kernel) rfl
theorem tw_1003 : Cond.code yX10_exponent cX10_exponent 6 (some .int) ∈ TB := tb_4 (i := 39) (by decide +kernel) rfl
theorem tw_1004 : Cond.methodLink RX10 248 yX5_monomialAt ∈ TB := tb_4 (i := 40) (by decide +kernel) rfl
theorem tw_1005 : Cond.methodLink RX10 251 yX4_power ∈ TB := tb_4 (i := 41) (by decide +kernel) rfl
theorem tw_1006 : Cond.static yX4_power ∈ TB := tb_4 (i := 42) (by decide +kernel) rfl
theorem tw_1007 : Cond.code yX4_power cX4_power 3 (some .int) ∈ TB := tb_4 (i := 43) (by decide +kernel) rfl
theorem tw_1008 : Cond.methodLink RL 126 yX11_exponent ∈ TB := tb_6 (i := 126) (by decide +kernel) rfl
theorem tw_1009 : Cond.instanceMethod yX11_exponent ∈ TB := tb_6 (i := 127) (by decide +kernel) rfl
theorem tw_1010 : Cond.selects RX11 yX11_exponent yX11_exponent ∈ TB := tb_6 (i := 128) (by decide +kernel) rfl
theorem tw_1011 : Cond.code yX11_exponent cX11_exponent 5 (some .int) ∈ TB := tb_6 (i := 129) (by decide +kernel) rfl
theorem tw_1012 : Cond.methodLink RL 127 yX10_lineage ∈ TB := tb_4 (i := 44) (by decide +kernel) rfl
theorem tw_1013 : Cond.instanceMethod yX10_lineage ∈ TB := tb_4 (i := 45) (by decide +kernel) rfl
theorem tw_1014 : Cond.selects RX10 yX10_lineage yX10_lineage ∈ TB := tb_4 (i := 46) (by decide +kernel) rfl
theorem tw_1015 : Cond.code yX10_lineage cX10_lineage 3 (some .int) ∈ TB := tb_4 (i := 47) (by decide +kernel) rfl
theorem tw_1016 : Cond.methodLink RX10 257 yX5_allTags ∈ TB := tb_4 (i := 48) (by decide +kernel) rfl
theorem tw_1017 : Cond.instanceMethod yX5_allTags ∈ TB := tb_4 (i := 49) (by decide +kernel) rfl
theorem tw_1018 : Cond.selects RX5 yX5_allTags yX5_allTags ∈ TB := tb_4 (i := 50) (by decide +kernel) rfl
theorem tw_1019 : Cond.code yX5_allTags cX5_allTags 4 (some .int) ∈ TB := tb_4 (i := 51) (by decide +kernel) rfl
theorem tw_1020 : Cond.methodLink RX5 38 yX4_tagSet ∈ TB := tb_4 (i := 52) (by decide +kernel) rfl
theorem tw_1021 : Cond.static yX4_tagSet ∈ TB := tb_4 (i := 53) (by decide +kernel) rfl
theorem tw_1022 : Cond.code yX4_tagSet cX4_tagSet 4 (some .int) ∈ TB := tb_4 (i := 54) (by decide +kernel) rfl
theorem tw_1023 : Cond.methodLink RX4 13 yX4_power ∈ TB := tb_4 (i := 55) (by decide +kernel) rfl
theorem tw_1024 : Cond.methodLink RL 130 yX11_lineage ∈ TB := tb_6 (i := 130) (by decide +kernel) rfl
theorem tw_1025 : Cond.instanceMethod yX11_lineage ∈ TB := tb_6 (i := 131) (by decide +kernel) rfl
theorem tw_1026 : Cond.selects RX11 yX11_lineage yX11_lineage ∈ TB := tb_6 (i := 132) (by decide +kernel) rfl
theorem tw_1027 : Cond.code yX11_lineage cX11_lineage 2 (some .int) ∈ TB := tb_6 (i := 133) (by decide +kernel) rfl
theorem tw_1028 : Cond.methodLink RX11 292 yX11_tagsOf ∈ TB := tb_6 (i := 134) (by decide +kernel) rfl
theorem tw_1029 : Cond.instanceMethod yX11_tagsOf ∈ TB := tb_6 (i := 136) (by decide +kernel) rfl
theorem tw_1030 : Cond.selects RX11 yX11_tagsOf yX11_tagsOf ∈ TB := tb_p (q := (yX11_tagsOf, 32)) (List.mem_of_getElem? (i := 76) (by decide +kernel))
theorem tw_1031 : Cond.code yX11_tagsOf cX11_tagsOf 4 (some .int) ∈ TB := tb_6 (i := 137) (by decide +kernel) rfl
theorem tw_1032 : Cond.methodLink RL 131 yX10_derivations ∈ TB := tb_4 (i := 56) (by decide +kernel) rfl
theorem tw_1033 : Cond.instanceMethod yX10_derivations ∈ TB := tb_4 (i := 57) (by decide +kernel) rfl
theorem tw_1034 : Cond.selects RX10 yX10_derivations yX10_derivations ∈ TB := tb_4 (i := 58) (by decide +kernel) rfl
theorem tw_1035 : Cond.code yX10_derivations cX10_derivations 5 (some .long) ∈ TB := tb_4 (i := 59) (by decide +kernel) rfl
theorem tw_1036 : Cond.methodLink RX10 260 yX10_showAvailable ∈ TB := tb_4 (i := 60) (by decide +kernel) rfl
theorem tw_1037 : Cond.instanceMethod yX10_showAvailable ∈ TB := tb_4 (i := 62) (by decide +kernel) rfl
theorem tw_1038 : Cond.selects RX10 yX10_showAvailable yX10_showAvailable ∈ TB := tb_p (q := (yX10_showAvailable, 10)) (List.mem_of_getElem? (i := 27) (by decide +kernel))
theorem tw_1039 : Cond.code yX10_showAvailable cX10_showAvailable 3 (some .boolean) ∈ TB := tb_4 (i := 63) (by decide +kernel) rfl
theorem tw_1040 : Cond.methodLink RX10 303 yX5_setToAvailable ∈ TB := tb_4 (i := 64) (by decide +kernel) rfl
theorem tw_1041 : Cond.instanceMethod yX5_setToAvailable ∈ TB := tb_4 (i := 65) (by decide +kernel) rfl
theorem tw_1042 : Cond.selects RX5 yX5_setToAvailable yX5_setToAvailable ∈ TB := tb_4 (i := 66) (by decide +kernel) rfl
theorem tw_1043 : Cond.code yX5_setToAvailable cX5_setToAvailable 6 none ∈ TB := tb_4 (i := 67) (by decide +kernel) rfl
theorem tw_1044 : Cond.methodLink RX5 42 yX4_maskOf ∈ TB := tb_4 (i := 68) (by decide +kernel) rfl
theorem tw_1045 : Cond.methodLink RL 135 yX11_derivations ∈ TB := tb_6 (i := 138) (by decide +kernel) rfl
theorem tw_1046 : Cond.instanceMethod yX11_derivations ∈ TB := tb_6 (i := 139) (by decide +kernel) rfl
theorem tw_1047 : Cond.selects RX11 yX11_derivations yX11_derivations ∈ TB := tb_6 (i := 140) (by decide +kernel) rfl
theorem tw_1048 : Cond.code yX11_derivations cX11_derivations 5 (some .long) ∈ TB := tb_6 (i := 141) (by decide +kernel) rfl
theorem tw_1049 : Cond.methodLink RL 136 yX10_leastCost ∈ TB := tb_4 (i := 69) (by decide +kernel) rfl
theorem tw_1050 : Cond.instanceMethod yX10_leastCost ∈ TB := tb_4 (i := 70) (by decide +kernel) rfl
theorem tw_1051 : Cond.selects RX10 yX10_leastCost yX10_leastCost ∈ TB := tb_4 (i := 71) (by decide +kernel) rfl
theorem tw_1052 : Cond.code yX10_leastCost cX10_leastCost 2 (some .int) ∈ TB := tb_4 (i := 72) (by decide +kernel) rfl
theorem tw_1053 : Cond.methodLink RX10 263 yX10_cheapestShown ∈ TB := tb_4 (i := 73) (by decide +kernel) rfl
theorem tw_1054 : Cond.instanceMethod yX10_cheapestShown ∈ TB := tb_4 (i := 75) (by decide +kernel) rfl
theorem tw_1055 : Cond.selects RX10 yX10_cheapestShown yX10_cheapestShown ∈ TB := tb_p (q := (yX10_cheapestShown, 10)) (List.mem_of_getElem? (i := 28) (by decide +kernel))
theorem tw_1056 : Cond.code yX10_cheapestShown cX10_cheapestShown 5 (some .int) ∈ TB := tb_4 (i := 76) (by decide +kernel) rfl
theorem tw_1057 : Cond.methodLink RX10 266 yX8_costOfTerm ∈ TB := tb_4 (i := 77) (by decide +kernel) rfl
theorem tw_1058 : Cond.instanceMethod yX8_costOfTerm ∈ TB := tb_4 (i := 78) (by decide +kernel) rfl
theorem tw_1059 : Cond.selects RX8 yX8_costOfTerm yX8_costOfTerm ∈ TB := tb_4 (i := 79) (by decide +kernel) rfl
theorem tw_1060 : Cond.code yX8_costOfTerm cX8_costOfTerm 5 (some .int) ∈ TB := tb_4 (i := 80) (by decide +kernel) rfl
theorem tw_1061 : Cond.methodLink RX8 62 yX4_power ∈ TB := tb_4 (i := 81) (by decide +kernel) rfl
theorem tw_1062 : Cond.methodLink RX8 68 yX8_costOf ∈ TB := tb_4 (i := 82) (by decide +kernel) rfl
theorem tw_1063 : Cond.methodLink RL 139 yX11_leastCost ∈ TB := tb_6 (i := 142) (by decide +kernel) rfl
theorem tw_1064 : Cond.instanceMethod yX11_leastCost ∈ TB := tb_6 (i := 143) (by decide +kernel) rfl
theorem tw_1065 : Cond.selects RX11 yX11_leastCost yX11_leastCost ∈ TB := tb_6 (i := 144) (by decide +kernel) rfl
theorem tw_1066 : Cond.code yX11_leastCost cX11_leastCost 3 (some .int) ∈ TB := tb_6 (i := 145) (by decide +kernel) rfl
theorem tw_1067 : Cond.methodLink RX11 306 yX11_cheapest ∈ TB := tb_6 (i := 146) (by decide +kernel) rfl
theorem tw_1068 : Cond.instanceMethod yX11_cheapest ∈ TB := tb_6 (i := 148) (by decide +kernel) rfl
theorem tw_1069 : Cond.selects RX11 yX11_cheapest yX11_cheapest ∈ TB := tb_p (q := (yX11_cheapest, 32)) (List.mem_of_getElem? (i := 77) (by decide +kernel))
theorem tw_1070 : Cond.code yX11_cheapest cX11_cheapest 7 (some .int) ∈ TB := tb_6 (i := 149) (by decide +kernel) rfl
theorem tw_1071 : Cond.methodLink RX11 303 yX11_costOf ∈ TB := tb_6 (i := 150) (by decide +kernel) rfl
theorem tw_1072 : Cond.instanceMethod yX11_costOf ∈ TB := tb_6 (i := 152) (by decide +kernel) rfl
theorem tw_1073 : Cond.selects RX11 yX11_costOf yX11_costOf ∈ TB := tb_p (q := (yX11_costOf, 32)) (List.mem_of_getElem? (i := 78) (by decide +kernel))
theorem tw_1074 : Cond.code yX11_costOf cX11_costOf 5 (some .int) ∈ TB := tb_6 (i := 153) (by decide +kernel) rfl
theorem tw_1075 : Cond.methodLink RL 140 yX10_cheapestTags ∈ TB := tb_4 (i := 83) (by decide +kernel) rfl
theorem tw_1076 : Cond.instanceMethod yX10_cheapestTags ∈ TB := tb_4 (i := 84) (by decide +kernel) rfl
theorem tw_1077 : Cond.selects RX10 yX10_cheapestTags yX10_cheapestTags ∈ TB := tb_4 (i := 85) (by decide +kernel) rfl
theorem tw_1078 : Cond.code yX10_cheapestTags cX10_cheapestTags 2 (some .int) ∈ TB := tb_4 (i := 86) (by decide +kernel) rfl
theorem tw_1079 : Cond.methodLink RX10 270 yX4_tagSet ∈ TB := tb_4 (i := 87) (by decide +kernel) rfl
theorem tw_1080 : Cond.methodLink RL 143 yX11_cheapestTags ∈ TB := tb_6 (i := 154) (by decide +kernel) rfl
theorem tw_1081 : Cond.instanceMethod yX11_cheapestTags ∈ TB := tb_6 (i := 155) (by decide +kernel) rfl
theorem tw_1082 : Cond.selects RX11 yX11_cheapestTags yX11_cheapestTags ∈ TB := tb_6 (i := 156) (by decide +kernel) rfl
theorem tw_1083 : Cond.code yX11_cheapestTags cX11_cheapestTags 3 (some .int) ∈ TB := tb_6 (i := 157) (by decide +kernel) rfl
theorem tw_1084 : Cond.methodLink RL 144 yX10_answerTrust ∈ TB := tb_4 (i := 88) (by decide +kernel) rfl
theorem tw_1085 : Cond.instanceMethod yX10_answerTrust ∈ TB := tb_4 (i := 89) (by decide +kernel) rfl
theorem tw_1086 : Cond.selects RX10 yX10_answerTrust yX10_answerTrust ∈ TB := tb_4 (i := 90) (by decide +kernel) rfl
theorem tw_1087 : Cond.code yX10_answerTrust cX10_answerTrust 4 (some .int) ∈ TB := tb_4 (i := 91) (by decide +kernel) rfl
theorem tw_1088 : Cond.methodLink RX10 276 Lib.Math.max.name ∈ TB := tb_4 (i := 100) (by decide +kernel) rfl
theorem tw_1089 : Cond.methodLink RX10 273 yX8_trustOfTerm ∈ TB := tb_4 (i := 92) (by decide +kernel) rfl
theorem tw_1090 : Cond.instanceMethod yX8_trustOfTerm ∈ TB := tb_4 (i := 93) (by decide +kernel) rfl
theorem tw_1091 : Cond.selects RX8 yX8_trustOfTerm yX8_trustOfTerm ∈ TB := tb_4 (i := 94) (by decide +kernel) rfl
theorem tw_1092 : Cond.code yX8_trustOfTerm cX8_trustOfTerm 5 (some .int) ∈ TB := tb_4 (i := 95) (by decide +kernel) rfl
theorem tw_1093 : Cond.methodLink RX8 75 Lib.Math.min.name ∈ TB := tb_4 (i := 97) (by decide +kernel) rfl
theorem tw_1094 : Cond.static Lib.Math.min.name ∈ TB := tb_4 (i := 98) (by decide +kernel) rfl
theorem tw_1095 : Cond.code Lib.Math.min.name Lib.Math.min.code 2 (some .int) ∈ TB := tb_4 (i := 99) (by decide +kernel) rfl
theorem tw_1096 : Cond.methodLink RX8 72 yX8_trustOf ∈ TB := tb_4 (i := 96) (by decide +kernel) rfl
theorem tw_1097 : Cond.methodLink RL 147 yX11_answerTrust ∈ TB := tb_6 (i := 158) (by decide +kernel) rfl
theorem tw_1098 : Cond.instanceMethod yX11_answerTrust ∈ TB := tb_6 (i := 159) (by decide +kernel) rfl
theorem tw_1099 : Cond.selects RX11 yX11_answerTrust yX11_answerTrust ∈ TB := tb_6 (i := 160) (by decide +kernel) rfl
theorem tw_1100 : Cond.code yX11_answerTrust cX11_answerTrust 5 (some .int) ∈ TB := tb_6 (i := 161) (by decide +kernel) rfl
theorem tw_1101 : Cond.methodLink RX11 309 yX11_trustOf ∈ TB := tb_6 (i := 162) (by decide +kernel) rfl
theorem tw_1102 : Cond.instanceMethod yX11_trustOf ∈ TB := tb_6 (i := 164) (by decide +kernel) rfl
theorem tw_1103 : Cond.selects RX11 yX11_trustOf yX11_trustOf ∈ TB := tb_p (q := (yX11_trustOf, 32)) (List.mem_of_getElem? (i := 79) (by decide +kernel))
theorem tw_1104 : Cond.code yX11_trustOf cX11_trustOf 5 (some .int) ∈ TB := tb_6 (i := 165) (by decide +kernel) rfl
theorem tw_1105 : Cond.methodLink RL 148 yX10_confidence ∈ TB := tb_4 (i := 101) (by decide +kernel) rfl
theorem tw_1106 : Cond.instanceMethod yX10_confidence ∈ TB := tb_4 (i := 102) (by decide +kernel) rfl
theorem tw_1107 : Cond.selects RX10 yX10_confidence yX10_confidence ∈ TB := tb_4 (i := 103) (by decide +kernel) rfl
theorem tw_1108 : Cond.code yX10_confidence cX10_confidence 5 (some .float) ∈ TB := tb_4 (i := 104) (by decide +kernel) rfl
theorem tw_1109 : Cond.constantFloat RX10 281 (3212836864) ∈ TB := tb_4 (i := 105) (by decide +kernel) rfl
theorem tw_1110 : Cond.methodLink RX10 282 yX8_confidenceOfTerm ∈ TB := tb_4 (i := 106) (by decide +kernel) rfl
theorem tw_1111 : Cond.instanceMethod yX8_confidenceOfTerm ∈ TB := tb_4 (i := 107) (by decide +kernel) rfl
theorem tw_1112 : Cond.selects RX8 yX8_confidenceOfTerm yX8_confidenceOfTerm ∈ TB := tb_4 (i := 108) (by decide +kernel) rfl
theorem tw_1113 : Cond.code yX8_confidenceOfTerm cX8_confidenceOfTerm 7 (some .float) ∈ TB := tb_4 (i := 109) (by decide +kernel) rfl
theorem tw_1114 : Cond.constantFloat RX8 81 (1120403456) ∈ TB := tb_4 (i := 110) (by decide +kernel) rfl
theorem tw_1115 : Cond.methodLink RL 152 yX11_confidence ∈ TB := tb_6 (i := 166) (by decide +kernel) rfl
theorem tw_1116 : Cond.instanceMethod yX11_confidence ∈ TB := tb_6 (i := 167) (by decide +kernel) rfl
theorem tw_1117 : Cond.selects RX11 yX11_confidence yX11_confidence ∈ TB := tb_6 (i := 168) (by decide +kernel) rfl
theorem tw_1118 : Cond.code yX11_confidence cX11_confidence 5 (some .float) ∈ TB := tb_6 (i := 169) (by decide +kernel) rfl
theorem tw_1119 : Cond.constantFloat RX11 312 (3212836864) ∈ TB := tb_6 (i := 170) (by decide +kernel) rfl
theorem tw_1120 : Cond.methodLink RX11 313 yX11_confidenceOf ∈ TB := tb_6 (i := 171) (by decide +kernel) rfl
theorem tw_1121 : Cond.instanceMethod yX11_confidenceOf ∈ TB := tb_6 (i := 173) (by decide +kernel) rfl
theorem tw_1122 : Cond.selects RX11 yX11_confidenceOf yX11_confidenceOf ∈ TB := tb_p (q := (yX11_confidenceOf, 32)) (List.mem_of_getElem? (i := 80) (by decide +kernel))
theorem tw_1123 : Cond.code yX11_confidenceOf cX11_confidenceOf 6 (some .float) ∈ TB := tb_6 (i := 174) (by decide +kernel) rfl
theorem tw_1124 : Cond.constantFloat RX11 302 (1120403456) ∈ TB := tb_6 (i := 175) (by decide +kernel) rfl
theorem tw_1125 : Cond.methodLink RL 153 yX10_needed ∈ TB := tb_4 (i := 111) (by decide +kernel) rfl
theorem tw_1126 : Cond.instanceMethod yX10_needed ∈ TB := tb_4 (i := 112) (by decide +kernel) rfl
theorem tw_1127 : Cond.selects RX10 yX10_needed yX10_needed ∈ TB := tb_4 (i := 113) (by decide +kernel) rfl
theorem tw_1128 : Cond.code yX10_needed cX10_needed 4 (some .int) ∈ TB := tb_4 (i := 114) (by decide +kernel) rfl
theorem tw_1129 : Cond.methodLink RL 156 yX11_needed ∈ TB := tb_6 (i := 176) (by decide +kernel) rfl
theorem tw_1130 : Cond.instanceMethod yX11_needed ∈ TB := tb_6 (i := 177) (by decide +kernel) rfl
theorem tw_1131 : Cond.selects RX11 yX11_needed yX11_needed ∈ TB := tb_6 (i := 178) (by decide +kernel) rfl
theorem tw_1132 : Cond.code yX11_needed cX11_needed 5 (some .int) ∈ TB := tb_6 (i := 179) (by decide +kernel) rfl
theorem tw_1133 : Cond.constant RX11 317 (65535) ∈ TB := tb_6 (i := 180) (by decide +kernel) rfl
theorem tw_1134 : Cond.methodLink RL 157 yX10_smallestCut ∈ TB := tb_4 (i := 115) (by decide +kernel) rfl
theorem tw_1135 : Cond.instanceMethod yX10_smallestCut ∈ TB := tb_4 (i := 116) (by decide +kernel) rfl
theorem tw_1136 : Cond.selects RX10 yX10_smallestCut yX10_smallestCut ∈ TB := tb_4 (i := 117) (by decide +kernel) rfl
theorem tw_1137 : Cond.code yX10_smallestCut cX10_smallestCut 2 (some .int) ∈ TB := tb_4 (i := 118) (by decide +kernel) rfl
theorem tw_1138 : Cond.methodLink RX10 286 yX9_setTo ∈ TB := tb_4 (i := 119) (by decide +kernel) rfl
theorem tw_1139 : Cond.instanceMethod yX9_setTo ∈ TB := tb_4 (i := 120) (by decide +kernel) rfl
theorem tw_1140 : Cond.selects RX9 yX9_setTo yX9_setTo ∈ TB := tb_4 (i := 121) (by decide +kernel) rfl
theorem tw_1141 : Cond.code yX9_setTo cX9_setTo 3 none ∈ TB := tb_4 (i := 122) (by decide +kernel) rfl
theorem tw_1142 : Cond.methodLink RX9 27 Lib.Math.min.name ∈ TB := tb_4 (i := 124) (by decide +kernel) rfl
theorem tw_1143 : Cond.fieldLink RX9 33 "ProvenanceTables$TagSets" "size" "I" ∈ TB := tb_1 (i := 195) (by decide +kernel) rfl
theorem tw_1144 : Cond.methodLink RX9 21 yX5_size ∈ TB := tb_4 (i := 123) (by decide +kernel) rfl
theorem tw_1145 : Cond.methodLink RX9 36 yX5_monomialAt ∈ TB := tb_4 (i := 125) (by decide +kernel) rfl
theorem tw_1146 : Cond.methodLink RX9 40 yX4_tagSet ∈ TB := tb_4 (i := 126) (by decide +kernel) rfl
theorem tw_1147 : Cond.methodLink RX10 290 yX9_leastCut ∈ TB := tb_4 (i := 127) (by decide +kernel) rfl
theorem tw_1148 : Cond.instanceMethod yX9_leastCut ∈ TB := tb_4 (i := 128) (by decide +kernel) rfl
theorem tw_1149 : Cond.selects RX9 yX9_leastCut yX9_leastCut ∈ TB := tb_4 (i := 129) (by decide +kernel) rfl
theorem tw_1150 : Cond.code yX9_leastCut cX9_leastCut 1 (some .int) ∈ TB := tb_4 (i := 130) (by decide +kernel) rfl
theorem tw_1151 : Cond.methodLink RX9 46 yX9_union ∈ TB := tb_4 (i := 131) (by decide +kernel) rfl
theorem tw_1152 : Cond.instanceMethod yX9_union ∈ TB := tb_4 (i := 133) (by decide +kernel) rfl
theorem tw_1153 : Cond.selects RX9 yX9_union yX9_union ∈ TB := tb_p (q := (yX9_union, 4)) (List.mem_of_getElem? (i := 29) (by decide +kernel))
theorem tw_1154 : Cond.code yX9_union cX9_union 3 (some .int) ∈ TB := tb_4 (i := 134) (by decide +kernel) rfl
theorem tw_1155 : Cond.methodLink RX9 49 yX9_searchCut ∈ TB := tb_4 (i := 135) (by decide +kernel) rfl
theorem tw_1156 : Cond.static yX9_searchCut ∈ TB := tb_4 (i := 136) (by decide +kernel) rfl
theorem tw_1157 : Cond.code yX9_searchCut cX9_searchCut 8 (some .int) ∈ TB := tb_4 (i := 137) (by decide +kernel) rfl
theorem tw_1158 : Cond.methodLink RX9 61 yX9_firstWithout ∈ TB := tb_4 (i := 138) (by decide +kernel) rfl
theorem tw_1159 : Cond.static yX9_firstWithout ∈ TB := tb_4 (i := 139) (by decide +kernel) rfl
theorem tw_1160 : Cond.code yX9_firstWithout cX9_firstWithout 4 (some .int) ∈ TB := tb_4 (i := 140) (by decide +kernel) rfl
theorem tw_1161 : Cond.methodLink RX9 65 yX9_isBetterCut ∈ TB := tb_4 (i := 141) (by decide +kernel) rfl
theorem tw_1162 : Cond.static yX9_isBetterCut ∈ TB := tb_4 (i := 142) (by decide +kernel) rfl
theorem tw_1163 : Cond.code yX9_isBetterCut cX9_isBetterCut 3 (some .boolean) ∈ TB := tb_4 (i := 143) (by decide +kernel) rfl
theorem tw_1164 : Cond.methodLink RX9 69 yJ6_bitCount_0f7a4 ∈ TB := tb_4 (i := 144) (by decide +kernel) rfl
theorem tw_1165 : Cond.methodLink RL 160 yX11_smallestCut ∈ TB := tb_6 (i := 181) (by decide +kernel) rfl
theorem tw_1166 : Cond.instanceMethod yX11_smallestCut ∈ TB := tb_6 (i := 182) (by decide +kernel) rfl
theorem tw_1167 : Cond.selects RX11 yX11_smallestCut yX11_smallestCut ∈ TB := tb_6 (i := 183) (by decide +kernel) rfl
theorem tw_1168 : Cond.code yX11_smallestCut cX11_smallestCut 5 (some .int) ∈ TB := tb_6 (i := 184) (by decide +kernel) rfl
theorem tw_1169 : Cond.constant RX11 324 (65536) ∈ TB := tb_6 (i := 189) (by decide +kernel) rfl
theorem tw_1170 : Cond.fieldLink RX11 318 "ProvenanceTablesModel" "setMany" "I" ∈ TB := tb_4 (i := 217) (by decide +kernel) rfl
theorem tw_1171 : Cond.methodLink RX11 321 yX11_laysSets ∈ TB := tb_6 (i := 185) (by decide +kernel) rfl
theorem tw_1172 : Cond.instanceMethod yX11_laysSets ∈ TB := tb_6 (i := 187) (by decide +kernel) rfl
theorem tw_1173 : Cond.selects RX11 yX11_laysSets yX11_laysSets ∈ TB := tb_p (q := (yX11_laysSets, 32)) (List.mem_of_getElem? (i := 81) (by decide +kernel))
theorem tw_1174 : Cond.code yX11_laysSets cX11_laysSets 4 none ∈ TB := tb_6 (i := 188) (by decide +kernel) rfl
theorem tw_1175 : Cond.methodLink RX11 325 yX11_meetsAll ∈ TB := tb_6 (i := 190) (by decide +kernel) rfl
theorem tw_1176 : Cond.instanceMethod yX11_meetsAll ∈ TB := tb_6 (i := 192) (by decide +kernel) rfl
theorem tw_1177 : Cond.selects RX11 yX11_meetsAll yX11_meetsAll ∈ TB := tb_p (q := (yX11_meetsAll, 32)) (List.mem_of_getElem? (i := 82) (by decide +kernel))
theorem tw_1178 : Cond.code yX11_meetsAll cX11_meetsAll 4 (some .boolean) ∈ TB := tb_6 (i := 193) (by decide +kernel) rfl
theorem tw_1179 : Cond.methodLink RL 161 yX10_worlds ∈ TB := tb_4 (i := 145) (by decide +kernel) rfl
theorem tw_1180 : Cond.instanceMethod yX10_worlds ∈ TB := tb_4 (i := 146) (by decide +kernel) rfl
theorem tw_1181 : Cond.selects RX10 yX10_worlds yX10_worlds ∈ TB := tb_4 (i := 147) (by decide +kernel) rfl
theorem tw_1182 : Cond.code yX10_worlds cX10_worlds 3 (some .int) ∈ TB := tb_4 (i := 148) (by decide +kernel) rfl
theorem tw_1183 : Cond.methodLink RX10 293 yX9_countWorlds ∈ TB := tb_4 (i := 149) (by decide +kernel) rfl
theorem tw_1184 : Cond.instanceMethod yX9_countWorlds ∈ TB := tb_4 (i := 150) (by decide +kernel) rfl
theorem tw_1185 : Cond.selects RX9 yX9_countWorlds yX9_countWorlds ∈ TB := tb_4 (i := 151) (by decide +kernel) rfl
theorem tw_1186 : Cond.code yX9_countWorlds cX9_countWorlds 3 (some .int) ∈ TB := tb_4 (i := 152) (by decide +kernel) rfl
theorem tw_1187 : Cond.methodLink RX9 53 yX9_termsWith ∈ TB := tb_4 (i := 153) (by decide +kernel) rfl
theorem tw_1188 : Cond.instanceMethod yX9_termsWith ∈ TB := tb_4 (i := 155) (by decide +kernel) rfl
theorem tw_1189 : Cond.selects RX9 yX9_termsWith yX9_termsWith ∈ TB := tb_p (q := (yX9_termsWith, 4)) (List.mem_of_getElem? (i := 30) (by decide +kernel))
theorem tw_1190 : Cond.code yX9_termsWith cX9_termsWith 6 (some .int) ∈ TB := tb_4 (i := 156) (by decide +kernel) rfl
theorem tw_1191 : Cond.methodLink RX9 57 yX9_countFrom ∈ TB := tb_4 (i := 157) (by decide +kernel) rfl
theorem tw_1192 : Cond.static yX9_countFrom ∈ TB := tb_4 (i := 158) (by decide +kernel) rfl
theorem tw_1193 : Cond.code yX9_countFrom cX9_countFrom 6 (some .int) ∈ TB := tb_4 (i := 159) (by decide +kernel) rfl
theorem tw_1194 : Cond.methodLink RL 164 yX11_worlds ∈ TB := tb_6 (i := 194) (by decide +kernel) rfl
theorem tw_1195 : Cond.instanceMethod yX11_worlds ∈ TB := tb_6 (i := 195) (by decide +kernel) rfl
theorem tw_1196 : Cond.selects RX11 yX11_worlds yX11_worlds ∈ TB := tb_6 (i := 196) (by decide +kernel) rfl
theorem tw_1197 : Cond.code yX11_worlds cX11_worlds 5 (some .int) ∈ TB := tb_6 (i := 197) (by decide +kernel) rfl
theorem tw_1198 : Cond.methodLink RX11 328 yX11_hasOne ∈ TB := tb_6 (i := 198) (by decide +kernel) rfl
theorem tw_1199 : Cond.instanceMethod yX11_hasOne ∈ TB := tb_6 (i := 200) (by decide +kernel) rfl
theorem tw_1200 : Cond.selects RX11 yX11_hasOne yX11_hasOne ∈ TB := tb_p (q := (yX11_hasOne, 32)) (List.mem_of_getElem? (i := 83) (by decide +kernel))
theorem tw_1201 : Cond.code yX11_hasOne cX11_hasOne 4 (some .boolean) ∈ TB := tb_6 (i := 201) (by decide +kernel) rfl
theorem tw_1202 : Cond.methodLink RL 165 yX10_lostIf ∈ TB := tb_4 (i := 160) (by decide +kernel) rfl
theorem tw_1203 : Cond.instanceMethod yX10_lostIf ∈ TB := tb_4 (i := 161) (by decide +kernel) rfl
theorem tw_1204 : Cond.selects RX10 yX10_lostIf yX10_lostIf ∈ TB := tb_4 (i := 162) (by decide +kernel) rfl
theorem tw_1205 : Cond.code yX10_lostIf cX10_lostIf 4 (some .int) ∈ TB := tb_4 (i := 163) (by decide +kernel) rfl
theorem tw_1206 : Cond.methodLink RL 168 yX11_lostIf ∈ TB := tb_6 (i := 202) (by decide +kernel) rfl
theorem tw_1207 : Cond.instanceMethod yX11_lostIf ∈ TB := tb_6 (i := 203) (by decide +kernel) rfl
theorem tw_1208 : Cond.selects RX11 yX11_lostIf yX11_lostIf ∈ TB := tb_6 (i := 204) (by decide +kernel) rfl
theorem tw_1209 : Cond.code yX11_lostIf cX11_lostIf 3 (some .int) ∈ TB := tb_6 (i := 205) (by decide +kernel) rfl
theorem tw_1210 : Cond.methodLink RL 169 yX10_print ∈ TB := tb_4 (i := 164) (by decide +kernel) rfl
theorem tw_1211 : Cond.instanceMethod yX10_print ∈ TB := tb_4 (i := 165) (by decide +kernel) rfl
theorem tw_1212 : Cond.selects RX10 yX10_print yX10_print ∈ TB := tb_4 (i := 166) (by decide +kernel) rfl
theorem tw_1213 : Cond.code yX10_print cX10_print 5 (some .int) ∈ TB := tb_4 (i := 167) (by decide +kernel) rfl
theorem tw_1214 : Cond.methodLink RX10 299 yX10_printTerm ∈ TB := tb_4 (i := 168) (by decide +kernel) rfl
theorem tw_1215 : Cond.instanceMethod yX10_printTerm ∈ TB := tb_4 (i := 170) (by decide +kernel) rfl
theorem tw_1216 : Cond.selects RX10 yX10_printTerm yX10_printTerm ∈ TB := tb_p (q := (yX10_printTerm, 10)) (List.mem_of_getElem? (i := 31) (by decide +kernel))
theorem tw_1217 : Cond.code yX10_printTerm cX10_printTerm 7 none ∈ TB := tb_4 (i := 171) (by decide +kernel) rfl
theorem tw_1218 : Cond.methodLink RX10 306 yX3_addNumber ∈ TB := tb_4 (i := 172) (by decide +kernel) rfl
theorem tw_1219 : Cond.instanceMethod yX3_addNumber ∈ TB := tb_4 (i := 173) (by decide +kernel) rfl
theorem tw_1220 : Cond.selects RX3 yX3_addNumber yX3_addNumber ∈ TB := tb_4 (i := 174) (by decide +kernel) rfl
theorem tw_1221 : Cond.code yX3_addNumber cX3_addNumber 6 none ∈ TB := tb_4 (i := 175) (by decide +kernel) rfl
theorem tw_1222 : Cond.constantLong RX3 25 (10) ∈ TB := tb_4 (i := 176) (by decide +kernel) rfl
theorem tw_1223 : Cond.constantLong RX3 27 (48) ∈ TB := tb_4 (i := 177) (by decide +kernel) rfl
theorem tw_1224 : Cond.methodLink RL 172 yX11_print ∈ TB := tb_6 (i := 206) (by decide +kernel) rfl
theorem tw_1225 : Cond.instanceMethod yX11_print ∈ TB := tb_6 (i := 207) (by decide +kernel) rfl
theorem tw_1226 : Cond.selects RX11 yX11_print yX11_print ∈ TB := tb_6 (i := 208) (by decide +kernel) rfl
theorem tw_1227 : Cond.code yX11_print cX11_print 4 (some .int) ∈ TB := tb_6 (i := 209) (by decide +kernel) rfl
theorem tw_1228 : Cond.fieldLink RX11 331 "ProvenanceTablesModel" "printedLong" "I" ∈ TB := tb_4 (i := 219) (by decide +kernel) rfl
theorem tw_1229 : Cond.methodLink RX11 338 yX11_prints ∈ TB := tb_6 (i := 210) (by decide +kernel) rfl
theorem tw_1230 : Cond.instanceMethod yX11_prints ∈ TB := tb_6 (i := 212) (by decide +kernel) rfl
theorem tw_1231 : Cond.selects RX11 yX11_prints yX11_prints ∈ TB := tb_p (q := (yX11_prints, 32)) (List.mem_of_getElem? (i := 84) (by decide +kernel))
theorem tw_1232 : Cond.code yX11_prints cX11_prints 2 none ∈ TB := tb_6 (i := 213) (by decide +kernel) rfl
theorem tw_1233 : Cond.methodLink RX11 345 yX11_printsTerm ∈ TB := tb_6 (i := 214) (by decide +kernel) rfl
theorem tw_1234 : Cond.instanceMethod yX11_printsTerm ∈ TB := tb_6 (i := 216) (by decide +kernel) rfl
theorem tw_1235 : Cond.selects RX11 yX11_printsTerm yX11_printsTerm ∈ TB := tb_p (q := (yX11_printsTerm, 32)) (List.mem_of_getElem? (i := 85) (by decide +kernel))
theorem tw_1236 : Cond.code yX11_printsTerm cX11_printsTerm 4 none ∈ TB := tb_6 (i := 217) (by decide +kernel) rfl
theorem tw_1237 : Cond.methodLink RX11 341 yX11_printsNumber ∈ TB := tb_6 (i := 218) (by decide +kernel) rfl
theorem tw_1238 : Cond.instanceMethod yX11_printsNumber ∈ TB := tb_6 (i := 220) (by decide +kernel) rfl
theorem tw_1239 : Cond.selects RX11 yX11_printsNumber yX11_printsNumber ∈ TB := tb_p (q := (yX11_printsNumber, 32)) (List.mem_of_getElem? (i := 86) (by decide +kernel))
theorem tw_1240 : Cond.code yX11_printsNumber cX11_printsNumber 5 none ∈ TB := tb_6 (i := 221) (by decide +kernel) rfl
theorem tw_1241 : Cond.constantLong RX11 334 (9) ∈ TB := tb_6 (i := 222) (by decide +kernel) rfl
theorem tw_1242 : Cond.constantLong RX11 336 (10) ∈ TB := tb_6 (i := 223) (by decide +kernel) rfl
theorem tw_1243 : Cond.methodLink RL 173 yX10_printed ∈ TB := tb_4 (i := 178) (by decide +kernel) rfl
theorem tw_1244 : Cond.instanceMethod yX10_printed ∈ TB := tb_4 (i := 179) (by decide +kernel) rfl
theorem tw_1245 : Cond.selects RX10 yX10_printed yX10_printed ∈ TB := tb_4 (i := 180) (by decide +kernel) rfl
theorem tw_1246 : Cond.code yX10_printed cX10_printed 2 (some .int) ∈ TB := tb_4 (i := 181) (by decide +kernel) rfl
theorem tw_1247 : Cond.methodLink RL 176 yX11_printed ∈ TB := tb_6 (i := 224) (by decide +kernel) rfl
theorem tw_1248 : Cond.instanceMethod yX11_printed ∈ TB := tb_6 (i := 225) (by decide +kernel) rfl
theorem tw_1249 : Cond.selects RX11 yX11_printed yX11_printed ∈ TB := tb_6 (i := 226) (by decide +kernel) rfl
theorem tw_1250 : Cond.code yX11_printed cX11_printed 2 (some .int) ∈ TB := tb_6 (i := 227) (by decide +kernel) rfl
set_option maxRecDepth 20000 in
theorem inX0 : ∀ w ∈ u_ws RX0 TX0 4, w ∈ TB := List.forall_mem_cons.mpr ⟨tb_1 (i := 175) (by decide +kernel) rfl, List.forall_mem_cons.mpr ⟨tb_1 (i := 177) (by decide +kernel) rfl, List.forall_mem_cons.mpr ⟨tb_1 (i := 179) (by decide +kernel) rfl, List.forall_mem_cons.mpr ⟨tb_1 (i := 181) (by decide +kernel) rfl, fun _ h => absurd h List.not_mem_nil⟩⟩⟩⟩
set_option maxRecDepth 20000 in
theorem inX1 : ∀ w ∈ u_ws RX1 TX1 2, w ∈ TB := List.forall_mem_cons.mpr ⟨tb_1 (i := 83) (by decide +kernel) rfl, List.forall_mem_cons.mpr ⟨tb_1 (i := 85) (by decide +kernel) rfl, fun _ h => absurd h List.not_mem_nil⟩⟩
set_option maxRecDepth 20000 in
theorem inX3 : ∀ w ∈ u_ws RX3 TX3 2, w ∈ TB := List.forall_mem_cons.mpr ⟨tb_1 (i := 40) (by decide +kernel) rfl, List.forall_mem_cons.mpr ⟨tb_1 (i := 42) (by decide +kernel) rfl, fun _ h => absurd h List.not_mem_nil⟩⟩
set_option maxRecDepth 20000 in
theorem inX5 : ∀ w ∈ u_ws RX5 TX5 3, w ∈ TB := List.forall_mem_cons.mpr ⟨tb_1 (i := 150) (by decide +kernel) rfl, List.forall_mem_cons.mpr ⟨tb_1 (i := 152) (by decide +kernel) rfl, List.forall_mem_cons.mpr ⟨tb_1 (i := 154) (by decide +kernel) rfl, fun _ h => absurd h List.not_mem_nil⟩⟩⟩
set_option maxRecDepth 20000 in
theorem inX6 : ∀ w ∈ u_ws RX6 TX6 10, w ∈ TB := List.forall_mem_cons.mpr ⟨tb_1 (i := 106) (by decide +kernel) rfl, List.forall_mem_cons.mpr ⟨tb_1 (i := 108) (by decide +kernel) rfl, List.forall_mem_cons.mpr ⟨tb_1 (i := 110) (by decide +kernel) rfl, List.forall_mem_cons.mpr ⟨tb_1 (i := 112) (by decide +kernel) rfl, List.forall_mem_cons.mpr ⟨tb_1 (i := 114) (by decide +kernel) rfl, List.forall_mem_cons.mpr ⟨tb_1 (i := 116) (by decide +kernel) rfl, List.forall_mem_cons.mpr ⟨tb_1 (i := 118) (by decide +kernel) rfl, List.forall_mem_cons.mpr ⟨tb_1 (i := 120) (by decide +kernel) rfl, List.forall_mem_cons.mpr ⟨tb_1 (i := 122) (by decide +kernel) rfl, List.forall_mem_cons.mpr ⟨tb_1 (i := 124) (by decide +kernel) rfl, fun _ h => absurd h List.not_mem_nil⟩⟩⟩⟩⟩⟩⟩⟩⟩⟩
set_option maxRecDepth 20000 in
theorem inX7 : ∀ w ∈ u_ws RX7 TX7 4, w ∈ TB := List.forall_mem_cons.mpr ⟨tb_1 (i := 162) (by decide +kernel) rfl, List.forall_mem_cons.mpr ⟨tb_1 (i := 164) (by decide +kernel) rfl, List.forall_mem_cons.mpr ⟨tb_1 (i := 166) (by decide +kernel) rfl, List.forall_mem_cons.mpr ⟨tb_1 (i := 168) (by decide +kernel) rfl, fun _ h => absurd h List.not_mem_nil⟩⟩⟩⟩
set_option maxRecDepth 20000 in
theorem inX8 : ∀ w ∈ u_ws RX8 TX8 8, w ∈ TB := List.forall_mem_cons.mpr ⟨tb_1 (i := 55) (by decide +kernel) rfl, List.forall_mem_cons.mpr ⟨tb_1 (i := 57) (by decide +kernel) rfl, List.forall_mem_cons.mpr ⟨tb_1 (i := 59) (by decide +kernel) rfl, List.forall_mem_cons.mpr ⟨tb_1 (i := 61) (by decide +kernel) rfl, List.forall_mem_cons.mpr ⟨tb_1 (i := 63) (by decide +kernel) rfl, List.forall_mem_cons.mpr ⟨tb_1 (i := 65) (by decide +kernel) rfl, List.forall_mem_cons.mpr ⟨tb_1 (i := 67) (by decide +kernel) rfl, List.forall_mem_cons.mpr ⟨tb_1 (i := 69) (by decide +kernel) rfl, fun _ h => absurd h List.not_mem_nil⟩⟩⟩⟩⟩⟩⟩⟩
set_option maxRecDepth 20000 in
theorem inX9 : ∀ w ∈ u_ws RX9 TX9 4, w ∈ TB := List.forall_mem_cons.mpr ⟨tb_1 (i := 196) (by decide +kernel) rfl, List.forall_mem_cons.mpr ⟨tb_1 (i := 198) (by decide +kernel) rfl, List.forall_mem_cons.mpr ⟨tb_1 (i := 200) (by decide +kernel) rfl, List.forall_mem_cons.mpr ⟨tb_1 (i := 202) (by decide +kernel) rfl, fun _ h => absurd h List.not_mem_nil⟩⟩⟩⟩
set_option maxRecDepth 20000 in
theorem inX10 : ∀ w ∈ u_ws RX10 TX10 10, w ∈ TB := List.forall_mem_cons.mpr ⟨tb_1 (i := 215) (by decide +kernel) rfl, List.forall_mem_cons.mpr ⟨tb_1 (i := 217) (by decide +kernel) rfl, List.forall_mem_cons.mpr ⟨tb_1 (i := 219) (by decide +kernel) rfl, List.forall_mem_cons.mpr ⟨tb_1 (i := 221) (by decide +kernel) rfl, List.forall_mem_cons.mpr ⟨tb_1 (i := 223) (by decide +kernel) rfl, List.forall_mem_cons.mpr ⟨tb_1 (i := 225) (by decide +kernel) rfl, List.forall_mem_cons.mpr ⟨tb_1 (i := 227) (by decide +kernel) rfl, List.forall_mem_cons.mpr ⟨tb_1 (i := 229) (by decide +kernel) rfl, List.forall_mem_cons.mpr ⟨tb_1 (i := 231) (by decide +kernel) rfl, List.forall_mem_cons.mpr ⟨tb_1 (i := 233) (by decide +kernel) rfl, fun _ h => absurd h List.not_mem_nil⟩⟩⟩⟩⟩⟩⟩⟩⟩⟩
set_option maxRecDepth 20000 in
theorem inX11 : ∀ w ∈ u_ws RX11 TX11 32, w ∈ TB := List.forall_mem_cons.mpr ⟨tb_4 (i := 220) (by decide +kernel) rfl, List.forall_mem_cons.mpr ⟨tb_4 (i := 222) (by decide +kernel) rfl, List.forall_mem_cons.mpr ⟨tb_4 (i := 224) (by decide +kernel) rfl, List.forall_mem_cons.mpr ⟨tb_4 (i := 226) (by decide +kernel) rfl, List.forall_mem_cons.mpr ⟨tb_4 (i := 228) (by decide +kernel) rfl, List.forall_mem_cons.mpr ⟨tb_4 (i := 230) (by decide +kernel) rfl, List.forall_mem_cons.mpr ⟨tb_4 (i := 232) (by decide +kernel) rfl, List.forall_mem_cons.mpr ⟨tb_4 (i := 234) (by decide +kernel) rfl, List.forall_mem_cons.mpr ⟨tb_4 (i := 236) (by decide +kernel) rfl, List.forall_mem_cons.mpr ⟨tb_4 (i := 238) (by decide +kernel) rfl, List.forall_mem_cons.mpr ⟨tb_5 (i := 0) (by decide +kernel) rfl, List.forall_mem_cons.mpr ⟨tb_5 (i := 2) (by decide +kernel) rfl, List.forall_mem_cons.mpr ⟨tb_5 (i := 4) (by decide +kernel) rfl, List.forall_mem_cons.mpr ⟨tb_5 (i := 6) (by decide +kernel) rfl, List.forall_mem_cons.mpr ⟨tb_5 (i := 8) (by decide +kernel) rfl, List.forall_mem_cons.mpr ⟨tb_5 (i := 10) (by decide +kernel) rfl, List.forall_mem_cons.mpr ⟨tb_5 (i := 12) (by decide +kernel) rfl, List.forall_mem_cons.mpr ⟨tb_5 (i := 14) (by decide +kernel) rfl, List.forall_mem_cons.mpr ⟨tb_5 (i := 16) (by decide +kernel) rfl, List.forall_mem_cons.mpr ⟨tb_5 (i := 18) (by decide +kernel) rfl, List.forall_mem_cons.mpr ⟨tb_5 (i := 20) (by decide +kernel) rfl, List.forall_mem_cons.mpr ⟨tb_5 (i := 22) (by decide +kernel) rfl, List.forall_mem_cons.mpr ⟨tb_5 (i := 24) (by decide +kernel) rfl, List.forall_mem_cons.mpr ⟨tb_5 (i := 26) (by decide +kernel) rfl, List.forall_mem_cons.mpr ⟨tb_5 (i := 28) (by decide +kernel) rfl, List.forall_mem_cons.mpr ⟨tb_5 (i := 30) (by decide +kernel) rfl, List.forall_mem_cons.mpr ⟨tb_5 (i := 32) (by decide +kernel) rfl, List.forall_mem_cons.mpr ⟨tb_5 (i := 34) (by decide +kernel) rfl, List.forall_mem_cons.mpr ⟨tb_5 (i := 36) (by decide +kernel) rfl, List.forall_mem_cons.mpr ⟨tb_5 (i := 38) (by decide +kernel) rfl, List.forall_mem_cons.mpr ⟨tb_5 (i := 40) (by decide +kernel) rfl, List.forall_mem_cons.mpr ⟨tb_5 (i := 42) (by decide +kernel) rfl, fun _ h => absurd h List.not_mem_nil⟩⟩⟩⟩⟩⟩⟩⟩⟩⟩⟩⟩⟩⟩⟩⟩⟩⟩⟩⟩⟩⟩⟩⟩⟩⟩⟩⟩⟩⟩⟩⟩
