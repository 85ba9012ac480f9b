theorem dX0_init_0 : decode cX0_init 0 = .ok (.aload_n 0, 1) := by decide +kernel
theorem dX0_init_1 : decode cX0_init 1 = .ok (.invokespecial 3, 3) := by decide +kernel
theorem dX0_init_4 : decode cX0_init 4 = .ok (.aload_n 0, 1) := by decide +kernel
theorem dX0_init_5 : decode cX0_init 5 = .ok (.bipush 12, 2) := by decide +kernel
theorem dX0_init_7 : decode cX0_init 7 = .ok (.anewarray 11, 3) := by decide +kernel
theorem dX0_init_10 : decode cX0_init 10 = .ok (.putfield 13, 3) := by decide +kernel
theorem dX0_init_13 : decode cX0_init 13 = .ok (.aload_n 0, 1) := by decide +kernel
theorem dX0_init_14 : decode cX0_init 14 = .ok (.new 11, 3) := by decide +kernel
theorem dX0_init_17 : decode cX0_init 17 = .ok (.dup, 1) := by decide +kernel
theorem dX0_init_18 : decode cX0_init 18 = .ok (.invokespecial 17, 3) := by decide +kernel
theorem dX0_init_21 : decode cX0_init 21 = .ok (.putfield 18, 3) := by decide +kernel
theorem dX0_init_24 : decode cX0_init 24 = .ok (.aload_n 0, 1) := by decide +kernel
theorem dX0_init_25 : decode cX0_init 25 = .ok (.new 11, 3) := by decide +kernel
theorem dX0_init_28 : decode cX0_init 28 = .ok (.dup, 1) := by decide +kernel
theorem dX0_init_29 : decode cX0_init 29 = .ok (.invokespecial 17, 3) := by decide +kernel
theorem dX0_init_32 : decode cX0_init 32 = .ok (.putfield 22, 3) := by decide +kernel
theorem dX0_init_35 : decode cX0_init 35 = .ok (.iconst 0, 1) := by decide +kernel
theorem dX0_init_36 : decode cX0_init 36 = .ok (.istore_n 1, 1) := by decide +kernel
theorem dX0_init_37 : decode cX0_init 37 = .ok (.iload_n 1, 1) := by decide +kernel
theorem dX0_init_38 : decode cX0_init 38 = .ok (.bipush 12, 2) := by decide +kernel
theorem dX0_init_40 : decode cX0_init 40 = .ok (.if_icmp .ge 22, 3) := by decide +kernel
theorem dX0_init_43 : decode cX0_init 43 = .ok (.aload_n 0, 1) := by decide +kernel
theorem dX0_init_44 : decode cX0_init 44 = .ok (.getfield 13, 3) := by decide +kernel
theorem dX0_init_47 : decode cX0_init 47 = .ok (.iload_n 1, 1) := by decide +kernel
theorem dX0_init_48 : decode cX0_init 48 = .ok (.new 11, 3) := by decide +kernel
theorem dX0_init_51 : decode cX0_init 51 = .ok (.dup, 1) := by decide +kernel
theorem dX0_init_52 : decode cX0_init 52 = .ok (.invokespecial 17, 3) := by decide +kernel
theorem dX0_init_55 : decode cX0_init 55 = .ok (.aastore, 1) := by decide +kernel
theorem dX0_init_56 : decode cX0_init 56 = .ok (.iinc 1 1, 3) := by decide +kernel
theorem dX0_init_59 : decode cX0_init 59 = .ok (.goto (-22), 3) := by decide +kernel
theorem dX0_init_62 : decode cX0_init 62 = .ok (.return_, 1) := by decide +kernel
theorem dX0_answer_0 : decode cX0_answer 0 = .ok (.aload_n 0, 1) := by decide +kernel
theorem dX0_answer_1 : decode cX0_answer 1 = .ok (.getfield 22, 3) := by decide +kernel
theorem dX0_answer_4 : decode cX0_answer 4 = .ok (.areturn, 1) := by decide +kernel
theorem dX0_compute_0 : decode cX0_compute 0 = .ok (.aload_n 0, 1) := by decide +kernel
theorem dX0_compute_1 : decode cX0_compute 1 = .ok (.iconst 0, 1) := by decide +kernel
theorem dX0_compute_2 : decode cX0_compute 2 = .ok (.putfield 25, 3) := by decide +kernel
theorem dX0_compute_5 : decode cX0_compute 5 = .ok (.aload_n 1, 1) := by decide +kernel
theorem dX0_compute_6 : decode cX0_compute 6 = .ok (.invokevirtual 29, 3) := by decide +kernel
theorem dX0_compute_9 : decode cX0_compute 9 = .ok (.ifCond .ne 17, 3) := by decide +kernel
theorem dX0_compute_12 : decode cX0_compute 12 = .ok (.aload_n 0, 1) := by decide +kernel
theorem dX0_compute_13 : decode cX0_compute 13 = .ok (.getfield 18, 3) := by decide +kernel
theorem dX0_compute_16 : decode cX0_compute 16 = .ok (.iconst 0, 1) := by decide +kernel
theorem dX0_compute_17 : decode cX0_compute 17 = .ok (.invokevirtual 35, 3) := by decide +kernel
theorem dX0_compute_20 : decode cX0_compute 20 = .ok (.aload_n 0, 1) := by decide +kernel
theorem dX0_compute_21 : decode cX0_compute 21 = .ok (.iconst 0, 1) := by decide +kernel
theorem dX0_compute_22 : decode cX0_compute 22 = .ok (.invokevirtual 39, 3) := by decide +kernel
theorem dX0_compute_25 : decode cX0_compute 25 = .ok (.ireturn, 1) := by decide +kernel
theorem dX0_compute_26 : decode cX0_compute 26 = .ok (.aload_n 1, 1) := by decide +kernel
theorem dX0_compute_27 : decode cX0_compute 27 = .ok (.invokevirtual 43, 3) := by decide +kernel
theorem dX0_compute_30 : decode cX0_compute 30 = .ok (.iconst 1, 1) := by decide +kernel
theorem dX0_compute_31 : decode cX0_compute 31 = .ok (.isub, 1) := by decide +kernel
theorem dX0_compute_32 : decode cX0_compute 32 = .ok (.istore_n 3, 1) := by decide +kernel
theorem dX0_compute_33 : decode cX0_compute 33 = .ok (.iload_n 3, 1) := by decide +kernel
theorem dX0_compute_34 : decode cX0_compute 34 = .ok (.ifCond .lt 21, 3) := by decide +kernel
theorem dX0_compute_37 : decode cX0_compute 37 = .ok (.aload_n 0, 1) := by decide +kernel
theorem dX0_compute_38 : decode cX0_compute 38 = .ok (.aload_n 1, 1) := by decide +kernel
theorem dX0_compute_39 : decode cX0_compute 39 = .ok (.iload_n 3, 1) := by decide +kernel
theorem dX0_compute_40 : decode cX0_compute 40 = .ok (.aload_n 2, 1) := by decide +kernel
theorem dX0_compute_41 : decode cX0_compute 41 = .ok (.invokevirtual 47, 3) := by decide +kernel
theorem dX0_compute_44 : decode cX0_compute 44 = .ok (.ifCond .ne 5, 3) := by decide +kernel
theorem dX0_compute_47 : decode cX0_compute 47 = .ok (.iconst 0, 1) := by decide +kernel
theorem dX0_compute_48 : decode cX0_compute 48 = .ok (.ireturn, 1) := by decide +kernel
theorem dX0_compute_49 : decode cX0_compute 49 = .ok (.iinc 3 (-1), 3) := by decide +kernel
theorem dX0_compute_52 : decode cX0_compute 52 = .ok (.goto (-19), 3) := by decide +kernel
theorem dX0_compute_55 : decode cX0_compute 55 = .ok (.aload_n 0, 1) := by decide +kernel
theorem dX0_compute_56 : decode cX0_compute 56 = .ok (.getfield 25, 3) := by decide +kernel
theorem dX0_compute_59 : decode cX0_compute 59 = .ok (.iconst 1, 1) := by decide +kernel
theorem dX0_compute_60 : decode cX0_compute 60 = .ok (.if_icmp .ne 7, 3) := by decide +kernel
theorem dX0_compute_63 : decode cX0_compute 63 = .ok (.iconst 1, 1) := by decide +kernel
theorem dX0_compute_64 : decode cX0_compute 64 = .ok (.goto 4, 3) := by decide +kernel
theorem dX0_compute_67 : decode cX0_compute 67 = .ok (.iconst 0, 1) := by decide +kernel
theorem dX0_compute_68 : decode cX0_compute 68 = .ok (.ireturn, 1) := by decide +kernel
theorem dX0_keepResult_0 : decode cX0_keepResult 0 = .ok (.aload_n 0, 1) := by decide +kernel
theorem dX0_keepResult_1 : decode cX0_keepResult 1 = .ok (.getfield 13, 3) := by decide +kernel
theorem dX0_keepResult_4 : decode cX0_keepResult 4 = .ok (.iconst 0, 1) := by decide +kernel
theorem dX0_keepResult_5 : decode cX0_keepResult 5 = .ok (.aaload, 1) := by decide +kernel
theorem dX0_keepResult_6 : decode cX0_keepResult 6 = .ok (.astore_n 1, 1) := by decide +kernel
theorem dX0_keepResult_7 : decode cX0_keepResult 7 = .ok (.aload_n 1, 1) := by decide +kernel
theorem dX0_keepResult_8 : decode cX0_keepResult 8 = .ok (.ifnull 18, 3) := by decide +kernel
theorem dX0_keepResult_11 : decode cX0_keepResult 11 = .ok (.aload_n 0, 1) := by decide +kernel
theorem dX0_keepResult_12 : decode cX0_keepResult 12 = .ok (.getfield 13, 3) := by decide +kernel
theorem dX0_keepResult_15 : decode cX0_keepResult 15 = .ok (.iconst 0, 1) := by decide +kernel
theorem dX0_keepResult_16 : decode cX0_keepResult 16 = .ok (.aload_n 0, 1) := by decide +kernel
theorem dX0_keepResult_17 : decode cX0_keepResult 17 = .ok (.getfield 22, 3) := by decide +kernel
theorem dX0_keepResult_20 : decode cX0_keepResult 20 = .ok (.aastore, 1) := by decide +kernel
theorem dX0_keepResult_21 : decode cX0_keepResult 21 = .ok (.aload_n 0, 1) := by decide +kernel
theorem dX0_keepResult_22 : decode cX0_keepResult 22 = .ok (.aload_n 1, 1) := by decide +kernel
theorem dX0_keepResult_23 : decode cX0_keepResult 23 = .ok (.putfield 22, 3) := by decide +kernel
theorem dX0_keepResult_26 : decode cX0_keepResult 26 = .ok (.return_, 1) := by decide +kernel
theorem dX0_computeNode_0 : decode cX0_computeNode 0 = .ok (.aload_n 1, 1) := by decide +kernel
theorem dX0_computeNode_1 : decode cX0_computeNode 1 = .ok (.iload_n 2, 1) := by decide +kernel
theorem dX0_computeNode_2 : decode cX0_computeNode 2 = .ok (.invokevirtual 51, 3) := by decide +kernel
theorem dX0_computeNode_5 : decode cX0_computeNode 5 = .ok (.istore 4, 2) := by decide +kernel
theorem dX0_computeNode_7 : decode cX0_computeNode 7 = .ok (.iload 4, 2) := by decide +kernel
theorem dX0_computeNode_9 : decode cX0_computeNode 9 = .ok (.invokestatic 55, 3) := by decide +kernel
theorem dX0_computeNode_12 : decode cX0_computeNode 12 = .ok (.istore 5, 2) := by decide +kernel
theorem dX0_computeNode_14 : decode cX0_computeNode 14 = .ok (.aload_n 0, 1) := by decide +kernel
theorem dX0_computeNode_15 : decode cX0_computeNode 15 = .ok (.iconst 1, 1) := by decide +kernel
theorem dX0_computeNode_16 : decode cX0_computeNode 16 = .ok (.invokevirtual 58, 3) := by decide +kernel
theorem dX0_computeNode_19 : decode cX0_computeNode 19 = .ok (.astore 6, 2) := by decide +kernel
theorem dX0_computeNode_21 : decode cX0_computeNode 21 = .ok (.aload_n 0, 1) := by decide +kernel
theorem dX0_computeNode_22 : decode cX0_computeNode 22 = .ok (.iconst 2, 1) := by decide +kernel
theorem dX0_computeNode_23 : decode cX0_computeNode 23 = .ok (.invokevirtual 58, 3) := by decide +kernel
theorem dX0_computeNode_26 : decode cX0_computeNode 26 = .ok (.astore 7, 2) := by decide +kernel
theorem dX0_computeNode_28 : decode cX0_computeNode 28 = .ok (.iload 5, 2) := by decide +kernel
theorem dX0_computeNode_30 : decode cX0_computeNode 30 = .ok (.ifCond .le 8, 3) := by decide +kernel
theorem dX0_computeNode_33 : decode cX0_computeNode 33 = .ok (.aload 6, 2) := by decide +kernel
theorem dX0_computeNode_35 : decode cX0_computeNode 35 = .ok (.ifnull 14, 3) := by decide +kernel
theorem dX0_computeNode_38 : decode cX0_computeNode 38 = .ok (.iload 5, 2) := by decide +kernel
theorem dX0_computeNode_40 : decode cX0_computeNode 40 = .ok (.iconst 1, 1) := by decide +kernel
theorem dX0_computeNode_41 : decode cX0_computeNode 41 = .ok (.if_icmp .le 10, 3) := by decide +kernel
theorem dX0_computeNode_44 : decode cX0_computeNode 44 = .ok (.aload 7, 2) := by decide +kernel
theorem dX0_computeNode_46 : decode cX0_computeNode 46 = .ok (.ifnonnull 5, 3) := by decide +kernel
theorem dX0_computeNode_49 : decode cX0_computeNode 49 = .ok (.iconst 0, 1) := by decide +kernel
theorem dX0_computeNode_50 : decode cX0_computeNode 50 = .ok (.ireturn, 1) := by decide +kernel
theorem dX0_computeNode_51 : decode cX0_computeNode 51 = .ok (.aload_n 1, 1) := by decide +kernel
theorem dX0_computeNode_52 : decode cX0_computeNode 52 = .ok (.iload_n 2, 1) := by decide +kernel
theorem dX0_computeNode_53 : decode cX0_computeNode 53 = .ok (.invokevirtual 62, 3) := by decide +kernel
theorem dX0_computeNode_56 : decode cX0_computeNode 56 = .ok (.istore 8, 2) := by decide +kernel
theorem dX0_computeNode_58 : decode cX0_computeNode 58 = .ok (.aload_n 1, 1) := by decide +kernel
theorem dX0_computeNode_59 : decode cX0_computeNode 59 = .ok (.iload_n 2, 1) := by decide +kernel
theorem dX0_computeNode_60 : decode cX0_computeNode 60 = .ok (.invokevirtual 65, 3) := by decide +kernel
theorem dX0_computeNode_63 : decode cX0_computeNode 63 = .ok (.istore 9, 2) := by decide +kernel
theorem dX0_computeNode_65 : decode cX0_computeNode 65 = .ok (.iload 4, 2) := by decide +kernel
theorem dX0_computeNode_67 : decode cX0_computeNode 67 = .ok (.tableswitch 94 0 4 #[33, 45, 45, 62, 77], 33) := by decide +kernel
theorem dX0_computeNode_100 : decode cX0_computeNode 100 = .ok (.aload_n 0, 1) := by decide +kernel
theorem dX0_computeNode_101 : decode cX0_computeNode 101 = .ok (.iload 8, 2) := by decide +kernel
theorem dX0_computeNode_103 : decode cX0_computeNode 103 = .ok (.aload_n 3, 1) := by decide +kernel
theorem dX0_computeNode_104 : decode cX0_computeNode 104 = .ok (.invokevirtual 68, 3) := by decide +kernel
theorem dX0_computeNode_107 : decode cX0_computeNode 107 = .ok (.istore 10, 2) := by decide +kernel
theorem dX0_computeNode_109 : decode cX0_computeNode 109 = .ok (.goto 62, 3) := by decide +kernel
theorem dX0_computeNode_112 : decode cX0_computeNode 112 = .ok (.aload_n 0, 1) := by decide +kernel
theorem dX0_computeNode_113 : decode cX0_computeNode 113 = .ok (.aload 6, 2) := by decide +kernel
theorem dX0_computeNode_115 : decode cX0_computeNode 115 = .ok (.iload 4, 2) := by decide +kernel
theorem dX0_computeNode_117 : decode cX0_computeNode 117 = .ok (.iload 8, 2) := by decide +kernel
theorem dX0_computeNode_119 : decode cX0_computeNode 119 = .ok (.iload 9, 2) := by decide +kernel
theorem dX0_computeNode_121 : decode cX0_computeNode 121 = .ok (.invokevirtual 72, 3) := by decide +kernel
theorem dX0_computeNode_124 : decode cX0_computeNode 124 = .ok (.istore 10, 2) := by decide +kernel
theorem dX0_computeNode_126 : decode cX0_computeNode 126 = .ok (.goto 45, 3) := by decide +kernel
theorem dX0_computeNode_129 : decode cX0_computeNode 129 = .ok (.aload_n 0, 1) := by decide +kernel
theorem dX0_computeNode_130 : decode cX0_computeNode 130 = .ok (.aload 6, 2) := by decide +kernel
theorem dX0_computeNode_132 : decode cX0_computeNode 132 = .ok (.iload 8, 2) := by decide +kernel
theorem dX0_computeNode_134 : decode cX0_computeNode 134 = .ok (.iload 9, 2) := by decide +kernel
theorem dX0_computeNode_136 : decode cX0_computeNode 136 = .ok (.invokevirtual 76, 3) := by decide +kernel
theorem dX0_computeNode_139 : decode cX0_computeNode 139 = .ok (.istore 10, 2) := by decide +kernel
theorem dX0_computeNode_141 : decode cX0_computeNode 141 = .ok (.goto 30, 3) := by decide +kernel
theorem dX0_computeNode_144 : decode cX0_computeNode 144 = .ok (.aload_n 0, 1) := by decide +kernel
theorem dX0_computeNode_145 : decode cX0_computeNode 145 = .ok (.aload 6, 2) := by decide +kernel
theorem dX0_computeNode_147 : decode cX0_computeNode 147 = .ok (.aload 7, 2) := by decide +kernel
theorem dX0_computeNode_149 : decode cX0_computeNode 149 = .ok (.iload 8, 2) := by decide +kernel
theorem dX0_computeNode_151 : decode cX0_computeNode 151 = .ok (.iload 9, 2) := by decide +kernel
theorem dX0_computeNode_153 : decode cX0_computeNode 153 = .ok (.invokevirtual 80, 3) := by decide +kernel
theorem dX0_computeNode_156 : decode cX0_computeNode 156 = .ok (.istore 10, 2) := by decide +kernel
theorem dX0_computeNode_158 : decode cX0_computeNode 158 = .ok (.goto 13, 3) := by decide +kernel
theorem dX0_computeNode_161 : decode cX0_computeNode 161 = .ok (.aload_n 0, 1) := by decide +kernel
theorem dX0_computeNode_162 : decode cX0_computeNode 162 = .ok (.aload 6, 2) := by decide +kernel
theorem dX0_computeNode_164 : decode cX0_computeNode 164 = .ok (.aload 7, 2) := by decide +kernel
theorem dX0_computeNode_166 : decode cX0_computeNode 166 = .ok (.invokevirtual 84, 3) := by decide +kernel
theorem dX0_computeNode_169 : decode cX0_computeNode 169 = .ok (.istore 10, 2) := by decide +kernel
theorem dX0_computeNode_171 : decode cX0_computeNode 171 = .ok (.iload 10, 2) := by decide +kernel
theorem dX0_computeNode_173 : decode cX0_computeNode 173 = .ok (.ifCond .eq 16, 3) := by decide +kernel
theorem dX0_computeNode_176 : decode cX0_computeNode 176 = .ok (.aload_n 0, 1) := by decide +kernel
theorem dX0_computeNode_177 : decode cX0_computeNode 177 = .ok (.iload 5, 2) := by decide +kernel
theorem dX0_computeNode_179 : decode cX0_computeNode 179 = .ok (.invokevirtual 39, 3) := by decide +kernel
theorem dX0_computeNode_182 : decode cX0_computeNode 182 = .ok (.ifCond .eq 7, 3) := by decide +kernel
theorem dX0_computeNode_185 : decode cX0_computeNode 185 = .ok (.iconst 1, 1) := by decide +kernel
theorem dX0_computeNode_186 : decode cX0_computeNode 186 = .ok (.goto 4, 3) := by decide +kernel
theorem dX0_computeNode_189 : decode cX0_computeNode 189 = .ok (.iconst 0, 1) := by decide +kernel
theorem dX0_computeNode_190 : decode cX0_computeNode 190 = .ok (.ireturn, 1) := by decide +kernel
theorem dX0_fillTable_0 : decode cX0_fillTable 0 = .ok (.aload_n 0, 1) := by decide +kernel
theorem dX0_fillTable_1 : decode cX0_fillTable 1 = .ok (.getfield 18, 3) := by decide +kernel
theorem dX0_fillTable_4 : decode cX0_fillTable 4 = .ok (.aload_n 2, 1) := by decide +kernel
theorem dX0_fillTable_5 : decode cX0_fillTable 5 = .ok (.iload_n 1, 1) := by decide +kernel
theorem dX0_fillTable_6 : decode cX0_fillTable 6 = .ok (.invokevirtual 88, 3) := by decide +kernel
theorem dX0_fillTable_9 : decode cX0_fillTable 9 = .ok (.invokevirtual 35, 3) := by decide +kernel
theorem dX0_fillTable_12 : decode cX0_fillTable 12 = .ok (.iconst 0, 1) := by decide +kernel
theorem dX0_fillTable_13 : decode cX0_fillTable 13 = .ok (.istore_n 3, 1) := by decide +kernel
theorem dX0_fillTable_14 : decode cX0_fillTable 14 = .ok (.iload_n 3, 1) := by decide +kernel
theorem dX0_fillTable_15 : decode cX0_fillTable 15 = .ok (.bipush 16, 2) := by decide +kernel
theorem dX0_fillTable_17 : decode cX0_fillTable 17 = .ok (.if_icmp .ge 55, 3) := by decide +kernel
theorem dX0_fillTable_20 : decode cX0_fillTable 20 = .ok (.aload_n 2, 1) := by decide +kernel
theorem dX0_fillTable_21 : decode cX0_fillTable 21 = .ok (.iload_n 3, 1) := by decide +kernel
theorem dX0_fillTable_22 : decode cX0_fillTable 22 = .ok (.invokevirtual 93, 3) := by decide +kernel
theorem dX0_fillTable_25 : decode cX0_fillTable 25 = .ok (.iload_n 1, 1) := by decide +kernel
theorem dX0_fillTable_26 : decode cX0_fillTable 26 = .ok (.if_icmp .eq 6, 3) := by decide +kernel
theorem dX0_fillTable_29 : decode cX0_fillTable 29 = .ok (.goto 37, 3) := by decide +kernel
theorem dX0_fillTable_32 : decode cX0_fillTable 32 = .ok (.aload_n 0, 1) := by decide +kernel
theorem dX0_fillTable_33 : decode cX0_fillTable 33 = .ok (.getfield 18, 3) := by decide +kernel
theorem dX0_fillTable_36 : decode cX0_fillTable 36 = .ok (.aload_n 2, 1) := by decide +kernel
theorem dX0_fillTable_37 : decode cX0_fillTable 37 = .ok (.iload_n 3, 1) := by decide +kernel
theorem dX0_fillTable_38 : decode cX0_fillTable 38 = .ok (.invokevirtual 96, 3) := by decide +kernel
theorem dX0_fillTable_41 : decode cX0_fillTable 41 = .ok (.invokevirtual 99, 3) := by decide +kernel
theorem dX0_fillTable_44 : decode cX0_fillTable 44 = .ok (.astore 4, 2) := by decide +kernel
theorem dX0_fillTable_46 : decode cX0_fillTable 46 = .ok (.aload 4, 2) := by decide +kernel
theorem dX0_fillTable_48 : decode cX0_fillTable 48 = .ok (.ifnull 16, 3) := by decide +kernel
theorem dX0_fillTable_51 : decode cX0_fillTable 51 = .ok (.aload 4, 2) := by decide +kernel
theorem dX0_fillTable_53 : decode cX0_fillTable 53 = .ok (.iload_n 3, 1) := by decide +kernel
theorem dX0_fillTable_54 : decode cX0_fillTable 54 = .ok (.invokestatic 103, 3) := by decide +kernel
theorem dX0_fillTable_57 : decode cX0_fillTable 57 = .ok (.lconst 1, 1) := by decide +kernel
theorem dX0_fillTable_58 : decode cX0_fillTable 58 = .ok (.invokevirtual 109, 3) := by decide +kernel
theorem dX0_fillTable_61 : decode cX0_fillTable 61 = .ok (.ifCond .ne 5, 3) := by decide +kernel
theorem dX0_fillTable_64 : decode cX0_fillTable 64 = .ok (.iconst 0, 1) := by decide +kernel
theorem dX0_fillTable_65 : decode cX0_fillTable 65 = .ok (.ireturn, 1) := by decide +kernel
theorem dX0_fillTable_66 : decode cX0_fillTable 66 = .ok (.iinc 3 1, 3) := by decide +kernel
theorem dX0_fillTable_69 : decode cX0_fillTable 69 = .ok (.goto (-55), 3) := by decide +kernel
theorem dX0_fillTable_72 : decode cX0_fillTable 72 = .ok (.iconst 1, 1) := by decide +kernel
theorem dX0_fillTable_73 : decode cX0_fillTable 73 = .ok (.ireturn, 1) := by decide +kernel
theorem dX0_fillSelect_0 : decode cX0_fillSelect 0 = .ok (.aload_n 1, 1) := by decide +kernel
theorem dX0_fillSelect_1 : decode cX0_fillSelect 1 = .ok (.invokevirtual 115, 3) := by decide +kernel
theorem dX0_fillSelect_4 : decode cX0_fillSelect 4 = .ok (.istore 5, 2) := by decide +kernel
theorem dX0_fillSelect_6 : decode cX0_fillSelect 6 = .ok (.aload_n 0, 1) := by decide +kernel
theorem dX0_fillSelect_7 : decode cX0_fillSelect 7 = .ok (.getfield 18, 3) := by decide +kernel
theorem dX0_fillSelect_10 : decode cX0_fillSelect 10 = .ok (.iload 5, 2) := by decide +kernel
theorem dX0_fillSelect_12 : decode cX0_fillSelect 12 = .ok (.invokevirtual 35, 3) := by decide +kernel
theorem dX0_fillSelect_15 : decode cX0_fillSelect 15 = .ok (.iconst 0, 1) := by decide +kernel
theorem dX0_fillSelect_16 : decode cX0_fillSelect 16 = .ok (.istore 6, 2) := by decide +kernel
theorem dX0_fillSelect_18 : decode cX0_fillSelect 18 = .ok (.iload 6, 2) := by decide +kernel
theorem dX0_fillSelect_20 : decode cX0_fillSelect 20 = .ok (.aload_n 1, 1) := by decide +kernel
theorem dX0_fillSelect_21 : decode cX0_fillSelect 21 = .ok (.invokevirtual 118, 3) := by decide +kernel
theorem dX0_fillSelect_24 : decode cX0_fillSelect 24 = .ok (.if_icmp .ge 65, 3) := by decide +kernel
theorem dX0_fillSelect_27 : decode cX0_fillSelect 27 = .ok (.aload_n 1, 1) := by decide +kernel
theorem dX0_fillSelect_28 : decode cX0_fillSelect 28 = .ok (.iload 6, 2) := by decide +kernel
theorem dX0_fillSelect_30 : decode cX0_fillSelect 30 = .ok (.invokevirtual 119, 3) := by decide +kernel
theorem dX0_fillSelect_33 : decode cX0_fillSelect 33 = .ok (.istore 7, 2) := by decide +kernel
theorem dX0_fillSelect_35 : decode cX0_fillSelect 35 = .ok (.iload_n 2, 1) := by decide +kernel
theorem dX0_fillSelect_36 : decode cX0_fillSelect 36 = .ok (.iconst 2, 1) := by decide +kernel
theorem dX0_fillSelect_37 : decode cX0_fillSelect 37 = .ok (.if_icmp .ne 15, 3) := by decide +kernel
theorem dX0_fillSelect_40 : decode cX0_fillSelect 40 = .ok (.iload 7, 2) := by decide +kernel
theorem dX0_fillSelect_42 : decode cX0_fillSelect 42 = .ok (.iload 5, 2) := by decide +kernel
theorem dX0_fillSelect_44 : decode cX0_fillSelect 44 = .ok (.iload 4, 2) := by decide +kernel
theorem dX0_fillSelect_46 : decode cX0_fillSelect 46 = .ok (.invokestatic 122, 3) := by decide +kernel
theorem dX0_fillSelect_49 : decode cX0_fillSelect 49 = .ok (.goto 5, 3) := by decide +kernel
theorem dX0_fillSelect_52 : decode cX0_fillSelect 52 = .ok (.iload 4, 2) := by decide +kernel
theorem dX0_fillSelect_54 : decode cX0_fillSelect 54 = .ok (.istore 8, 2) := by decide +kernel
theorem dX0_fillSelect_56 : decode cX0_fillSelect 56 = .ok (.iload 7, 2) := by decide +kernel
theorem dX0_fillSelect_58 : decode cX0_fillSelect 58 = .ok (.iload 5, 2) := by decide +kernel
theorem dX0_fillSelect_60 : decode cX0_fillSelect 60 = .ok (.iload_n 3, 1) := by decide +kernel
theorem dX0_fillSelect_61 : decode cX0_fillSelect 61 = .ok (.invokestatic 122, 3) := by decide +kernel
theorem dX0_fillSelect_64 : decode cX0_fillSelect 64 = .ok (.iload 8, 2) := by decide +kernel
theorem dX0_fillSelect_66 : decode cX0_fillSelect 66 = .ok (.if_icmp .ne 17, 3) := by decide +kernel
theorem dX0_fillSelect_69 : decode cX0_fillSelect 69 = .ok (.aload_n 0, 1) := by decide +kernel
theorem dX0_fillSelect_70 : decode cX0_fillSelect 70 = .ok (.iload 7, 2) := by decide +kernel
theorem dX0_fillSelect_72 : decode cX0_fillSelect 72 = .ok (.aload_n 1, 1) := by decide +kernel
theorem dX0_fillSelect_73 : decode cX0_fillSelect 73 = .ok (.iload 6, 2) := by decide +kernel
theorem dX0_fillSelect_75 : decode cX0_fillSelect 75 = .ok (.invokevirtual 128, 3) := by decide +kernel
theorem dX0_fillSelect_78 : decode cX0_fillSelect 78 = .ok (.ifCond .ne 5, 3) := by decide +kernel
theorem dX0_fillSelect_81 : decode cX0_fillSelect 81 = .ok (.iconst 0, 1) := by decide +kernel
theorem dX0_fillSelect_82 : decode cX0_fillSelect 82 = .ok (.ireturn, 1) := by decide +kernel
theorem dX0_fillSelect_83 : decode cX0_fillSelect 83 = .ok (.iinc 6 1, 3) := by decide +kernel
theorem dX0_fillSelect_86 : decode cX0_fillSelect 86 = .ok (.goto (-68), 3) := by decide +kernel
theorem dX0_fillSelect_89 : decode cX0_fillSelect 89 = .ok (.iconst 1, 1) := by decide +kernel
theorem dX0_fillSelect_90 : decode cX0_fillSelect 90 = .ok (.ireturn, 1) := by decide +kernel
theorem dX0_fillProject_0 : decode cX0_fillProject 0 = .ok (.aload_n 0, 1) := by decide +kernel
theorem dX0_fillProject_1 : decode cX0_fillProject 1 = .ok (.getfield 18, 3) := by decide +kernel
theorem dX0_fillProject_4 : decode cX0_fillProject 4 = .ok (.iload_n 2, 1) := by decide +kernel
theorem dX0_fillProject_5 : decode cX0_fillProject 5 = .ok (.invokevirtual 35, 3) := by decide +kernel
theorem dX0_fillProject_8 : decode cX0_fillProject 8 = .ok (.iconst 0, 1) := by decide +kernel
theorem dX0_fillProject_9 : decode cX0_fillProject 9 = .ok (.istore 4, 2) := by decide +kernel
theorem dX0_fillProject_11 : decode cX0_fillProject 11 = .ok (.iload 4, 2) := by decide +kernel
theorem dX0_fillProject_13 : decode cX0_fillProject 13 = .ok (.aload_n 1, 1) := by decide +kernel
theorem dX0_fillProject_14 : decode cX0_fillProject 14 = .ok (.invokevirtual 118, 3) := by decide +kernel
theorem dX0_fillProject_17 : decode cX0_fillProject 17 = .ok (.if_icmp .ge 79, 3) := by decide +kernel
theorem dX0_fillProject_20 : decode cX0_fillProject 20 = .ok (.iconst 0, 1) := by decide +kernel
theorem dX0_fillProject_21 : decode cX0_fillProject 21 = .ok (.istore 5, 2) := by decide +kernel
theorem dX0_fillProject_23 : decode cX0_fillProject 23 = .ok (.iconst 0, 1) := by decide +kernel
theorem dX0_fillProject_24 : decode cX0_fillProject 24 = .ok (.istore 6, 2) := by decide +kernel
theorem dX0_fillProject_26 : decode cX0_fillProject 26 = .ok (.iload 6, 2) := by decide +kernel
theorem dX0_fillProject_28 : decode cX0_fillProject 28 = .ok (.iload_n 2, 1) := by decide +kernel
theorem dX0_fillProject_29 : decode cX0_fillProject 29 = .ok (.if_icmp .ge 47, 3) := by decide +kernel
theorem dX0_fillProject_32 : decode cX0_fillProject 32 = .ok (.iload 6, 2) := by decide +kernel
theorem dX0_fillProject_34 : decode cX0_fillProject 34 = .ok (.iconst 4, 1) := by decide +kernel
theorem dX0_fillProject_35 : decode cX0_fillProject 35 = .ok (.if_icmp .ge 41, 3) := by decide +kernel
theorem dX0_fillProject_38 : decode cX0_fillProject 38 = .ok (.iload_n 3, 1) := by decide +kernel
theorem dX0_fillProject_39 : decode cX0_fillProject 39 = .ok (.iload_n 2, 1) := by decide +kernel
theorem dX0_fillProject_40 : decode cX0_fillProject 40 = .ok (.iload 6, 2) := by decide +kernel
theorem dX0_fillProject_42 : decode cX0_fillProject 42 = .ok (.invokestatic 122, 3) := by decide +kernel
theorem dX0_fillProject_45 : decode cX0_fillProject 45 = .ok (.istore 7, 2) := by decide +kernel
theorem dX0_fillProject_47 : decode cX0_fillProject 47 = .ok (.iload 5, 2) := by decide +kernel
theorem dX0_fillProject_49 : decode cX0_fillProject 49 = .ok (.aload_n 1, 1) := by decide +kernel
theorem dX0_fillProject_50 : decode cX0_fillProject 50 = .ok (.iload 4, 2) := by decide +kernel
theorem dX0_fillProject_52 : decode cX0_fillProject 52 = .ok (.invokevirtual 119, 3) := by decide +kernel
theorem dX0_fillProject_55 : decode cX0_fillProject 55 = .ok (.aload_n 1, 1) := by decide +kernel
theorem dX0_fillProject_56 : decode cX0_fillProject 56 = .ok (.invokevirtual 115, 3) := by decide +kernel
theorem dX0_fillProject_59 : decode cX0_fillProject 59 = .ok (.iload 7, 2) := by decide +kernel
theorem dX0_fillProject_61 : decode cX0_fillProject 61 = .ok (.invokestatic 122, 3) := by decide +kernel
theorem dX0_fillProject_64 : decode cX0_fillProject 64 = .ok (.iconst 1, 1) := by decide +kernel
theorem dX0_fillProject_65 : decode cX0_fillProject 65 = .ok (.invokestatic 132, 3) := by decide +kernel
theorem dX0_fillProject_68 : decode cX0_fillProject 68 = .ok (.istore 5, 2) := by decide +kernel
theorem dX0_fillProject_70 : decode cX0_fillProject 70 = .ok (.iinc 6 1, 3) := by decide +kernel
theorem dX0_fillProject_73 : decode cX0_fillProject 73 = .ok (.goto (-47), 3) := by decide +kernel
theorem dX0_fillProject_76 : decode cX0_fillProject 76 = .ok (.aload_n 0, 1) := by decide +kernel
theorem dX0_fillProject_77 : decode cX0_fillProject 77 = .ok (.iload 5, 2) := by decide +kernel
theorem dX0_fillProject_79 : decode cX0_fillProject 79 = .ok (.aload_n 1, 1) := by decide +kernel
theorem dX0_fillProject_80 : decode cX0_fillProject 80 = .ok (.iload 4, 2) := by decide +kernel
theorem dX0_fillProject_82 : decode cX0_fillProject 82 = .ok (.invokevirtual 128, 3) := by decide +kernel
theorem dX0_fillProject_85 : decode cX0_fillProject 85 = .ok (.ifCond .ne 5, 3) := by decide +kernel
theorem dX0_fillProject_88 : decode cX0_fillProject 88 = .ok (.iconst 0, 1) := by decide +kernel
theorem dX0_fillProject_89 : decode cX0_fillProject 89 = .ok (.ireturn, 1) := by decide +kernel
theorem dX0_fillProject_90 : decode cX0_fillProject 90 = .ok (.iinc 4 1, 3) := by decide +kernel
theorem dX0_fillProject_93 : decode cX0_fillProject 93 = .ok (.goto (-82), 3) := by decide +kernel
theorem dX0_fillProject_96 : decode cX0_fillProject 96 = .ok (.iconst 1, 1) := by decide +kernel
theorem dX0_fillProject_97 : decode cX0_fillProject 97 = .ok (.ireturn, 1) := by decide +kernel
theorem dX0_fillJoin_0 : decode cX0_fillJoin 0 = .ok (.aload_n 0, 1) := by decide +kernel
theorem dX0_fillJoin_1 : decode cX0_fillJoin 1 = .ok (.getfield 18, 3) := by decide +kernel
theorem dX0_fillJoin_4 : decode cX0_fillJoin 4 = .ok (.aload_n 1, 1) := by decide +kernel
theorem dX0_fillJoin_5 : decode cX0_fillJoin 5 = .ok (.invokevirtual 115, 3) := by decide +kernel
theorem dX0_fillJoin_8 : decode cX0_fillJoin 8 = .ok (.aload_n 2, 1) := by decide +kernel
theorem dX0_fillJoin_9 : decode cX0_fillJoin 9 = .ok (.invokevirtual 115, 3) := by decide +kernel
theorem dX0_fillJoin_12 : decode cX0_fillJoin 12 = .ok (.iadd, 1) := by decide +kernel
theorem dX0_fillJoin_13 : decode cX0_fillJoin 13 = .ok (.invokevirtual 35, 3) := by decide +kernel
theorem dX0_fillJoin_16 : decode cX0_fillJoin 16 = .ok (.iconst 0, 1) := by decide +kernel
theorem dX0_fillJoin_17 : decode cX0_fillJoin 17 = .ok (.istore 5, 2) := by decide +kernel
theorem dX0_fillJoin_19 : decode cX0_fillJoin 19 = .ok (.iload 5, 2) := by decide +kernel
theorem dX0_fillJoin_21 : decode cX0_fillJoin 21 = .ok (.aload_n 1, 1) := by decide +kernel
theorem dX0_fillJoin_22 : decode cX0_fillJoin 22 = .ok (.invokevirtual 118, 3) := by decide +kernel
theorem dX0_fillJoin_25 : decode cX0_fillJoin 25 = .ok (.if_icmp .ge 139, 3) := by decide +kernel
theorem dX0_fillJoin_28 : decode cX0_fillJoin 28 = .ok (.aload_n 1, 1) := by decide +kernel
theorem dX0_fillJoin_29 : decode cX0_fillJoin 29 = .ok (.iload 5, 2) := by decide +kernel
theorem dX0_fillJoin_31 : decode cX0_fillJoin 31 = .ok (.invokevirtual 119, 3) := by decide +kernel
theorem dX0_fillJoin_34 : decode cX0_fillJoin 34 = .ok (.aload_n 1, 1) := by decide +kernel
theorem dX0_fillJoin_35 : decode cX0_fillJoin 35 = .ok (.invokevirtual 115, 3) := by decide +kernel
theorem dX0_fillJoin_38 : decode cX0_fillJoin 38 = .ok (.iload_n 3, 1) := by decide +kernel
theorem dX0_fillJoin_39 : decode cX0_fillJoin 39 = .ok (.invokestatic 122, 3) := by decide +kernel
theorem dX0_fillJoin_42 : decode cX0_fillJoin 42 = .ok (.istore 6, 2) := by decide +kernel
theorem dX0_fillJoin_44 : decode cX0_fillJoin 44 = .ok (.iconst 0, 1) := by decide +kernel
theorem dX0_fillJoin_45 : decode cX0_fillJoin 45 = .ok (.istore 7, 2) := by decide +kernel
theorem dX0_fillJoin_47 : decode cX0_fillJoin 47 = .ok (.iload 7, 2) := by decide +kernel
theorem dX0_fillJoin_49 : decode cX0_fillJoin 49 = .ok (.aload_n 2, 1) := by decide +kernel
theorem dX0_fillJoin_50 : decode cX0_fillJoin 50 = .ok (.invokevirtual 118, 3) := by decide +kernel
theorem dX0_fillJoin_53 : decode cX0_fillJoin 53 = .ok (.if_icmp .ge 105, 3) := by decide +kernel
theorem dX0_fillJoin_56 : decode cX0_fillJoin 56 = .ok (.aload_n 2, 1) := by decide +kernel
theorem dX0_fillJoin_57 : decode cX0_fillJoin 57 = .ok (.iload 7, 2) := by decide +kernel
theorem dX0_fillJoin_59 : decode cX0_fillJoin 59 = .ok (.invokevirtual 119, 3) := by decide +kernel
theorem dX0_fillJoin_62 : decode cX0_fillJoin 62 = .ok (.aload_n 2, 1) := by decide +kernel
theorem dX0_fillJoin_63 : decode cX0_fillJoin 63 = .ok (.invokevirtual 115, 3) := by decide +kernel
theorem dX0_fillJoin_66 : decode cX0_fillJoin 66 = .ok (.iload 4, 2) := by decide +kernel
theorem dX0_fillJoin_68 : decode cX0_fillJoin 68 = .ok (.invokestatic 122, 3) := by decide +kernel
theorem dX0_fillJoin_71 : decode cX0_fillJoin 71 = .ok (.iload 6, 2) := by decide +kernel
theorem dX0_fillJoin_73 : decode cX0_fillJoin 73 = .ok (.if_icmp .eq 6, 3) := by decide +kernel
theorem dX0_fillJoin_76 : decode cX0_fillJoin 76 = .ok (.goto 76, 3) := by decide +kernel
theorem dX0_fillJoin_79 : decode cX0_fillJoin 79 = .ok (.aload_n 0, 1) := by decide +kernel
theorem dX0_fillJoin_80 : decode cX0_fillJoin 80 = .ok (.getfield 18, 3) := by decide +kernel
theorem dX0_fillJoin_83 : decode cX0_fillJoin 83 = .ok (.aload_n 1, 1) := by decide +kernel
theorem dX0_fillJoin_84 : decode cX0_fillJoin 84 = .ok (.iload 5, 2) := by decide +kernel
theorem dX0_fillJoin_86 : decode cX0_fillJoin 86 = .ok (.invokevirtual 119, 3) := by decide +kernel
theorem dX0_fillJoin_89 : decode cX0_fillJoin 89 = .ok (.aload_n 2, 1) := by decide +kernel
theorem dX0_fillJoin_90 : decode cX0_fillJoin 90 = .ok (.iload 7, 2) := by decide +kernel
theorem dX0_fillJoin_92 : decode cX0_fillJoin 92 = .ok (.invokevirtual 119, 3) := by decide +kernel
theorem dX0_fillJoin_95 : decode cX0_fillJoin 95 = .ok (.aload_n 2, 1) := by decide +kernel
theorem dX0_fillJoin_96 : decode cX0_fillJoin 96 = .ok (.invokevirtual 115, 3) := by decide +kernel
theorem dX0_fillJoin_99 : decode cX0_fillJoin 99 = .ok (.invokestatic 132, 3) := by decide +kernel
theorem dX0_fillJoin_102 : decode cX0_fillJoin 102 = .ok (.invokevirtual 99, 3) := by decide +kernel
theorem dX0_fillJoin_105 : decode cX0_fillJoin 105 = .ok (.astore 8, 2) := by decide +kernel
theorem dX0_fillJoin_107 : decode cX0_fillJoin 107 = .ok (.aload_n 1, 1) := by decide +kernel
theorem dX0_fillJoin_108 : decode cX0_fillJoin 108 = .ok (.iload 5, 2) := by decide +kernel
theorem dX0_fillJoin_110 : decode cX0_fillJoin 110 = .ok (.invokevirtual 135, 3) := by decide +kernel
theorem dX0_fillJoin_113 : decode cX0_fillJoin 113 = .ok (.astore 9, 2) := by decide +kernel
theorem dX0_fillJoin_115 : decode cX0_fillJoin 115 = .ok (.aload_n 2, 1) := by decide +kernel
theorem dX0_fillJoin_116 : decode cX0_fillJoin 116 = .ok (.iload 7, 2) := by decide +kernel
theorem dX0_fillJoin_118 : decode cX0_fillJoin 118 = .ok (.invokevirtual 135, 3) := by decide +kernel
theorem dX0_fillJoin_121 : decode cX0_fillJoin 121 = .ok (.astore 10, 2) := by decide +kernel
theorem dX0_fillJoin_123 : decode cX0_fillJoin 123 = .ok (.aload 8, 2) := by decide +kernel
theorem dX0_fillJoin_125 : decode cX0_fillJoin 125 = .ok (.ifnull 25, 3) := by decide +kernel
theorem dX0_fillJoin_128 : decode cX0_fillJoin 128 = .ok (.aload 9, 2) := by decide +kernel
theorem dX0_fillJoin_130 : decode cX0_fillJoin 130 = .ok (.ifnull 20, 3) := by decide +kernel
theorem dX0_fillJoin_133 : decode cX0_fillJoin 133 = .ok (.aload 10, 2) := by decide +kernel
theorem dX0_fillJoin_135 : decode cX0_fillJoin 135 = .ok (.ifnull 15, 3) := by decide +kernel
theorem dX0_fillJoin_138 : decode cX0_fillJoin 138 = .ok (.aload 8, 2) := by decide +kernel
theorem dX0_fillJoin_140 : decode cX0_fillJoin 140 = .ok (.aload 9, 2) := by decide +kernel
theorem dX0_fillJoin_142 : decode cX0_fillJoin 142 = .ok (.aload 10, 2) := by decide +kernel
theorem dX0_fillJoin_144 : decode cX0_fillJoin 144 = .ok (.invokevirtual 138, 3) := by decide +kernel
theorem dX0_fillJoin_147 : decode cX0_fillJoin 147 = .ok (.ifCond .ne 5, 3) := by decide +kernel
theorem dX0_fillJoin_150 : decode cX0_fillJoin 150 = .ok (.iconst 0, 1) := by decide +kernel
theorem dX0_fillJoin_151 : decode cX0_fillJoin 151 = .ok (.ireturn, 1) := by decide +kernel
theorem dX0_fillJoin_152 : decode cX0_fillJoin 152 = .ok (.iinc 7 1, 3) := by decide +kernel
theorem dX0_fillJoin_155 : decode cX0_fillJoin 155 = .ok (.goto (-108), 3) := by decide +kernel
theorem dX0_fillJoin_158 : decode cX0_fillJoin 158 = .ok (.iinc 5 1, 3) := by decide +kernel
theorem dX0_fillJoin_161 : decode cX0_fillJoin 161 = .ok (.goto (-142), 3) := by decide +kernel
theorem dX0_fillJoin_164 : decode cX0_fillJoin 164 = .ok (.iconst 1, 1) := by decide +kernel
theorem dX0_fillJoin_165 : decode cX0_fillJoin 165 = .ok (.ireturn, 1) := by decide +kernel
theorem dX0_fillUnion_0 : decode cX0_fillUnion 0 = .ok (.aload_n 0, 1) := by decide +kernel
theorem dX0_fillUnion_1 : decode cX0_fillUnion 1 = .ok (.getfield 18, 3) := by decide +kernel
theorem dX0_fillUnion_4 : decode cX0_fillUnion 4 = .ok (.aload_n 1, 1) := by decide +kernel
theorem dX0_fillUnion_5 : decode cX0_fillUnion 5 = .ok (.invokevirtual 115, 3) := by decide +kernel
theorem dX0_fillUnion_8 : decode cX0_fillUnion 8 = .ok (.invokevirtual 35, 3) := by decide +kernel
theorem dX0_fillUnion_11 : decode cX0_fillUnion 11 = .ok (.iconst 0, 1) := by decide +kernel
theorem dX0_fillUnion_12 : decode cX0_fillUnion 12 = .ok (.istore_n 3, 1) := by decide +kernel
theorem dX0_fillUnion_13 : decode cX0_fillUnion 13 = .ok (.iload_n 3, 1) := by decide +kernel
theorem dX0_fillUnion_14 : decode cX0_fillUnion 14 = .ok (.aload_n 1, 1) := by decide +kernel
theorem dX0_fillUnion_15 : decode cX0_fillUnion 15 = .ok (.invokevirtual 118, 3) := by decide +kernel
theorem dX0_fillUnion_18 : decode cX0_fillUnion 18 = .ok (.if_icmp .ge 25, 3) := by decide +kernel
theorem dX0_fillUnion_21 : decode cX0_fillUnion 21 = .ok (.aload_n 0, 1) := by decide +kernel
theorem dX0_fillUnion_22 : decode cX0_fillUnion 22 = .ok (.aload_n 1, 1) := by decide +kernel
theorem dX0_fillUnion_23 : decode cX0_fillUnion 23 = .ok (.iload_n 3, 1) := by decide +kernel
theorem dX0_fillUnion_24 : decode cX0_fillUnion 24 = .ok (.invokevirtual 119, 3) := by decide +kernel
theorem dX0_fillUnion_27 : decode cX0_fillUnion 27 = .ok (.aload_n 1, 1) := by decide +kernel
theorem dX0_fillUnion_28 : decode cX0_fillUnion 28 = .ok (.iload_n 3, 1) := by decide +kernel
theorem dX0_fillUnion_29 : decode cX0_fillUnion 29 = .ok (.invokevirtual 128, 3) := by decide +kernel
theorem dX0_fillUnion_32 : decode cX0_fillUnion 32 = .ok (.ifCond .ne 5, 3) := by decide +kernel
theorem dX0_fillUnion_35 : decode cX0_fillUnion 35 = .ok (.iconst 0, 1) := by decide +kernel
theorem dX0_fillUnion_36 : decode cX0_fillUnion 36 = .ok (.ireturn, 1) := by decide +kernel
theorem dX0_fillUnion_37 : decode cX0_fillUnion 37 = .ok (.iinc 3 1, 3) := by decide +kernel
theorem dX0_fillUnion_40 : decode cX0_fillUnion 40 = .ok (.goto (-27), 3) := by decide +kernel
theorem dX0_fillUnion_43 : decode cX0_fillUnion 43 = .ok (.iconst 0, 1) := by decide +kernel
theorem dX0_fillUnion_44 : decode cX0_fillUnion 44 = .ok (.istore_n 3, 1) := by decide +kernel
theorem dX0_fillUnion_45 : decode cX0_fillUnion 45 = .ok (.iload_n 3, 1) := by decide +kernel
theorem dX0_fillUnion_46 : decode cX0_fillUnion 46 = .ok (.aload_n 2, 1) := by decide +kernel
theorem dX0_fillUnion_47 : decode cX0_fillUnion 47 = .ok (.invokevirtual 118, 3) := by decide +kernel
theorem dX0_fillUnion_50 : decode cX0_fillUnion 50 = .ok (.if_icmp .ge 25, 3) := by decide +kernel
theorem dX0_fillUnion_53 : decode cX0_fillUnion 53 = .ok (.aload_n 0, 1) := by decide +kernel
theorem dX0_fillUnion_54 : decode cX0_fillUnion 54 = .ok (.aload_n 2, 1) := by decide +kernel
theorem dX0_fillUnion_55 : decode cX0_fillUnion 55 = .ok (.iload_n 3, 1) := by decide +kernel
theorem dX0_fillUnion_56 : decode cX0_fillUnion 56 = .ok (.invokevirtual 119, 3) := by decide +kernel
theorem dX0_fillUnion_59 : decode cX0_fillUnion 59 = .ok (.aload_n 2, 1) := by decide +kernel
theorem dX0_fillUnion_60 : decode cX0_fillUnion 60 = .ok (.iload_n 3, 1) := by decide +kernel
theorem dX0_fillUnion_61 : decode cX0_fillUnion 61 = .ok (.invokevirtual 128, 3) := by decide +kernel
theorem dX0_fillUnion_64 : decode cX0_fillUnion 64 = .ok (.ifCond .ne 5, 3) := by decide +kernel
theorem dX0_fillUnion_67 : decode cX0_fillUnion 67 = .ok (.iconst 0, 1) := by decide +kernel
theorem dX0_fillUnion_68 : decode cX0_fillUnion 68 = .ok (.ireturn, 1) := by decide +kernel
theorem dX0_fillUnion_69 : decode cX0_fillUnion 69 = .ok (.iinc 3 1, 3) := by decide +kernel
theorem dX0_fillUnion_72 : decode cX0_fillUnion 72 = .ok (.goto (-27), 3) := by decide +kernel
theorem dX0_fillUnion_75 : decode cX0_fillUnion 75 = .ok (.iconst 1, 1) := by decide +kernel
theorem dX0_fillUnion_76 : decode cX0_fillUnion 76 = .ok (.ireturn, 1) := by decide +kernel
theorem dX0_addToSpare_0 : decode cX0_addToSpare 0 = .ok (.aload_n 0, 1) := by decide +kernel
theorem dX0_addToSpare_1 : decode cX0_addToSpare 1 = .ok (.getfield 18, 3) := by decide +kernel
theorem dX0_addToSpare_4 : decode cX0_addToSpare 4 = .ok (.iload_n 1, 1) := by decide +kernel
theorem dX0_addToSpare_5 : decode cX0_addToSpare 5 = .ok (.invokevirtual 99, 3) := by decide +kernel
theorem dX0_addToSpare_8 : decode cX0_addToSpare 8 = .ok (.astore 4, 2) := by decide +kernel
theorem dX0_addToSpare_10 : decode cX0_addToSpare 10 = .ok (.aload_n 2, 1) := by decide +kernel
theorem dX0_addToSpare_11 : decode cX0_addToSpare 11 = .ok (.iload_n 3, 1) := by decide +kernel
theorem dX0_addToSpare_12 : decode cX0_addToSpare 12 = .ok (.invokevirtual 135, 3) := by decide +kernel
theorem dX0_addToSpare_15 : decode cX0_addToSpare 15 = .ok (.astore 5, 2) := by decide +kernel
theorem dX0_addToSpare_17 : decode cX0_addToSpare 17 = .ok (.aload 4, 2) := by decide +kernel
theorem dX0_addToSpare_19 : decode cX0_addToSpare 19 = .ok (.ifnull 22, 3) := by decide +kernel
theorem dX0_addToSpare_22 : decode cX0_addToSpare 22 = .ok (.aload 5, 2) := by decide +kernel
theorem dX0_addToSpare_24 : decode cX0_addToSpare 24 = .ok (.ifnull 17, 3) := by decide +kernel
theorem dX0_addToSpare_27 : decode cX0_addToSpare 27 = .ok (.aload 4, 2) := by decide +kernel
theorem dX0_addToSpare_29 : decode cX0_addToSpare 29 = .ok (.aload 5, 2) := by decide +kernel
theorem dX0_addToSpare_31 : decode cX0_addToSpare 31 = .ok (.invokevirtual 142, 3) := by decide +kernel
theorem dX0_addToSpare_34 : decode cX0_addToSpare 34 = .ok (.ifCond .eq 7, 3) := by decide +kernel
theorem dX0_addToSpare_37 : decode cX0_addToSpare 37 = .ok (.iconst 1, 1) := by decide +kernel
theorem dX0_addToSpare_38 : decode cX0_addToSpare 38 = .ok (.goto 4, 3) := by decide +kernel
theorem dX0_addToSpare_41 : decode cX0_addToSpare 41 = .ok (.iconst 0, 1) := by decide +kernel
theorem dX0_addToSpare_42 : decode cX0_addToSpare 42 = .ok (.ireturn, 1) := by decide +kernel
theorem dX0_waiting_0 : decode cX0_waiting 0 = .ok (.aload_n 0, 1) := by decide +kernel
theorem dX0_waiting_1 : decode cX0_waiting 1 = .ok (.getfield 25, 3) := by decide +kernel
theorem dX0_waiting_4 : decode cX0_waiting 4 = .ok (.iload_n 1, 1) := by decide +kernel
theorem dX0_waiting_5 : decode cX0_waiting 5 = .ok (.isub, 1) := by decide +kernel
theorem dX0_waiting_6 : decode cX0_waiting 6 = .ok (.istore_n 2, 1) := by decide +kernel
theorem dX0_waiting_7 : decode cX0_waiting 7 = .ok (.iload_n 2, 1) := by decide +kernel
theorem dX0_waiting_8 : decode cX0_waiting 8 = .ok (.ifCond .lt 18, 3) := by decide +kernel
theorem dX0_waiting_11 : decode cX0_waiting 11 = .ok (.iload_n 2, 1) := by decide +kernel
theorem dX0_waiting_12 : decode cX0_waiting 12 = .ok (.bipush 12, 2) := by decide +kernel
theorem dX0_waiting_14 : decode cX0_waiting 14 = .ok (.if_icmp .ge 12, 3) := by decide +kernel
theorem dX0_waiting_17 : decode cX0_waiting 17 = .ok (.aload_n 0, 1) := by decide +kernel
theorem dX0_waiting_18 : decode cX0_waiting 18 = .ok (.getfield 13, 3) := by decide +kernel
theorem dX0_waiting_21 : decode cX0_waiting 21 = .ok (.iload_n 2, 1) := by decide +kernel
theorem dX0_waiting_22 : decode cX0_waiting 22 = .ok (.aaload, 1) := by decide +kernel
theorem dX0_waiting_23 : decode cX0_waiting 23 = .ok (.goto 4, 3) := by decide +kernel
theorem dX0_waiting_26 : decode cX0_waiting 26 = .ok (.aconst_null, 1) := by decide +kernel
theorem dX0_waiting_27 : decode cX0_waiting 27 = .ok (.areturn, 1) := by decide +kernel
theorem dX0_pushSpare_0 : decode cX0_pushSpare 0 = .ok (.aload_n 0, 1) := by decide +kernel
theorem dX0_pushSpare_1 : decode cX0_pushSpare 1 = .ok (.getfield 25, 3) := by decide +kernel
theorem dX0_pushSpare_4 : decode cX0_pushSpare 4 = .ok (.iload_n 1, 1) := by decide +kernel
theorem dX0_pushSpare_5 : decode cX0_pushSpare 5 = .ok (.isub, 1) := by decide +kernel
theorem dX0_pushSpare_6 : decode cX0_pushSpare 6 = .ok (.istore_n 2, 1) := by decide +kernel
theorem dX0_pushSpare_7 : decode cX0_pushSpare 7 = .ok (.iload_n 2, 1) := by decide +kernel
theorem dX0_pushSpare_8 : decode cX0_pushSpare 8 = .ok (.ifCond .lt 9, 3) := by decide +kernel
theorem dX0_pushSpare_11 : decode cX0_pushSpare 11 = .ok (.iload_n 2, 1) := by decide +kernel
theorem dX0_pushSpare_12 : decode cX0_pushSpare 12 = .ok (.bipush 12, 2) := by decide +kernel
theorem dX0_pushSpare_14 : decode cX0_pushSpare 14 = .ok (.if_icmp .lt 5, 3) := by decide +kernel
theorem dX0_pushSpare_17 : decode cX0_pushSpare 17 = .ok (.iconst 0, 1) := by decide +kernel
theorem dX0_pushSpare_18 : decode cX0_pushSpare 18 = .ok (.ireturn, 1) := by decide +kernel
theorem dX0_pushSpare_19 : decode cX0_pushSpare 19 = .ok (.aload_n 0, 1) := by decide +kernel
theorem dX0_pushSpare_20 : decode cX0_pushSpare 20 = .ok (.getfield 13, 3) := by decide +kernel
theorem dX0_pushSpare_23 : decode cX0_pushSpare 23 = .ok (.iload_n 2, 1) := by decide +kernel
theorem dX0_pushSpare_24 : decode cX0_pushSpare 24 = .ok (.aaload, 1) := by decide +kernel
theorem dX0_pushSpare_25 : decode cX0_pushSpare 25 = .ok (.astore_n 3, 1) := by decide +kernel
theorem dX0_pushSpare_26 : decode cX0_pushSpare 26 = .ok (.aload_n 3, 1) := by decide +kernel
theorem dX0_pushSpare_27 : decode cX0_pushSpare 27 = .ok (.ifnonnull 5, 3) := by decide +kernel
theorem dX0_pushSpare_30 : decode cX0_pushSpare 30 = .ok (.iconst 0, 1) := by decide +kernel
theorem dX0_pushSpare_31 : decode cX0_pushSpare 31 = .ok (.ireturn, 1) := by decide +kernel
theorem dX0_pushSpare_32 : decode cX0_pushSpare 32 = .ok (.aload_n 0, 1) := by decide +kernel
theorem dX0_pushSpare_33 : decode cX0_pushSpare 33 = .ok (.getfield 13, 3) := by decide +kernel
theorem dX0_pushSpare_36 : decode cX0_pushSpare 36 = .ok (.iload_n 2, 1) := by decide +kernel
theorem dX0_pushSpare_37 : decode cX0_pushSpare 37 = .ok (.aload_n 0, 1) := by decide +kernel
theorem dX0_pushSpare_38 : decode cX0_pushSpare 38 = .ok (.getfield 18, 3) := by decide +kernel
theorem dX0_pushSpare_41 : decode cX0_pushSpare 41 = .ok (.aastore, 1) := by decide +kernel
theorem dX0_pushSpare_42 : decode cX0_pushSpare 42 = .ok (.aload_n 0, 1) := by decide +kernel
theorem dX0_pushSpare_43 : decode cX0_pushSpare 43 = .ok (.aload_n 3, 1) := by decide +kernel
theorem dX0_pushSpare_44 : decode cX0_pushSpare 44 = .ok (.putfield 18, 3) := by decide +kernel
theorem dX0_pushSpare_47 : decode cX0_pushSpare 47 = .ok (.aload_n 0, 1) := by decide +kernel
theorem dX0_pushSpare_48 : decode cX0_pushSpare 48 = .ok (.iload_n 2, 1) := by decide +kernel
theorem dX0_pushSpare_49 : decode cX0_pushSpare 49 = .ok (.iconst 1, 1) := by decide +kernel
theorem dX0_pushSpare_50 : decode cX0_pushSpare 50 = .ok (.iadd, 1) := by decide +kernel
theorem dX0_pushSpare_51 : decode cX0_pushSpare 51 = .ok (.putfield 25, 3) := by decide +kernel
theorem dX0_pushSpare_54 : decode cX0_pushSpare 54 = .ok (.iconst 1, 1) := by decide +kernel
theorem dX0_pushSpare_55 : decode cX0_pushSpare 55 = .ok (.ireturn, 1) := by decide +kernel
theorem dX1_init_0 : decode cX1_init 0 = .ok (.aload_n 0, 1) := by decide +kernel
theorem dX1_init_1 : decode cX1_init 1 = .ok (.invokespecial 3, 3) := by decide +kernel
theorem dX1_init_4 : decode cX1_init 4 = .ok (.aload_n 0, 1) := by decide +kernel
theorem dX1_init_5 : decode cX1_init 5 = .ok (.iconst 4, 1) := by decide +kernel
theorem dX1_init_6 : decode cX1_init 6 = .ok (.anewarray 9, 3) := by decide +kernel
theorem dX1_init_9 : decode cX1_init 9 = .ok (.putfield 11, 3) := by decide +kernel
theorem dX1_init_12 : decode cX1_init 12 = .ok (.iconst 0, 1) := by decide +kernel
theorem dX1_init_13 : decode cX1_init 13 = .ok (.istore_n 1, 1) := by decide +kernel
theorem dX1_init_14 : decode cX1_init 14 = .ok (.iload_n 1, 1) := by decide +kernel
theorem dX1_init_15 : decode cX1_init 15 = .ok (.iconst 4, 1) := by decide +kernel
theorem dX1_init_16 : decode cX1_init 16 = .ok (.if_icmp .ge 22, 3) := by decide +kernel
theorem dX1_init_19 : decode cX1_init 19 = .ok (.aload_n 0, 1) := by decide +kernel
theorem dX1_init_20 : decode cX1_init 20 = .ok (.getfield 11, 3) := by decide +kernel
theorem dX1_init_23 : decode cX1_init 23 = .ok (.iload_n 1, 1) := by decide +kernel
theorem dX1_init_24 : decode cX1_init 24 = .ok (.new 9, 3) := by decide +kernel
theorem dX1_init_27 : decode cX1_init 27 = .ok (.dup, 1) := by decide +kernel
theorem dX1_init_28 : decode cX1_init 28 = .ok (.invokespecial 17, 3) := by decide +kernel
theorem dX1_init_31 : decode cX1_init 31 = .ok (.aastore, 1) := by decide +kernel
theorem dX1_init_32 : decode cX1_init 32 = .ok (.iinc 1 1, 3) := by decide +kernel
theorem dX1_init_35 : decode cX1_init 35 = .ok (.goto (-21), 3) := by decide +kernel
theorem dX1_init_38 : decode cX1_init 38 = .ok (.return_, 1) := by decide +kernel
theorem dX1_size_0 : decode cX1_size 0 = .ok (.aload_n 0, 1) := by decide +kernel
theorem dX1_size_1 : decode cX1_size 1 = .ok (.getfield 18, 3) := by decide +kernel
theorem dX1_size_4 : decode cX1_size 4 = .ok (.ireturn, 1) := by decide +kernel
theorem dX1_record_0 : decode cX1_record 0 = .ok (.aload_n 0, 1) := by decide +kernel
theorem dX1_record_1 : decode cX1_record 1 = .ok (.getfield 18, 3) := by decide +kernel
theorem dX1_record_4 : decode cX1_record 4 = .ok (.iconst 4, 1) := by decide +kernel
theorem dX1_record_5 : decode cX1_record 5 = .ok (.if_icmp .lt 12, 3) := by decide +kernel
theorem dX1_record_8 : decode cX1_record 8 = .ok (.aload_n 0, 1) := by decide +kernel
theorem dX1_record_9 : decode cX1_record 9 = .ok (.invokevirtual 22, 3) := by decide +kernel
theorem dX1_record_12 : decode cX1_record 12 = .ok (.aload_n 0, 1) := by decide +kernel
theorem dX1_record_13 : decode cX1_record 13 = .ok (.iconst 3, 1) := by decide +kernel
theorem dX1_record_14 : decode cX1_record 14 = .ok (.putfield 18, 3) := by decide +kernel
theorem dX1_record_17 : decode cX1_record 17 = .ok (.aload_n 0, 1) := by decide +kernel
theorem dX1_record_18 : decode cX1_record 18 = .ok (.getfield 18, 3) := by decide +kernel
theorem dX1_record_21 : decode cX1_record 21 = .ok (.ifCond .lt 15, 3) := by decide +kernel
theorem dX1_record_24 : decode cX1_record 24 = .ok (.aload_n 0, 1) := by decide +kernel
theorem dX1_record_25 : decode cX1_record 25 = .ok (.getfield 11, 3) := by decide +kernel
theorem dX1_record_28 : decode cX1_record 28 = .ok (.aload_n 0, 1) := by decide +kernel
theorem dX1_record_29 : decode cX1_record 29 = .ok (.getfield 18, 3) := by decide +kernel
theorem dX1_record_32 : decode cX1_record 32 = .ok (.aaload, 1) := by decide +kernel
theorem dX1_record_33 : decode cX1_record 33 = .ok (.goto 4, 3) := by decide +kernel
theorem dX1_record_36 : decode cX1_record 36 = .ok (.aconst_null, 1) := by decide +kernel
theorem dX1_record_37 : decode cX1_record 37 = .ok (.astore_n 2, 1) := by decide +kernel
theorem dX1_record_38 : decode cX1_record 38 = .ok (.aload_n 2, 1) := by decide +kernel
theorem dX1_record_39 : decode cX1_record 39 = .ok (.ifnull 18, 3) := by decide +kernel
theorem dX1_record_42 : decode cX1_record 42 = .ok (.aload_n 2, 1) := by decide +kernel
theorem dX1_record_43 : decode cX1_record 43 = .ok (.aload_n 1, 1) := by decide +kernel
theorem dX1_record_44 : decode cX1_record 44 = .ok (.invokevirtual 25, 3) := by decide +kernel
theorem dX1_record_47 : decode cX1_record 47 = .ok (.aload_n 0, 1) := by decide +kernel
theorem dX1_record_48 : decode cX1_record 48 = .ok (.dup, 1) := by decide +kernel
theorem dX1_record_49 : decode cX1_record 49 = .ok (.getfield 18, 3) := by decide +kernel
theorem dX1_record_52 : decode cX1_record 52 = .ok (.iconst 1, 1) := by decide +kernel
theorem dX1_record_53 : decode cX1_record 53 = .ok (.iadd, 1) := by decide +kernel
theorem dX1_record_54 : decode cX1_record 54 = .ok (.putfield 18, 3) := by decide +kernel
theorem dX1_record_57 : decode cX1_record 57 = .ok (.return_, 1) := by decide +kernel
theorem dX1_takeLatest_0 : decode cX1_takeLatest 0 = .ok (.aload_n 0, 1) := by decide +kernel
theorem dX1_takeLatest_1 : decode cX1_takeLatest 1 = .ok (.getfield 18, 3) := by decide +kernel
theorem dX1_takeLatest_4 : decode cX1_takeLatest 4 = .ok (.ifCond .le 11, 3) := by decide +kernel
theorem dX1_takeLatest_7 : decode cX1_takeLatest 7 = .ok (.aload_n 0, 1) := by decide +kernel
theorem dX1_takeLatest_8 : decode cX1_takeLatest 8 = .ok (.getfield 18, 3) := by decide +kernel
theorem dX1_takeLatest_11 : decode cX1_takeLatest 11 = .ok (.iconst 4, 1) := by decide +kernel
theorem dX1_takeLatest_12 : decode cX1_takeLatest 12 = .ok (.if_icmp .le 5, 3) := by decide +kernel
theorem dX1_takeLatest_15 : decode cX1_takeLatest 15 = .ok (.aconst_null, 1) := by decide +kernel
theorem dX1_takeLatest_16 : decode cX1_takeLatest 16 = .ok (.areturn, 1) := by decide +kernel
theorem dX1_takeLatest_17 : decode cX1_takeLatest 17 = .ok (.aload_n 0, 1) := by decide +kernel
theorem dX1_takeLatest_18 : decode cX1_takeLatest 18 = .ok (.dup, 1) := by decide +kernel
theorem dX1_takeLatest_19 : decode cX1_takeLatest 19 = .ok (.getfield 18, 3) := by decide +kernel
theorem dX1_takeLatest_22 : decode cX1_takeLatest 22 = .ok (.iconst 1, 1) := by decide +kernel
theorem dX1_takeLatest_23 : decode cX1_takeLatest 23 = .ok (.isub, 1) := by decide +kernel
theorem dX1_takeLatest_24 : decode cX1_takeLatest 24 = .ok (.putfield 18, 3) := by decide +kernel
theorem dX1_takeLatest_27 : decode cX1_takeLatest 27 = .ok (.aload_n 0, 1) := by decide +kernel
theorem dX1_takeLatest_28 : decode cX1_takeLatest 28 = .ok (.getfield 11, 3) := by decide +kernel
theorem dX1_takeLatest_31 : decode cX1_takeLatest 31 = .ok (.aload_n 0, 1) := by decide +kernel
theorem dX1_takeLatest_32 : decode cX1_takeLatest 32 = .ok (.getfield 18, 3) := by decide +kernel
theorem dX1_takeLatest_35 : decode cX1_takeLatest 35 = .ok (.aaload, 1) := by decide +kernel
theorem dX1_takeLatest_36 : decode cX1_takeLatest 36 = .ok (.areturn, 1) := by decide +kernel
theorem dX1_moveOldestToEnd_0 : decode cX1_moveOldestToEnd 0 = .ok (.aload_n 0, 1) := by decide +kernel
theorem dX1_moveOldestToEnd_1 : decode cX1_moveOldestToEnd 1 = .ok (.getfield 11, 3) := by decide +kernel
theorem dX1_moveOldestToEnd_4 : decode cX1_moveOldestToEnd 4 = .ok (.iconst 0, 1) := by decide +kernel
theorem dX1_moveOldestToEnd_5 : decode cX1_moveOldestToEnd 5 = .ok (.aaload, 1) := by decide +kernel
theorem dX1_moveOldestToEnd_6 : decode cX1_moveOldestToEnd 6 = .ok (.astore_n 1, 1) := by decide +kernel
theorem dX1_moveOldestToEnd_7 : decode cX1_moveOldestToEnd 7 = .ok (.iconst 1, 1) := by decide +kernel
theorem dX1_moveOldestToEnd_8 : decode cX1_moveOldestToEnd 8 = .ok (.istore_n 2, 1) := by decide +kernel
theorem dX1_moveOldestToEnd_9 : decode cX1_moveOldestToEnd 9 = .ok (.iload_n 2, 1) := by decide +kernel
theorem dX1_moveOldestToEnd_10 : decode cX1_moveOldestToEnd 10 = .ok (.iconst 4, 1) := by decide +kernel
theorem dX1_moveOldestToEnd_11 : decode cX1_moveOldestToEnd 11 = .ok (.if_icmp .ge 23, 3) := by decide +kernel
theorem dX1_moveOldestToEnd_14 : decode cX1_moveOldestToEnd 14 = .ok (.aload_n 0, 1) := by decide +kernel
theorem dX1_moveOldestToEnd_15 : decode cX1_moveOldestToEnd 15 = .ok (.getfield 11, 3) := by decide +kernel
theorem dX1_moveOldestToEnd_18 : decode cX1_moveOldestToEnd 18 = .ok (.iload_n 2, 1) := by decide +kernel
theorem dX1_moveOldestToEnd_19 : decode cX1_moveOldestToEnd 19 = .ok (.iconst 1, 1) := by decide +kernel
theorem dX1_moveOldestToEnd_20 : decode cX1_moveOldestToEnd 20 = .ok (.isub, 1) := by decide +kernel
theorem dX1_moveOldestToEnd_21 : decode cX1_moveOldestToEnd 21 = .ok (.aload_n 0, 1) := by decide +kernel
theorem dX1_moveOldestToEnd_22 : decode cX1_moveOldestToEnd 22 = .ok (.getfield 11, 3) := by decide +kernel
theorem dX1_moveOldestToEnd_25 : decode cX1_moveOldestToEnd 25 = .ok (.iload_n 2, 1) := by decide +kernel
theorem dX1_moveOldestToEnd_26 : decode cX1_moveOldestToEnd 26 = .ok (.aaload, 1) := by decide +kernel
theorem dX1_moveOldestToEnd_27 : decode cX1_moveOldestToEnd 27 = .ok (.aastore, 1) := by decide +kernel
theorem dX1_moveOldestToEnd_28 : decode cX1_moveOldestToEnd 28 = .ok (.iinc 2 1, 3) := by decide +kernel
theorem dX1_moveOldestToEnd_31 : decode cX1_moveOldestToEnd 31 = .ok (.goto (-22), 3) := by decide +kernel
theorem dX1_moveOldestToEnd_34 : decode cX1_moveOldestToEnd 34 = .ok (.aload_n 0, 1) := by decide +kernel
theorem dX1_moveOldestToEnd_35 : decode cX1_moveOldestToEnd 35 = .ok (.getfield 11, 3) := by decide +kernel
theorem dX1_moveOldestToEnd_38 : decode cX1_moveOldestToEnd 38 = .ok (.iconst 3, 1) := by decide +kernel
theorem dX1_moveOldestToEnd_39 : decode cX1_moveOldestToEnd 39 = .ok (.aload_n 1, 1) := by decide +kernel
theorem dX1_moveOldestToEnd_40 : decode cX1_moveOldestToEnd 40 = .ok (.aastore, 1) := by decide +kernel
theorem dX1_moveOldestToEnd_41 : decode cX1_moveOldestToEnd 41 = .ok (.return_, 1) := by decide +kernel
theorem dX2_hasMoreDigits_0 : decode cX2_hasMoreDigits 0 = .ok (.iload_n 0, 1) := by decide +kernel
theorem dX2_hasMoreDigits_1 : decode cX2_hasMoreDigits 1 = .ok (.istore_n 2, 1) := by decide +kernel
theorem dX2_hasMoreDigits_2 : decode cX2_hasMoreDigits 2 = .ok (.iconst 0, 1) := by decide +kernel
theorem dX2_hasMoreDigits_3 : decode cX2_hasMoreDigits 3 = .ok (.istore_n 3, 1) := by decide +kernel
theorem dX2_hasMoreDigits_4 : decode cX2_hasMoreDigits 4 = .ok (.iload_n 3, 1) := by decide +kernel
theorem dX2_hasMoreDigits_5 : decode cX2_hasMoreDigits 5 = .ok (.iload_n 1, 1) := by decide +kernel
theorem dX2_hasMoreDigits_6 : decode cX2_hasMoreDigits 6 = .ok (.if_icmp .ge 14, 3) := by decide +kernel
theorem dX2_hasMoreDigits_9 : decode cX2_hasMoreDigits 9 = .ok (.iload_n 2, 1) := by decide +kernel
theorem dX2_hasMoreDigits_10 : decode cX2_hasMoreDigits 10 = .ok (.bipush 10, 2) := by decide +kernel
theorem dX2_hasMoreDigits_12 : decode cX2_hasMoreDigits 12 = .ok (.idiv, 1) := by decide +kernel
theorem dX2_hasMoreDigits_13 : decode cX2_hasMoreDigits 13 = .ok (.istore_n 2, 1) := by decide +kernel
theorem dX2_hasMoreDigits_14 : decode cX2_hasMoreDigits 14 = .ok (.iinc 3 1, 3) := by decide +kernel
theorem dX2_hasMoreDigits_17 : decode cX2_hasMoreDigits 17 = .ok (.goto (-13), 3) := by decide +kernel
theorem dX2_hasMoreDigits_20 : decode cX2_hasMoreDigits 20 = .ok (.iload_n 2, 1) := by decide +kernel
theorem dX2_hasMoreDigits_21 : decode cX2_hasMoreDigits 21 = .ok (.ifCond .le 7, 3) := by decide +kernel
theorem dX2_hasMoreDigits_24 : decode cX2_hasMoreDigits 24 = .ok (.iconst 1, 1) := by decide +kernel
theorem dX2_hasMoreDigits_25 : decode cX2_hasMoreDigits 25 = .ok (.goto 4, 3) := by decide +kernel
theorem dX2_hasMoreDigits_28 : decode cX2_hasMoreDigits 28 = .ok (.iconst 0, 1) := by decide +kernel
theorem dX2_hasMoreDigits_29 : decode cX2_hasMoreDigits 29 = .ok (.ireturn, 1) := by decide +kernel
theorem dX2_ofDecimal_0 : decode cX2_ofDecimal 0 = .ok (.iconst 0, 1) := by decide +kernel
theorem dX2_ofDecimal_1 : decode cX2_ofDecimal 1 = .ok (.istore_n 2, 1) := by decide +kernel
theorem dX2_ofDecimal_2 : decode cX2_ofDecimal 2 = .ok (.iload_n 0, 1) := by decide +kernel
theorem dX2_ofDecimal_3 : decode cX2_ofDecimal 3 = .ok (.istore_n 3, 1) := by decide +kernel
theorem dX2_ofDecimal_4 : decode cX2_ofDecimal 4 = .ok (.iconst 0, 1) := by decide +kernel
theorem dX2_ofDecimal_5 : decode cX2_ofDecimal 5 = .ok (.istore 4, 2) := by decide +kernel
theorem dX2_ofDecimal_7 : decode cX2_ofDecimal 7 = .ok (.iload 4, 2) := by decide +kernel
theorem dX2_ofDecimal_9 : decode cX2_ofDecimal 9 = .ok (.iload_n 1, 1) := by decide +kernel
theorem dX2_ofDecimal_10 : decode cX2_ofDecimal 10 = .ok (.if_icmp .ge 26, 3) := by decide +kernel
theorem dX2_ofDecimal_13 : decode cX2_ofDecimal 13 = .ok (.iload_n 2, 1) := by decide +kernel
theorem dX2_ofDecimal_14 : decode cX2_ofDecimal 14 = .ok (.iload_n 3, 1) := by decide +kernel
theorem dX2_ofDecimal_15 : decode cX2_ofDecimal 15 = .ok (.bipush 10, 2) := by decide +kernel
theorem dX2_ofDecimal_17 : decode cX2_ofDecimal 17 = .ok (.irem, 1) := by decide +kernel
theorem dX2_ofDecimal_18 : decode cX2_ofDecimal 18 = .ok (.iconst 4, 1) := by decide +kernel
theorem dX2_ofDecimal_19 : decode cX2_ofDecimal 19 = .ok (.iload 4, 2) := by decide +kernel
theorem dX2_ofDecimal_21 : decode cX2_ofDecimal 21 = .ok (.imul, 1) := by decide +kernel
theorem dX2_ofDecimal_22 : decode cX2_ofDecimal 22 = .ok (.ishl, 1) := by decide +kernel
theorem dX2_ofDecimal_23 : decode cX2_ofDecimal 23 = .ok (.ior, 1) := by decide +kernel
theorem dX2_ofDecimal_24 : decode cX2_ofDecimal 24 = .ok (.istore_n 2, 1) := by decide +kernel
theorem dX2_ofDecimal_25 : decode cX2_ofDecimal 25 = .ok (.iload_n 3, 1) := by decide +kernel
theorem dX2_ofDecimal_26 : decode cX2_ofDecimal 26 = .ok (.bipush 10, 2) := by decide +kernel
theorem dX2_ofDecimal_28 : decode cX2_ofDecimal 28 = .ok (.idiv, 1) := by decide +kernel
theorem dX2_ofDecimal_29 : decode cX2_ofDecimal 29 = .ok (.istore_n 3, 1) := by decide +kernel
theorem dX2_ofDecimal_30 : decode cX2_ofDecimal 30 = .ok (.iinc 4 1, 3) := by decide +kernel
theorem dX2_ofDecimal_33 : decode cX2_ofDecimal 33 = .ok (.goto (-26), 3) := by decide +kernel
theorem dX2_ofDecimal_36 : decode cX2_ofDecimal 36 = .ok (.iload_n 2, 1) := by decide +kernel
theorem dX2_ofDecimal_37 : decode cX2_ofDecimal 37 = .ok (.ireturn, 1) := by decide +kernel
theorem dX2_digit_0 : decode cX2_digit 0 = .ok (.iload_n 0, 1) := by decide +kernel
theorem dX2_digit_1 : decode cX2_digit 1 = .ok (.iconst 4, 1) := by decide +kernel
theorem dX2_digit_2 : decode cX2_digit 2 = .ok (.iload_n 1, 1) := by decide +kernel
theorem dX2_digit_3 : decode cX2_digit 3 = .ok (.iconst 1, 1) := by decide +kernel
theorem dX2_digit_4 : decode cX2_digit 4 = .ok (.isub, 1) := by decide +kernel
theorem dX2_digit_5 : decode cX2_digit 5 = .ok (.iload_n 2, 1) := by decide +kernel
theorem dX2_digit_6 : decode cX2_digit 6 = .ok (.isub, 1) := by decide +kernel
theorem dX2_digit_7 : decode cX2_digit 7 = .ok (.imul, 1) := by decide +kernel
theorem dX2_digit_8 : decode cX2_digit 8 = .ok (.ishr, 1) := by decide +kernel
theorem dX2_digit_9 : decode cX2_digit 9 = .ok (.bipush 15, 2) := by decide +kernel
theorem dX2_digit_11 : decode cX2_digit 11 = .ok (.iand, 1) := by decide +kernel
theorem dX2_digit_12 : decode cX2_digit 12 = .ok (.ireturn, 1) := by decide +kernel
theorem dX2_join_0 : decode cX2_join 0 = .ok (.iload_n 0, 1) := by decide +kernel
theorem dX2_join_1 : decode cX2_join 1 = .ok (.iconst 4, 1) := by decide +kernel
theorem dX2_join_2 : decode cX2_join 2 = .ok (.iload_n 2, 1) := by decide +kernel
theorem dX2_join_3 : decode cX2_join 3 = .ok (.imul, 1) := by decide +kernel
theorem dX2_join_4 : decode cX2_join 4 = .ok (.ishl, 1) := by decide +kernel
theorem dX2_join_5 : decode cX2_join 5 = .ok (.iload_n 1, 1) := by decide +kernel
theorem dX2_join_6 : decode cX2_join 6 = .ok (.ior, 1) := by decide +kernel
theorem dX2_join_7 : decode cX2_join 7 = .ok (.ireturn, 1) := by decide +kernel
theorem dX3_init_0 : decode cX3_init 0 = .ok (.aload_n 0, 1) := by decide +kernel
theorem dX3_init_1 : decode cX3_init 1 = .ok (.invokespecial 3, 3) := by decide +kernel
theorem dX3_init_4 : decode cX3_init 4 = .ok (.aload_n 0, 1) := by decide +kernel
theorem dX3_init_5 : decode cX3_init 5 = .ok (.iload_n 1, 1) := by decide +kernel
theorem dX3_init_6 : decode cX3_init 6 = .ok (.iconst 0, 1) := by decide +kernel
theorem dX3_init_7 : decode cX3_init 7 = .ok (.invokestatic 9, 3) := by decide +kernel
theorem dX3_init_10 : decode cX3_init 10 = .ok (.newarray .char, 2) := by decide +kernel
theorem dX3_init_12 : decode cX3_init 12 = .ok (.putfield 15, 3) := by decide +kernel
theorem dX3_init_15 : decode cX3_init 15 = .ok (.return_, 1) := by decide +kernel
theorem dX3_length_0 : decode cX3_length 0 = .ok (.aload_n 0, 1) := by decide +kernel
theorem dX3_length_1 : decode cX3_length 1 = .ok (.getfield 21, 3) := by decide +kernel
theorem dX3_length_4 : decode cX3_length 4 = .ok (.ireturn, 1) := by decide +kernel
theorem dX3_clear_0 : decode cX3_clear 0 = .ok (.aload_n 0, 1) := by decide +kernel
theorem dX3_clear_1 : decode cX3_clear 1 = .ok (.iconst 0, 1) := by decide +kernel
theorem dX3_clear_2 : decode cX3_clear 2 = .ok (.putfield 21, 3) := by decide +kernel
theorem dX3_clear_5 : decode cX3_clear 5 = .ok (.return_, 1) := by decide +kernel
theorem dX3_add_0 : decode cX3_add 0 = .ok (.aload_n 0, 1) := by decide +kernel
theorem dX3_add_1 : decode cX3_add 1 = .ok (.getfield 21, 3) := by decide +kernel
theorem dX3_add_4 : decode cX3_add 4 = .ok (.ifCond .lt 15, 3) := by decide +kernel
theorem dX3_add_7 : decode cX3_add 7 = .ok (.aload_n 0, 1) := by decide +kernel
theorem dX3_add_8 : decode cX3_add 8 = .ok (.getfield 21, 3) := by decide +kernel
theorem dX3_add_11 : decode cX3_add 11 = .ok (.aload_n 0, 1) := by decide +kernel
theorem dX3_add_12 : decode cX3_add 12 = .ok (.getfield 15, 3) := by decide +kernel
theorem dX3_add_15 : decode cX3_add 15 = .ok (.arraylength, 1) := by decide +kernel
theorem dX3_add_16 : decode cX3_add 16 = .ok (.if_icmp .lt 5, 3) := by decide +kernel
theorem dX3_add_19 : decode cX3_add 19 = .ok (.iconst 0, 1) := by decide +kernel
theorem dX3_add_20 : decode cX3_add 20 = .ok (.ireturn, 1) := by decide +kernel
theorem dX3_add_21 : decode cX3_add 21 = .ok (.aload_n 0, 1) := by decide +kernel
theorem dX3_add_22 : decode cX3_add 22 = .ok (.getfield 15, 3) := by decide +kernel
theorem dX3_add_25 : decode cX3_add 25 = .ok (.aload_n 0, 1) := by decide +kernel
theorem dX3_add_26 : decode cX3_add 26 = .ok (.getfield 21, 3) := by decide +kernel
theorem dX3_add_29 : decode cX3_add 29 = .ok (.iload_n 1, 1) := by decide +kernel
theorem dX3_add_30 : decode cX3_add 30 = .ok (.castore, 1) := by decide +kernel
theorem dX3_add_31 : decode cX3_add 31 = .ok (.aload_n 0, 1) := by decide +kernel
theorem dX3_add_32 : decode cX3_add 32 = .ok (.dup, 1) := by decide +kernel
theorem dX3_add_33 : decode cX3_add 33 = .ok (.getfield 21, 3) := by decide +kernel
theorem dX3_add_36 : decode cX3_add 36 = .ok (.iconst 1, 1) := by decide +kernel
theorem dX3_add_37 : decode cX3_add 37 = .ok (.iadd, 1) := by decide +kernel
theorem dX3_add_38 : decode cX3_add 38 = .ok (.putfield 21, 3) := by decide +kernel
theorem dX3_add_41 : decode cX3_add 41 = .ok (.iconst 1, 1) := by decide +kernel
theorem dX3_add_42 : decode cX3_add 42 = .ok (.ireturn, 1) := by decide +kernel
theorem dX3_codeAt_0 : decode cX3_codeAt 0 = .ok (.iload_n 1, 1) := by decide +kernel
theorem dX3_codeAt_1 : decode cX3_codeAt 1 = .ok (.ifCond .lt 20, 3) := by decide +kernel
theorem dX3_codeAt_4 : decode cX3_codeAt 4 = .ok (.iload_n 1, 1) := by decide +kernel
theorem dX3_codeAt_5 : decode cX3_codeAt 5 = .ok (.aload_n 0, 1) := by decide +kernel
theorem dX3_codeAt_6 : decode cX3_codeAt 6 = .ok (.getfield 21, 3) := by decide +kernel
theorem dX3_codeAt_9 : decode cX3_codeAt 9 = .ok (.if_icmp .ge 12, 3) := by decide +kernel
theorem dX3_codeAt_12 : decode cX3_codeAt 12 = .ok (.iload_n 1, 1) := by decide +kernel
theorem dX3_codeAt_13 : decode cX3_codeAt 13 = .ok (.aload_n 0, 1) := by decide +kernel
theorem dX3_codeAt_14 : decode cX3_codeAt 14 = .ok (.getfield 15, 3) := by decide +kernel
theorem dX3_codeAt_17 : decode cX3_codeAt 17 = .ok (.arraylength, 1) := by decide +kernel
theorem dX3_codeAt_18 : decode cX3_codeAt 18 = .ok (.if_icmp .lt 5, 3) := by decide +kernel
theorem dX3_codeAt_21 : decode cX3_codeAt 21 = .ok (.iconst (-1), 1) := by decide +kernel
theorem dX3_codeAt_22 : decode cX3_codeAt 22 = .ok (.ireturn, 1) := by decide +kernel
theorem dX3_codeAt_23 : decode cX3_codeAt 23 = .ok (.aload_n 0, 1) := by decide +kernel
theorem dX3_codeAt_24 : decode cX3_codeAt 24 = .ok (.getfield 15, 3) := by decide +kernel
theorem dX3_codeAt_27 : decode cX3_codeAt 27 = .ok (.iload_n 1, 1) := by decide +kernel
theorem dX3_codeAt_28 : decode cX3_codeAt 28 = .ok (.caload, 1) := by decide +kernel
theorem dX3_codeAt_29 : decode cX3_codeAt 29 = .ok (.ireturn, 1) := by decide +kernel
theorem dX3_contains_0 : decode cX3_contains 0 = .ok (.iconst 0, 1) := by decide +kernel
theorem dX3_contains_1 : decode cX3_contains 1 = .ok (.istore_n 2, 1) := by decide +kernel
theorem dX3_contains_2 : decode cX3_contains 2 = .ok (.iload_n 2, 1) := by decide +kernel
theorem dX3_contains_3 : decode cX3_contains 3 = .ok (.aload_n 0, 1) := by decide +kernel
theorem dX3_contains_4 : decode cX3_contains 4 = .ok (.getfield 21, 3) := by decide +kernel
theorem dX3_contains_7 : decode cX3_contains 7 = .ok (.if_icmp .ge 20, 3) := by decide +kernel
theorem dX3_contains_10 : decode cX3_contains 10 = .ok (.aload_n 0, 1) := by decide +kernel
theorem dX3_contains_11 : decode cX3_contains 11 = .ok (.iload_n 2, 1) := by decide +kernel
theorem dX3_contains_12 : decode cX3_contains 12 = .ok (.invokevirtual 33, 3) := by decide +kernel
theorem dX3_contains_15 : decode cX3_contains 15 = .ok (.iload_n 1, 1) := by decide +kernel
theorem dX3_contains_16 : decode cX3_contains 16 = .ok (.if_icmp .ne 5, 3) := by decide +kernel
theorem dX3_contains_19 : decode cX3_contains 19 = .ok (.iconst 1, 1) := by decide +kernel
theorem dX3_contains_20 : decode cX3_contains 20 = .ok (.ireturn, 1) := by decide +kernel
theorem dX3_contains_21 : decode cX3_contains 21 = .ok (.iinc 2 1, 3) := by decide +kernel
theorem dX3_contains_24 : decode cX3_contains 24 = .ok (.goto (-22), 3) := by decide +kernel
theorem dX3_contains_27 : decode cX3_contains 27 = .ok (.iconst 0, 1) := by decide +kernel
theorem dX3_contains_28 : decode cX3_contains 28 = .ok (.ireturn, 1) := by decide +kernel
theorem dX3_copy_0 : decode cX3_copy 0 = .ok (.aload_n 0, 1) := by decide +kernel
theorem dX3_copy_1 : decode cX3_copy 1 = .ok (.invokevirtual 37, 3) := by decide +kernel
theorem dX3_copy_4 : decode cX3_copy 4 = .ok (.iconst 0, 1) := by decide +kernel
theorem dX3_copy_5 : decode cX3_copy 5 = .ok (.istore_n 2, 1) := by decide +kernel
theorem dX3_copy_6 : decode cX3_copy 6 = .ok (.iload_n 2, 1) := by decide +kernel
theorem dX3_copy_7 : decode cX3_copy 7 = .ok (.aload_n 1, 1) := by decide +kernel
theorem dX3_copy_8 : decode cX3_copy 8 = .ok (.invokevirtual 40, 3) := by decide +kernel
theorem dX3_copy_11 : decode cX3_copy 11 = .ok (.if_icmp .ge 20, 3) := by decide +kernel
theorem dX3_copy_14 : decode cX3_copy 14 = .ok (.aload_n 0, 1) := by decide +kernel
theorem dX3_copy_15 : decode cX3_copy 15 = .ok (.aload_n 1, 1) := by decide +kernel
theorem dX3_copy_16 : decode cX3_copy 16 = .ok (.iload_n 2, 1) := by decide +kernel
theorem dX3_copy_17 : decode cX3_copy 17 = .ok (.invokevirtual 33, 3) := by decide +kernel
theorem dX3_copy_20 : decode cX3_copy 20 = .ok (.i2c, 1) := by decide +kernel
theorem dX3_copy_21 : decode cX3_copy 21 = .ok (.invokevirtual 29, 3) := by decide +kernel
theorem dX3_copy_24 : decode cX3_copy 24 = .ok (.pop, 1) := by decide +kernel
theorem dX3_copy_25 : decode cX3_copy 25 = .ok (.iinc 2 1, 3) := by decide +kernel
theorem dX3_copy_28 : decode cX3_copy 28 = .ok (.goto (-22), 3) := by decide +kernel
theorem dX3_copy_31 : decode cX3_copy 31 = .ok (.return_, 1) := by decide +kernel
theorem dX4_ofTag_0 : decode cX4_ofTag 0 = .ok (.lconst 1, 1) := by decide +kernel
theorem dX4_ofTag_1 : decode cX4_ofTag 1 = .ok (.bipush 60, 2) := by decide +kernel
theorem dX4_ofTag_3 : decode cX4_ofTag 3 = .ok (.iconst 4, 1) := by decide +kernel
theorem dX4_ofTag_4 : decode cX4_ofTag 4 = .ok (.iload_n 0, 1) := by decide +kernel
theorem dX4_ofTag_5 : decode cX4_ofTag 5 = .ok (.imul, 1) := by decide +kernel
theorem dX4_ofTag_6 : decode cX4_ofTag 6 = .ok (.isub, 1) := by decide +kernel
theorem dX4_ofTag_7 : decode cX4_ofTag 7 = .ok (.lshl, 1) := by decide +kernel
theorem dX4_ofTag_8 : decode cX4_ofTag 8 = .ok (.lreturn, 1) := by decide +kernel
theorem dX4_power_0 : decode cX4_power 0 = .ok (.lload_n 0, 1) := by decide +kernel
theorem dX4_power_1 : decode cX4_power 1 = .ok (.bipush 60, 2) := by decide +kernel
theorem dX4_power_3 : decode cX4_power 3 = .ok (.iconst 4, 1) := by decide +kernel
theorem dX4_power_4 : decode cX4_power 4 = .ok (.iload_n 2, 1) := by decide +kernel
theorem dX4_power_5 : decode cX4_power 5 = .ok (.imul, 1) := by decide +kernel
theorem dX4_power_6 : decode cX4_power 6 = .ok (.isub, 1) := by decide +kernel
theorem dX4_power_7 : decode cX4_power 7 = .ok (.lushr, 1) := by decide +kernel
theorem dX4_power_8 : decode cX4_power 8 = .ok (.l2i, 1) := by decide +kernel
theorem dX4_power_9 : decode cX4_power 9 = .ok (.bipush 15, 2) := by decide +kernel
theorem dX4_power_11 : decode cX4_power 11 = .ok (.iand, 1) := by decide +kernel
theorem dX4_power_12 : decode cX4_power 12 = .ok (.ireturn, 1) := by decide +kernel
theorem dX4_withoutPowers_0 : decode cX4_withoutPowers 0 = .ok (.lload_n 0, 1) := by decide +kernel
theorem dX4_withoutPowers_1 : decode cX4_withoutPowers 1 = .ok (.lload_n 0, 1) := by decide +kernel
theorem dX4_withoutPowers_2 : decode cX4_withoutPowers 2 = .ok (.iconst 1, 1) := by decide +kernel
theorem dX4_withoutPowers_3 : decode cX4_withoutPowers 3 = .ok (.lushr, 1) := by decide +kernel
theorem dX4_withoutPowers_4 : decode cX4_withoutPowers 4 = .ok (.lor, 1) := by decide +kernel
theorem dX4_withoutPowers_5 : decode cX4_withoutPowers 5 = .ok (.lload_n 0, 1) := by decide +kernel
theorem dX4_withoutPowers_6 : decode cX4_withoutPowers 6 = .ok (.iconst 2, 1) := by decide +kernel
theorem dX4_withoutPowers_7 : decode cX4_withoutPowers 7 = .ok (.lushr, 1) := by decide +kernel
theorem dX4_withoutPowers_8 : decode cX4_withoutPowers 8 = .ok (.lor, 1) := by decide +kernel
theorem dX4_withoutPowers_9 : decode cX4_withoutPowers 9 = .ok (.lload_n 0, 1) := by decide +kernel
theorem dX4_withoutPowers_10 : decode cX4_withoutPowers 10 = .ok (.iconst 3, 1) := by decide +kernel
theorem dX4_withoutPowers_11 : decode cX4_withoutPowers 11 = .ok (.lushr, 1) := by decide +kernel
theorem dX4_withoutPowers_12 : decode cX4_withoutPowers 12 = .ok (.lor, 1) := by decide +kernel
theorem dX4_withoutPowers_13 : decode cX4_withoutPowers 13 = .ok (.ldc2_w 11, 3) := by decide +kernel
theorem dX4_withoutPowers_16 : decode cX4_withoutPowers 16 = .ok (.land, 1) := by decide +kernel
theorem dX4_withoutPowers_17 : decode cX4_withoutPowers 17 = .ok (.lreturn, 1) := by decide +kernel
theorem dX4_tagSet_0 : decode cX4_tagSet 0 = .ok (.iconst 0, 1) := by decide +kernel
theorem dX4_tagSet_1 : decode cX4_tagSet 1 = .ok (.istore_n 2, 1) := by decide +kernel
theorem dX4_tagSet_2 : decode cX4_tagSet 2 = .ok (.iconst 0, 1) := by decide +kernel
theorem dX4_tagSet_3 : decode cX4_tagSet 3 = .ok (.istore_n 3, 1) := by decide +kernel
theorem dX4_tagSet_4 : decode cX4_tagSet 4 = .ok (.iload_n 3, 1) := by decide +kernel
theorem dX4_tagSet_5 : decode cX4_tagSet 5 = .ok (.bipush 16, 2) := by decide +kernel
theorem dX4_tagSet_7 : decode cX4_tagSet 7 = .ok (.if_icmp .ge 23, 3) := by decide +kernel
theorem dX4_tagSet_10 : decode cX4_tagSet 10 = .ok (.lload_n 0, 1) := by decide +kernel
theorem dX4_tagSet_11 : decode cX4_tagSet 11 = .ok (.iload_n 3, 1) := by decide +kernel
theorem dX4_tagSet_12 : decode cX4_tagSet 12 = .ok (.invokestatic 13, 3) := by decide +kernel
theorem dX4_tagSet_15 : decode cX4_tagSet 15 = .ok (.ifCond .le 9, 3) := by decide +kernel
theorem dX4_tagSet_18 : decode cX4_tagSet 18 = .ok (.iload_n 2, 1) := by decide +kernel
theorem dX4_tagSet_19 : decode cX4_tagSet 19 = .ok (.iconst 1, 1) := by decide +kernel
theorem dX4_tagSet_20 : decode cX4_tagSet 20 = .ok (.iload_n 3, 1) := by decide +kernel
theorem dX4_tagSet_21 : decode cX4_tagSet 21 = .ok (.ishl, 1) := by decide +kernel
theorem dX4_tagSet_22 : decode cX4_tagSet 22 = .ok (.ior, 1) := by decide +kernel
theorem dX4_tagSet_23 : decode cX4_tagSet 23 = .ok (.istore_n 2, 1) := by decide +kernel
theorem dX4_tagSet_24 : decode cX4_tagSet 24 = .ok (.iinc 3 1, 3) := by decide +kernel
theorem dX4_tagSet_27 : decode cX4_tagSet 27 = .ok (.goto (-23), 3) := by decide +kernel
theorem dX4_tagSet_30 : decode cX4_tagSet 30 = .ok (.iload_n 2, 1) := by decide +kernel
theorem dX4_tagSet_31 : decode cX4_tagSet 31 = .ok (.ireturn, 1) := by decide +kernel
theorem dX4_maskOf_0 : decode cX4_maskOf 0 = .ok (.lconst 0, 1) := by decide +kernel
theorem dX4_maskOf_1 : decode cX4_maskOf 1 = .ok (.lstore_n 1, 1) := by decide +kernel
theorem dX4_maskOf_2 : decode cX4_maskOf 2 = .ok (.iconst 0, 1) := by decide +kernel
theorem dX4_maskOf_3 : decode cX4_maskOf 3 = .ok (.istore_n 3, 1) := by decide +kernel
theorem dX4_maskOf_4 : decode cX4_maskOf 4 = .ok (.iload_n 3, 1) := by decide +kernel
theorem dX4_maskOf_5 : decode cX4_maskOf 5 = .ok (.bipush 16, 2) := by decide +kernel
theorem dX4_maskOf_7 : decode cX4_maskOf 7 = .ok (.if_icmp .ge 30, 3) := by decide +kernel
theorem dX4_maskOf_10 : decode cX4_maskOf 10 = .ok (.iload_n 0, 1) := by decide +kernel
theorem dX4_maskOf_11 : decode cX4_maskOf 11 = .ok (.iload_n 3, 1) := by decide +kernel
theorem dX4_maskOf_12 : decode cX4_maskOf 12 = .ok (.ishr, 1) := by decide +kernel
theorem dX4_maskOf_13 : decode cX4_maskOf 13 = .ok (.iconst 1, 1) := by decide +kernel
theorem dX4_maskOf_14 : decode cX4_maskOf 14 = .ok (.iand, 1) := by decide +kernel
theorem dX4_maskOf_15 : decode cX4_maskOf 15 = .ok (.ifCond .eq 16, 3) := by decide +kernel
theorem dX4_maskOf_18 : decode cX4_maskOf 18 = .ok (.lload_n 1, 1) := by decide +kernel
theorem dX4_maskOf_19 : decode cX4_maskOf 19 = .ok (.ldc2_w 17, 3) := by decide +kernel
theorem dX4_maskOf_22 : decode cX4_maskOf 22 = .ok (.bipush 60, 2) := by decide +kernel
theorem dX4_maskOf_24 : decode cX4_maskOf 24 = .ok (.iconst 4, 1) := by decide +kernel
theorem dX4_maskOf_25 : decode cX4_maskOf 25 = .ok (.iload_n 3, 1) := by decide +kernel
theorem dX4_maskOf_26 : decode cX4_maskOf 26 = .ok (.imul, 1) := by decide +kernel
theorem dX4_maskOf_27 : decode cX4_maskOf 27 = .ok (.isub, 1) := by decide +kernel
theorem dX4_maskOf_28 : decode cX4_maskOf 28 = .ok (.lshl, 1) := by decide +kernel
theorem dX4_maskOf_29 : decode cX4_maskOf 29 = .ok (.lor, 1) := by decide +kernel
theorem dX4_maskOf_30 : decode cX4_maskOf 30 = .ok (.lstore_n 1, 1) := by decide +kernel
theorem dX4_maskOf_31 : decode cX4_maskOf 31 = .ok (.iinc 3 1, 3) := by decide +kernel
theorem dX4_maskOf_34 : decode cX4_maskOf 34 = .ok (.goto (-30), 3) := by decide +kernel
theorem dX4_maskOf_37 : decode cX4_maskOf 37 = .ok (.lload_n 1, 1) := by decide +kernel
theorem dX4_maskOf_38 : decode cX4_maskOf 38 = .ok (.lreturn, 1) := by decide +kernel
theorem dX5_init_0 : decode cX5_init 0 = .ok (.aload_n 0, 1) := by decide +kernel
theorem dX5_init_1 : decode cX5_init 1 = .ok (.invokespecial 3, 3) := by decide +kernel
theorem dX5_init_4 : decode cX5_init 4 = .ok (.aload_n 0, 1) := by decide +kernel
theorem dX5_init_5 : decode cX5_init 5 = .ok (.bipush 32, 2) := by decide +kernel
theorem dX5_init_7 : decode cX5_init 7 = .ok (.newarray .long, 2) := by decide +kernel
theorem dX5_init_9 : decode cX5_init 9 = .ok (.putfield 9, 3) := by decide +kernel
theorem dX5_init_12 : decode cX5_init 12 = .ok (.aload_n 0, 1) := by decide +kernel
theorem dX5_init_13 : decode cX5_init 13 = .ok (.bipush 32, 2) := by decide +kernel
theorem dX5_init_15 : decode cX5_init 15 = .ok (.newarray .long, 2) := by decide +kernel
theorem dX5_init_17 : decode cX5_init 17 = .ok (.putfield 15, 3) := by decide +kernel
theorem dX5_init_20 : decode cX5_init 20 = .ok (.return_, 1) := by decide +kernel
theorem dX5_size_0 : decode cX5_size 0 = .ok (.aload_n 0, 1) := by decide +kernel
theorem dX5_size_1 : decode cX5_size 1 = .ok (.getfield 18, 3) := by decide +kernel
theorem dX5_size_4 : decode cX5_size 4 = .ok (.ireturn, 1) := by decide +kernel
theorem dX5_clear_0 : decode cX5_clear 0 = .ok (.aload_n 0, 1) := by decide +kernel
theorem dX5_clear_1 : decode cX5_clear 1 = .ok (.iconst 0, 1) := by decide +kernel
theorem dX5_clear_2 : decode cX5_clear 2 = .ok (.putfield 18, 3) := by decide +kernel
theorem dX5_clear_5 : decode cX5_clear 5 = .ok (.return_, 1) := by decide +kernel
theorem dX5_hasTerm_0 : decode cX5_hasTerm 0 = .ok (.iload_n 1, 1) := by decide +kernel
theorem dX5_hasTerm_1 : decode cX5_hasTerm 1 = .ok (.ifCond .lt 21, 3) := by decide +kernel
theorem dX5_hasTerm_4 : decode cX5_hasTerm 4 = .ok (.iload_n 1, 1) := by decide +kernel
theorem dX5_hasTerm_5 : decode cX5_hasTerm 5 = .ok (.aload_n 0, 1) := by decide +kernel
theorem dX5_hasTerm_6 : decode cX5_hasTerm 6 = .ok (.getfield 18, 3) := by decide +kernel
theorem dX5_hasTerm_9 : decode cX5_hasTerm 9 = .ok (.if_icmp .ge 13, 3) := by decide +kernel
theorem dX5_hasTerm_12 : decode cX5_hasTerm 12 = .ok (.iload_n 1, 1) := by decide +kernel
theorem dX5_hasTerm_13 : decode cX5_hasTerm 13 = .ok (.bipush 32, 2) := by decide +kernel
theorem dX5_hasTerm_15 : decode cX5_hasTerm 15 = .ok (.if_icmp .ge 7, 3) := by decide +kernel
theorem dX5_hasTerm_18 : decode cX5_hasTerm 18 = .ok (.iconst 1, 1) := by decide +kernel
theorem dX5_hasTerm_19 : decode cX5_hasTerm 19 = .ok (.goto 4, 3) := by decide +kernel
theorem dX5_hasTerm_22 : decode cX5_hasTerm 22 = .ok (.iconst 0, 1) := by decide +kernel
theorem dX5_hasTerm_23 : decode cX5_hasTerm 23 = .ok (.ireturn, 1) := by decide +kernel
theorem dX5_monomialAt_0 : decode cX5_monomialAt 0 = .ok (.aload_n 0, 1) := by decide +kernel
theorem dX5_monomialAt_1 : decode cX5_monomialAt 1 = .ok (.iload_n 1, 1) := by decide +kernel
theorem dX5_monomialAt_2 : decode cX5_monomialAt 2 = .ok (.invokevirtual 22, 3) := by decide +kernel
theorem dX5_monomialAt_5 : decode cX5_monomialAt 5 = .ok (.ifCond .eq 12, 3) := by decide +kernel
theorem dX5_monomialAt_8 : decode cX5_monomialAt 8 = .ok (.aload_n 0, 1) := by decide +kernel
theorem dX5_monomialAt_9 : decode cX5_monomialAt 9 = .ok (.getfield 9, 3) := by decide +kernel
theorem dX5_monomialAt_12 : decode cX5_monomialAt 12 = .ok (.iload_n 1, 1) := by decide +kernel
theorem dX5_monomialAt_13 : decode cX5_monomialAt 13 = .ok (.laload, 1) := by decide +kernel
theorem dX5_monomialAt_14 : decode cX5_monomialAt 14 = .ok (.goto 4, 3) := by decide +kernel
theorem dX5_monomialAt_17 : decode cX5_monomialAt 17 = .ok (.lconst 0, 1) := by decide +kernel
theorem dX5_monomialAt_18 : decode cX5_monomialAt 18 = .ok (.lreturn, 1) := by decide +kernel
theorem dX5_factorAt_0 : decode cX5_factorAt 0 = .ok (.aload_n 0, 1) := by decide +kernel
theorem dX5_factorAt_1 : decode cX5_factorAt 1 = .ok (.iload_n 1, 1) := by decide +kernel
theorem dX5_factorAt_2 : decode cX5_factorAt 2 = .ok (.invokevirtual 22, 3) := by decide +kernel
theorem dX5_factorAt_5 : decode cX5_factorAt 5 = .ok (.ifCond .eq 12, 3) := by decide +kernel
theorem dX5_factorAt_8 : decode cX5_factorAt 8 = .ok (.aload_n 0, 1) := by decide +kernel
theorem dX5_factorAt_9 : decode cX5_factorAt 9 = .ok (.getfield 15, 3) := by decide +kernel
theorem dX5_factorAt_12 : decode cX5_factorAt 12 = .ok (.iload_n 1, 1) := by decide +kernel
theorem dX5_factorAt_13 : decode cX5_factorAt 13 = .ok (.laload, 1) := by decide +kernel
theorem dX5_factorAt_14 : decode cX5_factorAt 14 = .ok (.goto 4, 3) := by decide +kernel
theorem dX5_factorAt_17 : decode cX5_factorAt 17 = .ok (.lconst 0, 1) := by decide +kernel
theorem dX5_factorAt_18 : decode cX5_factorAt 18 = .ok (.lreturn, 1) := by decide +kernel
theorem dX5_addTerm_0 : decode cX5_addTerm 0 = .ok (.iconst 0, 1) := by decide +kernel
theorem dX5_addTerm_1 : decode cX5_addTerm 1 = .ok (.istore 5, 2) := by decide +kernel
theorem dX5_addTerm_3 : decode cX5_addTerm 3 = .ok (.lload_n 1, 1) := by decide +kernel
theorem dX5_addTerm_4 : decode cX5_addTerm 4 = .ok (.ldc2_w 28, 3) := by decide +kernel
theorem dX5_addTerm_7 : decode cX5_addTerm 7 = .ok (.lxor, 1) := by decide +kernel
theorem dX5_addTerm_8 : decode cX5_addTerm 8 = .ok (.lstore 6, 2) := by decide +kernel
theorem dX5_addTerm_10 : decode cX5_addTerm 10 = .ok (.iload 5, 2) := by decide +kernel
theorem dX5_addTerm_12 : decode cX5_addTerm 12 = .ok (.aload_n 0, 1) := by decide +kernel
theorem dX5_addTerm_13 : decode cX5_addTerm 13 = .ok (.getfield 18, 3) := by decide +kernel
theorem dX5_addTerm_16 : decode cX5_addTerm 16 = .ok (.if_icmp .ge 33, 3) := by decide +kernel
theorem dX5_addTerm_19 : decode cX5_addTerm 19 = .ok (.iload 5, 2) := by decide +kernel
theorem dX5_addTerm_21 : decode cX5_addTerm 21 = .ok (.bipush 32, 2) := by decide +kernel
theorem dX5_addTerm_23 : decode cX5_addTerm 23 = .ok (.if_icmp .ge 26, 3) := by decide +kernel
theorem dX5_addTerm_26 : decode cX5_addTerm 26 = .ok (.aload_n 0, 1) := by decide +kernel
theorem dX5_addTerm_27 : decode cX5_addTerm 27 = .ok (.getfield 9, 3) := by decide +kernel
theorem dX5_addTerm_30 : decode cX5_addTerm 30 = .ok (.iload 5, 2) := by decide +kernel
theorem dX5_addTerm_32 : decode cX5_addTerm 32 = .ok (.laload, 1) := by decide +kernel
theorem dX5_addTerm_33 : decode cX5_addTerm 33 = .ok (.ldc2_w 28, 3) := by decide +kernel
theorem dX5_addTerm_36 : decode cX5_addTerm 36 = .ok (.lxor, 1) := by decide +kernel
theorem dX5_addTerm_37 : decode cX5_addTerm 37 = .ok (.lload 6, 2) := by decide +kernel
theorem dX5_addTerm_39 : decode cX5_addTerm 39 = .ok (.lcmp, 1) := by decide +kernel
theorem dX5_addTerm_40 : decode cX5_addTerm 40 = .ok (.ifCond .le 9, 3) := by decide +kernel
theorem dX5_addTerm_43 : decode cX5_addTerm 43 = .ok (.iinc 5 1, 3) := by decide +kernel
theorem dX5_addTerm_46 : decode cX5_addTerm 46 = .ok (.goto (-36), 3) := by decide +kernel
theorem dX5_addTerm_49 : decode cX5_addTerm 49 = .ok (.iload 5, 2) := by decide +kernel
theorem dX5_addTerm_51 : decode cX5_addTerm 51 = .ok (.aload_n 0, 1) := by decide +kernel
theorem dX5_addTerm_52 : decode cX5_addTerm 52 = .ok (.getfield 18, 3) := by decide +kernel
theorem dX5_addTerm_55 : decode cX5_addTerm 55 = .ok (.if_icmp .ge 35, 3) := by decide +kernel
theorem dX5_addTerm_58 : decode cX5_addTerm 58 = .ok (.iload 5, 2) := by decide +kernel
theorem dX5_addTerm_60 : decode cX5_addTerm 60 = .ok (.bipush 32, 2) := by decide +kernel
theorem dX5_addTerm_62 : decode cX5_addTerm 62 = .ok (.if_icmp .ge 28, 3) := by decide +kernel
theorem dX5_addTerm_65 : decode cX5_addTerm 65 = .ok (.aload_n 0, 1) := by decide +kernel
theorem dX5_addTerm_66 : decode cX5_addTerm 66 = .ok (.getfield 9, 3) := by decide +kernel
theorem dX5_addTerm_69 : decode cX5_addTerm 69 = .ok (.iload 5, 2) := by decide +kernel
theorem dX5_addTerm_71 : decode cX5_addTerm 71 = .ok (.laload, 1) := by decide +kernel
theorem dX5_addTerm_72 : decode cX5_addTerm 72 = .ok (.lload_n 1, 1) := by decide +kernel
theorem dX5_addTerm_73 : decode cX5_addTerm 73 = .ok (.lcmp, 1) := by decide +kernel
theorem dX5_addTerm_74 : decode cX5_addTerm 74 = .ok (.ifCond .ne 16, 3) := by decide +kernel
theorem dX5_addTerm_77 : decode cX5_addTerm 77 = .ok (.aload_n 0, 1) := by decide +kernel
theorem dX5_addTerm_78 : decode cX5_addTerm 78 = .ok (.getfield 15, 3) := by decide +kernel
theorem dX5_addTerm_81 : decode cX5_addTerm 81 = .ok (.iload 5, 2) := by decide +kernel
theorem dX5_addTerm_83 : decode cX5_addTerm 83 = .ok (.dup2, 1) := by decide +kernel
theorem dX5_addTerm_84 : decode cX5_addTerm 84 = .ok (.laload, 1) := by decide +kernel
theorem dX5_addTerm_85 : decode cX5_addTerm 85 = .ok (.lload_n 3, 1) := by decide +kernel
theorem dX5_addTerm_86 : decode cX5_addTerm 86 = .ok (.ladd, 1) := by decide +kernel
theorem dX5_addTerm_87 : decode cX5_addTerm 87 = .ok (.lastore, 1) := by decide +kernel
theorem dX5_addTerm_88 : decode cX5_addTerm 88 = .ok (.iconst 1, 1) := by decide +kernel
theorem dX5_addTerm_89 : decode cX5_addTerm 89 = .ok (.ireturn, 1) := by decide +kernel
theorem dX5_addTerm_90 : decode cX5_addTerm 90 = .ok (.aload_n 0, 1) := by decide +kernel
theorem dX5_addTerm_91 : decode cX5_addTerm 91 = .ok (.getfield 18, 3) := by decide +kernel
theorem dX5_addTerm_94 : decode cX5_addTerm 94 = .ok (.bipush 32, 2) := by decide +kernel
theorem dX5_addTerm_96 : decode cX5_addTerm 96 = .ok (.if_icmp .lt 5, 3) := by decide +kernel
theorem dX5_addTerm_99 : decode cX5_addTerm 99 = .ok (.iconst 0, 1) := by decide +kernel
theorem dX5_addTerm_100 : decode cX5_addTerm 100 = .ok (.ireturn, 1) := by decide +kernel
theorem dX5_addTerm_101 : decode cX5_addTerm 101 = .ok (.aload_n 0, 1) := by decide +kernel
theorem dX5_addTerm_102 : decode cX5_addTerm 102 = .ok (.getfield 18, 3) := by decide +kernel
theorem dX5_addTerm_105 : decode cX5_addTerm 105 = .ok (.istore 8, 2) := by decide +kernel
theorem dX5_addTerm_107 : decode cX5_addTerm 107 = .ok (.iload 8, 2) := by decide +kernel
theorem dX5_addTerm_109 : decode cX5_addTerm 109 = .ok (.iload 5, 2) := by decide +kernel
theorem dX5_addTerm_111 : decode cX5_addTerm 111 = .ok (.if_icmp .le 41, 3) := by decide +kernel
theorem dX5_addTerm_114 : decode cX5_addTerm 114 = .ok (.aload_n 0, 1) := by decide +kernel
theorem dX5_addTerm_115 : decode cX5_addTerm 115 = .ok (.getfield 9, 3) := by decide +kernel
theorem dX5_addTerm_118 : decode cX5_addTerm 118 = .ok (.iload 8, 2) := by decide +kernel
theorem dX5_addTerm_120 : decode cX5_addTerm 120 = .ok (.aload_n 0, 1) := by decide +kernel
theorem dX5_addTerm_121 : decode cX5_addTerm 121 = .ok (.getfield 9, 3) := by decide +kernel
theorem dX5_addTerm_124 : decode cX5_addTerm 124 = .ok (.iload 8, 2) := by decide +kernel
theorem dX5_addTerm_126 : decode cX5_addTerm 126 = .ok (.iconst 1, 1) := by decide +kernel
theorem dX5_addTerm_127 : decode cX5_addTerm 127 = .ok (.isub, 1) := by decide +kernel
theorem dX5_addTerm_128 : decode cX5_addTerm 128 = .ok (.laload, 1) := by decide +kernel
theorem dX5_addTerm_129 : decode cX5_addTerm 129 = .ok (.lastore, 1) := by decide +kernel
theorem dX5_addTerm_130 : decode cX5_addTerm 130 = .ok (.aload_n 0, 1) := by decide +kernel
theorem dX5_addTerm_131 : decode cX5_addTerm 131 = .ok (.getfield 15, 3) := by decide +kernel
theorem dX5_addTerm_134 : decode cX5_addTerm 134 = .ok (.iload 8, 2) := by decide +kernel
theorem dX5_addTerm_136 : decode cX5_addTerm 136 = .ok (.aload_n 0, 1) := by decide +kernel
theorem dX5_addTerm_137 : decode cX5_addTerm 137 = .ok (.getfield 15, 3) := by decide +kernel
theorem dX5_addTerm_140 : decode cX5_addTerm 140 = .ok (.iload 8, 2) := by decide +kernel
theorem dX5_addTerm_142 : decode cX5_addTerm 142 = .ok (.iconst 1, 1) := by decide +kernel
theorem dX5_addTerm_143 : decode cX5_addTerm 143 = .ok (.isub, 1) := by decide +kernel
theorem dX5_addTerm_144 : decode cX5_addTerm 144 = .ok (.laload, 1) := by decide +kernel
theorem dX5_addTerm_145 : decode cX5_addTerm 145 = .ok (.lastore, 1) := by decide +kernel
theorem dX5_addTerm_146 : decode cX5_addTerm 146 = .ok (.iinc 8 (-1), 3) := by decide +kernel
theorem dX5_addTerm_149 : decode cX5_addTerm 149 = .ok (.goto (-42), 3) := by decide +kernel
theorem dX5_addTerm_152 : decode cX5_addTerm 152 = .ok (.aload_n 0, 1) := by decide +kernel
theorem dX5_addTerm_153 : decode cX5_addTerm 153 = .ok (.getfield 9, 3) := by decide +kernel
theorem dX5_addTerm_156 : decode cX5_addTerm 156 = .ok (.iload 5, 2) := by decide +kernel
theorem dX5_addTerm_158 : decode cX5_addTerm 158 = .ok (.lload_n 1, 1) := by decide +kernel
theorem dX5_addTerm_159 : decode cX5_addTerm 159 = .ok (.lastore, 1) := by decide +kernel
theorem dX5_addTerm_160 : decode cX5_addTerm 160 = .ok (.aload_n 0, 1) := by decide +kernel
theorem dX5_addTerm_161 : decode cX5_addTerm 161 = .ok (.getfield 15, 3) := by decide +kernel
theorem dX5_addTerm_164 : decode cX5_addTerm 164 = .ok (.iload 5, 2) := by decide +kernel
theorem dX5_addTerm_166 : decode cX5_addTerm 166 = .ok (.lload_n 3, 1) := by decide +kernel
theorem dX5_addTerm_167 : decode cX5_addTerm 167 = .ok (.lastore, 1) := by decide +kernel
theorem dX5_addTerm_168 : decode cX5_addTerm 168 = .ok (.aload_n 0, 1) := by decide +kernel
theorem dX5_addTerm_169 : decode cX5_addTerm 169 = .ok (.dup, 1) := by decide +kernel
theorem dX5_addTerm_170 : decode cX5_addTerm 170 = .ok (.getfield 18, 3) := by decide +kernel
theorem dX5_addTerm_173 : decode cX5_addTerm 173 = .ok (.iconst 1, 1) := by decide +kernel
theorem dX5_addTerm_174 : decode cX5_addTerm 174 = .ok (.iadd, 1) := by decide +kernel
theorem dX5_addTerm_175 : decode cX5_addTerm 175 = .ok (.putfield 18, 3) := by decide +kernel
theorem dX5_addTerm_178 : decode cX5_addTerm 178 = .ok (.iconst 1, 1) := by decide +kernel
theorem dX5_addTerm_179 : decode cX5_addTerm 179 = .ok (.ireturn, 1) := by decide +kernel
theorem dX5_addAll_0 : decode cX5_addAll 0 = .ok (.iconst 0, 1) := by decide +kernel
theorem dX5_addAll_1 : decode cX5_addAll 1 = .ok (.istore_n 2, 1) := by decide +kernel
theorem dX5_addAll_2 : decode cX5_addAll 2 = .ok (.iload_n 2, 1) := by decide +kernel
theorem dX5_addAll_3 : decode cX5_addAll 3 = .ok (.aload_n 1, 1) := by decide +kernel
theorem dX5_addAll_4 : decode cX5_addAll 4 = .ok (.getfield 18, 3) := by decide +kernel
theorem dX5_addAll_7 : decode cX5_addAll 7 = .ok (.if_icmp .ge 36, 3) := by decide +kernel
theorem dX5_addAll_10 : decode cX5_addAll 10 = .ok (.iload_n 2, 1) := by decide +kernel
theorem dX5_addAll_11 : decode cX5_addAll 11 = .ok (.bipush 32, 2) := by decide +kernel
theorem dX5_addAll_13 : decode cX5_addAll 13 = .ok (.if_icmp .ge 30, 3) := by decide +kernel
theorem dX5_addAll_16 : decode cX5_addAll 16 = .ok (.aload_n 0, 1) := by decide +kernel
theorem dX5_addAll_17 : decode cX5_addAll 17 = .ok (.aload_n 1, 1) := by decide +kernel
theorem dX5_addAll_18 : decode cX5_addAll 18 = .ok (.getfield 9, 3) := by decide +kernel
theorem dX5_addAll_21 : decode cX5_addAll 21 = .ok (.iload_n 2, 1) := by decide +kernel
theorem dX5_addAll_22 : decode cX5_addAll 22 = .ok (.laload, 1) := by decide +kernel
theorem dX5_addAll_23 : decode cX5_addAll 23 = .ok (.aload_n 1, 1) := by decide +kernel
theorem dX5_addAll_24 : decode cX5_addAll 24 = .ok (.getfield 15, 3) := by decide +kernel
theorem dX5_addAll_27 : decode cX5_addAll 27 = .ok (.iload_n 2, 1) := by decide +kernel
theorem dX5_addAll_28 : decode cX5_addAll 28 = .ok (.laload, 1) := by decide +kernel
theorem dX5_addAll_29 : decode cX5_addAll 29 = .ok (.invokevirtual 30, 3) := by decide +kernel
theorem dX5_addAll_32 : decode cX5_addAll 32 = .ok (.ifCond .ne 5, 3) := by decide +kernel
theorem dX5_addAll_35 : decode cX5_addAll 35 = .ok (.iconst 0, 1) := by decide +kernel
theorem dX5_addAll_36 : decode cX5_addAll 36 = .ok (.ireturn, 1) := by decide +kernel
theorem dX5_addAll_37 : decode cX5_addAll 37 = .ok (.iinc 2 1, 3) := by decide +kernel
theorem dX5_addAll_40 : decode cX5_addAll 40 = .ok (.goto (-38), 3) := by decide +kernel
theorem dX5_addAll_43 : decode cX5_addAll 43 = .ok (.iconst 1, 1) := by decide +kernel
theorem dX5_addAll_44 : decode cX5_addAll 44 = .ok (.ireturn, 1) := by decide +kernel
theorem dX5_addProduct_0 : decode cX5_addProduct 0 = .ok (.iconst 0, 1) := by decide +kernel
theorem dX5_addProduct_1 : decode cX5_addProduct 1 = .ok (.istore_n 3, 1) := by decide +kernel
theorem dX5_addProduct_2 : decode cX5_addProduct 2 = .ok (.iload_n 3, 1) := by decide +kernel
theorem dX5_addProduct_3 : decode cX5_addProduct 3 = .ok (.aload_n 1, 1) := by decide +kernel
theorem dX5_addProduct_4 : decode cX5_addProduct 4 = .ok (.getfield 18, 3) := by decide +kernel
theorem dX5_addProduct_7 : decode cX5_addProduct 7 = .ok (.if_icmp .ge 81, 3) := by decide +kernel
theorem dX5_addProduct_10 : decode cX5_addProduct 10 = .ok (.iload_n 3, 1) := by decide +kernel
theorem dX5_addProduct_11 : decode cX5_addProduct 11 = .ok (.bipush 32, 2) := by decide +kernel
theorem dX5_addProduct_13 : decode cX5_addProduct 13 = .ok (.if_icmp .ge 75, 3) := by decide +kernel
theorem dX5_addProduct_16 : decode cX5_addProduct 16 = .ok (.iconst 0, 1) := by decide +kernel
theorem dX5_addProduct_17 : decode cX5_addProduct 17 = .ok (.istore 4, 2) := by decide +kernel
theorem dX5_addProduct_19 : decode cX5_addProduct 19 = .ok (.iload 4, 2) := by decide +kernel
theorem dX5_addProduct_21 : decode cX5_addProduct 21 = .ok (.aload_n 2, 1) := by decide +kernel
theorem dX5_addProduct_22 : decode cX5_addProduct 22 = .ok (.getfield 18, 3) := by decide +kernel
theorem dX5_addProduct_25 : decode cX5_addProduct 25 = .ok (.if_icmp .ge 57, 3) := by decide +kernel
theorem dX5_addProduct_28 : decode cX5_addProduct 28 = .ok (.iload 4, 2) := by decide +kernel
theorem dX5_addProduct_30 : decode cX5_addProduct 30 = .ok (.bipush 32, 2) := by decide +kernel
theorem dX5_addProduct_32 : decode cX5_addProduct 32 = .ok (.if_icmp .ge 50, 3) := by decide +kernel
theorem dX5_addProduct_35 : decode cX5_addProduct 35 = .ok (.aload_n 1, 1) := by decide +kernel
theorem dX5_addProduct_36 : decode cX5_addProduct 36 = .ok (.getfield 9, 3) := by decide +kernel
theorem dX5_addProduct_39 : decode cX5_addProduct 39 = .ok (.iload_n 3, 1) := by decide +kernel
theorem dX5_addProduct_40 : decode cX5_addProduct 40 = .ok (.laload, 1) := by decide +kernel
theorem dX5_addProduct_41 : decode cX5_addProduct 41 = .ok (.aload_n 2, 1) := by decide +kernel
theorem dX5_addProduct_42 : decode cX5_addProduct 42 = .ok (.getfield 9, 3) := by decide +kernel
theorem dX5_addProduct_45 : decode cX5_addProduct 45 = .ok (.iload 4, 2) := by decide +kernel
theorem dX5_addProduct_47 : decode cX5_addProduct 47 = .ok (.laload, 1) := by decide +kernel
theorem dX5_addProduct_48 : decode cX5_addProduct 48 = .ok (.ladd, 1) := by decide +kernel
theorem dX5_addProduct_49 : decode cX5_addProduct 49 = .ok (.lstore 5, 2) := by decide +kernel
theorem dX5_addProduct_51 : decode cX5_addProduct 51 = .ok (.aload_n 0, 1) := by decide +kernel
theorem dX5_addProduct_52 : decode cX5_addProduct 52 = .ok (.lload 5, 2) := by decide +kernel
theorem dX5_addProduct_54 : decode cX5_addProduct 54 = .ok (.aload_n 1, 1) := by decide +kernel
theorem dX5_addProduct_55 : decode cX5_addProduct 55 = .ok (.getfield 15, 3) := by decide +kernel
theorem dX5_addProduct_58 : decode cX5_addProduct 58 = .ok (.iload_n 3, 1) := by decide +kernel
theorem dX5_addProduct_59 : decode cX5_addProduct 59 = .ok (.laload, 1) := by decide +kernel
theorem dX5_addProduct_60 : decode cX5_addProduct 60 = .ok (.aload_n 2, 1) := by decide +kernel
theorem dX5_addProduct_61 : decode cX5_addProduct 61 = .ok (.getfield 15, 3) := by decide +kernel
theorem dX5_addProduct_64 : decode cX5_addProduct 64 = .ok (.iload 4, 2) := by decide +kernel
theorem dX5_addProduct_66 : decode cX5_addProduct 66 = .ok (.laload, 1) := by decide +kernel
theorem dX5_addProduct_67 : decode cX5_addProduct 67 = .ok (.lmul, 1) := by decide +kernel
theorem dX5_addProduct_68 : decode cX5_addProduct 68 = .ok (.invokevirtual 30, 3) := by decide +kernel
theorem dX5_addProduct_71 : decode cX5_addProduct 71 = .ok (.ifCond .ne 5, 3) := by decide +kernel
theorem dX5_addProduct_74 : decode cX5_addProduct 74 = .ok (.iconst 0, 1) := by decide +kernel
theorem dX5_addProduct_75 : decode cX5_addProduct 75 = .ok (.ireturn, 1) := by decide +kernel
theorem dX5_addProduct_76 : decode cX5_addProduct 76 = .ok (.iinc 4 1, 3) := by decide +kernel
theorem dX5_addProduct_79 : decode cX5_addProduct 79 = .ok (.goto (-60), 3) := by decide +kernel
theorem dX5_addProduct_82 : decode cX5_addProduct 82 = .ok (.iinc 3 1, 3) := by decide +kernel
theorem dX5_addProduct_85 : decode cX5_addProduct 85 = .ok (.goto (-83), 3) := by decide +kernel
theorem dX5_addProduct_88 : decode cX5_addProduct 88 = .ok (.iconst 1, 1) := by decide +kernel
theorem dX5_addProduct_89 : decode cX5_addProduct 89 = .ok (.ireturn, 1) := by decide +kernel
theorem dX5_allTags_0 : decode cX5_allTags 0 = .ok (.lconst 0, 1) := by decide +kernel
theorem dX5_allTags_1 : decode cX5_allTags 1 = .ok (.lstore_n 1, 1) := by decide +kernel
theorem dX5_allTags_2 : decode cX5_allTags 2 = .ok (.iconst 0, 1) := by decide +kernel
theorem dX5_allTags_3 : decode cX5_allTags 3 = .ok (.istore_n 3, 1) := by decide +kernel
theorem dX5_allTags_4 : decode cX5_allTags 4 = .ok (.iload_n 3, 1) := by decide +kernel
theorem dX5_allTags_5 : decode cX5_allTags 5 = .ok (.aload_n 0, 1) := by decide +kernel
theorem dX5_allTags_6 : decode cX5_allTags 6 = .ok (.getfield 18, 3) := by decide +kernel
theorem dX5_allTags_9 : decode cX5_allTags 9 = .ok (.if_icmp .ge 17, 3) := by decide +kernel
theorem dX5_allTags_12 : decode cX5_allTags 12 = .ok (.lload_n 1, 1) := by decide +kernel
theorem dX5_allTags_13 : decode cX5_allTags 13 = .ok (.aload_n 0, 1) := by decide +kernel
theorem dX5_allTags_14 : decode cX5_allTags 14 = .ok (.iload_n 3, 1) := by decide +kernel
theorem dX5_allTags_15 : decode cX5_allTags 15 = .ok (.invokevirtual 34, 3) := by decide +kernel
theorem dX5_allTags_18 : decode cX5_allTags 18 = .ok (.lor, 1) := by decide +kernel
theorem dX5_allTags_19 : decode cX5_allTags 19 = .ok (.lstore_n 1, 1) := by decide +kernel
theorem dX5_allTags_20 : decode cX5_allTags 20 = .ok (.iinc 3 1, 3) := by decide +kernel
theorem dX5_allTags_23 : decode cX5_allTags 23 = .ok (.goto (-19), 3) := by decide +kernel
theorem dX5_allTags_26 : decode cX5_allTags 26 = .ok (.lload_n 1, 1) := by decide +kernel
theorem dX5_allTags_27 : decode cX5_allTags 27 = .ok (.invokestatic 38, 3) := by decide +kernel
theorem dX5_allTags_30 : decode cX5_allTags 30 = .ok (.ireturn, 1) := by decide +kernel
theorem dX5_hasTermWithout_0 : decode cX5_hasTermWithout 0 = .ok (.iconst 0, 1) := by decide +kernel
theorem dX5_hasTermWithout_1 : decode cX5_hasTermWithout 1 = .ok (.istore_n 3, 1) := by decide +kernel
theorem dX5_hasTermWithout_2 : decode cX5_hasTermWithout 2 = .ok (.iload_n 3, 1) := by decide +kernel
theorem dX5_hasTermWithout_3 : decode cX5_hasTermWithout 3 = .ok (.aload_n 0, 1) := by decide +kernel
theorem dX5_hasTermWithout_4 : decode cX5_hasTermWithout 4 = .ok (.getfield 18, 3) := by decide +kernel
theorem dX5_hasTermWithout_7 : decode cX5_hasTermWithout 7 = .ok (.if_icmp .ge 23, 3) := by decide +kernel
theorem dX5_hasTermWithout_10 : decode cX5_hasTermWithout 10 = .ok (.aload_n 0, 1) := by decide +kernel
theorem dX5_hasTermWithout_11 : decode cX5_hasTermWithout 11 = .ok (.iload_n 3, 1) := by decide +kernel
theorem dX5_hasTermWithout_12 : decode cX5_hasTermWithout 12 = .ok (.invokevirtual 34, 3) := by decide +kernel
theorem dX5_hasTermWithout_15 : decode cX5_hasTermWithout 15 = .ok (.lload_n 1, 1) := by decide +kernel
theorem dX5_hasTermWithout_16 : decode cX5_hasTermWithout 16 = .ok (.land, 1) := by decide +kernel
theorem dX5_hasTermWithout_17 : decode cX5_hasTermWithout 17 = .ok (.lconst 0, 1) := by decide +kernel
theorem dX5_hasTermWithout_18 : decode cX5_hasTermWithout 18 = .ok (.lcmp, 1) := by decide +kernel
theorem dX5_hasTermWithout_19 : decode cX5_hasTermWithout 19 = .ok (.ifCond .ne 5, 3) := by decide +kernel
theorem dX5_hasTermWithout_22 : decode cX5_hasTermWithout 22 = .ok (.iconst 1, 1) := by decide +kernel
theorem dX5_hasTermWithout_23 : decode cX5_hasTermWithout 23 = .ok (.ireturn, 1) := by decide +kernel
theorem dX5_hasTermWithout_24 : decode cX5_hasTermWithout 24 = .ok (.iinc 3 1, 3) := by decide +kernel
theorem dX5_hasTermWithout_27 : decode cX5_hasTermWithout 27 = .ok (.goto (-25), 3) := by decide +kernel
theorem dX5_hasTermWithout_30 : decode cX5_hasTermWithout 30 = .ok (.iconst 0, 1) := by decide +kernel
theorem dX5_hasTermWithout_31 : decode cX5_hasTermWithout 31 = .ok (.ireturn, 1) := by decide +kernel
theorem dX5_setToAvailable_0 : decode cX5_setToAvailable 0 = .ok (.iload_n 2, 1) := by decide +kernel
theorem dX5_setToAvailable_1 : decode cX5_setToAvailable 1 = .ok (.invokestatic 42, 3) := by decide +kernel
theorem dX5_setToAvailable_4 : decode cX5_setToAvailable 4 = .ok (.lstore_n 3, 1) := by decide +kernel
theorem dX5_setToAvailable_5 : decode cX5_setToAvailable 5 = .ok (.aload_n 0, 1) := by decide +kernel
theorem dX5_setToAvailable_6 : decode cX5_setToAvailable 6 = .ok (.invokevirtual 45, 3) := by decide +kernel
theorem dX5_setToAvailable_9 : decode cX5_setToAvailable 9 = .ok (.iconst 0, 1) := by decide +kernel
theorem dX5_setToAvailable_10 : decode cX5_setToAvailable 10 = .ok (.istore 5, 2) := by decide +kernel
theorem dX5_setToAvailable_12 : decode cX5_setToAvailable 12 = .ok (.iload 5, 2) := by decide +kernel
theorem dX5_setToAvailable_14 : decode cX5_setToAvailable 14 = .ok (.aload_n 1, 1) := by decide +kernel
theorem dX5_setToAvailable_15 : decode cX5_setToAvailable 15 = .ok (.invokevirtual 48, 3) := by decide +kernel
theorem dX5_setToAvailable_18 : decode cX5_setToAvailable 18 = .ok (.if_icmp .ge 39, 3) := by decide +kernel
theorem dX5_setToAvailable_21 : decode cX5_setToAvailable 21 = .ok (.aload_n 1, 1) := by decide +kernel
theorem dX5_setToAvailable_22 : decode cX5_setToAvailable 22 = .ok (.iload 5, 2) := by decide +kernel
theorem dX5_setToAvailable_24 : decode cX5_setToAvailable 24 = .ok (.invokevirtual 34, 3) := by decide +kernel
theorem dX5_setToAvailable_27 : decode cX5_setToAvailable 27 = .ok (.lload_n 3, 1) := by decide +kernel
theorem dX5_setToAvailable_28 : decode cX5_setToAvailable 28 = .ok (.land, 1) := by decide +kernel
theorem dX5_setToAvailable_29 : decode cX5_setToAvailable 29 = .ok (.lconst 0, 1) := by decide +kernel
theorem dX5_setToAvailable_30 : decode cX5_setToAvailable 30 = .ok (.lcmp, 1) := by decide +kernel
theorem dX5_setToAvailable_31 : decode cX5_setToAvailable 31 = .ok (.ifCond .ne 20, 3) := by decide +kernel
theorem dX5_setToAvailable_34 : decode cX5_setToAvailable 34 = .ok (.aload_n 0, 1) := by decide +kernel
theorem dX5_setToAvailable_35 : decode cX5_setToAvailable 35 = .ok (.aload_n 1, 1) := by decide +kernel
theorem dX5_setToAvailable_36 : decode cX5_setToAvailable 36 = .ok (.iload 5, 2) := by decide +kernel
theorem dX5_setToAvailable_38 : decode cX5_setToAvailable 38 = .ok (.invokevirtual 34, 3) := by decide +kernel
theorem dX5_setToAvailable_41 : decode cX5_setToAvailable 41 = .ok (.aload_n 1, 1) := by decide +kernel
theorem dX5_setToAvailable_42 : decode cX5_setToAvailable 42 = .ok (.iload 5, 2) := by decide +kernel
theorem dX5_setToAvailable_44 : decode cX5_setToAvailable 44 = .ok (.invokevirtual 51, 3) := by decide +kernel
theorem dX5_setToAvailable_47 : decode cX5_setToAvailable 47 = .ok (.invokevirtual 30, 3) := by decide +kernel
theorem dX5_setToAvailable_50 : decode cX5_setToAvailable 50 = .ok (.pop, 1) := by decide +kernel
theorem dX5_setToAvailable_51 : decode cX5_setToAvailable 51 = .ok (.iinc 5 1, 3) := by decide +kernel
theorem dX5_setToAvailable_54 : decode cX5_setToAvailable 54 = .ok (.goto (-42), 3) := by decide +kernel
theorem dX5_setToAvailable_57 : decode cX5_setToAvailable 57 = .ok (.return_, 1) := by decide +kernel
theorem dX5_setToForm_0 : decode cX5_setToForm 0 = .ok (.aload_n 0, 1) := by decide +kernel
theorem dX5_setToForm_1 : decode cX5_setToForm 1 = .ok (.invokevirtual 45, 3) := by decide +kernel
theorem dX5_setToForm_4 : decode cX5_setToForm 4 = .ok (.iconst 0, 1) := by decide +kernel
theorem dX5_setToForm_5 : decode cX5_setToForm 5 = .ok (.istore_n 3, 1) := by decide +kernel
theorem dX5_setToForm_6 : decode cX5_setToForm 6 = .ok (.iload_n 3, 1) := by decide +kernel
theorem dX5_setToForm_7 : decode cX5_setToForm 7 = .ok (.aload_n 1, 1) := by decide +kernel
theorem dX5_setToForm_8 : decode cX5_setToForm 8 = .ok (.invokevirtual 48, 3) := by decide +kernel
theorem dX5_setToForm_11 : decode cX5_setToForm 11 = .ok (.if_icmp .ge 41, 3) := by decide +kernel
theorem dX5_setToForm_14 : decode cX5_setToForm 14 = .ok (.aload_n 1, 1) := by decide +kernel
theorem dX5_setToForm_15 : decode cX5_setToForm 15 = .ok (.iload_n 3, 1) := by decide +kernel
theorem dX5_setToForm_16 : decode cX5_setToForm 16 = .ok (.invokevirtual 34, 3) := by decide +kernel
theorem dX5_setToForm_19 : decode cX5_setToForm 19 = .ok (.lstore 4, 2) := by decide +kernel
theorem dX5_setToForm_21 : decode cX5_setToForm 21 = .ok (.aload_n 0, 1) := by decide +kernel
theorem dX5_setToForm_22 : decode cX5_setToForm 22 = .ok (.iload_n 2, 1) := by decide +kernel
theorem dX5_setToForm_23 : decode cX5_setToForm 23 = .ok (.iconst 2, 1) := by decide +kernel
theorem dX5_setToForm_24 : decode cX5_setToForm 24 = .ok (.if_icmp .ge 8, 3) := by decide +kernel
theorem dX5_setToForm_27 : decode cX5_setToForm 27 = .ok (.lload 4, 2) := by decide +kernel
theorem dX5_setToForm_29 : decode cX5_setToForm 29 = .ok (.goto 8, 3) := by decide +kernel
theorem dX5_setToForm_32 : decode cX5_setToForm 32 = .ok (.lload 4, 2) := by decide +kernel
theorem dX5_setToForm_34 : decode cX5_setToForm 34 = .ok (.invokestatic 54, 3) := by decide +kernel
theorem dX5_setToForm_37 : decode cX5_setToForm 37 = .ok (.aload_n 1, 1) := by decide +kernel
theorem dX5_setToForm_38 : decode cX5_setToForm 38 = .ok (.iload_n 3, 1) := by decide +kernel
theorem dX5_setToForm_39 : decode cX5_setToForm 39 = .ok (.invokevirtual 51, 3) := by decide +kernel
theorem dX5_setToForm_42 : decode cX5_setToForm 42 = .ok (.invokevirtual 30, 3) := by decide +kernel
theorem dX5_setToForm_45 : decode cX5_setToForm 45 = .ok (.pop, 1) := by decide +kernel
theorem dX5_setToForm_46 : decode cX5_setToForm 46 = .ok (.iinc 3 1, 3) := by decide +kernel
theorem dX5_setToForm_49 : decode cX5_setToForm 49 = .ok (.goto (-43), 3) := by decide +kernel
theorem dX5_setToForm_52 : decode cX5_setToForm 52 = .ok (.iload_n 2, 1) := by decide +kernel
theorem dX5_setToForm_53 : decode cX5_setToForm 53 = .ok (.iconst 4, 1) := by decide +kernel
theorem dX5_setToForm_54 : decode cX5_setToForm 54 = .ok (.if_icmp .ne 7, 3) := by decide +kernel
theorem dX5_setToForm_57 : decode cX5_setToForm 57 = .ok (.aload_n 0, 1) := by decide +kernel
theorem dX5_setToForm_58 : decode cX5_setToForm 58 = .ok (.invokevirtual 58, 3) := by decide +kernel
theorem dX5_setToForm_61 : decode cX5_setToForm 61 = .ok (.iload_n 2, 1) := by decide +kernel
theorem dX5_setToForm_62 : decode cX5_setToForm 62 = .ok (.ifCond .eq 12, 3) := by decide +kernel
theorem dX5_setToForm_65 : decode cX5_setToForm 65 = .ok (.iload_n 2, 1) := by decide +kernel
theorem dX5_setToForm_66 : decode cX5_setToForm 66 = .ok (.iconst 2, 1) := by decide +kernel
theorem dX5_setToForm_67 : decode cX5_setToForm 67 = .ok (.if_icmp .eq 7, 3) := by decide +kernel
theorem dX5_setToForm_70 : decode cX5_setToForm 70 = .ok (.aload_n 0, 1) := by decide +kernel
theorem dX5_setToForm_71 : decode cX5_setToForm 71 = .ok (.invokevirtual 61, 3) := by decide +kernel
theorem dX5_setToForm_74 : decode cX5_setToForm 74 = .ok (.return_, 1) := by decide +kernel
theorem dX5_setFactorsToOne_0 : decode cX5_setFactorsToOne 0 = .ok (.iconst 0, 1) := by decide +kernel
theorem dX5_setFactorsToOne_1 : decode cX5_setFactorsToOne 1 = .ok (.istore_n 1, 1) := by decide +kernel
theorem dX5_setFactorsToOne_2 : decode cX5_setFactorsToOne 2 = .ok (.iload_n 1, 1) := by decide +kernel
theorem dX5_setFactorsToOne_3 : decode cX5_setFactorsToOne 3 = .ok (.aload_n 0, 1) := by decide +kernel
theorem dX5_setFactorsToOne_4 : decode cX5_setFactorsToOne 4 = .ok (.getfield 18, 3) := by decide +kernel
theorem dX5_setFactorsToOne_7 : decode cX5_setFactorsToOne 7 = .ok (.if_icmp .ge 22, 3) := by decide +kernel
theorem dX5_setFactorsToOne_10 : decode cX5_setFactorsToOne 10 = .ok (.iload_n 1, 1) := by decide +kernel
theorem dX5_setFactorsToOne_11 : decode cX5_setFactorsToOne 11 = .ok (.bipush 32, 2) := by decide +kernel
theorem dX5_setFactorsToOne_13 : decode cX5_setFactorsToOne 13 = .ok (.if_icmp .ge 16, 3) := by decide +kernel
theorem dX5_setFactorsToOne_16 : decode cX5_setFactorsToOne 16 = .ok (.aload_n 0, 1) := by decide +kernel
theorem dX5_setFactorsToOne_17 : decode cX5_setFactorsToOne 17 = .ok (.getfield 15, 3) := by decide +kernel
theorem dX5_setFactorsToOne_20 : decode cX5_setFactorsToOne 20 = .ok (.iload_n 1, 1) := by decide +kernel
theorem dX5_setFactorsToOne_21 : decode cX5_setFactorsToOne 21 = .ok (.lconst 1, 1) := by decide +kernel
theorem dX5_setFactorsToOne_22 : decode cX5_setFactorsToOne 22 = .ok (.lastore, 1) := by decide +kernel
theorem dX5_setFactorsToOne_23 : decode cX5_setFactorsToOne 23 = .ok (.iinc 1 1, 3) := by decide +kernel
theorem dX5_setFactorsToOne_26 : decode cX5_setFactorsToOne 26 = .ok (.goto (-24), 3) := by decide +kernel
theorem dX5_setFactorsToOne_29 : decode cX5_setFactorsToOne 29 = .ok (.return_, 1) := by decide +kernel
theorem dX5_dropContaining_0 : decode cX5_dropContaining 0 = .ok (.iconst 0, 1) := by decide +kernel
theorem dX5_dropContaining_1 : decode cX5_dropContaining 1 = .ok (.istore_n 1, 1) := by decide +kernel
theorem dX5_dropContaining_2 : decode cX5_dropContaining 2 = .ok (.iconst 0, 1) := by decide +kernel
theorem dX5_dropContaining_3 : decode cX5_dropContaining 3 = .ok (.istore_n 2, 1) := by decide +kernel
theorem dX5_dropContaining_4 : decode cX5_dropContaining 4 = .ok (.iload_n 2, 1) := by decide +kernel
theorem dX5_dropContaining_5 : decode cX5_dropContaining 5 = .ok (.aload_n 0, 1) := by decide +kernel
theorem dX5_dropContaining_6 : decode cX5_dropContaining 6 = .ok (.getfield 18, 3) := by decide +kernel
theorem dX5_dropContaining_9 : decode cX5_dropContaining 9 = .ok (.if_icmp .ge 23, 3) := by decide +kernel
theorem dX5_dropContaining_12 : decode cX5_dropContaining 12 = .ok (.aload_n 0, 1) := by decide +kernel
theorem dX5_dropContaining_13 : decode cX5_dropContaining 13 = .ok (.iload_n 2, 1) := by decide +kernel
theorem dX5_dropContaining_14 : decode cX5_dropContaining 14 = .ok (.invokevirtual 64, 3) := by decide +kernel
theorem dX5_dropContaining_17 : decode cX5_dropContaining 17 = .ok (.ifCond .eq 9, 3) := by decide +kernel
theorem dX5_dropContaining_20 : decode cX5_dropContaining 20 = .ok (.iload_n 1, 1) := by decide +kernel
theorem dX5_dropContaining_21 : decode cX5_dropContaining 21 = .ok (.iconst 1, 1) := by decide +kernel
theorem dX5_dropContaining_22 : decode cX5_dropContaining 22 = .ok (.iload_n 2, 1) := by decide +kernel
theorem dX5_dropContaining_23 : decode cX5_dropContaining 23 = .ok (.ishl, 1) := by decide +kernel
theorem dX5_dropContaining_24 : decode cX5_dropContaining 24 = .ok (.ior, 1) := by decide +kernel
theorem dX5_dropContaining_25 : decode cX5_dropContaining 25 = .ok (.istore_n 1, 1) := by decide +kernel
theorem dX5_dropContaining_26 : decode cX5_dropContaining 26 = .ok (.iinc 2 1, 3) := by decide +kernel
theorem dX5_dropContaining_29 : decode cX5_dropContaining 29 = .ok (.goto (-25), 3) := by decide +kernel
theorem dX5_dropContaining_32 : decode cX5_dropContaining 32 = .ok (.iconst 0, 1) := by decide +kernel
theorem dX5_dropContaining_33 : decode cX5_dropContaining 33 = .ok (.istore_n 2, 1) := by decide +kernel
theorem dX5_dropContaining_34 : decode cX5_dropContaining 34 = .ok (.iconst 0, 1) := by decide +kernel
theorem dX5_dropContaining_35 : decode cX5_dropContaining 35 = .ok (.istore_n 3, 1) := by decide +kernel
theorem dX5_dropContaining_36 : decode cX5_dropContaining 36 = .ok (.iload_n 3, 1) := by decide +kernel
theorem dX5_dropContaining_37 : decode cX5_dropContaining 37 = .ok (.aload_n 0, 1) := by decide +kernel
theorem dX5_dropContaining_38 : decode cX5_dropContaining 38 = .ok (.getfield 18, 3) := by decide +kernel
theorem dX5_dropContaining_41 : decode cX5_dropContaining 41 = .ok (.if_icmp .ge 55, 3) := by decide +kernel
theorem dX5_dropContaining_44 : decode cX5_dropContaining 44 = .ok (.iload_n 3, 1) := by decide +kernel
theorem dX5_dropContaining_45 : decode cX5_dropContaining 45 = .ok (.bipush 32, 2) := by decide +kernel
theorem dX5_dropContaining_47 : decode cX5_dropContaining 47 = .ok (.if_icmp .ge 49, 3) := by decide +kernel
theorem dX5_dropContaining_50 : decode cX5_dropContaining 50 = .ok (.iload_n 1, 1) := by decide +kernel
theorem dX5_dropContaining_51 : decode cX5_dropContaining 51 = .ok (.iload_n 3, 1) := by decide +kernel
theorem dX5_dropContaining_52 : decode cX5_dropContaining 52 = .ok (.ishr, 1) := by decide +kernel
theorem dX5_dropContaining_53 : decode cX5_dropContaining 53 = .ok (.iconst 1, 1) := by decide +kernel
theorem dX5_dropContaining_54 : decode cX5_dropContaining 54 = .ok (.iand, 1) := by decide +kernel
theorem dX5_dropContaining_55 : decode cX5_dropContaining 55 = .ok (.ifCond .ne 35, 3) := by decide +kernel
theorem dX5_dropContaining_58 : decode cX5_dropContaining 58 = .ok (.iload_n 2, 1) := by decide +kernel
theorem dX5_dropContaining_59 : decode cX5_dropContaining 59 = .ok (.iload_n 3, 1) := by decide +kernel
theorem dX5_dropContaining_60 : decode cX5_dropContaining 60 = .ok (.if_icmp .gt 30, 3) := by decide +kernel
theorem dX5_dropContaining_63 : decode cX5_dropContaining 63 = .ok (.aload_n 0, 1) := by decide +kernel
theorem dX5_dropContaining_64 : decode cX5_dropContaining 64 = .ok (.getfield 9, 3) := by decide +kernel
theorem dX5_dropContaining_67 : decode cX5_dropContaining 67 = .ok (.iload_n 2, 1) := by decide +kernel
theorem dX5_dropContaining_68 : decode cX5_dropContaining 68 = .ok (.aload_n 0, 1) := by decide +kernel
theorem dX5_dropContaining_69 : decode cX5_dropContaining 69 = .ok (.getfield 9, 3) := by decide +kernel
theorem dX5_dropContaining_72 : decode cX5_dropContaining 72 = .ok (.iload_n 3, 1) := by decide +kernel
theorem dX5_dropContaining_73 : decode cX5_dropContaining 73 = .ok (.laload, 1) := by decide +kernel
theorem dX5_dropContaining_74 : decode cX5_dropContaining 74 = .ok (.lastore, 1) := by decide +kernel
theorem dX5_dropContaining_75 : decode cX5_dropContaining 75 = .ok (.aload_n 0, 1) := by decide +kernel
theorem dX5_dropContaining_76 : decode cX5_dropContaining 76 = .ok (.getfield 15, 3) := by decide +kernel
theorem dX5_dropContaining_79 : decode cX5_dropContaining 79 = .ok (.iload_n 2, 1) := by decide +kernel
theorem dX5_dropContaining_80 : decode cX5_dropContaining 80 = .ok (.aload_n 0, 1) := by decide +kernel
theorem dX5_dropContaining_81 : decode cX5_dropContaining 81 = .ok (.getfield 15, 3) := by decide +kernel
theorem dX5_dropContaining_84 : decode cX5_dropContaining 84 = .ok (.iload_n 3, 1) := by decide +kernel
theorem dX5_dropContaining_85 : decode cX5_dropContaining 85 = .ok (.laload, 1) := by decide +kernel
theorem dX5_dropContaining_86 : decode cX5_dropContaining 86 = .ok (.lastore, 1) := by decide +kernel
theorem dX5_dropContaining_87 : decode cX5_dropContaining 87 = .ok (.iinc 2 1, 3) := by decide +kernel
theorem dX5_dropContaining_90 : decode cX5_dropContaining 90 = .ok (.iinc 3 1, 3) := by decide +kernel
theorem dX5_dropContaining_93 : decode cX5_dropContaining 93 = .ok (.goto (-57), 3) := by decide +kernel
theorem dX5_dropContaining_96 : decode cX5_dropContaining 96 = .ok (.aload_n 0, 1) := by decide +kernel
theorem dX5_dropContaining_97 : decode cX5_dropContaining 97 = .ok (.iload_n 2, 1) := by decide +kernel
theorem dX5_dropContaining_98 : decode cX5_dropContaining 98 = .ok (.putfield 18, 3) := by decide +kernel
theorem dX5_dropContaining_101 : decode cX5_dropContaining 101 = .ok (.return_, 1) := by decide +kernel
theorem dX5_containsAnother_0 : decode cX5_containsAnother 0 = .ok (.aload_n 0, 1) := by decide +kernel
theorem dX5_containsAnother_1 : decode cX5_containsAnother 1 = .ok (.iload_n 1, 1) := by decide +kernel
theorem dX5_containsAnother_2 : decode cX5_containsAnother 2 = .ok (.invokevirtual 34, 3) := by decide +kernel
theorem dX5_containsAnother_5 : decode cX5_containsAnother 5 = .ok (.lstore_n 2, 1) := by decide +kernel
theorem dX5_containsAnother_6 : decode cX5_containsAnother 6 = .ok (.iconst 0, 1) := by decide +kernel
theorem dX5_containsAnother_7 : decode cX5_containsAnother 7 = .ok (.istore 4, 2) := by decide +kernel
theorem dX5_containsAnother_9 : decode cX5_containsAnother 9 = .ok (.iload 4, 2) := by decide +kernel
theorem dX5_containsAnother_11 : decode cX5_containsAnother 11 = .ok (.aload_n 0, 1) := by decide +kernel
theorem dX5_containsAnother_12 : decode cX5_containsAnother 12 = .ok (.getfield 18, 3) := by decide +kernel
theorem dX5_containsAnother_15 : decode cX5_containsAnother 15 = .ok (.if_icmp .ge 35, 3) := by decide +kernel
theorem dX5_containsAnother_18 : decode cX5_containsAnother 18 = .ok (.aload_n 0, 1) := by decide +kernel
theorem dX5_containsAnother_19 : decode cX5_containsAnother 19 = .ok (.iload 4, 2) := by decide +kernel
theorem dX5_containsAnother_21 : decode cX5_containsAnother 21 = .ok (.invokevirtual 34, 3) := by decide +kernel
theorem dX5_containsAnother_24 : decode cX5_containsAnother 24 = .ok (.lstore 5, 2) := by decide +kernel
theorem dX5_containsAnother_26 : decode cX5_containsAnother 26 = .ok (.iload 4, 2) := by decide +kernel
theorem dX5_containsAnother_28 : decode cX5_containsAnother 28 = .ok (.iload_n 1, 1) := by decide +kernel
theorem dX5_containsAnother_29 : decode cX5_containsAnother 29 = .ok (.if_icmp .eq 15, 3) := by decide +kernel
theorem dX5_containsAnother_32 : decode cX5_containsAnother 32 = .ok (.lload_n 2, 1) := by decide +kernel
theorem dX5_containsAnother_33 : decode cX5_containsAnother 33 = .ok (.lload 5, 2) := by decide +kernel
theorem dX5_containsAnother_35 : decode cX5_containsAnother 35 = .ok (.land, 1) := by decide +kernel
theorem dX5_containsAnother_36 : decode cX5_containsAnother 36 = .ok (.lload 5, 2) := by decide +kernel
theorem dX5_containsAnother_38 : decode cX5_containsAnother 38 = .ok (.lcmp, 1) := by decide +kernel
theorem dX5_containsAnother_39 : decode cX5_containsAnother 39 = .ok (.ifCond .ne 5, 3) := by decide +kernel
theorem dX5_containsAnother_42 : decode cX5_containsAnother 42 = .ok (.iconst 1, 1) := by decide +kernel
theorem dX5_containsAnother_43 : decode cX5_containsAnother 43 = .ok (.ireturn, 1) := by decide +kernel
theorem dX5_containsAnother_44 : decode cX5_containsAnother 44 = .ok (.iinc 4 1, 3) := by decide +kernel
theorem dX5_containsAnother_47 : decode cX5_containsAnother 47 = .ok (.goto (-38), 3) := by decide +kernel
theorem dX5_containsAnother_50 : decode cX5_containsAnother 50 = .ok (.iconst 0, 1) := by decide +kernel
theorem dX5_containsAnother_51 : decode cX5_containsAnother 51 = .ok (.ireturn, 1) := by decide +kernel
theorem dX6_init_0 : decode cX6_init 0 = .ok (.aload_n 0, 1) := by decide +kernel
theorem dX6_init_1 : decode cX6_init 1 = .ok (.invokespecial 3, 3) := by decide +kernel
theorem dX6_init_4 : decode cX6_init 4 = .ok (.aload_n 0, 1) := by decide +kernel
theorem dX6_init_5 : decode cX6_init 5 = .ok (.bipush 60, 2) := by decide +kernel
theorem dX6_init_7 : decode cX6_init 7 = .ok (.newarray .int, 2) := by decide +kernel
theorem dX6_init_9 : decode cX6_init 9 = .ok (.putfield 9, 3) := by decide +kernel
theorem dX6_init_12 : decode cX6_init 12 = .ok (.aload_n 0, 1) := by decide +kernel
theorem dX6_init_13 : decode cX6_init 13 = .ok (.bipush 60, 2) := by decide +kernel
theorem dX6_init_15 : decode cX6_init 15 = .ok (.newarray .int, 2) := by decide +kernel
theorem dX6_init_17 : decode cX6_init 17 = .ok (.putfield 15, 3) := by decide +kernel
theorem dX6_init_20 : decode cX6_init 20 = .ok (.aload_n 0, 1) := by decide +kernel
theorem dX6_init_21 : decode cX6_init 21 = .ok (.bipush 60, 2) := by decide +kernel
theorem dX6_init_23 : decode cX6_init 23 = .ok (.newarray .int, 2) := by decide +kernel
theorem dX6_init_25 : decode cX6_init 25 = .ok (.putfield 18, 3) := by decide +kernel
theorem dX6_init_28 : decode cX6_init 28 = .ok (.aload_n 0, 1) := by decide +kernel
theorem dX6_init_29 : decode cX6_init 29 = .ok (.bipush 60, 2) := by decide +kernel
theorem dX6_init_31 : decode cX6_init 31 = .ok (.newarray .int, 2) := by decide +kernel
theorem dX6_init_33 : decode cX6_init 33 = .ok (.putfield 21, 3) := by decide +kernel
theorem dX6_init_36 : decode cX6_init 36 = .ok (.aload_n 0, 1) := by decide +kernel
theorem dX6_init_37 : decode cX6_init 37 = .ok (.bipush 120, 2) := by decide +kernel
theorem dX6_init_39 : decode cX6_init 39 = .ok (.newarray .char, 2) := by decide +kernel
theorem dX6_init_41 : decode cX6_init 41 = .ok (.putfield 24, 3) := by decide +kernel
theorem dX6_init_44 : decode cX6_init 44 = .ok (.return_, 1) := by decide +kernel
theorem dX6_isWhole_0 : decode cX6_isWhole 0 = .ok (.aload_n 0, 1) := by decide +kernel
theorem dX6_isWhole_1 : decode cX6_isWhole 1 = .ok (.getfield 28, 3) := by decide +kernel
theorem dX6_isWhole_4 : decode cX6_isWhole 4 = .ok (.ireturn, 1) := by decide +kernel
theorem dX6_size_0 : decode cX6_size 0 = .ok (.aload_n 0, 1) := by decide +kernel
theorem dX6_size_1 : decode cX6_size 1 = .ok (.getfield 32, 3) := by decide +kernel
theorem dX6_size_4 : decode cX6_size 4 = .ok (.ireturn, 1) := by decide +kernel
theorem dX6_stoppedAt_0 : decode cX6_stoppedAt 0 = .ok (.aload_n 0, 1) := by decide +kernel
theorem dX6_stoppedAt_1 : decode cX6_stoppedAt 1 = .ok (.getfield 36, 3) := by decide +kernel
theorem dX6_stoppedAt_4 : decode cX6_stoppedAt 4 = .ok (.ireturn, 1) := by decide +kernel
theorem dX6_kindAt_0 : decode cX6_kindAt 0 = .ok (.aload_n 0, 1) := by decide +kernel
theorem dX6_kindAt_1 : decode cX6_kindAt 1 = .ok (.iload_n 1, 1) := by decide +kernel
theorem dX6_kindAt_2 : decode cX6_kindAt 2 = .ok (.invokevirtual 39, 3) := by decide +kernel
theorem dX6_kindAt_5 : decode cX6_kindAt 5 = .ok (.ifCond .eq 12, 3) := by decide +kernel
theorem dX6_kindAt_8 : decode cX6_kindAt 8 = .ok (.aload_n 0, 1) := by decide +kernel
theorem dX6_kindAt_9 : decode cX6_kindAt 9 = .ok (.getfield 9, 3) := by decide +kernel
theorem dX6_kindAt_12 : decode cX6_kindAt 12 = .ok (.iload_n 1, 1) := by decide +kernel
theorem dX6_kindAt_13 : decode cX6_kindAt 13 = .ok (.iaload, 1) := by decide +kernel
theorem dX6_kindAt_14 : decode cX6_kindAt 14 = .ok (.goto 4, 3) := by decide +kernel
theorem dX6_kindAt_17 : decode cX6_kindAt 17 = .ok (.iconst (-1), 1) := by decide +kernel
theorem dX6_kindAt_18 : decode cX6_kindAt 18 = .ok (.ireturn, 1) := by decide +kernel
theorem dX6_firstAt_0 : decode cX6_firstAt 0 = .ok (.aload_n 0, 1) := by decide +kernel
theorem dX6_firstAt_1 : decode cX6_firstAt 1 = .ok (.iload_n 1, 1) := by decide +kernel
theorem dX6_firstAt_2 : decode cX6_firstAt 2 = .ok (.invokevirtual 39, 3) := by decide +kernel
theorem dX6_firstAt_5 : decode cX6_firstAt 5 = .ok (.ifCond .eq 12, 3) := by decide +kernel
theorem dX6_firstAt_8 : decode cX6_firstAt 8 = .ok (.aload_n 0, 1) := by decide +kernel
theorem dX6_firstAt_9 : decode cX6_firstAt 9 = .ok (.getfield 15, 3) := by decide +kernel
theorem dX6_firstAt_12 : decode cX6_firstAt 12 = .ok (.iload_n 1, 1) := by decide +kernel
theorem dX6_firstAt_13 : decode cX6_firstAt 13 = .ok (.iaload, 1) := by decide +kernel
theorem dX6_firstAt_14 : decode cX6_firstAt 14 = .ok (.goto 4, 3) := by decide +kernel
theorem dX6_firstAt_17 : decode cX6_firstAt 17 = .ok (.iconst 0, 1) := by decide +kernel
theorem dX6_firstAt_18 : decode cX6_firstAt 18 = .ok (.ireturn, 1) := by decide +kernel
theorem dX6_secondAt_0 : decode cX6_secondAt 0 = .ok (.aload_n 0, 1) := by decide +kernel
theorem dX6_secondAt_1 : decode cX6_secondAt 1 = .ok (.iload_n 1, 1) := by decide +kernel
theorem dX6_secondAt_2 : decode cX6_secondAt 2 = .ok (.invokevirtual 39, 3) := by decide +kernel
theorem dX6_secondAt_5 : decode cX6_secondAt 5 = .ok (.ifCond .eq 12, 3) := by decide +kernel
theorem dX6_secondAt_8 : decode cX6_secondAt 8 = .ok (.aload_n 0, 1) := by decide +kernel
theorem dX6_secondAt_9 : decode cX6_secondAt 9 = .ok (.getfield 18, 3) := by decide +kernel
theorem dX6_secondAt_12 : decode cX6_secondAt 12 = .ok (.iload_n 1, 1) := by decide +kernel
theorem dX6_secondAt_13 : decode cX6_secondAt 13 = .ok (.iaload, 1) := by decide +kernel
theorem dX6_secondAt_14 : decode cX6_secondAt 14 = .ok (.goto 4, 3) := by decide +kernel
theorem dX6_secondAt_17 : decode cX6_secondAt 17 = .ok (.iconst 0, 1) := by decide +kernel
theorem dX6_secondAt_18 : decode cX6_secondAt 18 = .ok (.ireturn, 1) := by decide +kernel
theorem dX6_partsOf_0 : decode cX6_partsOf 0 = .ok (.iload_n 0, 1) := by decide +kernel
theorem dX6_partsOf_1 : decode cX6_partsOf 1 = .ok (.ifCond .ne 5, 3) := by decide +kernel
theorem dX6_partsOf_4 : decode cX6_partsOf 4 = .ok (.iconst 0, 1) := by decide +kernel
theorem dX6_partsOf_5 : decode cX6_partsOf 5 = .ok (.ireturn, 1) := by decide +kernel
theorem dX6_partsOf_6 : decode cX6_partsOf 6 = .ok (.iload_n 0, 1) := by decide +kernel
theorem dX6_partsOf_7 : decode cX6_partsOf 7 = .ok (.iconst 4, 1) := by decide +kernel
theorem dX6_partsOf_8 : decode cX6_partsOf 8 = .ok (.if_icmp .eq 8, 3) := by decide +kernel
theorem dX6_partsOf_11 : decode cX6_partsOf 11 = .ok (.iload_n 0, 1) := by decide +kernel
theorem dX6_partsOf_12 : decode cX6_partsOf 12 = .ok (.iconst 5, 1) := by decide +kernel
theorem dX6_partsOf_13 : decode cX6_partsOf 13 = .ok (.if_icmp .ne 7, 3) := by decide +kernel
theorem dX6_partsOf_16 : decode cX6_partsOf 16 = .ok (.iconst 2, 1) := by decide +kernel
theorem dX6_partsOf_17 : decode cX6_partsOf 17 = .ok (.goto 4, 3) := by decide +kernel
theorem dX6_partsOf_20 : decode cX6_partsOf 20 = .ok (.iconst 1, 1) := by decide +kernel
theorem dX6_partsOf_21 : decode cX6_partsOf 21 = .ok (.ireturn, 1) := by decide +kernel
theorem dX6_read_0 : decode cX6_read 0 = .ok (.aload_n 0, 1) := by decide +kernel
theorem dX6_read_1 : decode cX6_read 1 = .ok (.aload_n 1, 1) := by decide +kernel
theorem dX6_read_2 : decode cX6_read 2 = .ok (.putfield 43, 3) := by decide +kernel
theorem dX6_read_5 : decode cX6_read 5 = .ok (.aload_n 0, 1) := by decide +kernel
theorem dX6_read_6 : decode cX6_read 6 = .ok (.iconst 0, 1) := by decide +kernel
theorem dX6_read_7 : decode cX6_read 7 = .ok (.putfield 32, 3) := by decide +kernel
theorem dX6_read_10 : decode cX6_read 10 = .ok (.aload_n 0, 1) := by decide +kernel
theorem dX6_read_11 : decode cX6_read 11 = .ok (.iconst 0, 1) := by decide +kernel
theorem dX6_read_12 : decode cX6_read 12 = .ok (.putfield 36, 3) := by decide +kernel
theorem dX6_read_15 : decode cX6_read 15 = .ok (.aload_n 0, 1) := by decide +kernel
theorem dX6_read_16 : decode cX6_read 16 = .ok (.iconst 0, 1) := by decide +kernel
theorem dX6_read_17 : decode cX6_read 17 = .ok (.putfield 47, 3) := by decide +kernel
theorem dX6_read_20 : decode cX6_read 20 = .ok (.aload_n 0, 1) := by decide +kernel
theorem dX6_read_21 : decode cX6_read 21 = .ok (.bipush 113, 2) := by decide +kernel
theorem dX6_read_23 : decode cX6_read 23 = .ok (.invokevirtual 50, 3) := by decide +kernel
theorem dX6_read_26 : decode cX6_read 26 = .ok (.iconst 1, 1) := by decide +kernel
theorem dX6_read_27 : decode cX6_read 27 = .ok (.istore_n 2, 1) := by decide +kernel
theorem dX6_read_28 : decode cX6_read 28 = .ok (.iconst 0, 1) := by decide +kernel
theorem dX6_read_29 : decode cX6_read 29 = .ok (.istore_n 3, 1) := by decide +kernel
theorem dX6_read_30 : decode cX6_read 30 = .ok (.iload_n 3, 1) := by decide +kernel
theorem dX6_read_31 : decode cX6_read 31 = .ok (.bipush 60, 2) := by decide +kernel
theorem dX6_read_33 : decode cX6_read 33 = .ok (.if_icmp .gt 47, 3) := by decide +kernel
theorem dX6_read_36 : decode cX6_read 36 = .ok (.iload_n 2, 1) := by decide +kernel
theorem dX6_read_37 : decode cX6_read 37 = .ok (.ifCond .eq 43, 3) := by decide +kernel
theorem dX6_read_40 : decode cX6_read 40 = .ok (.aload_n 0, 1) := by decide +kernel
theorem dX6_read_41 : decode cX6_read 41 = .ok (.getfield 47, 3) := by decide +kernel
theorem dX6_read_44 : decode cX6_read 44 = .ok (.ifCond .le 36, 3) := by decide +kernel
theorem dX6_read_47 : decode cX6_read 47 = .ok (.aload_n 0, 1) := by decide +kernel
theorem dX6_read_48 : decode cX6_read 48 = .ok (.invokevirtual 54, 3) := by decide +kernel
theorem dX6_read_51 : decode cX6_read 51 = .ok (.istore 4, 2) := by decide +kernel
theorem dX6_read_53 : decode cX6_read 53 = .ok (.iload 4, 2) := by decide +kernel
theorem dX6_read_55 : decode cX6_read 55 = .ok (.bipush 113, 2) := by decide +kernel
theorem dX6_read_57 : decode cX6_read 57 = .ok (.if_icmp .ne 10, 3) := by decide +kernel
theorem dX6_read_60 : decode cX6_read 60 = .ok (.aload_n 0, 1) := by decide +kernel
theorem dX6_read_61 : decode cX6_read 61 = .ok (.invokevirtual 58, 3) := by decide +kernel
theorem dX6_read_64 : decode cX6_read 64 = .ok (.goto 9, 3) := by decide +kernel
theorem dX6_read_67 : decode cX6_read 67 = .ok (.aload_n 0, 1) := by decide +kernel
theorem dX6_read_68 : decode cX6_read 68 = .ok (.iload 4, 2) := by decide +kernel
theorem dX6_read_70 : decode cX6_read 70 = .ok (.invokevirtual 62, 3) := by decide +kernel
theorem dX6_read_73 : decode cX6_read 73 = .ok (.istore_n 2, 1) := by decide +kernel
theorem dX6_read_74 : decode cX6_read 74 = .ok (.iinc 3 1, 3) := by decide +kernel
theorem dX6_read_77 : decode cX6_read 77 = .ok (.goto (-47), 3) := by decide +kernel
theorem dX6_read_80 : decode cX6_read 80 = .ok (.aload_n 0, 1) := by decide +kernel
theorem dX6_read_81 : decode cX6_read 81 = .ok (.iload_n 2, 1) := by decide +kernel
theorem dX6_read_82 : decode cX6_read 82 = .ok (.ifCond .eq 25, 3) := by decide +kernel
theorem dX6_read_85 : decode cX6_read 85 = .ok (.aload_n 0, 1) := by decide +kernel
theorem dX6_read_86 : decode cX6_read 86 = .ok (.getfield 47, 3) := by decide +kernel
theorem dX6_read_89 : decode cX6_read 89 = .ok (.ifCond .ne 18, 3) := by decide +kernel
theorem dX6_read_92 : decode cX6_read 92 = .ok (.aload_n 0, 1) := by decide +kernel
theorem dX6_read_93 : decode cX6_read 93 = .ok (.getfield 36, 3) := by decide +kernel
theorem dX6_read_96 : decode cX6_read 96 = .ok (.aload_n 1, 1) := by decide +kernel
theorem dX6_read_97 : decode cX6_read 97 = .ok (.invokevirtual 66, 3) := by decide +kernel
theorem dX6_read_100 : decode cX6_read 100 = .ok (.if_icmp .ne 7, 3) := by decide +kernel
theorem dX6_read_103 : decode cX6_read 103 = .ok (.iconst 1, 1) := by decide +kernel
theorem dX6_read_104 : decode cX6_read 104 = .ok (.goto 4, 3) := by decide +kernel
theorem dX6_read_107 : decode cX6_read 107 = .ok (.iconst 0, 1) := by decide +kernel
theorem dX6_read_108 : decode cX6_read 108 = .ok (.putfield 28, 3) := by decide +kernel
theorem dX6_read_111 : decode cX6_read 111 = .ok (.aload_n 0, 1) := by decide +kernel
theorem dX6_read_112 : decode cX6_read 112 = .ok (.getfield 28, 3) := by decide +kernel
theorem dX6_read_115 : decode cX6_read 115 = .ok (.ireturn, 1) := by decide +kernel
theorem dX6_fits_0 : decode cX6_fits 0 = .ok (.iconst 0, 1) := by decide +kernel
theorem dX6_fits_1 : decode cX6_fits 1 = .ok (.istore_n 2, 1) := by decide +kernel
theorem dX6_fits_2 : decode cX6_fits 2 = .ok (.aload_n 0, 1) := by decide +kernel
theorem dX6_fits_3 : decode cX6_fits 3 = .ok (.getfield 32, 3) := by decide +kernel
theorem dX6_fits_6 : decode cX6_fits 6 = .ok (.iconst 1, 1) := by decide +kernel
theorem dX6_fits_7 : decode cX6_fits 7 = .ok (.isub, 1) := by decide +kernel
theorem dX6_fits_8 : decode cX6_fits 8 = .ok (.istore_n 3, 1) := by decide +kernel
theorem dX6_fits_9 : decode cX6_fits 9 = .ok (.iload_n 3, 1) := by decide +kernel
theorem dX6_fits_10 : decode cX6_fits 10 = .ok (.ifCond .lt 104, 3) := by decide +kernel
theorem dX6_fits_13 : decode cX6_fits 13 = .ok (.iload_n 2, 1) := by decide +kernel
theorem dX6_fits_14 : decode cX6_fits 14 = .ok (.ifCond .le 14, 3) := by decide +kernel
theorem dX6_fits_17 : decode cX6_fits 17 = .ok (.aload_n 0, 1) := by decide +kernel
theorem dX6_fits_18 : decode cX6_fits 18 = .ok (.getfield 21, 3) := by decide +kernel
theorem dX6_fits_21 : decode cX6_fits 21 = .ok (.iload_n 2, 1) := by decide +kernel
theorem dX6_fits_22 : decode cX6_fits 22 = .ok (.iconst 1, 1) := by decide +kernel
theorem dX6_fits_23 : decode cX6_fits 23 = .ok (.isub, 1) := by decide +kernel
theorem dX6_fits_24 : decode cX6_fits 24 = .ok (.iaload, 1) := by decide +kernel
theorem dX6_fits_25 : decode cX6_fits 25 = .ok (.goto 4, 3) := by decide +kernel
theorem dX6_fits_28 : decode cX6_fits 28 = .ok (.iconst 0, 1) := by decide +kernel
theorem dX6_fits_29 : decode cX6_fits 29 = .ok (.istore 4, 2) := by decide +kernel
theorem dX6_fits_31 : decode cX6_fits 31 = .ok (.iload_n 2, 1) := by decide +kernel
theorem dX6_fits_32 : decode cX6_fits 32 = .ok (.iconst 1, 1) := by decide +kernel
theorem dX6_fits_33 : decode cX6_fits 33 = .ok (.if_icmp .le 14, 3) := by decide +kernel
theorem dX6_fits_36 : decode cX6_fits 36 = .ok (.aload_n 0, 1) := by decide +kernel
theorem dX6_fits_37 : decode cX6_fits 37 = .ok (.getfield 21, 3) := by decide +kernel
theorem dX6_fits_40 : decode cX6_fits 40 = .ok (.iload_n 2, 1) := by decide +kernel
theorem dX6_fits_41 : decode cX6_fits 41 = .ok (.iconst 2, 1) := by decide +kernel
theorem dX6_fits_42 : decode cX6_fits 42 = .ok (.isub, 1) := by decide +kernel
theorem dX6_fits_43 : decode cX6_fits 43 = .ok (.iaload, 1) := by decide +kernel
theorem dX6_fits_44 : decode cX6_fits 44 = .ok (.goto 4, 3) := by decide +kernel
theorem dX6_fits_47 : decode cX6_fits 47 = .ok (.iconst 0, 1) := by decide +kernel
theorem dX6_fits_48 : decode cX6_fits 48 = .ok (.istore 5, 2) := by decide +kernel
theorem dX6_fits_50 : decode cX6_fits 50 = .ok (.aload_n 0, 1) := by decide +kernel
theorem dX6_fits_51 : decode cX6_fits 51 = .ok (.iload_n 3, 1) := by decide +kernel
theorem dX6_fits_52 : decode cX6_fits 52 = .ok (.iload 4, 2) := by decide +kernel
theorem dX6_fits_54 : decode cX6_fits 54 = .ok (.iload 5, 2) := by decide +kernel
theorem dX6_fits_56 : decode cX6_fits 56 = .ok (.aload_n 1, 1) := by decide +kernel
theorem dX6_fits_57 : decode cX6_fits 57 = .ok (.invokevirtual 72, 3) := by decide +kernel
theorem dX6_fits_60 : decode cX6_fits 60 = .ok (.istore 6, 2) := by decide +kernel
theorem dX6_fits_62 : decode cX6_fits 62 = .ok (.iload_n 2, 1) := by decide +kernel
theorem dX6_fits_63 : decode cX6_fits 63 = .ok (.aload_n 0, 1) := by decide +kernel
theorem dX6_fits_64 : decode cX6_fits 64 = .ok (.iload_n 3, 1) := by decide +kernel
theorem dX6_fits_65 : decode cX6_fits 65 = .ok (.invokevirtual 76, 3) := by decide +kernel
theorem dX6_fits_68 : decode cX6_fits 68 = .ok (.invokestatic 80, 3) := by decide +kernel
theorem dX6_fits_71 : decode cX6_fits 71 = .ok (.isub, 1) := by decide +kernel
theorem dX6_fits_72 : decode cX6_fits 72 = .ok (.istore_n 2, 1) := by decide +kernel
theorem dX6_fits_73 : decode cX6_fits 73 = .ok (.iload 6, 2) := by decide +kernel
theorem dX6_fits_75 : decode cX6_fits 75 = .ok (.iconst 1, 1) := by decide +kernel
theorem dX6_fits_76 : decode cX6_fits 76 = .ok (.if_icmp .lt 19, 3) := by decide +kernel
theorem dX6_fits_79 : decode cX6_fits 79 = .ok (.iload 6, 2) := by decide +kernel
theorem dX6_fits_81 : decode cX6_fits 81 = .ok (.iconst 4, 1) := by decide +kernel
theorem dX6_fits_82 : decode cX6_fits 82 = .ok (.if_icmp .gt 13, 3) := by decide +kernel
theorem dX6_fits_85 : decode cX6_fits 85 = .ok (.iload_n 2, 1) := by decide +kernel
theorem dX6_fits_86 : decode cX6_fits 86 = .ok (.ifCond .lt 9, 3) := by decide +kernel
theorem dX6_fits_89 : decode cX6_fits 89 = .ok (.iload_n 2, 1) := by decide +kernel
theorem dX6_fits_90 : decode cX6_fits 90 = .ok (.bipush 60, 2) := by decide +kernel
theorem dX6_fits_92 : decode cX6_fits 92 = .ok (.if_icmp .lt 5, 3) := by decide +kernel
theorem dX6_fits_95 : decode cX6_fits 95 = .ok (.iconst 0, 1) := by decide +kernel
theorem dX6_fits_96 : decode cX6_fits 96 = .ok (.ireturn, 1) := by decide +kernel
theorem dX6_fits_97 : decode cX6_fits 97 = .ok (.aload_n 0, 1) := by decide +kernel
theorem dX6_fits_98 : decode cX6_fits 98 = .ok (.getfield 21, 3) := by decide +kernel
theorem dX6_fits_101 : decode cX6_fits 101 = .ok (.iload_n 2, 1) := by decide +kernel
theorem dX6_fits_102 : decode cX6_fits 102 = .ok (.iload 6, 2) := by decide +kernel
theorem dX6_fits_104 : decode cX6_fits 104 = .ok (.iastore, 1) := by decide +kernel
theorem dX6_fits_105 : decode cX6_fits 105 = .ok (.iinc 2 1, 3) := by decide +kernel
theorem dX6_fits_108 : decode cX6_fits 108 = .ok (.iinc 3 (-1), 3) := by decide +kernel
theorem dX6_fits_111 : decode cX6_fits 111 = .ok (.goto (-102), 3) := by decide +kernel
theorem dX6_fits_114 : decode cX6_fits 114 = .ok (.iconst 1, 1) := by decide +kernel
theorem dX6_fits_115 : decode cX6_fits 115 = .ok (.ireturn, 1) := by decide +kernel
theorem dX6_hasNode_0 : decode cX6_hasNode 0 = .ok (.iload_n 1, 1) := by decide +kernel
theorem dX6_hasNode_1 : decode cX6_hasNode 1 = .ok (.ifCond .lt 21, 3) := by decide +kernel
theorem dX6_hasNode_4 : decode cX6_hasNode 4 = .ok (.iload_n 1, 1) := by decide +kernel
theorem dX6_hasNode_5 : decode cX6_hasNode 5 = .ok (.aload_n 0, 1) := by decide +kernel
theorem dX6_hasNode_6 : decode cX6_hasNode 6 = .ok (.getfield 32, 3) := by decide +kernel
theorem dX6_hasNode_9 : decode cX6_hasNode 9 = .ok (.if_icmp .ge 13, 3) := by decide +kernel
theorem dX6_hasNode_12 : decode cX6_hasNode 12 = .ok (.iload_n 1, 1) := by decide +kernel
theorem dX6_hasNode_13 : decode cX6_hasNode 13 = .ok (.bipush 60, 2) := by decide +kernel
theorem dX6_hasNode_15 : decode cX6_hasNode 15 = .ok (.if_icmp .ge 7, 3) := by decide +kernel
theorem dX6_hasNode_18 : decode cX6_hasNode 18 = .ok (.iconst 1, 1) := by decide +kernel
theorem dX6_hasNode_19 : decode cX6_hasNode 19 = .ok (.goto 4, 3) := by decide +kernel
theorem dX6_hasNode_22 : decode cX6_hasNode 22 = .ok (.iconst 0, 1) := by decide +kernel
theorem dX6_hasNode_23 : decode cX6_hasNode 23 = .ok (.ireturn, 1) := by decide +kernel
theorem dX6_widthOfNode_0 : decode cX6_widthOfNode 0 = .ok (.aload_n 0, 1) := by decide +kernel
theorem dX6_widthOfNode_1 : decode cX6_widthOfNode 1 = .ok (.iload_n 1, 1) := by decide +kernel
theorem dX6_widthOfNode_2 : decode cX6_widthOfNode 2 = .ok (.invokevirtual 83, 3) := by decide +kernel
theorem dX6_widthOfNode_5 : decode cX6_widthOfNode 5 = .ok (.istore 5, 2) := by decide +kernel
theorem dX6_widthOfNode_7 : decode cX6_widthOfNode 7 = .ok (.aload_n 0, 1) := by decide +kernel
theorem dX6_widthOfNode_8 : decode cX6_widthOfNode 8 = .ok (.iload_n 1, 1) := by decide +kernel
theorem dX6_widthOfNode_9 : decode cX6_widthOfNode 9 = .ok (.invokevirtual 86, 3) := by decide +kernel
theorem dX6_widthOfNode_12 : decode cX6_widthOfNode 12 = .ok (.istore 6, 2) := by decide +kernel
theorem dX6_widthOfNode_14 : decode cX6_widthOfNode 14 = .ok (.aload_n 0, 1) := by decide +kernel
theorem dX6_widthOfNode_15 : decode cX6_widthOfNode 15 = .ok (.iload_n 1, 1) := by decide +kernel
theorem dX6_widthOfNode_16 : decode cX6_widthOfNode 16 = .ok (.invokevirtual 76, 3) := by decide +kernel
theorem dX6_widthOfNode_19 : decode cX6_widthOfNode 19 = .ok (.tableswitch 124 0 5 #[37, 45, 57, 75, 93, 113], 37) := by decide +kernel
theorem dX6_widthOfNode_56 : decode cX6_widthOfNode 56 = .ok (.aload 4, 2) := by decide +kernel
theorem dX6_widthOfNode_58 : decode cX6_widthOfNode 58 = .ok (.iload 5, 2) := by decide +kernel
theorem dX6_widthOfNode_60 : decode cX6_widthOfNode 60 = .ok (.invokevirtual 89, 3) := by decide +kernel
theorem dX6_widthOfNode_63 : decode cX6_widthOfNode 63 = .ok (.ireturn, 1) := by decide +kernel
theorem dX6_widthOfNode_64 : decode cX6_widthOfNode 64 = .ok (.iload 5, 2) := by decide +kernel
theorem dX6_widthOfNode_66 : decode cX6_widthOfNode 66 = .ok (.iload_n 2, 1) := by decide +kernel
theorem dX6_widthOfNode_67 : decode cX6_widthOfNode 67 = .ok (.if_icmp .ge 7, 3) := by decide +kernel
theorem dX6_widthOfNode_70 : decode cX6_widthOfNode 70 = .ok (.iload_n 2, 1) := by decide +kernel
theorem dX6_widthOfNode_71 : decode cX6_widthOfNode 71 = .ok (.goto 4, 3) := by decide +kernel
theorem dX6_widthOfNode_74 : decode cX6_widthOfNode 74 = .ok (.iconst 0, 1) := by decide +kernel
theorem dX6_widthOfNode_75 : decode cX6_widthOfNode 75 = .ok (.ireturn, 1) := by decide +kernel
theorem dX6_widthOfNode_76 : decode cX6_widthOfNode 76 = .ok (.iload 5, 2) := by decide +kernel
theorem dX6_widthOfNode_78 : decode cX6_widthOfNode 78 = .ok (.iload_n 2, 1) := by decide +kernel
theorem dX6_widthOfNode_79 : decode cX6_widthOfNode 79 = .ok (.if_icmp .ge 13, 3) := by decide +kernel
theorem dX6_widthOfNode_82 : decode cX6_widthOfNode 82 = .ok (.iload 6, 2) := by decide +kernel
theorem dX6_widthOfNode_84 : decode cX6_widthOfNode 84 = .ok (.iload_n 2, 1) := by decide +kernel
theorem dX6_widthOfNode_85 : decode cX6_widthOfNode 85 = .ok (.if_icmp .ge 7, 3) := by decide +kernel
theorem dX6_widthOfNode_88 : decode cX6_widthOfNode 88 = .ok (.iload_n 2, 1) := by decide +kernel
theorem dX6_widthOfNode_89 : decode cX6_widthOfNode 89 = .ok (.goto 4, 3) := by decide +kernel
theorem dX6_widthOfNode_92 : decode cX6_widthOfNode 92 = .ok (.iconst 0, 1) := by decide +kernel
theorem dX6_widthOfNode_93 : decode cX6_widthOfNode 93 = .ok (.ireturn, 1) := by decide +kernel
theorem dX6_widthOfNode_94 : decode cX6_widthOfNode 94 = .ok (.iload_n 2, 1) := by decide +kernel
theorem dX6_widthOfNode_95 : decode cX6_widthOfNode 95 = .ok (.iload 5, 2) := by decide +kernel
theorem dX6_widthOfNode_97 : decode cX6_widthOfNode 97 = .ok (.iload 6, 2) := by decide +kernel
theorem dX6_widthOfNode_99 : decode cX6_widthOfNode 99 = .ok (.invokestatic 94, 3) := by decide +kernel
theorem dX6_widthOfNode_102 : decode cX6_widthOfNode 102 = .ok (.ifCond .eq 8, 3) := by decide +kernel
theorem dX6_widthOfNode_105 : decode cX6_widthOfNode 105 = .ok (.iload 5, 2) := by decide +kernel
theorem dX6_widthOfNode_107 : decode cX6_widthOfNode 107 = .ok (.goto 4, 3) := by decide +kernel
theorem dX6_widthOfNode_110 : decode cX6_widthOfNode 110 = .ok (.iconst 0, 1) := by decide +kernel
theorem dX6_widthOfNode_111 : decode cX6_widthOfNode 111 = .ok (.ireturn, 1) := by decide +kernel
theorem dX6_widthOfNode_112 : decode cX6_widthOfNode 112 = .ok (.iload 5, 2) := by decide +kernel
theorem dX6_widthOfNode_114 : decode cX6_widthOfNode 114 = .ok (.iload_n 2, 1) := by decide +kernel
theorem dX6_widthOfNode_115 : decode cX6_widthOfNode 115 = .ok (.if_icmp .ge 15, 3) := by decide +kernel
theorem dX6_widthOfNode_118 : decode cX6_widthOfNode 118 = .ok (.iload 6, 2) := by decide +kernel
theorem dX6_widthOfNode_120 : decode cX6_widthOfNode 120 = .ok (.iload_n 3, 1) := by decide +kernel
theorem dX6_widthOfNode_121 : decode cX6_widthOfNode 121 = .ok (.if_icmp .ge 9, 3) := by decide +kernel
theorem dX6_widthOfNode_124 : decode cX6_widthOfNode 124 = .ok (.iload_n 2, 1) := by decide +kernel
theorem dX6_widthOfNode_125 : decode cX6_widthOfNode 125 = .ok (.iload_n 3, 1) := by decide +kernel
theorem dX6_widthOfNode_126 : decode cX6_widthOfNode 126 = .ok (.iadd, 1) := by decide +kernel
theorem dX6_widthOfNode_127 : decode cX6_widthOfNode 127 = .ok (.goto 4, 3) := by decide +kernel
theorem dX6_widthOfNode_130 : decode cX6_widthOfNode 130 = .ok (.iconst 0, 1) := by decide +kernel
theorem dX6_widthOfNode_131 : decode cX6_widthOfNode 131 = .ok (.ireturn, 1) := by decide +kernel
theorem dX6_widthOfNode_132 : decode cX6_widthOfNode 132 = .ok (.iload_n 2, 1) := by decide +kernel
theorem dX6_widthOfNode_133 : decode cX6_widthOfNode 133 = .ok (.iload_n 3, 1) := by decide +kernel
theorem dX6_widthOfNode_134 : decode cX6_widthOfNode 134 = .ok (.if_icmp .ne 7, 3) := by decide +kernel
theorem dX6_widthOfNode_137 : decode cX6_widthOfNode 137 = .ok (.iload_n 2, 1) := by decide +kernel
theorem dX6_widthOfNode_138 : decode cX6_widthOfNode 138 = .ok (.goto 4, 3) := by decide +kernel
theorem dX6_widthOfNode_141 : decode cX6_widthOfNode 141 = .ok (.iconst 0, 1) := by decide +kernel
theorem dX6_widthOfNode_142 : decode cX6_widthOfNode 142 = .ok (.ireturn, 1) := by decide +kernel
theorem dX6_widthOfNode_143 : decode cX6_widthOfNode 143 = .ok (.iconst 0, 1) := by decide +kernel
theorem dX6_widthOfNode_144 : decode cX6_widthOfNode 144 = .ok (.ireturn, 1) := by decide +kernel
theorem dX6_namesColumnsBelow_0 : decode cX6_namesColumnsBelow 0 = .ok (.iconst 0, 1) := by decide +kernel
theorem dX6_namesColumnsBelow_1 : decode cX6_namesColumnsBelow 1 = .ok (.istore_n 3, 1) := by decide +kernel
theorem dX6_namesColumnsBelow_2 : decode cX6_namesColumnsBelow 2 = .ok (.iload_n 3, 1) := by decide +kernel
theorem dX6_namesColumnsBelow_3 : decode cX6_namesColumnsBelow 3 = .ok (.iload_n 1, 1) := by decide +kernel
theorem dX6_namesColumnsBelow_4 : decode cX6_namesColumnsBelow 4 = .ok (.if_icmp .ge 26, 3) := by decide +kernel
theorem dX6_namesColumnsBelow_7 : decode cX6_namesColumnsBelow 7 = .ok (.iload_n 3, 1) := by decide +kernel
theorem dX6_namesColumnsBelow_8 : decode cX6_namesColumnsBelow 8 = .ok (.iconst 4, 1) := by decide +kernel
theorem dX6_namesColumnsBelow_9 : decode cX6_namesColumnsBelow 9 = .ok (.if_icmp .ge 21, 3) := by decide +kernel
theorem dX6_namesColumnsBelow_12 : decode cX6_namesColumnsBelow 12 = .ok (.iload_n 2, 1) := by decide +kernel
theorem dX6_namesColumnsBelow_13 : decode cX6_namesColumnsBelow 13 = .ok (.iload_n 1, 1) := by decide +kernel
theorem dX6_namesColumnsBelow_14 : decode cX6_namesColumnsBelow 14 = .ok (.iload_n 3, 1) := by decide +kernel
theorem dX6_namesColumnsBelow_15 : decode cX6_namesColumnsBelow 15 = .ok (.invokestatic 98, 3) := by decide +kernel
theorem dX6_namesColumnsBelow_18 : decode cX6_namesColumnsBelow 18 = .ok (.iload_n 0, 1) := by decide +kernel
theorem dX6_namesColumnsBelow_19 : decode cX6_namesColumnsBelow 19 = .ok (.if_icmp .lt 5, 3) := by decide +kernel
theorem dX6_namesColumnsBelow_22 : decode cX6_namesColumnsBelow 22 = .ok (.iconst 0, 1) := by decide +kernel
theorem dX6_namesColumnsBelow_23 : decode cX6_namesColumnsBelow 23 = .ok (.ireturn, 1) := by decide +kernel
theorem dX6_namesColumnsBelow_24 : decode cX6_namesColumnsBelow 24 = .ok (.iinc 3 1, 3) := by decide +kernel
theorem dX6_namesColumnsBelow_27 : decode cX6_namesColumnsBelow 27 = .ok (.goto (-25), 3) := by decide +kernel
theorem dX6_namesColumnsBelow_30 : decode cX6_namesColumnsBelow 30 = .ok (.iconst 1, 1) := by decide +kernel
theorem dX6_namesColumnsBelow_31 : decode cX6_namesColumnsBelow 31 = .ok (.ireturn, 1) := by decide +kernel
theorem dX6_readHead_0 : decode cX6_readHead 0 = .ok (.aload_n 0, 1) := by decide +kernel
theorem dX6_readHead_1 : decode cX6_readHead 1 = .ok (.invokevirtual 104, 3) := by decide +kernel
theorem dX6_readHead_4 : decode cX6_readHead 4 = .ok (.istore_n 1, 1) := by decide +kernel
theorem dX6_readHead_5 : decode cX6_readHead 5 = .ok (.iload_n 1, 1) := by decide +kernel
theorem dX6_readHead_6 : decode cX6_readHead 6 = .ok (.bipush 65, 2) := by decide +kernel
theorem dX6_readHead_8 : decode cX6_readHead 8 = .ok (.if_icmp .lt 30, 3) := by decide +kernel
theorem dX6_readHead_11 : decode cX6_readHead 11 = .ok (.iload_n 1, 1) := by decide +kernel
theorem dX6_readHead_12 : decode cX6_readHead 12 = .ok (.bipush 69, 2) := by decide +kernel
theorem dX6_readHead_14 : decode cX6_readHead 14 = .ok (.if_icmp .ge 24, 3) := by decide +kernel
theorem dX6_readHead_17 : decode cX6_readHead 17 = .ok (.aload_n 0, 1) := by decide +kernel
theorem dX6_readHead_18 : decode cX6_readHead 18 = .ok (.dup, 1) := by decide +kernel
theorem dX6_readHead_19 : decode cX6_readHead 19 = .ok (.getfield 36, 3) := by decide +kernel
theorem dX6_readHead_22 : decode cX6_readHead 22 = .ok (.iconst 1, 1) := by decide +kernel
theorem dX6_readHead_23 : decode cX6_readHead 23 = .ok (.iadd, 1) := by decide +kernel
theorem dX6_readHead_24 : decode cX6_readHead 24 = .ok (.putfield 36, 3) := by decide +kernel
theorem dX6_readHead_27 : decode cX6_readHead 27 = .ok (.aload_n 0, 1) := by decide +kernel
theorem dX6_readHead_28 : decode cX6_readHead 28 = .ok (.iconst 0, 1) := by decide +kernel
theorem dX6_readHead_29 : decode cX6_readHead 29 = .ok (.iload_n 1, 1) := by decide +kernel
theorem dX6_readHead_30 : decode cX6_readHead 30 = .ok (.bipush 65, 2) := by decide +kernel
theorem dX6_readHead_32 : decode cX6_readHead 32 = .ok (.isub, 1) := by decide +kernel
theorem dX6_readHead_33 : decode cX6_readHead 33 = .ok (.iconst 0, 1) := by decide +kernel
theorem dX6_readHead_34 : decode cX6_readHead 34 = .ok (.invokevirtual 107, 3) := by decide +kernel
theorem dX6_readHead_37 : decode cX6_readHead 37 = .ok (.ireturn, 1) := by decide +kernel
theorem dX6_readHead_38 : decode cX6_readHead 38 = .ok (.iload_n 1, 1) := by decide +kernel
theorem dX6_readHead_39 : decode cX6_readHead 39 = .ok (.lookupswitch 121 #[(106, 71), (112, 56), (115, 41), (117, 86)], 41) := by decide +kernel
theorem dX6_readHead_80 : decode cX6_readHead 80 = .ok (.aload_n 0, 1) := by decide +kernel
theorem dX6_readHead_81 : decode cX6_readHead 81 = .ok (.dup, 1) := by decide +kernel
theorem dX6_readHead_82 : decode cX6_readHead 82 = .ok (.getfield 36, 3) := by decide +kernel
theorem dX6_readHead_85 : decode cX6_readHead 85 = .ok (.iconst 1, 1) := by decide +kernel
theorem dX6_readHead_86 : decode cX6_readHead 86 = .ok (.iadd, 1) := by decide +kernel
theorem dX6_readHead_87 : decode cX6_readHead 87 = .ok (.putfield 36, 3) := by decide +kernel
theorem dX6_readHead_90 : decode cX6_readHead 90 = .ok (.aload_n 0, 1) := by decide +kernel
theorem dX6_readHead_91 : decode cX6_readHead 91 = .ok (.invokevirtual 110, 3) := by decide +kernel
theorem dX6_readHead_94 : decode cX6_readHead 94 = .ok (.ireturn, 1) := by decide +kernel
theorem dX6_readHead_95 : decode cX6_readHead 95 = .ok (.aload_n 0, 1) := by decide +kernel
theorem dX6_readHead_96 : decode cX6_readHead 96 = .ok (.dup, 1) := by decide +kernel
theorem dX6_readHead_97 : decode cX6_readHead 97 = .ok (.getfield 36, 3) := by decide +kernel
theorem dX6_readHead_100 : decode cX6_readHead 100 = .ok (.iconst 1, 1) := by decide +kernel
theorem dX6_readHead_101 : decode cX6_readHead 101 = .ok (.iadd, 1) := by decide +kernel
theorem dX6_readHead_102 : decode cX6_readHead 102 = .ok (.putfield 36, 3) := by decide +kernel
theorem dX6_readHead_105 : decode cX6_readHead 105 = .ok (.aload_n 0, 1) := by decide +kernel
theorem dX6_readHead_106 : decode cX6_readHead 106 = .ok (.invokevirtual 113, 3) := by decide +kernel
theorem dX6_readHead_109 : decode cX6_readHead 109 = .ok (.ireturn, 1) := by decide +kernel
theorem dX6_readHead_110 : decode cX6_readHead 110 = .ok (.aload_n 0, 1) := by decide +kernel
theorem dX6_readHead_111 : decode cX6_readHead 111 = .ok (.dup, 1) := by decide +kernel
theorem dX6_readHead_112 : decode cX6_readHead 112 = .ok (.getfield 36, 3) := by decide +kernel
theorem dX6_readHead_115 : decode cX6_readHead 115 = .ok (.iconst 1, 1) := by decide +kernel
theorem dX6_readHead_116 : decode cX6_readHead 116 = .ok (.iadd, 1) := by decide +kernel
theorem dX6_readHead_117 : decode cX6_readHead 117 = .ok (.putfield 36, 3) := by decide +kernel
theorem dX6_readHead_120 : decode cX6_readHead 120 = .ok (.aload_n 0, 1) := by decide +kernel
theorem dX6_readHead_121 : decode cX6_readHead 121 = .ok (.invokevirtual 116, 3) := by decide +kernel
theorem dX6_readHead_124 : decode cX6_readHead 124 = .ok (.ireturn, 1) := by decide +kernel
theorem dX6_readHead_125 : decode cX6_readHead 125 = .ok (.aload_n 0, 1) := by decide +kernel
theorem dX6_readHead_126 : decode cX6_readHead 126 = .ok (.dup, 1) := by decide +kernel
theorem dX6_readHead_127 : decode cX6_readHead 127 = .ok (.getfield 36, 3) := by decide +kernel
theorem dX6_readHead_130 : decode cX6_readHead 130 = .ok (.iconst 1, 1) := by decide +kernel
theorem dX6_readHead_131 : decode cX6_readHead 131 = .ok (.iadd, 1) := by decide +kernel
theorem dX6_readHead_132 : decode cX6_readHead 132 = .ok (.putfield 36, 3) := by decide +kernel
theorem dX6_readHead_135 : decode cX6_readHead 135 = .ok (.aload_n 0, 1) := by decide +kernel
theorem dX6_readHead_136 : decode cX6_readHead 136 = .ok (.bipush 40, 2) := by decide +kernel
theorem dX6_readHead_138 : decode cX6_readHead 138 = .ok (.invokevirtual 62, 3) := by decide +kernel
theorem dX6_readHead_141 : decode cX6_readHead 141 = .ok (.ifCond .eq 17, 3) := by decide +kernel
theorem dX6_readHead_144 : decode cX6_readHead 144 = .ok (.aload_n 0, 1) := by decide +kernel
theorem dX6_readHead_145 : decode cX6_readHead 145 = .ok (.iconst 5, 1) := by decide +kernel
theorem dX6_readHead_146 : decode cX6_readHead 146 = .ok (.iconst 0, 1) := by decide +kernel
theorem dX6_readHead_147 : decode cX6_readHead 147 = .ok (.iconst 0, 1) := by decide +kernel
theorem dX6_readHead_148 : decode cX6_readHead 148 = .ok (.invokevirtual 107, 3) := by decide +kernel
theorem dX6_readHead_151 : decode cX6_readHead 151 = .ok (.ifCond .eq 7, 3) := by decide +kernel
theorem dX6_readHead_154 : decode cX6_readHead 154 = .ok (.iconst 1, 1) := by decide +kernel
theorem dX6_readHead_155 : decode cX6_readHead 155 = .ok (.goto 4, 3) := by decide +kernel
theorem dX6_readHead_158 : decode cX6_readHead 158 = .ok (.iconst 0, 1) := by decide +kernel
theorem dX6_readHead_159 : decode cX6_readHead 159 = .ok (.ireturn, 1) := by decide +kernel
theorem dX6_readHead_160 : decode cX6_readHead 160 = .ok (.iconst 0, 1) := by decide +kernel
theorem dX6_readHead_161 : decode cX6_readHead 161 = .ok (.ireturn, 1) := by decide +kernel
theorem dX6_readSelect_0 : decode cX6_readSelect 0 = .ok (.aload_n 0, 1) := by decide +kernel
theorem dX6_readSelect_1 : decode cX6_readSelect 1 = .ok (.iconst 4, 1) := by decide +kernel
theorem dX6_readSelect_2 : decode cX6_readSelect 2 = .ok (.invokevirtual 119, 3) := by decide +kernel
theorem dX6_readSelect_5 : decode cX6_readSelect 5 = .ok (.istore_n 1, 1) := by decide +kernel
theorem dX6_readSelect_6 : decode cX6_readSelect 6 = .ok (.iload_n 1, 1) := by decide +kernel
theorem dX6_readSelect_7 : decode cX6_readSelect 7 = .ok (.ifCond .ge 5, 3) := by decide +kernel
theorem dX6_readSelect_10 : decode cX6_readSelect 10 = .ok (.iconst 0, 1) := by decide +kernel
theorem dX6_readSelect_11 : decode cX6_readSelect 11 = .ok (.ireturn, 1) := by decide +kernel
theorem dX6_readSelect_12 : decode cX6_readSelect 12 = .ok (.aload_n 0, 1) := by decide +kernel
theorem dX6_readSelect_13 : decode cX6_readSelect 13 = .ok (.invokevirtual 104, 3) := by decide +kernel
theorem dX6_readSelect_16 : decode cX6_readSelect 16 = .ok (.bipush 126, 2) := by decide +kernel
theorem dX6_readSelect_18 : decode cX6_readSelect 18 = .ok (.if_icmp .ne 7, 3) := by decide +kernel
theorem dX6_readSelect_21 : decode cX6_readSelect 21 = .ok (.iconst 2, 1) := by decide +kernel
theorem dX6_readSelect_22 : decode cX6_readSelect 22 = .ok (.goto 4, 3) := by decide +kernel
theorem dX6_readSelect_25 : decode cX6_readSelect 25 = .ok (.iconst 1, 1) := by decide +kernel
theorem dX6_readSelect_26 : decode cX6_readSelect 26 = .ok (.istore_n 2, 1) := by decide +kernel
theorem dX6_readSelect_27 : decode cX6_readSelect 27 = .ok (.aload_n 0, 1) := by decide +kernel
theorem dX6_readSelect_28 : decode cX6_readSelect 28 = .ok (.iload_n 2, 1) := by decide +kernel
theorem dX6_readSelect_29 : decode cX6_readSelect 29 = .ok (.iconst 2, 1) := by decide +kernel
theorem dX6_readSelect_30 : decode cX6_readSelect 30 = .ok (.if_icmp .ne 8, 3) := by decide +kernel
theorem dX6_readSelect_33 : decode cX6_readSelect 33 = .ok (.bipush 126, 2) := by decide +kernel
theorem dX6_readSelect_35 : decode cX6_readSelect 35 = .ok (.goto 5, 3) := by decide +kernel
theorem dX6_readSelect_38 : decode cX6_readSelect 38 = .ok (.bipush 61, 2) := by decide +kernel
theorem dX6_readSelect_40 : decode cX6_readSelect 40 = .ok (.invokevirtual 62, 3) := by decide +kernel
theorem dX6_readSelect_43 : decode cX6_readSelect 43 = .ok (.ifCond .ne 5, 3) := by decide +kernel
theorem dX6_readSelect_46 : decode cX6_readSelect 46 = .ok (.iconst 0, 1) := by decide +kernel
theorem dX6_readSelect_47 : decode cX6_readSelect 47 = .ok (.ireturn, 1) := by decide +kernel
theorem dX6_readSelect_48 : decode cX6_readSelect 48 = .ok (.aload_n 0, 1) := by decide +kernel
theorem dX6_readSelect_49 : decode cX6_readSelect 49 = .ok (.iload_n 2, 1) := by decide +kernel
theorem dX6_readSelect_50 : decode cX6_readSelect 50 = .ok (.iconst 2, 1) := by decide +kernel
theorem dX6_readSelect_51 : decode cX6_readSelect 51 = .ok (.if_icmp .ne 7, 3) := by decide +kernel
theorem dX6_readSelect_54 : decode cX6_readSelect 54 = .ok (.iconst 4, 1) := by decide +kernel
theorem dX6_readSelect_55 : decode cX6_readSelect 55 = .ok (.goto 5, 3) := by decide +kernel
theorem dX6_readSelect_58 : decode cX6_readSelect 58 = .ok (.bipush 10, 2) := by decide +kernel
theorem dX6_readSelect_60 : decode cX6_readSelect 60 = .ok (.invokevirtual 119, 3) := by decide +kernel
theorem dX6_readSelect_63 : decode cX6_readSelect 63 = .ok (.istore_n 3, 1) := by decide +kernel
theorem dX6_readSelect_64 : decode cX6_readSelect 64 = .ok (.iload_n 3, 1) := by decide +kernel
theorem dX6_readSelect_65 : decode cX6_readSelect 65 = .ok (.ifCond .lt 26, 3) := by decide +kernel
theorem dX6_readSelect_68 : decode cX6_readSelect 68 = .ok (.aload_n 0, 1) := by decide +kernel
theorem dX6_readSelect_69 : decode cX6_readSelect 69 = .ok (.bipush 40, 2) := by decide +kernel
theorem dX6_readSelect_71 : decode cX6_readSelect 71 = .ok (.invokevirtual 62, 3) := by decide +kernel
theorem dX6_readSelect_74 : decode cX6_readSelect 74 = .ok (.ifCond .eq 17, 3) := by decide +kernel
theorem dX6_readSelect_77 : decode cX6_readSelect 77 = .ok (.aload_n 0, 1) := by decide +kernel
theorem dX6_readSelect_78 : decode cX6_readSelect 78 = .ok (.iload_n 2, 1) := by decide +kernel
theorem dX6_readSelect_79 : decode cX6_readSelect 79 = .ok (.iload_n 1, 1) := by decide +kernel
theorem dX6_readSelect_80 : decode cX6_readSelect 80 = .ok (.iload_n 3, 1) := by decide +kernel
theorem dX6_readSelect_81 : decode cX6_readSelect 81 = .ok (.invokevirtual 107, 3) := by decide +kernel
theorem dX6_readSelect_84 : decode cX6_readSelect 84 = .ok (.ifCond .eq 7, 3) := by decide +kernel
theorem dX6_readSelect_87 : decode cX6_readSelect 87 = .ok (.iconst 1, 1) := by decide +kernel
theorem dX6_readSelect_88 : decode cX6_readSelect 88 = .ok (.goto 4, 3) := by decide +kernel
theorem dX6_readSelect_91 : decode cX6_readSelect 91 = .ok (.iconst 0, 1) := by decide +kernel
theorem dX6_readSelect_92 : decode cX6_readSelect 92 = .ok (.ireturn, 1) := by decide +kernel
theorem dX6_readProject_0 : decode cX6_readProject 0 = .ok (.iconst 0, 1) := by decide +kernel
theorem dX6_readProject_1 : decode cX6_readProject 1 = .ok (.istore_n 1, 1) := by decide +kernel
theorem dX6_readProject_2 : decode cX6_readProject 2 = .ok (.iconst 0, 1) := by decide +kernel
theorem dX6_readProject_3 : decode cX6_readProject 3 = .ok (.istore_n 2, 1) := by decide +kernel
theorem dX6_readProject_4 : decode cX6_readProject 4 = .ok (.iconst 0, 1) := by decide +kernel
theorem dX6_readProject_5 : decode cX6_readProject 5 = .ok (.istore_n 3, 1) := by decide +kernel
theorem dX6_readProject_6 : decode cX6_readProject 6 = .ok (.iload_n 3, 1) := by decide +kernel
theorem dX6_readProject_7 : decode cX6_readProject 7 = .ok (.iconst 4, 1) := by decide +kernel
theorem dX6_readProject_8 : decode cX6_readProject 8 = .ok (.if_icmp .ge 35, 3) := by decide +kernel
theorem dX6_readProject_11 : decode cX6_readProject 11 = .ok (.aload_n 0, 1) := by decide +kernel
theorem dX6_readProject_12 : decode cX6_readProject 12 = .ok (.iconst 4, 1) := by decide +kernel
theorem dX6_readProject_13 : decode cX6_readProject 13 = .ok (.invokevirtual 119, 3) := by decide +kernel
theorem dX6_readProject_16 : decode cX6_readProject 16 = .ok (.istore 4, 2) := by decide +kernel
theorem dX6_readProject_18 : decode cX6_readProject 18 = .ok (.iload 4, 2) := by decide +kernel
theorem dX6_readProject_20 : decode cX6_readProject 20 = .ok (.ifCond .ge 6, 3) := by decide +kernel
theorem dX6_readProject_23 : decode cX6_readProject 23 = .ok (.goto 20, 3) := by decide +kernel
theorem dX6_readProject_26 : decode cX6_readProject 26 = .ok (.iload_n 2, 1) := by decide +kernel
theorem dX6_readProject_27 : decode cX6_readProject 27 = .ok (.iload 4, 2) := by decide +kernel
theorem dX6_readProject_29 : decode cX6_readProject 29 = .ok (.iconst 1, 1) := by decide +kernel
theorem dX6_readProject_30 : decode cX6_readProject 30 = .ok (.invokestatic 122, 3) := by decide +kernel
theorem dX6_readProject_33 : decode cX6_readProject 33 = .ok (.istore_n 2, 1) := by decide +kernel
theorem dX6_readProject_34 : decode cX6_readProject 34 = .ok (.iinc 1 1, 3) := by decide +kernel
theorem dX6_readProject_37 : decode cX6_readProject 37 = .ok (.iinc 3 1, 3) := by decide +kernel
theorem dX6_readProject_40 : decode cX6_readProject 40 = .ok (.goto (-34), 3) := by decide +kernel
theorem dX6_readProject_43 : decode cX6_readProject 43 = .ok (.iload_n 1, 1) := by decide +kernel
theorem dX6_readProject_44 : decode cX6_readProject 44 = .ok (.ifCond .le 26, 3) := by decide +kernel
theorem dX6_readProject_47 : decode cX6_readProject 47 = .ok (.aload_n 0, 1) := by decide +kernel
theorem dX6_readProject_48 : decode cX6_readProject 48 = .ok (.bipush 40, 2) := by decide +kernel
theorem dX6_readProject_50 : decode cX6_readProject 50 = .ok (.invokevirtual 62, 3) := by decide +kernel
theorem dX6_readProject_53 : decode cX6_readProject 53 = .ok (.ifCond .eq 17, 3) := by decide +kernel
theorem dX6_readProject_56 : decode cX6_readProject 56 = .ok (.aload_n 0, 1) := by decide +kernel
theorem dX6_readProject_57 : decode cX6_readProject 57 = .ok (.iconst 3, 1) := by decide +kernel
theorem dX6_readProject_58 : decode cX6_readProject 58 = .ok (.iload_n 1, 1) := by decide +kernel
theorem dX6_readProject_59 : decode cX6_readProject 59 = .ok (.iload_n 2, 1) := by decide +kernel
theorem dX6_readProject_60 : decode cX6_readProject 60 = .ok (.invokevirtual 107, 3) := by decide +kernel
theorem dX6_readProject_63 : decode cX6_readProject 63 = .ok (.ifCond .eq 7, 3) := by decide +kernel
theorem dX6_readProject_66 : decode cX6_readProject 66 = .ok (.iconst 1, 1) := by decide +kernel
theorem dX6_readProject_67 : decode cX6_readProject 67 = .ok (.goto 4, 3) := by decide +kernel
theorem dX6_readProject_70 : decode cX6_readProject 70 = .ok (.iconst 0, 1) := by decide +kernel
theorem dX6_readProject_71 : decode cX6_readProject 71 = .ok (.ireturn, 1) := by decide +kernel
theorem dX6_readJoin_0 : decode cX6_readJoin 0 = .ok (.aload_n 0, 1) := by decide +kernel
theorem dX6_readJoin_1 : decode cX6_readJoin 1 = .ok (.iconst 4, 1) := by decide +kernel
theorem dX6_readJoin_2 : decode cX6_readJoin 2 = .ok (.invokevirtual 119, 3) := by decide +kernel
theorem dX6_readJoin_5 : decode cX6_readJoin 5 = .ok (.istore_n 1, 1) := by decide +kernel
theorem dX6_readJoin_6 : decode cX6_readJoin 6 = .ok (.iload_n 1, 1) := by decide +kernel
theorem dX6_readJoin_7 : decode cX6_readJoin 7 = .ok (.ifCond .ge 5, 3) := by decide +kernel
theorem dX6_readJoin_10 : decode cX6_readJoin 10 = .ok (.iconst 0, 1) := by decide +kernel
theorem dX6_readJoin_11 : decode cX6_readJoin 11 = .ok (.ireturn, 1) := by decide +kernel
theorem dX6_readJoin_12 : decode cX6_readJoin 12 = .ok (.aload_n 0, 1) := by decide +kernel
theorem dX6_readJoin_13 : decode cX6_readJoin 13 = .ok (.iconst 4, 1) := by decide +kernel
theorem dX6_readJoin_14 : decode cX6_readJoin 14 = .ok (.invokevirtual 119, 3) := by decide +kernel
theorem dX6_readJoin_17 : decode cX6_readJoin 17 = .ok (.istore_n 2, 1) := by decide +kernel
theorem dX6_readJoin_18 : decode cX6_readJoin 18 = .ok (.iload_n 2, 1) := by decide +kernel
theorem dX6_readJoin_19 : decode cX6_readJoin 19 = .ok (.ifCond .lt 26, 3) := by decide +kernel
theorem dX6_readJoin_22 : decode cX6_readJoin 22 = .ok (.aload_n 0, 1) := by decide +kernel
theorem dX6_readJoin_23 : decode cX6_readJoin 23 = .ok (.bipush 40, 2) := by decide +kernel
theorem dX6_readJoin_25 : decode cX6_readJoin 25 = .ok (.invokevirtual 62, 3) := by decide +kernel
theorem dX6_readJoin_28 : decode cX6_readJoin 28 = .ok (.ifCond .eq 17, 3) := by decide +kernel
theorem dX6_readJoin_31 : decode cX6_readJoin 31 = .ok (.aload_n 0, 1) := by decide +kernel
theorem dX6_readJoin_32 : decode cX6_readJoin 32 = .ok (.iconst 4, 1) := by decide +kernel
theorem dX6_readJoin_33 : decode cX6_readJoin 33 = .ok (.iload_n 1, 1) := by decide +kernel
theorem dX6_readJoin_34 : decode cX6_readJoin 34 = .ok (.iload_n 2, 1) := by decide +kernel
theorem dX6_readJoin_35 : decode cX6_readJoin 35 = .ok (.invokevirtual 107, 3) := by decide +kernel
theorem dX6_readJoin_38 : decode cX6_readJoin 38 = .ok (.ifCond .eq 7, 3) := by decide +kernel
theorem dX6_readJoin_41 : decode cX6_readJoin 41 = .ok (.iconst 1, 1) := by decide +kernel
theorem dX6_readJoin_42 : decode cX6_readJoin 42 = .ok (.goto 4, 3) := by decide +kernel
theorem dX6_readJoin_45 : decode cX6_readJoin 45 = .ok (.iconst 0, 1) := by decide +kernel
theorem dX6_readJoin_46 : decode cX6_readJoin 46 = .ok (.ireturn, 1) := by decide +kernel
theorem dX6_addNode_0 : decode cX6_addNode 0 = .ok (.aload_n 0, 1) := by decide +kernel
theorem dX6_addNode_1 : decode cX6_addNode 1 = .ok (.getfield 32, 3) := by decide +kernel
theorem dX6_addNode_4 : decode cX6_addNode 4 = .ok (.ifCond .lt 12, 3) := by decide +kernel
theorem dX6_addNode_7 : decode cX6_addNode 7 = .ok (.aload_n 0, 1) := by decide +kernel
theorem dX6_addNode_8 : decode cX6_addNode 8 = .ok (.getfield 32, 3) := by decide +kernel
theorem dX6_addNode_11 : decode cX6_addNode 11 = .ok (.bipush 60, 2) := by decide +kernel
theorem dX6_addNode_13 : decode cX6_addNode 13 = .ok (.if_icmp .lt 5, 3) := by decide +kernel
theorem dX6_addNode_16 : decode cX6_addNode 16 = .ok (.iconst 0, 1) := by decide +kernel
theorem dX6_addNode_17 : decode cX6_addNode 17 = .ok (.ireturn, 1) := by decide +kernel
theorem dX6_addNode_18 : decode cX6_addNode 18 = .ok (.aload_n 0, 1) := by decide +kernel
theorem dX6_addNode_19 : decode cX6_addNode 19 = .ok (.getfield 9, 3) := by decide +kernel
theorem dX6_addNode_22 : decode cX6_addNode 22 = .ok (.aload_n 0, 1) := by decide +kernel
theorem dX6_addNode_23 : decode cX6_addNode 23 = .ok (.getfield 32, 3) := by decide +kernel
theorem dX6_addNode_26 : decode cX6_addNode 26 = .ok (.iload_n 1, 1) := by decide +kernel
theorem dX6_addNode_27 : decode cX6_addNode 27 = .ok (.iastore, 1) := by decide +kernel
theorem dX6_addNode_28 : decode cX6_addNode 28 = .ok (.aload_n 0, 1) := by decide +kernel
theorem dX6_addNode_29 : decode cX6_addNode 29 = .ok (.getfield 15, 3) := by decide +kernel
theorem dX6_addNode_32 : decode cX6_addNode 32 = .ok (.aload_n 0, 1) := by decide +kernel
theorem dX6_addNode_33 : decode cX6_addNode 33 = .ok (.getfield 32, 3) := by decide +kernel
theorem dX6_addNode_36 : decode cX6_addNode 36 = .ok (.iload_n 2, 1) := by decide +kernel
theorem dX6_addNode_37 : decode cX6_addNode 37 = .ok (.iastore, 1) := by decide +kernel
theorem dX6_addNode_38 : decode cX6_addNode 38 = .ok (.aload_n 0, 1) := by decide +kernel
theorem dX6_addNode_39 : decode cX6_addNode 39 = .ok (.getfield 18, 3) := by decide +kernel
theorem dX6_addNode_42 : decode cX6_addNode 42 = .ok (.aload_n 0, 1) := by decide +kernel
theorem dX6_addNode_43 : decode cX6_addNode 43 = .ok (.getfield 32, 3) := by decide +kernel
theorem dX6_addNode_46 : decode cX6_addNode 46 = .ok (.iload_n 3, 1) := by decide +kernel
theorem dX6_addNode_47 : decode cX6_addNode 47 = .ok (.iastore, 1) := by decide +kernel
theorem dX6_addNode_48 : decode cX6_addNode 48 = .ok (.aload_n 0, 1) := by decide +kernel
theorem dX6_addNode_49 : decode cX6_addNode 49 = .ok (.dup, 1) := by decide +kernel
theorem dX6_addNode_50 : decode cX6_addNode 50 = .ok (.getfield 32, 3) := by decide +kernel
theorem dX6_addNode_53 : decode cX6_addNode 53 = .ok (.iconst 1, 1) := by decide +kernel
theorem dX6_addNode_54 : decode cX6_addNode 54 = .ok (.iadd, 1) := by decide +kernel
theorem dX6_addNode_55 : decode cX6_addNode 55 = .ok (.putfield 32, 3) := by decide +kernel
theorem dX6_addNode_58 : decode cX6_addNode 58 = .ok (.iload_n 1, 1) := by decide +kernel
theorem dX6_addNode_59 : decode cX6_addNode 59 = .ok (.invokestatic 80, 3) := by decide +kernel
theorem dX6_addNode_62 : decode cX6_addNode 62 = .ok (.istore 4, 2) := by decide +kernel
theorem dX6_addNode_64 : decode cX6_addNode 64 = .ok (.iload 4, 2) := by decide +kernel
theorem dX6_addNode_66 : decode cX6_addNode 66 = .ok (.ifCond .le 15, 3) := by decide +kernel
theorem dX6_addNode_69 : decode cX6_addNode 69 = .ok (.aload_n 0, 1) := by decide +kernel
theorem dX6_addNode_70 : decode cX6_addNode 70 = .ok (.bipush 41, 2) := by decide +kernel
theorem dX6_addNode_72 : decode cX6_addNode 72 = .ok (.invokevirtual 50, 3) := by decide +kernel
theorem dX6_addNode_75 : decode cX6_addNode 75 = .ok (.aload_n 0, 1) := by decide +kernel
theorem dX6_addNode_76 : decode cX6_addNode 76 = .ok (.bipush 113, 2) := by decide +kernel
theorem dX6_addNode_78 : decode cX6_addNode 78 = .ok (.invokevirtual 50, 3) := by decide +kernel
theorem dX6_addNode_81 : decode cX6_addNode 81 = .ok (.iload 4, 2) := by decide +kernel
theorem dX6_addNode_83 : decode cX6_addNode 83 = .ok (.iconst 1, 1) := by decide +kernel
theorem dX6_addNode_84 : decode cX6_addNode 84 = .ok (.if_icmp .le 15, 3) := by decide +kernel
theorem dX6_addNode_87 : decode cX6_addNode 87 = .ok (.aload_n 0, 1) := by decide +kernel
theorem dX6_addNode_88 : decode cX6_addNode 88 = .ok (.bipush 44, 2) := by decide +kernel
theorem dX6_addNode_90 : decode cX6_addNode 90 = .ok (.invokevirtual 50, 3) := by decide +kernel
theorem dX6_addNode_93 : decode cX6_addNode 93 = .ok (.aload_n 0, 1) := by decide +kernel
theorem dX6_addNode_94 : decode cX6_addNode 94 = .ok (.bipush 113, 2) := by decide +kernel
theorem dX6_addNode_96 : decode cX6_addNode 96 = .ok (.invokevirtual 50, 3) := by decide +kernel
theorem dX6_addNode_99 : decode cX6_addNode 99 = .ok (.iconst 1, 1) := by decide +kernel
theorem dX6_addNode_100 : decode cX6_addNode 100 = .ok (.ireturn, 1) := by decide +kernel
theorem dX6_nextCode_0 : decode cX6_nextCode 0 = .ok (.aload_n 0, 1) := by decide +kernel
theorem dX6_nextCode_1 : decode cX6_nextCode 1 = .ok (.getfield 43, 3) := by decide +kernel
theorem dX6_nextCode_4 : decode cX6_nextCode 4 = .ok (.ifnonnull 7, 3) := by decide +kernel
theorem dX6_nextCode_7 : decode cX6_nextCode 7 = .ok (.iconst (-1), 1) := by decide +kernel
theorem dX6_nextCode_8 : decode cX6_nextCode 8 = .ok (.goto 14, 3) := by decide +kernel
theorem dX6_nextCode_11 : decode cX6_nextCode 11 = .ok (.aload_n 0, 1) := by decide +kernel
theorem dX6_nextCode_12 : decode cX6_nextCode 12 = .ok (.getfield 43, 3) := by decide +kernel
theorem dX6_nextCode_15 : decode cX6_nextCode 15 = .ok (.aload_n 0, 1) := by decide +kernel
theorem dX6_nextCode_16 : decode cX6_nextCode 16 = .ok (.getfield 36, 3) := by decide +kernel
theorem dX6_nextCode_19 : decode cX6_nextCode 19 = .ok (.invokevirtual 125, 3) := by decide +kernel
theorem dX6_nextCode_22 : decode cX6_nextCode 22 = .ok (.ireturn, 1) := by decide +kernel
theorem dX6_take_0 : decode cX6_take 0 = .ok (.aload_n 0, 1) := by decide +kernel
theorem dX6_take_1 : decode cX6_take 1 = .ok (.invokevirtual 104, 3) := by decide +kernel
theorem dX6_take_4 : decode cX6_take 4 = .ok (.iload_n 1, 1) := by decide +kernel
theorem dX6_take_5 : decode cX6_take 5 = .ok (.if_icmp .eq 5, 3) := by decide +kernel
theorem dX6_take_8 : decode cX6_take 8 = .ok (.iconst 0, 1) := by decide +kernel
theorem dX6_take_9 : decode cX6_take 9 = .ok (.ireturn, 1) := by decide +kernel
theorem dX6_take_10 : decode cX6_take 10 = .ok (.aload_n 0, 1) := by decide +kernel
theorem dX6_take_11 : decode cX6_take 11 = .ok (.dup, 1) := by decide +kernel
theorem dX6_take_12 : decode cX6_take 12 = .ok (.getfield 36, 3) := by decide +kernel
theorem dX6_take_15 : decode cX6_take 15 = .ok (.iconst 1, 1) := by decide +kernel
theorem dX6_take_16 : decode cX6_take 16 = .ok (.iadd, 1) := by decide +kernel
theorem dX6_take_17 : decode cX6_take 17 = .ok (.putfield 36, 3) := by decide +kernel
theorem dX6_take_20 : decode cX6_take 20 = .ok (.iconst 1, 1) := by decide +kernel
theorem dX6_take_21 : decode cX6_take 21 = .ok (.ireturn, 1) := by decide +kernel
theorem dX6_takeDigit_0 : decode cX6_takeDigit 0 = .ok (.aload_n 0, 1) := by decide +kernel
theorem dX6_takeDigit_1 : decode cX6_takeDigit 1 = .ok (.invokevirtual 104, 3) := by decide +kernel
theorem dX6_takeDigit_4 : decode cX6_takeDigit 4 = .ok (.bipush 48, 2) := by decide +kernel
theorem dX6_takeDigit_6 : decode cX6_takeDigit 6 = .ok (.isub, 1) := by decide +kernel
theorem dX6_takeDigit_7 : decode cX6_takeDigit 7 = .ok (.istore_n 2, 1) := by decide +kernel
theorem dX6_takeDigit_8 : decode cX6_takeDigit 8 = .ok (.iload_n 2, 1) := by decide +kernel
theorem dX6_takeDigit_9 : decode cX6_takeDigit 9 = .ok (.ifCond .lt 8, 3) := by decide +kernel
theorem dX6_takeDigit_12 : decode cX6_takeDigit 12 = .ok (.iload_n 2, 1) := by decide +kernel
theorem dX6_takeDigit_13 : decode cX6_takeDigit 13 = .ok (.iload_n 1, 1) := by decide +kernel
theorem dX6_takeDigit_14 : decode cX6_takeDigit 14 = .ok (.if_icmp .lt 5, 3) := by decide +kernel
theorem dX6_takeDigit_17 : decode cX6_takeDigit 17 = .ok (.iconst (-1), 1) := by decide +kernel
theorem dX6_takeDigit_18 : decode cX6_takeDigit 18 = .ok (.ireturn, 1) := by decide +kernel
theorem dX6_takeDigit_19 : decode cX6_takeDigit 19 = .ok (.aload_n 0, 1) := by decide +kernel
theorem dX6_takeDigit_20 : decode cX6_takeDigit 20 = .ok (.dup, 1) := by decide +kernel
theorem dX6_takeDigit_21 : decode cX6_takeDigit 21 = .ok (.getfield 36, 3) := by decide +kernel
theorem dX6_takeDigit_24 : decode cX6_takeDigit 24 = .ok (.iconst 1, 1) := by decide +kernel
theorem dX6_takeDigit_25 : decode cX6_takeDigit 25 = .ok (.iadd, 1) := by decide +kernel
theorem dX6_takeDigit_26 : decode cX6_takeDigit 26 = .ok (.putfield 36, 3) := by decide +kernel
theorem dX6_takeDigit_29 : decode cX6_takeDigit 29 = .ok (.iload_n 2, 1) := by decide +kernel
theorem dX6_takeDigit_30 : decode cX6_takeDigit 30 = .ok (.ireturn, 1) := by decide +kernel
theorem dX6_push_0 : decode cX6_push 0 = .ok (.aload_n 0, 1) := by decide +kernel
theorem dX6_push_1 : decode cX6_push 1 = .ok (.getfield 47, 3) := by decide +kernel
theorem dX6_push_4 : decode cX6_push 4 = .ok (.ifCond .lt 32, 3) := by decide +kernel
theorem dX6_push_7 : decode cX6_push 7 = .ok (.aload_n 0, 1) := by decide +kernel
theorem dX6_push_8 : decode cX6_push 8 = .ok (.getfield 47, 3) := by decide +kernel
theorem dX6_push_11 : decode cX6_push 11 = .ok (.bipush 120, 2) := by decide +kernel
theorem dX6_push_13 : decode cX6_push 13 = .ok (.if_icmp .ge 23, 3) := by decide +kernel
theorem dX6_push_16 : decode cX6_push 16 = .ok (.aload_n 0, 1) := by decide +kernel
theorem dX6_push_17 : decode cX6_push 17 = .ok (.getfield 24, 3) := by decide +kernel
theorem dX6_push_20 : decode cX6_push 20 = .ok (.aload_n 0, 1) := by decide +kernel
theorem dX6_push_21 : decode cX6_push 21 = .ok (.getfield 47, 3) := by decide +kernel
theorem dX6_push_24 : decode cX6_push 24 = .ok (.iload_n 1, 1) := by decide +kernel
theorem dX6_push_25 : decode cX6_push 25 = .ok (.castore, 1) := by decide +kernel
theorem dX6_push_26 : decode cX6_push 26 = .ok (.aload_n 0, 1) := by decide +kernel
theorem dX6_push_27 : decode cX6_push 27 = .ok (.dup, 1) := by decide +kernel
theorem dX6_push_28 : decode cX6_push 28 = .ok (.getfield 47, 3) := by decide +kernel
theorem dX6_push_31 : decode cX6_push 31 = .ok (.iconst 1, 1) := by decide +kernel
theorem dX6_push_32 : decode cX6_push 32 = .ok (.iadd, 1) := by decide +kernel
theorem dX6_push_33 : decode cX6_push 33 = .ok (.putfield 47, 3) := by decide +kernel
theorem dX6_push_36 : decode cX6_push 36 = .ok (.return_, 1) := by decide +kernel
theorem dX6_pop_0 : decode cX6_pop 0 = .ok (.aload_n 0, 1) := by decide +kernel
theorem dX6_pop_1 : decode cX6_pop 1 = .ok (.getfield 47, 3) := by decide +kernel
theorem dX6_pop_4 : decode cX6_pop 4 = .ok (.ifCond .le 12, 3) := by decide +kernel
theorem dX6_pop_7 : decode cX6_pop 7 = .ok (.aload_n 0, 1) := by decide +kernel
theorem dX6_pop_8 : decode cX6_pop 8 = .ok (.getfield 47, 3) := by decide +kernel
theorem dX6_pop_11 : decode cX6_pop 11 = .ok (.bipush 120, 2) := by decide +kernel
theorem dX6_pop_13 : decode cX6_pop 13 = .ok (.if_icmp .le 6, 3) := by decide +kernel
theorem dX6_pop_16 : decode cX6_pop 16 = .ok (.bipush 113, 2) := by decide +kernel
theorem dX6_pop_18 : decode cX6_pop 18 = .ok (.ireturn, 1) := by decide +kernel
theorem dX6_pop_19 : decode cX6_pop 19 = .ok (.aload_n 0, 1) := by decide +kernel
theorem dX6_pop_20 : decode cX6_pop 20 = .ok (.dup, 1) := by decide +kernel
theorem dX6_pop_21 : decode cX6_pop 21 = .ok (.getfield 47, 3) := by decide +kernel
theorem dX6_pop_24 : decode cX6_pop 24 = .ok (.iconst 1, 1) := by decide +kernel
theorem dX6_pop_25 : decode cX6_pop 25 = .ok (.isub, 1) := by decide +kernel
theorem dX6_pop_26 : decode cX6_pop 26 = .ok (.putfield 47, 3) := by decide +kernel
theorem dX6_pop_29 : decode cX6_pop 29 = .ok (.aload_n 0, 1) := by decide +kernel
theorem dX6_pop_30 : decode cX6_pop 30 = .ok (.getfield 24, 3) := by decide +kernel
theorem dX6_pop_33 : decode cX6_pop 33 = .ok (.aload_n 0, 1) := by decide +kernel
theorem dX6_pop_34 : decode cX6_pop 34 = .ok (.getfield 47, 3) := by decide +kernel
theorem dX6_pop_37 : decode cX6_pop 37 = .ok (.caload, 1) := by decide +kernel
theorem dX6_pop_38 : decode cX6_pop 38 = .ok (.ireturn, 1) := by decide +kernel
theorem dX7_init_0 : decode cX7_init 0 = .ok (.aload_n 0, 1) := by decide +kernel
theorem dX7_init_1 : decode cX7_init 1 = .ok (.invokespecial 3, 3) := by decide +kernel
theorem dX7_init_4 : decode cX7_init 4 = .ok (.aload_n 0, 1) := by decide +kernel
theorem dX7_init_5 : decode cX7_init 5 = .ok (.bipush 32, 2) := by decide +kernel
theorem dX7_init_7 : decode cX7_init 7 = .ok (.newarray .int, 2) := by decide +kernel
theorem dX7_init_9 : decode cX7_init 9 = .ok (.putfield 9, 3) := by decide +kernel
theorem dX7_init_12 : decode cX7_init 12 = .ok (.aload_n 0, 1) := by decide +kernel
theorem dX7_init_13 : decode cX7_init 13 = .ok (.bipush 32, 2) := by decide +kernel
theorem dX7_init_15 : decode cX7_init 15 = .ok (.anewarray 15, 3) := by decide +kernel
theorem dX7_init_18 : decode cX7_init 18 = .ok (.putfield 17, 3) := by decide +kernel
theorem dX7_init_21 : decode cX7_init 21 = .ok (.iconst 0, 1) := by decide +kernel
theorem dX7_init_22 : decode cX7_init 22 = .ok (.istore_n 1, 1) := by decide +kernel
theorem dX7_init_23 : decode cX7_init 23 = .ok (.iload_n 1, 1) := by decide +kernel
theorem dX7_init_24 : decode cX7_init 24 = .ok (.bipush 32, 2) := by decide +kernel
theorem dX7_init_26 : decode cX7_init 26 = .ok (.if_icmp .ge 22, 3) := by decide +kernel
theorem dX7_init_29 : decode cX7_init 29 = .ok (.aload_n 0, 1) := by decide +kernel
theorem dX7_init_30 : decode cX7_init 30 = .ok (.getfield 17, 3) := by decide +kernel
theorem dX7_init_33 : decode cX7_init 33 = .ok (.iload_n 1, 1) := by decide +kernel
theorem dX7_init_34 : decode cX7_init 34 = .ok (.new 15, 3) := by decide +kernel
theorem dX7_init_37 : decode cX7_init 37 = .ok (.dup, 1) := by decide +kernel
theorem dX7_init_38 : decode cX7_init 38 = .ok (.invokespecial 21, 3) := by decide +kernel
theorem dX7_init_41 : decode cX7_init 41 = .ok (.aastore, 1) := by decide +kernel
theorem dX7_init_42 : decode cX7_init 42 = .ok (.iinc 1 1, 3) := by decide +kernel
theorem dX7_init_45 : decode cX7_init 45 = .ok (.goto (-22), 3) := by decide +kernel
theorem dX7_init_48 : decode cX7_init 48 = .ok (.return_, 1) := by decide +kernel
theorem dX7_clear_0 : decode cX7_clear 0 = .ok (.aload_n 0, 1) := by decide +kernel
theorem dX7_clear_1 : decode cX7_clear 1 = .ok (.iload_n 1, 1) := by decide +kernel
theorem dX7_clear_2 : decode cX7_clear 2 = .ok (.putfield 22, 3) := by decide +kernel
theorem dX7_clear_5 : decode cX7_clear 5 = .ok (.aload_n 0, 1) := by decide +kernel
theorem dX7_clear_6 : decode cX7_clear 6 = .ok (.iconst 0, 1) := by decide +kernel
theorem dX7_clear_7 : decode cX7_clear 7 = .ok (.putfield 26, 3) := by decide +kernel
theorem dX7_clear_10 : decode cX7_clear 10 = .ok (.return_, 1) := by decide +kernel
theorem dX7_width_0 : decode cX7_width 0 = .ok (.aload_n 0, 1) := by decide +kernel
theorem dX7_width_1 : decode cX7_width 1 = .ok (.getfield 22, 3) := by decide +kernel
theorem dX7_width_4 : decode cX7_width 4 = .ok (.ireturn, 1) := by decide +kernel
theorem dX7_size_0 : decode cX7_size 0 = .ok (.aload_n 0, 1) := by decide +kernel
theorem dX7_size_1 : decode cX7_size 1 = .ok (.getfield 26, 3) := by decide +kernel
theorem dX7_size_4 : decode cX7_size 4 = .ok (.ireturn, 1) := by decide +kernel
theorem dX7_hasRow_0 : decode cX7_hasRow 0 = .ok (.iload_n 1, 1) := by decide +kernel
theorem dX7_hasRow_1 : decode cX7_hasRow 1 = .ok (.ifCond .lt 21, 3) := by decide +kernel
theorem dX7_hasRow_4 : decode cX7_hasRow 4 = .ok (.iload_n 1, 1) := by decide +kernel
theorem dX7_hasRow_5 : decode cX7_hasRow 5 = .ok (.aload_n 0, 1) := by decide +kernel
theorem dX7_hasRow_6 : decode cX7_hasRow 6 = .ok (.getfield 26, 3) := by decide +kernel
theorem dX7_hasRow_9 : decode cX7_hasRow 9 = .ok (.if_icmp .ge 13, 3) := by decide +kernel
theorem dX7_hasRow_12 : decode cX7_hasRow 12 = .ok (.iload_n 1, 1) := by decide +kernel
theorem dX7_hasRow_13 : decode cX7_hasRow 13 = .ok (.bipush 32, 2) := by decide +kernel
theorem dX7_hasRow_15 : decode cX7_hasRow 15 = .ok (.if_icmp .ge 7, 3) := by decide +kernel
theorem dX7_hasRow_18 : decode cX7_hasRow 18 = .ok (.iconst 1, 1) := by decide +kernel
theorem dX7_hasRow_19 : decode cX7_hasRow 19 = .ok (.goto 4, 3) := by decide +kernel
theorem dX7_hasRow_22 : decode cX7_hasRow 22 = .ok (.iconst 0, 1) := by decide +kernel
theorem dX7_hasRow_23 : decode cX7_hasRow 23 = .ok (.ireturn, 1) := by decide +kernel
theorem dX7_keyAt_0 : decode cX7_keyAt 0 = .ok (.aload_n 0, 1) := by decide +kernel
theorem dX7_keyAt_1 : decode cX7_keyAt 1 = .ok (.iload_n 1, 1) := by decide +kernel
theorem dX7_keyAt_2 : decode cX7_keyAt 2 = .ok (.invokevirtual 29, 3) := by decide +kernel
theorem dX7_keyAt_5 : decode cX7_keyAt 5 = .ok (.ifCond .eq 12, 3) := by decide +kernel
theorem dX7_keyAt_8 : decode cX7_keyAt 8 = .ok (.aload_n 0, 1) := by decide +kernel
theorem dX7_keyAt_9 : decode cX7_keyAt 9 = .ok (.getfield 9, 3) := by decide +kernel
theorem dX7_keyAt_12 : decode cX7_keyAt 12 = .ok (.iload_n 1, 1) := by decide +kernel
theorem dX7_keyAt_13 : decode cX7_keyAt 13 = .ok (.iaload, 1) := by decide +kernel
theorem dX7_keyAt_14 : decode cX7_keyAt 14 = .ok (.goto 4, 3) := by decide +kernel
theorem dX7_keyAt_17 : decode cX7_keyAt 17 = .ok (.iconst 0, 1) := by decide +kernel
theorem dX7_keyAt_18 : decode cX7_keyAt 18 = .ok (.ireturn, 1) := by decide +kernel
theorem dX7_polynomialAt_0 : decode cX7_polynomialAt 0 = .ok (.aload_n 0, 1) := by decide +kernel
theorem dX7_polynomialAt_1 : decode cX7_polynomialAt 1 = .ok (.iload_n 1, 1) := by decide +kernel
theorem dX7_polynomialAt_2 : decode cX7_polynomialAt 2 = .ok (.invokevirtual 29, 3) := by decide +kernel
theorem dX7_polynomialAt_5 : decode cX7_polynomialAt 5 = .ok (.ifCond .eq 12, 3) := by decide +kernel
theorem dX7_polynomialAt_8 : decode cX7_polynomialAt 8 = .ok (.aload_n 0, 1) := by decide +kernel
theorem dX7_polynomialAt_9 : decode cX7_polynomialAt 9 = .ok (.getfield 17, 3) := by decide +kernel
theorem dX7_polynomialAt_12 : decode cX7_polynomialAt 12 = .ok (.iload_n 1, 1) := by decide +kernel
theorem dX7_polynomialAt_13 : decode cX7_polynomialAt 13 = .ok (.aaload, 1) := by decide +kernel
theorem dX7_polynomialAt_14 : decode cX7_polynomialAt 14 = .ok (.goto 4, 3) := by decide +kernel
theorem dX7_polynomialAt_17 : decode cX7_polynomialAt 17 = .ok (.aconst_null, 1) := by decide +kernel
theorem dX7_polynomialAt_18 : decode cX7_polynomialAt 18 = .ok (.areturn, 1) := by decide +kernel
theorem dX7_countPresent_0 : decode cX7_countPresent 0 = .ok (.iload_n 1, 1) := by decide +kernel
theorem dX7_countPresent_1 : decode cX7_countPresent 1 = .ok (.invokestatic 33, 3) := by decide +kernel
theorem dX7_countPresent_4 : decode cX7_countPresent 4 = .ok (.lstore_n 2, 1) := by decide +kernel
theorem dX7_countPresent_5 : decode cX7_countPresent 5 = .ok (.iconst 0, 1) := by decide +kernel
theorem dX7_countPresent_6 : decode cX7_countPresent 6 = .ok (.istore 4, 2) := by decide +kernel
theorem dX7_countPresent_8 : decode cX7_countPresent 8 = .ok (.iconst 0, 1) := by decide +kernel
theorem dX7_countPresent_9 : decode cX7_countPresent 9 = .ok (.istore 5, 2) := by decide +kernel
theorem dX7_countPresent_11 : decode cX7_countPresent 11 = .ok (.iload 5, 2) := by decide +kernel
theorem dX7_countPresent_13 : decode cX7_countPresent 13 = .ok (.aload_n 0, 1) := by decide +kernel
theorem dX7_countPresent_14 : decode cX7_countPresent 14 = .ok (.getfield 26, 3) := by decide +kernel
theorem dX7_countPresent_17 : decode cX7_countPresent 17 = .ok (.if_icmp .ge 34, 3) := by decide +kernel
theorem dX7_countPresent_20 : decode cX7_countPresent 20 = .ok (.aload_n 0, 1) := by decide +kernel
theorem dX7_countPresent_21 : decode cX7_countPresent 21 = .ok (.iload 5, 2) := by decide +kernel
theorem dX7_countPresent_23 : decode cX7_countPresent 23 = .ok (.invokevirtual 39, 3) := by decide +kernel
theorem dX7_countPresent_26 : decode cX7_countPresent 26 = .ok (.astore 6, 2) := by decide +kernel
theorem dX7_countPresent_28 : decode cX7_countPresent 28 = .ok (.aload 6, 2) := by decide +kernel
theorem dX7_countPresent_30 : decode cX7_countPresent 30 = .ok (.ifnull 15, 3) := by decide +kernel
theorem dX7_countPresent_33 : decode cX7_countPresent 33 = .ok (.aload 6, 2) := by decide +kernel
theorem dX7_countPresent_35 : decode cX7_countPresent 35 = .ok (.lload_n 2, 1) := by decide +kernel
theorem dX7_countPresent_36 : decode cX7_countPresent 36 = .ok (.invokevirtual 43, 3) := by decide +kernel
theorem dX7_countPresent_39 : decode cX7_countPresent 39 = .ok (.ifCond .eq 6, 3) := by decide +kernel
theorem dX7_countPresent_42 : decode cX7_countPresent 42 = .ok (.iinc 4 1, 3) := by decide +kernel
theorem dX7_countPresent_45 : decode cX7_countPresent 45 = .ok (.iinc 5 1, 3) := by decide +kernel
theorem dX7_countPresent_48 : decode cX7_countPresent 48 = .ok (.goto (-37), 3) := by decide +kernel
theorem dX7_countPresent_51 : decode cX7_countPresent 51 = .ok (.iload 4, 2) := by decide +kernel
theorem dX7_countPresent_53 : decode cX7_countPresent 53 = .ok (.ireturn, 1) := by decide +kernel
theorem dX7_rowWith_0 : decode cX7_rowWith 0 = .ok (.iconst 0, 1) := by decide +kernel
theorem dX7_rowWith_1 : decode cX7_rowWith 1 = .ok (.istore_n 2, 1) := by decide +kernel
theorem dX7_rowWith_2 : decode cX7_rowWith 2 = .ok (.iload_n 2, 1) := by decide +kernel
theorem dX7_rowWith_3 : decode cX7_rowWith 3 = .ok (.aload_n 0, 1) := by decide +kernel
theorem dX7_rowWith_4 : decode cX7_rowWith 4 = .ok (.getfield 26, 3) := by decide +kernel
theorem dX7_rowWith_7 : decode cX7_rowWith 7 = .ok (.if_icmp .ge 25, 3) := by decide +kernel
theorem dX7_rowWith_10 : decode cX7_rowWith 10 = .ok (.iload_n 2, 1) := by decide +kernel
theorem dX7_rowWith_11 : decode cX7_rowWith 11 = .ok (.bipush 32, 2) := by decide +kernel
theorem dX7_rowWith_13 : decode cX7_rowWith 13 = .ok (.if_icmp .ge 19, 3) := by decide +kernel
theorem dX7_rowWith_16 : decode cX7_rowWith 16 = .ok (.aload_n 0, 1) := by decide +kernel
theorem dX7_rowWith_17 : decode cX7_rowWith 17 = .ok (.getfield 9, 3) := by decide +kernel
theorem dX7_rowWith_20 : decode cX7_rowWith 20 = .ok (.iload_n 2, 1) := by decide +kernel
theorem dX7_rowWith_21 : decode cX7_rowWith 21 = .ok (.iaload, 1) := by decide +kernel
theorem dX7_rowWith_22 : decode cX7_rowWith 22 = .ok (.iload_n 1, 1) := by decide +kernel
theorem dX7_rowWith_23 : decode cX7_rowWith 23 = .ok (.if_icmp .ge 9, 3) := by decide +kernel
theorem dX7_rowWith_26 : decode cX7_rowWith 26 = .ok (.iinc 2 1, 3) := by decide +kernel
theorem dX7_rowWith_29 : decode cX7_rowWith 29 = .ok (.goto (-27), 3) := by decide +kernel
theorem dX7_rowWith_32 : decode cX7_rowWith 32 = .ok (.iload_n 2, 1) := by decide +kernel
theorem dX7_rowWith_33 : decode cX7_rowWith 33 = .ok (.aload_n 0, 1) := by decide +kernel
theorem dX7_rowWith_34 : decode cX7_rowWith 34 = .ok (.getfield 26, 3) := by decide +kernel
theorem dX7_rowWith_37 : decode cX7_rowWith 37 = .ok (.if_icmp .ge 26, 3) := by decide +kernel
theorem dX7_rowWith_40 : decode cX7_rowWith 40 = .ok (.iload_n 2, 1) := by decide +kernel
theorem dX7_rowWith_41 : decode cX7_rowWith 41 = .ok (.bipush 32, 2) := by decide +kernel
theorem dX7_rowWith_43 : decode cX7_rowWith 43 = .ok (.if_icmp .ge 20, 3) := by decide +kernel
theorem dX7_rowWith_46 : decode cX7_rowWith 46 = .ok (.aload_n 0, 1) := by decide +kernel
theorem dX7_rowWith_47 : decode cX7_rowWith 47 = .ok (.getfield 9, 3) := by decide +kernel
theorem dX7_rowWith_50 : decode cX7_rowWith 50 = .ok (.iload_n 2, 1) := by decide +kernel
theorem dX7_rowWith_51 : decode cX7_rowWith 51 = .ok (.iaload, 1) := by decide +kernel
theorem dX7_rowWith_52 : decode cX7_rowWith 52 = .ok (.iload_n 1, 1) := by decide +kernel
theorem dX7_rowWith_53 : decode cX7_rowWith 53 = .ok (.if_icmp .ne 10, 3) := by decide +kernel
theorem dX7_rowWith_56 : decode cX7_rowWith 56 = .ok (.aload_n 0, 1) := by decide +kernel
theorem dX7_rowWith_57 : decode cX7_rowWith 57 = .ok (.getfield 17, 3) := by decide +kernel
theorem dX7_rowWith_60 : decode cX7_rowWith 60 = .ok (.iload_n 2, 1) := by decide +kernel
theorem dX7_rowWith_61 : decode cX7_rowWith 61 = .ok (.aaload, 1) := by decide +kernel
theorem dX7_rowWith_62 : decode cX7_rowWith 62 = .ok (.areturn, 1) := by decide +kernel
theorem dX7_rowWith_63 : decode cX7_rowWith 63 = .ok (.aload_n 0, 1) := by decide +kernel
theorem dX7_rowWith_64 : decode cX7_rowWith 64 = .ok (.getfield 26, 3) := by decide +kernel
theorem dX7_rowWith_67 : decode cX7_rowWith 67 = .ok (.bipush 32, 2) := by decide +kernel
theorem dX7_rowWith_69 : decode cX7_rowWith 69 = .ok (.if_icmp .lt 5, 3) := by decide +kernel
theorem dX7_rowWith_72 : decode cX7_rowWith 72 = .ok (.aconst_null, 1) := by decide +kernel
theorem dX7_rowWith_73 : decode cX7_rowWith 73 = .ok (.areturn, 1) := by decide +kernel
theorem dX7_rowWith_74 : decode cX7_rowWith 74 = .ok (.aload_n 0, 1) := by decide +kernel
theorem dX7_rowWith_75 : decode cX7_rowWith 75 = .ok (.getfield 17, 3) := by decide +kernel
theorem dX7_rowWith_78 : decode cX7_rowWith 78 = .ok (.aload_n 0, 1) := by decide +kernel
theorem dX7_rowWith_79 : decode cX7_rowWith 79 = .ok (.getfield 26, 3) := by decide +kernel
theorem dX7_rowWith_82 : decode cX7_rowWith 82 = .ok (.aaload, 1) := by decide +kernel
theorem dX7_rowWith_83 : decode cX7_rowWith 83 = .ok (.astore_n 3, 1) := by decide +kernel
theorem dX7_rowWith_84 : decode cX7_rowWith 84 = .ok (.aload_n 3, 1) := by decide +kernel
theorem dX7_rowWith_85 : decode cX7_rowWith 85 = .ok (.ifnonnull 5, 3) := by decide +kernel
theorem dX7_rowWith_88 : decode cX7_rowWith 88 = .ok (.aconst_null, 1) := by decide +kernel
theorem dX7_rowWith_89 : decode cX7_rowWith 89 = .ok (.areturn, 1) := by decide +kernel
theorem dX7_rowWith_90 : decode cX7_rowWith 90 = .ok (.aload_n 0, 1) := by decide +kernel
theorem dX7_rowWith_91 : decode cX7_rowWith 91 = .ok (.getfield 26, 3) := by decide +kernel
theorem dX7_rowWith_94 : decode cX7_rowWith 94 = .ok (.istore 4, 2) := by decide +kernel
theorem dX7_rowWith_96 : decode cX7_rowWith 96 = .ok (.iload 4, 2) := by decide +kernel
theorem dX7_rowWith_98 : decode cX7_rowWith 98 = .ok (.iload_n 2, 1) := by decide +kernel
theorem dX7_rowWith_99 : decode cX7_rowWith 99 = .ok (.if_icmp .le 41, 3) := by decide +kernel
theorem dX7_rowWith_102 : decode cX7_rowWith 102 = .ok (.aload_n 0, 1) := by decide +kernel
theorem dX7_rowWith_103 : decode cX7_rowWith 103 = .ok (.getfield 9, 3) := by decide +kernel
theorem dX7_rowWith_106 : decode cX7_rowWith 106 = .ok (.iload 4, 2) := by decide +kernel
theorem dX7_rowWith_108 : decode cX7_rowWith 108 = .ok (.aload_n 0, 1) := by decide +kernel
theorem dX7_rowWith_109 : decode cX7_rowWith 109 = .ok (.getfield 9, 3) := by decide +kernel
theorem dX7_rowWith_112 : decode cX7_rowWith 112 = .ok (.iload 4, 2) := by decide +kernel
theorem dX7_rowWith_114 : decode cX7_rowWith 114 = .ok (.iconst 1, 1) := by decide +kernel
theorem dX7_rowWith_115 : decode cX7_rowWith 115 = .ok (.isub, 1) := by decide +kernel
theorem dX7_rowWith_116 : decode cX7_rowWith 116 = .ok (.iaload, 1) := by decide +kernel
theorem dX7_rowWith_117 : decode cX7_rowWith 117 = .ok (.iastore, 1) := by decide +kernel
theorem dX7_rowWith_118 : decode cX7_rowWith 118 = .ok (.aload_n 0, 1) := by decide +kernel
theorem dX7_rowWith_119 : decode cX7_rowWith 119 = .ok (.getfield 17, 3) := by decide +kernel
theorem dX7_rowWith_122 : decode cX7_rowWith 122 = .ok (.iload 4, 2) := by decide +kernel
theorem dX7_rowWith_124 : decode cX7_rowWith 124 = .ok (.aload_n 0, 1) := by decide +kernel
theorem dX7_rowWith_125 : decode cX7_rowWith 125 = .ok (.getfield 17, 3) := by decide +kernel
theorem dX7_rowWith_128 : decode cX7_rowWith 128 = .ok (.iload 4, 2) := by decide +kernel
theorem dX7_rowWith_130 : decode cX7_rowWith 130 = .ok (.iconst 1, 1) := by decide +kernel
theorem dX7_rowWith_131 : decode cX7_rowWith 131 = .ok (.isub, 1) := by decide +kernel
theorem dX7_rowWith_132 : decode cX7_rowWith 132 = .ok (.aaload, 1) := by decide +kernel
theorem dX7_rowWith_133 : decode cX7_rowWith 133 = .ok (.aastore, 1) := by decide +kernel
theorem dX7_rowWith_134 : decode cX7_rowWith 134 = .ok (.iinc 4 (-1), 3) := by decide +kernel
theorem dX7_rowWith_137 : decode cX7_rowWith 137 = .ok (.goto (-41), 3) := by decide +kernel
theorem dX7_rowWith_140 : decode cX7_rowWith 140 = .ok (.aload_n 3, 1) := by decide +kernel
theorem dX7_rowWith_141 : decode cX7_rowWith 141 = .ok (.invokevirtual 47, 3) := by decide +kernel
theorem dX7_rowWith_144 : decode cX7_rowWith 144 = .ok (.aload_n 0, 1) := by decide +kernel
theorem dX7_rowWith_145 : decode cX7_rowWith 145 = .ok (.getfield 9, 3) := by decide +kernel
theorem dX7_rowWith_148 : decode cX7_rowWith 148 = .ok (.iload_n 2, 1) := by decide +kernel
theorem dX7_rowWith_149 : decode cX7_rowWith 149 = .ok (.iload_n 1, 1) := by decide +kernel
theorem dX7_rowWith_150 : decode cX7_rowWith 150 = .ok (.iastore, 1) := by decide +kernel
theorem dX7_rowWith_151 : decode cX7_rowWith 151 = .ok (.aload_n 0, 1) := by decide +kernel
theorem dX7_rowWith_152 : decode cX7_rowWith 152 = .ok (.getfield 17, 3) := by decide +kernel
theorem dX7_rowWith_155 : decode cX7_rowWith 155 = .ok (.iload_n 2, 1) := by decide +kernel
theorem dX7_rowWith_156 : decode cX7_rowWith 156 = .ok (.aload_n 3, 1) := by decide +kernel
theorem dX7_rowWith_157 : decode cX7_rowWith 157 = .ok (.aastore, 1) := by decide +kernel
theorem dX7_rowWith_158 : decode cX7_rowWith 158 = .ok (.aload_n 0, 1) := by decide +kernel
theorem dX7_rowWith_159 : decode cX7_rowWith 159 = .ok (.dup, 1) := by decide +kernel
theorem dX7_rowWith_160 : decode cX7_rowWith 160 = .ok (.getfield 26, 3) := by decide +kernel
theorem dX7_rowWith_163 : decode cX7_rowWith 163 = .ok (.iconst 1, 1) := by decide +kernel
theorem dX7_rowWith_164 : decode cX7_rowWith 164 = .ok (.iadd, 1) := by decide +kernel
theorem dX7_rowWith_165 : decode cX7_rowWith 165 = .ok (.putfield 26, 3) := by decide +kernel
theorem dX7_rowWith_168 : decode cX7_rowWith 168 = .ok (.aload_n 3, 1) := by decide +kernel
theorem dX7_rowWith_169 : decode cX7_rowWith 169 = .ok (.areturn, 1) := by decide +kernel
theorem dX8_init_0 : decode cX8_init 0 = .ok (.aload_n 0, 1) := by decide +kernel
theorem dX8_init_1 : decode cX8_init 1 = .ok (.invokespecial 3, 3) := by decide +kernel
theorem dX8_init_4 : decode cX8_init 4 = .ok (.aload_n 0, 1) := by decide +kernel
theorem dX8_init_5 : decode cX8_init 5 = .ok (.iconst 4, 1) := by decide +kernel
theorem dX8_init_6 : decode cX8_init 6 = .ok (.newarray .int, 2) := by decide +kernel
theorem dX8_init_8 : decode cX8_init 8 = .ok (.putfield 9, 3) := by decide +kernel
theorem dX8_init_11 : decode cX8_init 11 = .ok (.aload_n 0, 1) := by decide +kernel
theorem dX8_init_12 : decode cX8_init 12 = .ok (.bipush 16, 2) := by decide +kernel
theorem dX8_init_14 : decode cX8_init 14 = .ok (.newarray .int, 2) := by decide +kernel
theorem dX8_init_16 : decode cX8_init 16 = .ok (.putfield 15, 3) := by decide +kernel
theorem dX8_init_19 : decode cX8_init 19 = .ok (.aload_n 0, 1) := by decide +kernel
theorem dX8_init_20 : decode cX8_init 20 = .ok (.bipush 16, 2) := by decide +kernel
theorem dX8_init_22 : decode cX8_init 22 = .ok (.newarray .int, 2) := by decide +kernel
theorem dX8_init_24 : decode cX8_init 24 = .ok (.putfield 18, 3) := by decide +kernel
theorem dX8_init_27 : decode cX8_init 27 = .ok (.aload_n 0, 1) := by decide +kernel
theorem dX8_init_28 : decode cX8_init 28 = .ok (.bipush 16, 2) := by decide +kernel
theorem dX8_init_30 : decode cX8_init 30 = .ok (.newarray .int, 2) := by decide +kernel
theorem dX8_init_32 : decode cX8_init 32 = .ok (.putfield 21, 3) := by decide +kernel
theorem dX8_init_35 : decode cX8_init 35 = .ok (.aload_n 0, 1) := by decide +kernel
theorem dX8_init_36 : decode cX8_init 36 = .ok (.bipush 16, 2) := by decide +kernel
theorem dX8_init_38 : decode cX8_init 38 = .ok (.newarray .int, 2) := by decide +kernel
theorem dX8_init_40 : decode cX8_init 40 = .ok (.putfield 24, 3) := by decide +kernel
theorem dX8_init_43 : decode cX8_init 43 = .ok (.aload_n 0, 1) := by decide +kernel
theorem dX8_init_44 : decode cX8_init 44 = .ok (.new 27, 3) := by decide +kernel
theorem dX8_init_47 : decode cX8_init 47 = .ok (.dup, 1) := by decide +kernel
theorem dX8_init_48 : decode cX8_init 48 = .ok (.bipush 60, 2) := by decide +kernel
theorem dX8_init_50 : decode cX8_init 50 = .ok (.invokespecial 29, 3) := by decide +kernel
theorem dX8_init_53 : decode cX8_init 53 = .ok (.putfield 32, 3) := by decide +kernel
theorem dX8_init_56 : decode cX8_init 56 = .ok (.iconst 0, 1) := by decide +kernel
theorem dX8_init_57 : decode cX8_init 57 = .ok (.istore_n 1, 1) := by decide +kernel
theorem dX8_init_58 : decode cX8_init 58 = .ok (.iload_n 1, 1) := by decide +kernel
theorem dX8_init_59 : decode cX8_init 59 = .ok (.iconst 4, 1) := by decide +kernel
theorem dX8_init_60 : decode cX8_init 60 = .ok (.if_icmp .ge 16, 3) := by decide +kernel
theorem dX8_init_63 : decode cX8_init 63 = .ok (.aload_n 0, 1) := by decide +kernel
theorem dX8_init_64 : decode cX8_init 64 = .ok (.getfield 9, 3) := by decide +kernel
theorem dX8_init_67 : decode cX8_init 67 = .ok (.iload_n 1, 1) := by decide +kernel
theorem dX8_init_68 : decode cX8_init 68 = .ok (.iconst 2, 1) := by decide +kernel
theorem dX8_init_69 : decode cX8_init 69 = .ok (.iastore, 1) := by decide +kernel
theorem dX8_init_70 : decode cX8_init 70 = .ok (.iinc 1 1, 3) := by decide +kernel
theorem dX8_init_73 : decode cX8_init 73 = .ok (.goto (-15), 3) := by decide +kernel
theorem dX8_init_76 : decode cX8_init 76 = .ok (.return_, 1) := by decide +kernel
theorem dX8_copy_0 : decode cX8_copy 0 = .ok (.aload_n 1, 1) := by decide +kernel
theorem dX8_copy_1 : decode cX8_copy 1 = .ok (.getfield 9, 3) := by decide +kernel
theorem dX8_copy_4 : decode cX8_copy 4 = .ok (.aload_n 0, 1) := by decide +kernel
theorem dX8_copy_5 : decode cX8_copy 5 = .ok (.getfield 9, 3) := by decide +kernel
theorem dX8_copy_8 : decode cX8_copy 8 = .ok (.invokestatic 36, 3) := by decide +kernel
theorem dX8_copy_11 : decode cX8_copy 11 = .ok (.aload_n 1, 1) := by decide +kernel
theorem dX8_copy_12 : decode cX8_copy 12 = .ok (.getfield 15, 3) := by decide +kernel
theorem dX8_copy_15 : decode cX8_copy 15 = .ok (.aload_n 0, 1) := by decide +kernel
theorem dX8_copy_16 : decode cX8_copy 16 = .ok (.getfield 15, 3) := by decide +kernel
theorem dX8_copy_19 : decode cX8_copy 19 = .ok (.invokestatic 36, 3) := by decide +kernel
theorem dX8_copy_22 : decode cX8_copy 22 = .ok (.aload_n 1, 1) := by decide +kernel
theorem dX8_copy_23 : decode cX8_copy 23 = .ok (.getfield 18, 3) := by decide +kernel
theorem dX8_copy_26 : decode cX8_copy 26 = .ok (.aload_n 0, 1) := by decide +kernel
theorem dX8_copy_27 : decode cX8_copy 27 = .ok (.getfield 18, 3) := by decide +kernel
theorem dX8_copy_30 : decode cX8_copy 30 = .ok (.invokestatic 36, 3) := by decide +kernel
theorem dX8_copy_33 : decode cX8_copy 33 = .ok (.aload_n 1, 1) := by decide +kernel
theorem dX8_copy_34 : decode cX8_copy 34 = .ok (.getfield 21, 3) := by decide +kernel
theorem dX8_copy_37 : decode cX8_copy 37 = .ok (.aload_n 0, 1) := by decide +kernel
theorem dX8_copy_38 : decode cX8_copy 38 = .ok (.getfield 21, 3) := by decide +kernel
theorem dX8_copy_41 : decode cX8_copy 41 = .ok (.invokestatic 36, 3) := by decide +kernel
theorem dX8_copy_44 : decode cX8_copy 44 = .ok (.aload_n 1, 1) := by decide +kernel
theorem dX8_copy_45 : decode cX8_copy 45 = .ok (.getfield 24, 3) := by decide +kernel
theorem dX8_copy_48 : decode cX8_copy 48 = .ok (.aload_n 0, 1) := by decide +kernel
theorem dX8_copy_49 : decode cX8_copy 49 = .ok (.getfield 24, 3) := by decide +kernel
theorem dX8_copy_52 : decode cX8_copy 52 = .ok (.invokestatic 36, 3) := by decide +kernel
theorem dX8_copy_55 : decode cX8_copy 55 = .ok (.aload_n 0, 1) := by decide +kernel
theorem dX8_copy_56 : decode cX8_copy 56 = .ok (.getfield 32, 3) := by decide +kernel
theorem dX8_copy_59 : decode cX8_copy 59 = .ok (.aload_n 1, 1) := by decide +kernel
theorem dX8_copy_60 : decode cX8_copy 60 = .ok (.getfield 32, 3) := by decide +kernel
theorem dX8_copy_63 : decode cX8_copy 63 = .ok (.invokevirtual 40, 3) := by decide +kernel
theorem dX8_copy_66 : decode cX8_copy 66 = .ok (.aload_n 0, 1) := by decide +kernel
theorem dX8_copy_67 : decode cX8_copy 67 = .ok (.aload_n 1, 1) := by decide +kernel
theorem dX8_copy_68 : decode cX8_copy 68 = .ok (.getfield 44, 3) := by decide +kernel
theorem dX8_copy_71 : decode cX8_copy 71 = .ok (.putfield 44, 3) := by decide +kernel
theorem dX8_copy_74 : decode cX8_copy 74 = .ok (.aload_n 0, 1) := by decide +kernel
theorem dX8_copy_75 : decode cX8_copy 75 = .ok (.aload_n 1, 1) := by decide +kernel
theorem dX8_copy_76 : decode cX8_copy 76 = .ok (.getfield 48, 3) := by decide +kernel
theorem dX8_copy_79 : decode cX8_copy 79 = .ok (.putfield 48, 3) := by decide +kernel
theorem dX8_copy_82 : decode cX8_copy 82 = .ok (.return_, 1) := by decide +kernel
theorem dX8_queryLine_0 : decode cX8_queryLine 0 = .ok (.aload_n 0, 1) := by decide +kernel
theorem dX8_queryLine_1 : decode cX8_queryLine 1 = .ok (.getfield 32, 3) := by decide +kernel
theorem dX8_queryLine_4 : decode cX8_queryLine 4 = .ok (.areturn, 1) := by decide +kernel
theorem dX8_tagMask_0 : decode cX8_tagMask 0 = .ok (.aload_n 0, 1) := by decide +kernel
theorem dX8_tagMask_1 : decode cX8_tagMask 1 = .ok (.getfield 44, 3) := by decide +kernel
theorem dX8_tagMask_4 : decode cX8_tagMask 4 = .ok (.ireturn, 1) := by decide +kernel
theorem dX8_withdrawnMask_0 : decode cX8_withdrawnMask 0 = .ok (.aload_n 0, 1) := by decide +kernel
theorem dX8_withdrawnMask_1 : decode cX8_withdrawnMask 1 = .ok (.getfield 48, 3) := by decide +kernel
theorem dX8_withdrawnMask_4 : decode cX8_withdrawnMask 4 = .ok (.ireturn, 1) := by decide +kernel
theorem dX8_hasTag_0 : decode cX8_hasTag 0 = .ok (.iload_n 1, 1) := by decide +kernel
theorem dX8_hasTag_1 : decode cX8_hasTag 1 = .ok (.ifCond .lt 24, 3) := by decide +kernel
theorem dX8_hasTag_4 : decode cX8_hasTag 4 = .ok (.iload_n 1, 1) := by decide +kernel
theorem dX8_hasTag_5 : decode cX8_hasTag 5 = .ok (.bipush 16, 2) := by decide +kernel
theorem dX8_hasTag_7 : decode cX8_hasTag 7 = .ok (.if_icmp .ge 18, 3) := by decide +kernel
theorem dX8_hasTag_10 : decode cX8_hasTag 10 = .ok (.aload_n 0, 1) := by decide +kernel
theorem dX8_hasTag_11 : decode cX8_hasTag 11 = .ok (.getfield 44, 3) := by decide +kernel
theorem dX8_hasTag_14 : decode cX8_hasTag 14 = .ok (.iload_n 1, 1) := by decide +kernel
theorem dX8_hasTag_15 : decode cX8_hasTag 15 = .ok (.ishr, 1) := by decide +kernel
theorem dX8_hasTag_16 : decode cX8_hasTag 16 = .ok (.iconst 1, 1) := by decide +kernel
theorem dX8_hasTag_17 : decode cX8_hasTag 17 = .ok (.iand, 1) := by decide +kernel
theorem dX8_hasTag_18 : decode cX8_hasTag 18 = .ok (.ifCond .eq 7, 3) := by decide +kernel
theorem dX8_hasTag_21 : decode cX8_hasTag 21 = .ok (.iconst 1, 1) := by decide +kernel
theorem dX8_hasTag_22 : decode cX8_hasTag 22 = .ok (.goto 4, 3) := by decide +kernel
theorem dX8_hasTag_25 : decode cX8_hasTag 25 = .ok (.iconst 0, 1) := by decide +kernel
theorem dX8_hasTag_26 : decode cX8_hasTag 26 = .ok (.ireturn, 1) := by decide +kernel
theorem dX8_freeTag_0 : decode cX8_freeTag 0 = .ok (.iconst 0, 1) := by decide +kernel
theorem dX8_freeTag_1 : decode cX8_freeTag 1 = .ok (.istore_n 1, 1) := by decide +kernel
theorem dX8_freeTag_2 : decode cX8_freeTag 2 = .ok (.iload_n 1, 1) := by decide +kernel
theorem dX8_freeTag_3 : decode cX8_freeTag 3 = .ok (.bipush 16, 2) := by decide +kernel
theorem dX8_freeTag_5 : decode cX8_freeTag 5 = .ok (.if_icmp .ge 19, 3) := by decide +kernel
theorem dX8_freeTag_8 : decode cX8_freeTag 8 = .ok (.aload_n 0, 1) := by decide +kernel
theorem dX8_freeTag_9 : decode cX8_freeTag 9 = .ok (.iload_n 1, 1) := by decide +kernel
theorem dX8_freeTag_10 : decode cX8_freeTag 10 = .ok (.invokevirtual 51, 3) := by decide +kernel
theorem dX8_freeTag_13 : decode cX8_freeTag 13 = .ok (.ifCond .ne 5, 3) := by decide +kernel
theorem dX8_freeTag_16 : decode cX8_freeTag 16 = .ok (.iload_n 1, 1) := by decide +kernel
theorem dX8_freeTag_17 : decode cX8_freeTag 17 = .ok (.ireturn, 1) := by decide +kernel
theorem dX8_freeTag_18 : decode cX8_freeTag 18 = .ok (.iinc 1 1, 3) := by decide +kernel
theorem dX8_freeTag_21 : decode cX8_freeTag 21 = .ok (.goto (-19), 3) := by decide +kernel
theorem dX8_freeTag_24 : decode cX8_freeTag 24 = .ok (.iconst (-1), 1) := by decide +kernel
theorem dX8_freeTag_25 : decode cX8_freeTag 25 = .ok (.ireturn, 1) := by decide +kernel
theorem dX8_hasRowIn_0 : decode cX8_hasRowIn 0 = .ok (.iconst 0, 1) := by decide +kernel
theorem dX8_hasRowIn_1 : decode cX8_hasRowIn 1 = .ok (.istore_n 2, 1) := by decide +kernel
theorem dX8_hasRowIn_2 : decode cX8_hasRowIn 2 = .ok (.iload_n 2, 1) := by decide +kernel
theorem dX8_hasRowIn_3 : decode cX8_hasRowIn 3 = .ok (.bipush 16, 2) := by decide +kernel
theorem dX8_hasRowIn_5 : decode cX8_hasRowIn 5 = .ok (.if_icmp .ge 29, 3) := by decide +kernel
theorem dX8_hasRowIn_8 : decode cX8_hasRowIn 8 = .ok (.aload_n 0, 1) := by decide +kernel
theorem dX8_hasRowIn_9 : decode cX8_hasRowIn 9 = .ok (.iload_n 2, 1) := by decide +kernel
theorem dX8_hasRowIn_10 : decode cX8_hasRowIn 10 = .ok (.invokevirtual 51, 3) := by decide +kernel
theorem dX8_hasRowIn_13 : decode cX8_hasRowIn 13 = .ok (.ifCond .eq 15, 3) := by decide +kernel
theorem dX8_hasRowIn_16 : decode cX8_hasRowIn 16 = .ok (.aload_n 0, 1) := by decide +kernel
theorem dX8_hasRowIn_17 : decode cX8_hasRowIn 17 = .ok (.getfield 15, 3) := by decide +kernel
theorem dX8_hasRowIn_20 : decode cX8_hasRowIn 20 = .ok (.iload_n 2, 1) := by decide +kernel
theorem dX8_hasRowIn_21 : decode cX8_hasRowIn 21 = .ok (.iaload, 1) := by decide +kernel
theorem dX8_hasRowIn_22 : decode cX8_hasRowIn 22 = .ok (.iload_n 1, 1) := by decide +kernel
theorem dX8_hasRowIn_23 : decode cX8_hasRowIn 23 = .ok (.if_icmp .ne 5, 3) := by decide +kernel
theorem dX8_hasRowIn_26 : decode cX8_hasRowIn 26 = .ok (.iconst 1, 1) := by decide +kernel
theorem dX8_hasRowIn_27 : decode cX8_hasRowIn 27 = .ok (.ireturn, 1) := by decide +kernel
theorem dX8_hasRowIn_28 : decode cX8_hasRowIn 28 = .ok (.iinc 2 1, 3) := by decide +kernel
theorem dX8_hasRowIn_31 : decode cX8_hasRowIn 31 = .ok (.goto (-29), 3) := by decide +kernel
theorem dX8_hasRowIn_34 : decode cX8_hasRowIn 34 = .ok (.iconst 0, 1) := by decide +kernel
theorem dX8_hasRowIn_35 : decode cX8_hasRowIn 35 = .ok (.ireturn, 1) := by decide +kernel
theorem dX8_queryNames_0 : decode cX8_queryNames 0 = .ok (.aload_n 0, 1) := by decide +kernel
theorem dX8_queryNames_1 : decode cX8_queryNames 1 = .ok (.getfield 32, 3) := by decide +kernel
theorem dX8_queryNames_4 : decode cX8_queryNames 4 = .ok (.bipush 65, 2) := by decide +kernel
theorem dX8_queryNames_6 : decode cX8_queryNames 6 = .ok (.iload_n 1, 1) := by decide +kernel
theorem dX8_queryNames_7 : decode cX8_queryNames 7 = .ok (.iadd, 1) := by decide +kernel
theorem dX8_queryNames_8 : decode cX8_queryNames 8 = .ok (.i2c, 1) := by decide +kernel
theorem dX8_queryNames_9 : decode cX8_queryNames 9 = .ok (.invokevirtual 55, 3) := by decide +kernel
theorem dX8_queryNames_12 : decode cX8_queryNames 12 = .ok (.ireturn, 1) := by decide +kernel
theorem dX8_widthOf_0 : decode cX8_widthOf 0 = .ok (.iload_n 1, 1) := by decide +kernel
theorem dX8_widthOf_1 : decode cX8_widthOf 1 = .ok (.invokestatic 59, 3) := by decide +kernel
theorem dX8_widthOf_4 : decode cX8_widthOf 4 = .ok (.ifCond .eq 12, 3) := by decide +kernel
theorem dX8_widthOf_7 : decode cX8_widthOf 7 = .ok (.aload_n 0, 1) := by decide +kernel
theorem dX8_widthOf_8 : decode cX8_widthOf 8 = .ok (.getfield 9, 3) := by decide +kernel
theorem dX8_widthOf_11 : decode cX8_widthOf 11 = .ok (.iload_n 1, 1) := by decide +kernel
theorem dX8_widthOf_12 : decode cX8_widthOf 12 = .ok (.iaload, 1) := by decide +kernel
theorem dX8_widthOf_13 : decode cX8_widthOf 13 = .ok (.goto 4, 3) := by decide +kernel
theorem dX8_widthOf_16 : decode cX8_widthOf 16 = .ok (.iconst 0, 1) := by decide +kernel
theorem dX8_widthOf_17 : decode cX8_widthOf 17 = .ok (.ireturn, 1) := by decide +kernel
theorem dX8_setWidth_0 : decode cX8_setWidth 0 = .ok (.iload_n 1, 1) := by decide +kernel
theorem dX8_setWidth_1 : decode cX8_setWidth 1 = .ok (.invokestatic 59, 3) := by decide +kernel
theorem dX8_setWidth_4 : decode cX8_setWidth 4 = .ok (.ifCond .eq 10, 3) := by decide +kernel
theorem dX8_setWidth_7 : decode cX8_setWidth 7 = .ok (.aload_n 0, 1) := by decide +kernel
theorem dX8_setWidth_8 : decode cX8_setWidth 8 = .ok (.getfield 9, 3) := by decide +kernel
theorem dX8_setWidth_11 : decode cX8_setWidth 11 = .ok (.iload_n 1, 1) := by decide +kernel
theorem dX8_setWidth_12 : decode cX8_setWidth 12 = .ok (.iload_n 2, 1) := by decide +kernel
theorem dX8_setWidth_13 : decode cX8_setWidth 13 = .ok (.iastore, 1) := by decide +kernel
theorem dX8_setWidth_14 : decode cX8_setWidth 14 = .ok (.return_, 1) := by decide +kernel
theorem dX8_place_0 : decode cX8_place 0 = .ok (.iload_n 1, 1) := by decide +kernel
theorem dX8_place_1 : decode cX8_place 1 = .ok (.ifCond .lt 9, 3) := by decide +kernel
theorem dX8_place_4 : decode cX8_place 4 = .ok (.iload_n 1, 1) := by decide +kernel
theorem dX8_place_5 : decode cX8_place 5 = .ok (.bipush 16, 2) := by decide +kernel
theorem dX8_place_7 : decode cX8_place 7 = .ok (.if_icmp .lt 4, 3) := by decide +kernel
theorem dX8_place_10 : decode cX8_place 10 = .ok (.return_, 1) := by decide +kernel
theorem dX8_place_11 : decode cX8_place 11 = .ok (.aload_n 0, 1) := by decide +kernel
theorem dX8_place_12 : decode cX8_place 12 = .ok (.getfield 15, 3) := by decide +kernel
theorem dX8_place_15 : decode cX8_place 15 = .ok (.iload_n 1, 1) := by decide +kernel
theorem dX8_place_16 : decode cX8_place 16 = .ok (.iload_n 2, 1) := by decide +kernel
theorem dX8_place_17 : decode cX8_place 17 = .ok (.iastore, 1) := by decide +kernel
theorem dX8_place_18 : decode cX8_place 18 = .ok (.aload_n 0, 1) := by decide +kernel
theorem dX8_place_19 : decode cX8_place 19 = .ok (.getfield 18, 3) := by decide +kernel
theorem dX8_place_22 : decode cX8_place 22 = .ok (.iload_n 1, 1) := by decide +kernel
theorem dX8_place_23 : decode cX8_place 23 = .ok (.iload_n 3, 1) := by decide +kernel
theorem dX8_place_24 : decode cX8_place 24 = .ok (.iastore, 1) := by decide +kernel
theorem dX8_place_25 : decode cX8_place 25 = .ok (.aload_n 0, 1) := by decide +kernel
theorem dX8_place_26 : decode cX8_place 26 = .ok (.getfield 21, 3) := by decide +kernel
theorem dX8_place_29 : decode cX8_place 29 = .ok (.iload_n 1, 1) := by decide +kernel
theorem dX8_place_30 : decode cX8_place 30 = .ok (.iconst 1, 1) := by decide +kernel
theorem dX8_place_31 : decode cX8_place 31 = .ok (.iastore, 1) := by decide +kernel
theorem dX8_place_32 : decode cX8_place 32 = .ok (.aload_n 0, 1) := by decide +kernel
theorem dX8_place_33 : decode cX8_place 33 = .ok (.getfield 24, 3) := by decide +kernel
theorem dX8_place_36 : decode cX8_place 36 = .ok (.iload_n 1, 1) := by decide +kernel
theorem dX8_place_37 : decode cX8_place 37 = .ok (.bipush 100, 2) := by decide +kernel
theorem dX8_place_39 : decode cX8_place 39 = .ok (.iastore, 1) := by decide +kernel
theorem dX8_place_40 : decode cX8_place 40 = .ok (.aload_n 0, 1) := by decide +kernel
theorem dX8_place_41 : decode cX8_place 41 = .ok (.dup, 1) := by decide +kernel
theorem dX8_place_42 : decode cX8_place 42 = .ok (.getfield 44, 3) := by decide +kernel
theorem dX8_place_45 : decode cX8_place 45 = .ok (.iconst 1, 1) := by decide +kernel
theorem dX8_place_46 : decode cX8_place 46 = .ok (.iload_n 1, 1) := by decide +kernel
theorem dX8_place_47 : decode cX8_place 47 = .ok (.ishl, 1) := by decide +kernel
theorem dX8_place_48 : decode cX8_place 48 = .ok (.ior, 1) := by decide +kernel
theorem dX8_place_49 : decode cX8_place 49 = .ok (.putfield 44, 3) := by decide +kernel
theorem dX8_place_52 : decode cX8_place 52 = .ok (.aload_n 0, 1) := by decide +kernel
theorem dX8_place_53 : decode cX8_place 53 = .ok (.dup, 1) := by decide +kernel
theorem dX8_place_54 : decode cX8_place 54 = .ok (.getfield 48, 3) := by decide +kernel
theorem dX8_place_57 : decode cX8_place 57 = .ok (.iconst 1, 1) := by decide +kernel
theorem dX8_place_58 : decode cX8_place 58 = .ok (.iload_n 1, 1) := by decide +kernel
theorem dX8_place_59 : decode cX8_place 59 = .ok (.ishl, 1) := by decide +kernel
theorem dX8_place_60 : decode cX8_place 60 = .ok (.iconst (-1), 1) := by decide +kernel
theorem dX8_place_61 : decode cX8_place 61 = .ok (.ixor, 1) := by decide +kernel
theorem dX8_place_62 : decode cX8_place 62 = .ok (.iand, 1) := by decide +kernel
theorem dX8_place_63 : decode cX8_place 63 = .ok (.putfield 48, 3) := by decide +kernel
theorem dX8_place_66 : decode cX8_place 66 = .ok (.return_, 1) := by decide +kernel
theorem dX8_remove_0 : decode cX8_remove 0 = .ok (.aload_n 0, 1) := by decide +kernel
theorem dX8_remove_1 : decode cX8_remove 1 = .ok (.dup, 1) := by decide +kernel
theorem dX8_remove_2 : decode cX8_remove 2 = .ok (.getfield 44, 3) := by decide +kernel
theorem dX8_remove_5 : decode cX8_remove 5 = .ok (.iconst 1, 1) := by decide +kernel
theorem dX8_remove_6 : decode cX8_remove 6 = .ok (.iload_n 1, 1) := by decide +kernel
theorem dX8_remove_7 : decode cX8_remove 7 = .ok (.ishl, 1) := by decide +kernel
theorem dX8_remove_8 : decode cX8_remove 8 = .ok (.iconst (-1), 1) := by decide +kernel
theorem dX8_remove_9 : decode cX8_remove 9 = .ok (.ixor, 1) := by decide +kernel
theorem dX8_remove_10 : decode cX8_remove 10 = .ok (.iand, 1) := by decide +kernel
theorem dX8_remove_11 : decode cX8_remove 11 = .ok (.putfield 44, 3) := by decide +kernel
theorem dX8_remove_14 : decode cX8_remove 14 = .ok (.aload_n 0, 1) := by decide +kernel
theorem dX8_remove_15 : decode cX8_remove 15 = .ok (.dup, 1) := by decide +kernel
theorem dX8_remove_16 : decode cX8_remove 16 = .ok (.getfield 48, 3) := by decide +kernel
theorem dX8_remove_19 : decode cX8_remove 19 = .ok (.iconst 1, 1) := by decide +kernel
theorem dX8_remove_20 : decode cX8_remove 20 = .ok (.iload_n 1, 1) := by decide +kernel
theorem dX8_remove_21 : decode cX8_remove 21 = .ok (.ishl, 1) := by decide +kernel
theorem dX8_remove_22 : decode cX8_remove 22 = .ok (.iconst (-1), 1) := by decide +kernel
theorem dX8_remove_23 : decode cX8_remove 23 = .ok (.ixor, 1) := by decide +kernel
theorem dX8_remove_24 : decode cX8_remove 24 = .ok (.iand, 1) := by decide +kernel
theorem dX8_remove_25 : decode cX8_remove 25 = .ok (.putfield 48, 3) := by decide +kernel
theorem dX8_remove_28 : decode cX8_remove 28 = .ok (.return_, 1) := by decide +kernel
theorem dX8_withdraw_0 : decode cX8_withdraw 0 = .ok (.iload_n 2, 1) := by decide +kernel
theorem dX8_withdraw_1 : decode cX8_withdraw 1 = .ok (.ifCond .eq 18, 3) := by decide +kernel
theorem dX8_withdraw_4 : decode cX8_withdraw 4 = .ok (.aload_n 0, 1) := by decide +kernel
theorem dX8_withdraw_5 : decode cX8_withdraw 5 = .ok (.dup, 1) := by decide +kernel
theorem dX8_withdraw_6 : decode cX8_withdraw 6 = .ok (.getfield 48, 3) := by decide +kernel
theorem dX8_withdraw_9 : decode cX8_withdraw 9 = .ok (.iconst 1, 1) := by decide +kernel
theorem dX8_withdraw_10 : decode cX8_withdraw 10 = .ok (.iload_n 1, 1) := by decide +kernel
theorem dX8_withdraw_11 : decode cX8_withdraw 11 = .ok (.ishl, 1) := by decide +kernel
theorem dX8_withdraw_12 : decode cX8_withdraw 12 = .ok (.ior, 1) := by decide +kernel
theorem dX8_withdraw_13 : decode cX8_withdraw 13 = .ok (.putfield 48, 3) := by decide +kernel
theorem dX8_withdraw_16 : decode cX8_withdraw 16 = .ok (.goto 17, 3) := by decide +kernel
theorem dX8_withdraw_19 : decode cX8_withdraw 19 = .ok (.aload_n 0, 1) := by decide +kernel
theorem dX8_withdraw_20 : decode cX8_withdraw 20 = .ok (.dup, 1) := by decide +kernel
theorem dX8_withdraw_21 : decode cX8_withdraw 21 = .ok (.getfield 48, 3) := by decide +kernel
theorem dX8_withdraw_24 : decode cX8_withdraw 24 = .ok (.iconst 1, 1) := by decide +kernel
theorem dX8_withdraw_25 : decode cX8_withdraw 25 = .ok (.iload_n 1, 1) := by decide +kernel
theorem dX8_withdraw_26 : decode cX8_withdraw 26 = .ok (.ishl, 1) := by decide +kernel
theorem dX8_withdraw_27 : decode cX8_withdraw 27 = .ok (.iconst (-1), 1) := by decide +kernel
theorem dX8_withdraw_28 : decode cX8_withdraw 28 = .ok (.ixor, 1) := by decide +kernel
theorem dX8_withdraw_29 : decode cX8_withdraw 29 = .ok (.iand, 1) := by decide +kernel
theorem dX8_withdraw_30 : decode cX8_withdraw 30 = .ok (.putfield 48, 3) := by decide +kernel
theorem dX8_withdraw_33 : decode cX8_withdraw 33 = .ok (.return_, 1) := by decide +kernel
theorem dX8_changeCost_0 : decode cX8_changeCost 0 = .ok (.aload_n 0, 1) := by decide +kernel
theorem dX8_changeCost_1 : decode cX8_changeCost 1 = .ok (.iload_n 1, 1) := by decide +kernel
theorem dX8_changeCost_2 : decode cX8_changeCost 2 = .ok (.invokevirtual 51, 3) := by decide +kernel
theorem dX8_changeCost_5 : decode cX8_changeCost 5 = .ok (.ifCond .eq 10, 3) := by decide +kernel
theorem dX8_changeCost_8 : decode cX8_changeCost 8 = .ok (.aload_n 0, 1) := by decide +kernel
theorem dX8_changeCost_9 : decode cX8_changeCost 9 = .ok (.getfield 21, 3) := by decide +kernel
theorem dX8_changeCost_12 : decode cX8_changeCost 12 = .ok (.iload_n 1, 1) := by decide +kernel
theorem dX8_changeCost_13 : decode cX8_changeCost 13 = .ok (.iload_n 2, 1) := by decide +kernel
theorem dX8_changeCost_14 : decode cX8_changeCost 14 = .ok (.iastore, 1) := by decide +kernel
theorem dX8_changeCost_15 : decode cX8_changeCost 15 = .ok (.return_, 1) := by decide +kernel
theorem dX8_changeTrust_0 : decode cX8_changeTrust 0 = .ok (.aload_n 0, 1) := by decide +kernel
theorem dX8_changeTrust_1 : decode cX8_changeTrust 1 = .ok (.iload_n 1, 1) := by decide +kernel
theorem dX8_changeTrust_2 : decode cX8_changeTrust 2 = .ok (.invokevirtual 51, 3) := by decide +kernel
theorem dX8_changeTrust_5 : decode cX8_changeTrust 5 = .ok (.ifCond .eq 10, 3) := by decide +kernel
theorem dX8_changeTrust_8 : decode cX8_changeTrust 8 = .ok (.aload_n 0, 1) := by decide +kernel
theorem dX8_changeTrust_9 : decode cX8_changeTrust 9 = .ok (.getfield 24, 3) := by decide +kernel
theorem dX8_changeTrust_12 : decode cX8_changeTrust 12 = .ok (.iload_n 1, 1) := by decide +kernel
theorem dX8_changeTrust_13 : decode cX8_changeTrust 13 = .ok (.iload_n 2, 1) := by decide +kernel
theorem dX8_changeTrust_14 : decode cX8_changeTrust 14 = .ok (.iastore, 1) := by decide +kernel
theorem dX8_changeTrust_15 : decode cX8_changeTrust 15 = .ok (.return_, 1) := by decide +kernel
theorem dX8_tableAt_0 : decode cX8_tableAt 0 = .ok (.aload_n 0, 1) := by decide +kernel
theorem dX8_tableAt_1 : decode cX8_tableAt 1 = .ok (.iload_n 1, 1) := by decide +kernel
theorem dX8_tableAt_2 : decode cX8_tableAt 2 = .ok (.invokevirtual 51, 3) := by decide +kernel
theorem dX8_tableAt_5 : decode cX8_tableAt 5 = .ok (.ifCond .eq 12, 3) := by decide +kernel
theorem dX8_tableAt_8 : decode cX8_tableAt 8 = .ok (.aload_n 0, 1) := by decide +kernel
theorem dX8_tableAt_9 : decode cX8_tableAt 9 = .ok (.getfield 15, 3) := by decide +kernel
theorem dX8_tableAt_12 : decode cX8_tableAt 12 = .ok (.iload_n 1, 1) := by decide +kernel
theorem dX8_tableAt_13 : decode cX8_tableAt 13 = .ok (.iaload, 1) := by decide +kernel
theorem dX8_tableAt_14 : decode cX8_tableAt 14 = .ok (.goto 4, 3) := by decide +kernel
theorem dX8_tableAt_17 : decode cX8_tableAt 17 = .ok (.iconst (-1), 1) := by decide +kernel
theorem dX8_tableAt_18 : decode cX8_tableAt 18 = .ok (.ireturn, 1) := by decide +kernel
theorem dX8_keyOf_0 : decode cX8_keyOf 0 = .ok (.aload_n 0, 1) := by decide +kernel
theorem dX8_keyOf_1 : decode cX8_keyOf 1 = .ok (.iload_n 1, 1) := by decide +kernel
theorem dX8_keyOf_2 : decode cX8_keyOf 2 = .ok (.invokevirtual 51, 3) := by decide +kernel
theorem dX8_keyOf_5 : decode cX8_keyOf 5 = .ok (.ifCond .eq 12, 3) := by decide +kernel
theorem dX8_keyOf_8 : decode cX8_keyOf 8 = .ok (.aload_n 0, 1) := by decide +kernel
theorem dX8_keyOf_9 : decode cX8_keyOf 9 = .ok (.getfield 18, 3) := by decide +kernel
theorem dX8_keyOf_12 : decode cX8_keyOf 12 = .ok (.iload_n 1, 1) := by decide +kernel
theorem dX8_keyOf_13 : decode cX8_keyOf 13 = .ok (.iaload, 1) := by decide +kernel
theorem dX8_keyOf_14 : decode cX8_keyOf 14 = .ok (.goto 4, 3) := by decide +kernel
theorem dX8_keyOf_17 : decode cX8_keyOf 17 = .ok (.iconst 0, 1) := by decide +kernel
theorem dX8_keyOf_18 : decode cX8_keyOf 18 = .ok (.ireturn, 1) := by decide +kernel
theorem dX8_costOf_0 : decode cX8_costOf 0 = .ok (.aload_n 0, 1) := by decide +kernel
theorem dX8_costOf_1 : decode cX8_costOf 1 = .ok (.iload_n 1, 1) := by decide +kernel
theorem dX8_costOf_2 : decode cX8_costOf 2 = .ok (.invokevirtual 51, 3) := by decide +kernel
theorem dX8_costOf_5 : decode cX8_costOf 5 = .ok (.ifCond .eq 12, 3) := by decide +kernel
theorem dX8_costOf_8 : decode cX8_costOf 8 = .ok (.aload_n 0, 1) := by decide +kernel
theorem dX8_costOf_9 : decode cX8_costOf 9 = .ok (.getfield 21, 3) := by decide +kernel
theorem dX8_costOf_12 : decode cX8_costOf 12 = .ok (.iload_n 1, 1) := by decide +kernel
theorem dX8_costOf_13 : decode cX8_costOf 13 = .ok (.iaload, 1) := by decide +kernel
theorem dX8_costOf_14 : decode cX8_costOf 14 = .ok (.goto 4, 3) := by decide +kernel
theorem dX8_costOf_17 : decode cX8_costOf 17 = .ok (.iconst 0, 1) := by decide +kernel
theorem dX8_costOf_18 : decode cX8_costOf 18 = .ok (.ireturn, 1) := by decide +kernel
theorem dX8_trustOf_0 : decode cX8_trustOf 0 = .ok (.aload_n 0, 1) := by decide +kernel
theorem dX8_trustOf_1 : decode cX8_trustOf 1 = .ok (.iload_n 1, 1) := by decide +kernel
theorem dX8_trustOf_2 : decode cX8_trustOf 2 = .ok (.invokevirtual 51, 3) := by decide +kernel
theorem dX8_trustOf_5 : decode cX8_trustOf 5 = .ok (.ifCond .eq 12, 3) := by decide +kernel
theorem dX8_trustOf_8 : decode cX8_trustOf 8 = .ok (.aload_n 0, 1) := by decide +kernel
theorem dX8_trustOf_9 : decode cX8_trustOf 9 = .ok (.getfield 24, 3) := by decide +kernel
theorem dX8_trustOf_12 : decode cX8_trustOf 12 = .ok (.iload_n 1, 1) := by decide +kernel
theorem dX8_trustOf_13 : decode cX8_trustOf 13 = .ok (.iaload, 1) := by decide +kernel
theorem dX8_trustOf_14 : decode cX8_trustOf 14 = .ok (.goto 4, 3) := by decide +kernel
theorem dX8_trustOf_17 : decode cX8_trustOf 17 = .ok (.iconst 0, 1) := by decide +kernel
theorem dX8_trustOf_18 : decode cX8_trustOf 18 = .ok (.ireturn, 1) := by decide +kernel
theorem dX8_costOfTerm_0 : decode cX8_costOfTerm 0 = .ok (.iconst 0, 1) := by decide +kernel
theorem dX8_costOfTerm_1 : decode cX8_costOfTerm 1 = .ok (.istore_n 3, 1) := by decide +kernel
theorem dX8_costOfTerm_2 : decode cX8_costOfTerm 2 = .ok (.iconst 0, 1) := by decide +kernel
theorem dX8_costOfTerm_3 : decode cX8_costOfTerm 3 = .ok (.istore 4, 2) := by decide +kernel
theorem dX8_costOfTerm_5 : decode cX8_costOfTerm 5 = .ok (.iload 4, 2) := by decide +kernel
theorem dX8_costOfTerm_7 : decode cX8_costOfTerm 7 = .ok (.bipush 16, 2) := by decide +kernel
theorem dX8_costOfTerm_9 : decode cX8_costOfTerm 9 = .ok (.if_icmp .ge 25, 3) := by decide +kernel
theorem dX8_costOfTerm_12 : decode cX8_costOfTerm 12 = .ok (.iload_n 3, 1) := by decide +kernel
theorem dX8_costOfTerm_13 : decode cX8_costOfTerm 13 = .ok (.lload_n 1, 1) := by decide +kernel
theorem dX8_costOfTerm_14 : decode cX8_costOfTerm 14 = .ok (.iload 4, 2) := by decide +kernel
theorem dX8_costOfTerm_16 : decode cX8_costOfTerm 16 = .ok (.invokestatic 62, 3) := by decide +kernel
theorem dX8_costOfTerm_19 : decode cX8_costOfTerm 19 = .ok (.aload_n 0, 1) := by decide +kernel
theorem dX8_costOfTerm_20 : decode cX8_costOfTerm 20 = .ok (.iload 4, 2) := by decide +kernel
theorem dX8_costOfTerm_22 : decode cX8_costOfTerm 22 = .ok (.invokevirtual 68, 3) := by decide +kernel
theorem dX8_costOfTerm_25 : decode cX8_costOfTerm 25 = .ok (.imul, 1) := by decide +kernel
theorem dX8_costOfTerm_26 : decode cX8_costOfTerm 26 = .ok (.iadd, 1) := by decide +kernel
theorem dX8_costOfTerm_27 : decode cX8_costOfTerm 27 = .ok (.istore_n 3, 1) := by decide +kernel
theorem dX8_costOfTerm_28 : decode cX8_costOfTerm 28 = .ok (.iinc 4 1, 3) := by decide +kernel
theorem dX8_costOfTerm_31 : decode cX8_costOfTerm 31 = .ok (.goto (-26), 3) := by decide +kernel
theorem dX8_costOfTerm_34 : decode cX8_costOfTerm 34 = .ok (.iload_n 3, 1) := by decide +kernel
theorem dX8_costOfTerm_35 : decode cX8_costOfTerm 35 = .ok (.ireturn, 1) := by decide +kernel
theorem dX8_trustOfTerm_0 : decode cX8_trustOfTerm 0 = .ok (.bipush 100, 2) := by decide +kernel
theorem dX8_trustOfTerm_2 : decode cX8_trustOfTerm 2 = .ok (.istore_n 3, 1) := by decide +kernel
theorem dX8_trustOfTerm_3 : decode cX8_trustOfTerm 3 = .ok (.iconst 0, 1) := by decide +kernel
theorem dX8_trustOfTerm_4 : decode cX8_trustOfTerm 4 = .ok (.istore 4, 2) := by decide +kernel
theorem dX8_trustOfTerm_6 : decode cX8_trustOfTerm 6 = .ok (.iload 4, 2) := by decide +kernel
theorem dX8_trustOfTerm_8 : decode cX8_trustOfTerm 8 = .ok (.bipush 16, 2) := by decide +kernel
theorem dX8_trustOfTerm_10 : decode cX8_trustOfTerm 10 = .ok (.if_icmp .ge 29, 3) := by decide +kernel
theorem dX8_trustOfTerm_13 : decode cX8_trustOfTerm 13 = .ok (.lload_n 1, 1) := by decide +kernel
theorem dX8_trustOfTerm_14 : decode cX8_trustOfTerm 14 = .ok (.iload 4, 2) := by decide +kernel
theorem dX8_trustOfTerm_16 : decode cX8_trustOfTerm 16 = .ok (.invokestatic 62, 3) := by decide +kernel
theorem dX8_trustOfTerm_19 : decode cX8_trustOfTerm 19 = .ok (.ifCond .le 14, 3) := by decide +kernel
theorem dX8_trustOfTerm_22 : decode cX8_trustOfTerm 22 = .ok (.iload_n 3, 1) := by decide +kernel
theorem dX8_trustOfTerm_23 : decode cX8_trustOfTerm 23 = .ok (.aload_n 0, 1) := by decide +kernel
theorem dX8_trustOfTerm_24 : decode cX8_trustOfTerm 24 = .ok (.iload 4, 2) := by decide +kernel
theorem dX8_trustOfTerm_26 : decode cX8_trustOfTerm 26 = .ok (.invokevirtual 72, 3) := by decide +kernel
theorem dX8_trustOfTerm_29 : decode cX8_trustOfTerm 29 = .ok (.invokestatic 75, 3) := by decide +kernel
theorem dX8_trustOfTerm_32 : decode cX8_trustOfTerm 32 = .ok (.istore_n 3, 1) := by decide +kernel
theorem dX8_trustOfTerm_33 : decode cX8_trustOfTerm 33 = .ok (.iinc 4 1, 3) := by decide +kernel
theorem dX8_trustOfTerm_36 : decode cX8_trustOfTerm 36 = .ok (.goto (-30), 3) := by decide +kernel
theorem dX8_trustOfTerm_39 : decode cX8_trustOfTerm 39 = .ok (.iload_n 3, 1) := by decide +kernel
theorem dX8_trustOfTerm_40 : decode cX8_trustOfTerm 40 = .ok (.ireturn, 1) := by decide +kernel
theorem dX8_confidenceOfTerm_0 : decode cX8_confidenceOfTerm 0 = .ok (.fconst 1, 1) := by decide +kernel
theorem dX8_confidenceOfTerm_1 : decode cX8_confidenceOfTerm 1 = .ok (.fstore_n 3, 1) := by decide +kernel
theorem dX8_confidenceOfTerm_2 : decode cX8_confidenceOfTerm 2 = .ok (.iconst 0, 1) := by decide +kernel
theorem dX8_confidenceOfTerm_3 : decode cX8_confidenceOfTerm 3 = .ok (.istore 4, 2) := by decide +kernel
theorem dX8_confidenceOfTerm_5 : decode cX8_confidenceOfTerm 5 = .ok (.iload 4, 2) := by decide +kernel
theorem dX8_confidenceOfTerm_7 : decode cX8_confidenceOfTerm 7 = .ok (.bipush 16, 2) := by decide +kernel
theorem dX8_confidenceOfTerm_9 : decode cX8_confidenceOfTerm 9 = .ok (.if_icmp .ge 45, 3) := by decide +kernel
theorem dX8_confidenceOfTerm_12 : decode cX8_confidenceOfTerm 12 = .ok (.aload_n 0, 1) := by decide +kernel
theorem dX8_confidenceOfTerm_13 : decode cX8_confidenceOfTerm 13 = .ok (.iload 4, 2) := by decide +kernel
theorem dX8_confidenceOfTerm_15 : decode cX8_confidenceOfTerm 15 = .ok (.invokevirtual 72, 3) := by decide +kernel
theorem dX8_confidenceOfTerm_18 : decode cX8_confidenceOfTerm 18 = .ok (.i2f, 1) := by decide +kernel
theorem dX8_confidenceOfTerm_19 : decode cX8_confidenceOfTerm 19 = .ok (.ldc 81, 2) := by decide +kernel
theorem dX8_confidenceOfTerm_21 : decode cX8_confidenceOfTerm 21 = .ok (.fdiv, 1) := by decide +kernel
theorem dX8_confidenceOfTerm_22 : decode cX8_confidenceOfTerm 22 = .ok (.fstore 5, 2) := by decide +kernel
theorem dX8_confidenceOfTerm_24 : decode cX8_confidenceOfTerm 24 = .ok (.lload_n 1, 1) := by decide +kernel
theorem dX8_confidenceOfTerm_25 : decode cX8_confidenceOfTerm 25 = .ok (.iload 4, 2) := by decide +kernel
theorem dX8_confidenceOfTerm_27 : decode cX8_confidenceOfTerm 27 = .ok (.invokestatic 62, 3) := by decide +kernel
theorem dX8_confidenceOfTerm_30 : decode cX8_confidenceOfTerm 30 = .ok (.istore 6, 2) := by decide +kernel
theorem dX8_confidenceOfTerm_32 : decode cX8_confidenceOfTerm 32 = .ok (.iload 6, 2) := by decide +kernel
theorem dX8_confidenceOfTerm_34 : decode cX8_confidenceOfTerm 34 = .ok (.ifCond .le 14, 3) := by decide +kernel
theorem dX8_confidenceOfTerm_37 : decode cX8_confidenceOfTerm 37 = .ok (.fload_n 3, 1) := by decide +kernel
theorem dX8_confidenceOfTerm_38 : decode cX8_confidenceOfTerm 38 = .ok (.fload 5, 2) := by decide +kernel
theorem dX8_confidenceOfTerm_40 : decode cX8_confidenceOfTerm 40 = .ok (.fmul, 1) := by decide +kernel
theorem dX8_confidenceOfTerm_41 : decode cX8_confidenceOfTerm 41 = .ok (.fstore_n 3, 1) := by decide +kernel
theorem dX8_confidenceOfTerm_42 : decode cX8_confidenceOfTerm 42 = .ok (.iinc 6 (-1), 3) := by decide +kernel
theorem dX8_confidenceOfTerm_45 : decode cX8_confidenceOfTerm 45 = .ok (.goto (-13), 3) := by decide +kernel
theorem dX8_confidenceOfTerm_48 : decode cX8_confidenceOfTerm 48 = .ok (.iinc 4 1, 3) := by decide +kernel
theorem dX8_confidenceOfTerm_51 : decode cX8_confidenceOfTerm 51 = .ok (.goto (-46), 3) := by decide +kernel
theorem dX8_confidenceOfTerm_54 : decode cX8_confidenceOfTerm 54 = .ok (.fload_n 3, 1) := by decide +kernel
theorem dX8_confidenceOfTerm_55 : decode cX8_confidenceOfTerm 55 = .ok (.freturn, 1) := by decide +kernel
theorem dX8_copyNumbers_0 : decode cX8_copyNumbers 0 = .ok (.iconst 0, 1) := by decide +kernel
theorem dX8_copyNumbers_1 : decode cX8_copyNumbers 1 = .ok (.istore_n 2, 1) := by decide +kernel
theorem dX8_copyNumbers_2 : decode cX8_copyNumbers 2 = .ok (.iload_n 2, 1) := by decide +kernel
theorem dX8_copyNumbers_3 : decode cX8_copyNumbers 3 = .ok (.aload_n 0, 1) := by decide +kernel
theorem dX8_copyNumbers_4 : decode cX8_copyNumbers 4 = .ok (.arraylength, 1) := by decide +kernel
theorem dX8_copyNumbers_5 : decode cX8_copyNumbers 5 = .ok (.if_icmp .ge 21, 3) := by decide +kernel
theorem dX8_copyNumbers_8 : decode cX8_copyNumbers 8 = .ok (.iload_n 2, 1) := by decide +kernel
theorem dX8_copyNumbers_9 : decode cX8_copyNumbers 9 = .ok (.aload_n 1, 1) := by decide +kernel
theorem dX8_copyNumbers_10 : decode cX8_copyNumbers 10 = .ok (.arraylength, 1) := by decide +kernel
theorem dX8_copyNumbers_11 : decode cX8_copyNumbers 11 = .ok (.if_icmp .ge 15, 3) := by decide +kernel
theorem dX8_copyNumbers_14 : decode cX8_copyNumbers 14 = .ok (.aload_n 1, 1) := by decide +kernel
theorem dX8_copyNumbers_15 : decode cX8_copyNumbers 15 = .ok (.iload_n 2, 1) := by decide +kernel
theorem dX8_copyNumbers_16 : decode cX8_copyNumbers 16 = .ok (.aload_n 0, 1) := by decide +kernel
theorem dX8_copyNumbers_17 : decode cX8_copyNumbers 17 = .ok (.iload_n 2, 1) := by decide +kernel
theorem dX8_copyNumbers_18 : decode cX8_copyNumbers 18 = .ok (.iaload, 1) := by decide +kernel
theorem dX8_copyNumbers_19 : decode cX8_copyNumbers 19 = .ok (.iastore, 1) := by decide +kernel
theorem dX8_copyNumbers_20 : decode cX8_copyNumbers 20 = .ok (.iinc 2 1, 3) := by decide +kernel
theorem dX8_copyNumbers_23 : decode cX8_copyNumbers 23 = .ok (.goto (-21), 3) := by decide +kernel
theorem dX8_copyNumbers_26 : decode cX8_copyNumbers 26 = .ok (.return_, 1) := by decide +kernel
theorem dX9_init_0 : decode cX9_init 0 = .ok (.aload_n 0, 1) := by decide +kernel
theorem dX9_init_1 : decode cX9_init 1 = .ok (.invokespecial 3, 3) := by decide +kernel
theorem dX9_init_4 : decode cX9_init 4 = .ok (.aload_n 0, 1) := by decide +kernel
theorem dX9_init_5 : decode cX9_init 5 = .ok (.bipush 32, 2) := by decide +kernel
theorem dX9_init_7 : decode cX9_init 7 = .ok (.newarray .int, 2) := by decide +kernel
theorem dX9_init_9 : decode cX9_init 9 = .ok (.putfield 9, 3) := by decide +kernel
theorem dX9_init_12 : decode cX9_init 12 = .ok (.aload_n 0, 1) := by decide +kernel
theorem dX9_init_13 : decode cX9_init 13 = .ok (.bipush 16, 2) := by decide +kernel
theorem dX9_init_15 : decode cX9_init 15 = .ok (.newarray .int, 2) := by decide +kernel
theorem dX9_init_17 : decode cX9_init 17 = .ok (.putfield 15, 3) := by decide +kernel
theorem dX9_init_20 : decode cX9_init 20 = .ok (.aload_n 0, 1) := by decide +kernel
theorem dX9_init_21 : decode cX9_init 21 = .ok (.bipush 16, 2) := by decide +kernel
theorem dX9_init_23 : decode cX9_init 23 = .ok (.newarray .int, 2) := by decide +kernel
theorem dX9_init_25 : decode cX9_init 25 = .ok (.putfield 18, 3) := by decide +kernel
theorem dX9_init_28 : decode cX9_init 28 = .ok (.return_, 1) := by decide +kernel
theorem dX9_setTo_0 : decode cX9_setTo 0 = .ok (.aload_n 0, 1) := by decide +kernel
theorem dX9_setTo_1 : decode cX9_setTo 1 = .ok (.aload_n 1, 1) := by decide +kernel
theorem dX9_setTo_2 : decode cX9_setTo 2 = .ok (.invokevirtual 21, 3) := by decide +kernel
theorem dX9_setTo_5 : decode cX9_setTo 5 = .ok (.bipush 32, 2) := by decide +kernel
theorem dX9_setTo_7 : decode cX9_setTo 7 = .ok (.invokestatic 27, 3) := by decide +kernel
theorem dX9_setTo_10 : decode cX9_setTo 10 = .ok (.putfield 33, 3) := by decide +kernel
theorem dX9_setTo_13 : decode cX9_setTo 13 = .ok (.iconst 0, 1) := by decide +kernel
theorem dX9_setTo_14 : decode cX9_setTo 14 = .ok (.istore_n 2, 1) := by decide +kernel
theorem dX9_setTo_15 : decode cX9_setTo 15 = .ok (.iload_n 2, 1) := by decide +kernel
theorem dX9_setTo_16 : decode cX9_setTo 16 = .ok (.aload_n 0, 1) := by decide +kernel
theorem dX9_setTo_17 : decode cX9_setTo 17 = .ok (.getfield 33, 3) := by decide +kernel
theorem dX9_setTo_20 : decode cX9_setTo 20 = .ok (.if_icmp .ge 29, 3) := by decide +kernel
theorem dX9_setTo_23 : decode cX9_setTo 23 = .ok (.iload_n 2, 1) := by decide +kernel
theorem dX9_setTo_24 : decode cX9_setTo 24 = .ok (.bipush 32, 2) := by decide +kernel
theorem dX9_setTo_26 : decode cX9_setTo 26 = .ok (.if_icmp .ge 23, 3) := by decide +kernel
theorem dX9_setTo_29 : decode cX9_setTo 29 = .ok (.aload_n 0, 1) := by decide +kernel
theorem dX9_setTo_30 : decode cX9_setTo 30 = .ok (.getfield 9, 3) := by decide +kernel
theorem dX9_setTo_33 : decode cX9_setTo 33 = .ok (.iload_n 2, 1) := by decide +kernel
theorem dX9_setTo_34 : decode cX9_setTo 34 = .ok (.aload_n 1, 1) := by decide +kernel
theorem dX9_setTo_35 : decode cX9_setTo 35 = .ok (.iload_n 2, 1) := by decide +kernel
theorem dX9_setTo_36 : decode cX9_setTo 36 = .ok (.invokevirtual 36, 3) := by decide +kernel
theorem dX9_setTo_39 : decode cX9_setTo 39 = .ok (.invokestatic 40, 3) := by decide +kernel
theorem dX9_setTo_42 : decode cX9_setTo 42 = .ok (.iastore, 1) := by decide +kernel
theorem dX9_setTo_43 : decode cX9_setTo 43 = .ok (.iinc 2 1, 3) := by decide +kernel
theorem dX9_setTo_46 : decode cX9_setTo 46 = .ok (.goto (-31), 3) := by decide +kernel
theorem dX9_setTo_49 : decode cX9_setTo 49 = .ok (.return_, 1) := by decide +kernel
theorem dX9_countWorlds_0 : decode cX9_countWorlds 0 = .ok (.iconst 0, 1) := by decide +kernel
theorem dX9_countWorlds_1 : decode cX9_countWorlds 1 = .ok (.istore_n 1, 1) := by decide +kernel
theorem dX9_countWorlds_2 : decode cX9_countWorlds 2 = .ok (.iconst 0, 1) := by decide +kernel
theorem dX9_countWorlds_3 : decode cX9_countWorlds 3 = .ok (.istore_n 2, 1) := by decide +kernel
theorem dX9_countWorlds_4 : decode cX9_countWorlds 4 = .ok (.iload_n 2, 1) := by decide +kernel
theorem dX9_countWorlds_5 : decode cX9_countWorlds 5 = .ok (.aload_n 0, 1) := by decide +kernel
theorem dX9_countWorlds_6 : decode cX9_countWorlds 6 = .ok (.getfield 33, 3) := by decide +kernel
theorem dX9_countWorlds_9 : decode cX9_countWorlds 9 = .ok (.if_icmp .ge 15, 3) := by decide +kernel
theorem dX9_countWorlds_12 : decode cX9_countWorlds 12 = .ok (.iload_n 1, 1) := by decide +kernel
theorem dX9_countWorlds_13 : decode cX9_countWorlds 13 = .ok (.iconst 1, 1) := by decide +kernel
theorem dX9_countWorlds_14 : decode cX9_countWorlds 14 = .ok (.iload_n 2, 1) := by decide +kernel
theorem dX9_countWorlds_15 : decode cX9_countWorlds 15 = .ok (.ishl, 1) := by decide +kernel
theorem dX9_countWorlds_16 : decode cX9_countWorlds 16 = .ok (.ior, 1) := by decide +kernel
theorem dX9_countWorlds_17 : decode cX9_countWorlds 17 = .ok (.istore_n 1, 1) := by decide +kernel
theorem dX9_countWorlds_18 : decode cX9_countWorlds 18 = .ok (.iinc 2 1, 3) := by decide +kernel
theorem dX9_countWorlds_21 : decode cX9_countWorlds 21 = .ok (.goto (-17), 3) := by decide +kernel
theorem dX9_countWorlds_24 : decode cX9_countWorlds 24 = .ok (.iconst 0, 1) := by decide +kernel
theorem dX9_countWorlds_25 : decode cX9_countWorlds 25 = .ok (.istore_n 2, 1) := by decide +kernel
theorem dX9_countWorlds_26 : decode cX9_countWorlds 26 = .ok (.iload_n 2, 1) := by decide +kernel
theorem dX9_countWorlds_27 : decode cX9_countWorlds 27 = .ok (.bipush 16, 2) := by decide +kernel
theorem dX9_countWorlds_29 : decode cX9_countWorlds 29 = .ok (.if_icmp .ge 33, 3) := by decide +kernel
theorem dX9_countWorlds_32 : decode cX9_countWorlds 32 = .ok (.aload_n 0, 1) := by decide +kernel
theorem dX9_countWorlds_33 : decode cX9_countWorlds 33 = .ok (.getfield 15, 3) := by decide +kernel
theorem dX9_countWorlds_36 : decode cX9_countWorlds 36 = .ok (.iload_n 2, 1) := by decide +kernel
theorem dX9_countWorlds_37 : decode cX9_countWorlds 37 = .ok (.aload_n 0, 1) := by decide +kernel
theorem dX9_countWorlds_38 : decode cX9_countWorlds 38 = .ok (.iload_n 2, 1) := by decide +kernel
theorem dX9_countWorlds_39 : decode cX9_countWorlds 39 = .ok (.iconst 0, 1) := by decide +kernel
theorem dX9_countWorlds_40 : decode cX9_countWorlds 40 = .ok (.invokevirtual 53, 3) := by decide +kernel
theorem dX9_countWorlds_43 : decode cX9_countWorlds 43 = .ok (.iastore, 1) := by decide +kernel
theorem dX9_countWorlds_44 : decode cX9_countWorlds 44 = .ok (.aload_n 0, 1) := by decide +kernel
theorem dX9_countWorlds_45 : decode cX9_countWorlds 45 = .ok (.getfield 18, 3) := by decide +kernel
theorem dX9_countWorlds_48 : decode cX9_countWorlds 48 = .ok (.iload_n 2, 1) := by decide +kernel
theorem dX9_countWorlds_49 : decode cX9_countWorlds 49 = .ok (.aload_n 0, 1) := by decide +kernel
theorem dX9_countWorlds_50 : decode cX9_countWorlds 50 = .ok (.iload_n 2, 1) := by decide +kernel
theorem dX9_countWorlds_51 : decode cX9_countWorlds 51 = .ok (.iconst 1, 1) := by decide +kernel
theorem dX9_countWorlds_52 : decode cX9_countWorlds 52 = .ok (.invokevirtual 53, 3) := by decide +kernel
theorem dX9_countWorlds_55 : decode cX9_countWorlds 55 = .ok (.iastore, 1) := by decide +kernel
theorem dX9_countWorlds_56 : decode cX9_countWorlds 56 = .ok (.iinc 2 1, 3) := by decide +kernel
theorem dX9_countWorlds_59 : decode cX9_countWorlds 59 = .ok (.goto (-33), 3) := by decide +kernel
theorem dX9_countWorlds_62 : decode cX9_countWorlds 62 = .ok (.aload_n 0, 1) := by decide +kernel
theorem dX9_countWorlds_63 : decode cX9_countWorlds 63 = .ok (.getfield 15, 3) := by decide +kernel
theorem dX9_countWorlds_66 : decode cX9_countWorlds 66 = .ok (.aload_n 0, 1) := by decide +kernel
theorem dX9_countWorlds_67 : decode cX9_countWorlds 67 = .ok (.getfield 18, 3) := by decide +kernel
theorem dX9_countWorlds_70 : decode cX9_countWorlds 70 = .ok (.aload_n 0, 1) := by decide +kernel
theorem dX9_countWorlds_71 : decode cX9_countWorlds 71 = .ok (.invokevirtual 46, 3) := by decide +kernel
theorem dX9_countWorlds_74 : decode cX9_countWorlds 74 = .ok (.iconst 0, 1) := by decide +kernel
theorem dX9_countWorlds_75 : decode cX9_countWorlds 75 = .ok (.iload_n 1, 1) := by decide +kernel
theorem dX9_countWorlds_76 : decode cX9_countWorlds 76 = .ok (.invokestatic 57, 3) := by decide +kernel
theorem dX9_countWorlds_79 : decode cX9_countWorlds 79 = .ok (.ireturn, 1) := by decide +kernel
theorem dX9_union_0 : decode cX9_union 0 = .ok (.iconst 0, 1) := by decide +kernel
theorem dX9_union_1 : decode cX9_union 1 = .ok (.istore_n 1, 1) := by decide +kernel
theorem dX9_union_2 : decode cX9_union 2 = .ok (.iconst 0, 1) := by decide +kernel
theorem dX9_union_3 : decode cX9_union 3 = .ok (.istore_n 2, 1) := by decide +kernel
theorem dX9_union_4 : decode cX9_union 4 = .ok (.iload_n 2, 1) := by decide +kernel
theorem dX9_union_5 : decode cX9_union 5 = .ok (.aload_n 0, 1) := by decide +kernel
theorem dX9_union_6 : decode cX9_union 6 = .ok (.getfield 33, 3) := by decide +kernel
theorem dX9_union_9 : decode cX9_union 9 = .ok (.if_icmp .ge 24, 3) := by decide +kernel
theorem dX9_union_12 : decode cX9_union 12 = .ok (.iload_n 2, 1) := by decide +kernel
theorem dX9_union_13 : decode cX9_union 13 = .ok (.bipush 32, 2) := by decide +kernel
theorem dX9_union_15 : decode cX9_union 15 = .ok (.if_icmp .ge 18, 3) := by decide +kernel
theorem dX9_union_18 : decode cX9_union 18 = .ok (.iload_n 1, 1) := by decide +kernel
theorem dX9_union_19 : decode cX9_union 19 = .ok (.aload_n 0, 1) := by decide +kernel
theorem dX9_union_20 : decode cX9_union 20 = .ok (.getfield 9, 3) := by decide +kernel
theorem dX9_union_23 : decode cX9_union 23 = .ok (.iload_n 2, 1) := by decide +kernel
theorem dX9_union_24 : decode cX9_union 24 = .ok (.iaload, 1) := by decide +kernel
theorem dX9_union_25 : decode cX9_union 25 = .ok (.ior, 1) := by decide +kernel
theorem dX9_union_26 : decode cX9_union 26 = .ok (.istore_n 1, 1) := by decide +kernel
theorem dX9_union_27 : decode cX9_union 27 = .ok (.iinc 2 1, 3) := by decide +kernel
theorem dX9_union_30 : decode cX9_union 30 = .ok (.goto (-26), 3) := by decide +kernel
theorem dX9_union_33 : decode cX9_union 33 = .ok (.iload_n 1, 1) := by decide +kernel
theorem dX9_union_34 : decode cX9_union 34 = .ok (.ireturn, 1) := by decide +kernel
theorem dX9_termsWith_0 : decode cX9_termsWith 0 = .ok (.iconst 0, 1) := by decide +kernel
theorem dX9_termsWith_1 : decode cX9_termsWith 1 = .ok (.istore_n 3, 1) := by decide +kernel
theorem dX9_termsWith_2 : decode cX9_termsWith 2 = .ok (.iconst 0, 1) := by decide +kernel
theorem dX9_termsWith_3 : decode cX9_termsWith 3 = .ok (.istore 4, 2) := by decide +kernel
theorem dX9_termsWith_5 : decode cX9_termsWith 5 = .ok (.iload 4, 2) := by decide +kernel
theorem dX9_termsWith_7 : decode cX9_termsWith 7 = .ok (.aload_n 0, 1) := by decide +kernel
theorem dX9_termsWith_8 : decode cX9_termsWith 8 = .ok (.getfield 33, 3) := by decide +kernel
theorem dX9_termsWith_11 : decode cX9_termsWith 11 = .ok (.if_icmp .ge 54, 3) := by decide +kernel
theorem dX9_termsWith_14 : decode cX9_termsWith 14 = .ok (.iload 4, 2) := by decide +kernel
theorem dX9_termsWith_16 : decode cX9_termsWith 16 = .ok (.bipush 32, 2) := by decide +kernel
theorem dX9_termsWith_18 : decode cX9_termsWith 18 = .ok (.if_icmp .ge 47, 3) := by decide +kernel
theorem dX9_termsWith_21 : decode cX9_termsWith 21 = .ok (.aload_n 0, 1) := by decide +kernel
theorem dX9_termsWith_22 : decode cX9_termsWith 22 = .ok (.getfield 9, 3) := by decide +kernel
theorem dX9_termsWith_25 : decode cX9_termsWith 25 = .ok (.iload 4, 2) := by decide +kernel
theorem dX9_termsWith_27 : decode cX9_termsWith 27 = .ok (.iaload, 1) := by decide +kernel
theorem dX9_termsWith_28 : decode cX9_termsWith 28 = .ok (.iload_n 1, 1) := by decide +kernel
theorem dX9_termsWith_29 : decode cX9_termsWith 29 = .ok (.ishr, 1) := by decide +kernel
theorem dX9_termsWith_30 : decode cX9_termsWith 30 = .ok (.istore 5, 2) := by decide +kernel
theorem dX9_termsWith_32 : decode cX9_termsWith 32 = .ok (.iload_n 2, 1) := by decide +kernel
theorem dX9_termsWith_33 : decode cX9_termsWith 33 = .ok (.ifCond .eq 12, 3) := by decide +kernel
theorem dX9_termsWith_36 : decode cX9_termsWith 36 = .ok (.iload 5, 2) := by decide +kernel
theorem dX9_termsWith_38 : decode cX9_termsWith 38 = .ok (.iconst 1, 1) := by decide +kernel
theorem dX9_termsWith_39 : decode cX9_termsWith 39 = .ok (.if_icmp .ne 20, 3) := by decide +kernel
theorem dX9_termsWith_42 : decode cX9_termsWith 42 = .ok (.goto 10, 3) := by decide +kernel
theorem dX9_termsWith_45 : decode cX9_termsWith 45 = .ok (.iload 5, 2) := by decide +kernel
theorem dX9_termsWith_47 : decode cX9_termsWith 47 = .ok (.iconst 1, 1) := by decide +kernel
theorem dX9_termsWith_48 : decode cX9_termsWith 48 = .ok (.iand, 1) := by decide +kernel
theorem dX9_termsWith_49 : decode cX9_termsWith 49 = .ok (.ifCond .eq 10, 3) := by decide +kernel
theorem dX9_termsWith_52 : decode cX9_termsWith 52 = .ok (.iload_n 3, 1) := by decide +kernel
theorem dX9_termsWith_53 : decode cX9_termsWith 53 = .ok (.iconst 1, 1) := by decide +kernel
theorem dX9_termsWith_54 : decode cX9_termsWith 54 = .ok (.iload 4, 2) := by decide +kernel
theorem dX9_termsWith_56 : decode cX9_termsWith 56 = .ok (.ishl, 1) := by decide +kernel
theorem dX9_termsWith_57 : decode cX9_termsWith 57 = .ok (.ior, 1) := by decide +kernel
theorem dX9_termsWith_58 : decode cX9_termsWith 58 = .ok (.istore_n 3, 1) := by decide +kernel
theorem dX9_termsWith_59 : decode cX9_termsWith 59 = .ok (.iinc 4 1, 3) := by decide +kernel
theorem dX9_termsWith_62 : decode cX9_termsWith 62 = .ok (.goto (-57), 3) := by decide +kernel
theorem dX9_termsWith_65 : decode cX9_termsWith 65 = .ok (.iload_n 3, 1) := by decide +kernel
theorem dX9_termsWith_66 : decode cX9_termsWith 66 = .ok (.ireturn, 1) := by decide +kernel
theorem dX9_countFrom_0 : decode cX9_countFrom 0 = .ok (.iload 4, 2) := by decide +kernel
theorem dX9_countFrom_2 : decode cX9_countFrom 2 = .ok (.ifCond .eq 21, 3) := by decide +kernel
theorem dX9_countFrom_5 : decode cX9_countFrom 5 = .ok (.iload_n 3, 1) := by decide +kernel
theorem dX9_countFrom_6 : decode cX9_countFrom 6 = .ok (.bipush 16, 2) := by decide +kernel
theorem dX9_countFrom_8 : decode cX9_countFrom 8 = .ok (.if_icmp .ge 15, 3) := by decide +kernel
theorem dX9_countFrom_11 : decode cX9_countFrom 11 = .ok (.iload_n 3, 1) := by decide +kernel
theorem dX9_countFrom_12 : decode cX9_countFrom 12 = .ok (.aload_n 0, 1) := by decide +kernel
theorem dX9_countFrom_13 : decode cX9_countFrom 13 = .ok (.arraylength, 1) := by decide +kernel
theorem dX9_countFrom_14 : decode cX9_countFrom 14 = .ok (.if_icmp .ge 9, 3) := by decide +kernel
theorem dX9_countFrom_17 : decode cX9_countFrom 17 = .ok (.iload_n 3, 1) := by decide +kernel
theorem dX9_countFrom_18 : decode cX9_countFrom 18 = .ok (.aload_n 1, 1) := by decide +kernel
theorem dX9_countFrom_19 : decode cX9_countFrom 19 = .ok (.arraylength, 1) := by decide +kernel
theorem dX9_countFrom_20 : decode cX9_countFrom 20 = .ok (.if_icmp .lt 5, 3) := by decide +kernel
theorem dX9_countFrom_23 : decode cX9_countFrom 23 = .ok (.iconst 0, 1) := by decide +kernel
theorem dX9_countFrom_24 : decode cX9_countFrom 24 = .ok (.ireturn, 1) := by decide +kernel
theorem dX9_countFrom_25 : decode cX9_countFrom 25 = .ok (.iload_n 2, 1) := by decide +kernel
theorem dX9_countFrom_26 : decode cX9_countFrom 26 = .ok (.iload_n 3, 1) := by decide +kernel
theorem dX9_countFrom_27 : decode cX9_countFrom 27 = .ok (.ishr, 1) := by decide +kernel
theorem dX9_countFrom_28 : decode cX9_countFrom 28 = .ok (.iconst 1, 1) := by decide +kernel
theorem dX9_countFrom_29 : decode cX9_countFrom 29 = .ok (.iand, 1) := by decide +kernel
theorem dX9_countFrom_30 : decode cX9_countFrom 30 = .ok (.ifCond .ne 15, 3) := by decide +kernel
theorem dX9_countFrom_33 : decode cX9_countFrom 33 = .ok (.aload_n 0, 1) := by decide +kernel
theorem dX9_countFrom_34 : decode cX9_countFrom 34 = .ok (.aload_n 1, 1) := by decide +kernel
theorem dX9_countFrom_35 : decode cX9_countFrom 35 = .ok (.iload_n 2, 1) := by decide +kernel
theorem dX9_countFrom_36 : decode cX9_countFrom 36 = .ok (.iload_n 3, 1) := by decide +kernel
theorem dX9_countFrom_37 : decode cX9_countFrom 37 = .ok (.iconst 1, 1) := by decide +kernel
theorem dX9_countFrom_38 : decode cX9_countFrom 38 = .ok (.iadd, 1) := by decide +kernel
theorem dX9_countFrom_39 : decode cX9_countFrom 39 = .ok (.iload 4, 2) := by decide +kernel
theorem dX9_countFrom_41 : decode cX9_countFrom 41 = .ok (.invokestatic 57, 3) := by decide +kernel
theorem dX9_countFrom_44 : decode cX9_countFrom 44 = .ok (.ireturn, 1) := by decide +kernel
theorem dX9_countFrom_45 : decode cX9_countFrom 45 = .ok (.aload_n 0, 1) := by decide +kernel
theorem dX9_countFrom_46 : decode cX9_countFrom 46 = .ok (.aload_n 1, 1) := by decide +kernel
theorem dX9_countFrom_47 : decode cX9_countFrom 47 = .ok (.iload_n 2, 1) := by decide +kernel
theorem dX9_countFrom_48 : decode cX9_countFrom 48 = .ok (.iload_n 3, 1) := by decide +kernel
theorem dX9_countFrom_49 : decode cX9_countFrom 49 = .ok (.iconst 1, 1) := by decide +kernel
theorem dX9_countFrom_50 : decode cX9_countFrom 50 = .ok (.iadd, 1) := by decide +kernel
theorem dX9_countFrom_51 : decode cX9_countFrom 51 = .ok (.iload 4, 2) := by decide +kernel
theorem dX9_countFrom_53 : decode cX9_countFrom 53 = .ok (.aload_n 0, 1) := by decide +kernel
theorem dX9_countFrom_54 : decode cX9_countFrom 54 = .ok (.iload_n 3, 1) := by decide +kernel
theorem dX9_countFrom_55 : decode cX9_countFrom 55 = .ok (.iaload, 1) := by decide +kernel
theorem dX9_countFrom_56 : decode cX9_countFrom 56 = .ok (.iconst (-1), 1) := by decide +kernel
theorem dX9_countFrom_57 : decode cX9_countFrom 57 = .ok (.ixor, 1) := by decide +kernel
theorem dX9_countFrom_58 : decode cX9_countFrom 58 = .ok (.iand, 1) := by decide +kernel
theorem dX9_countFrom_59 : decode cX9_countFrom 59 = .ok (.invokestatic 57, 3) := by decide +kernel
theorem dX9_countFrom_62 : decode cX9_countFrom 62 = .ok (.istore 5, 2) := by decide +kernel
theorem dX9_countFrom_64 : decode cX9_countFrom 64 = .ok (.iload 4, 2) := by decide +kernel
theorem dX9_countFrom_66 : decode cX9_countFrom 66 = .ok (.aload_n 1, 1) := by decide +kernel
theorem dX9_countFrom_67 : decode cX9_countFrom 67 = .ok (.iload_n 3, 1) := by decide +kernel
theorem dX9_countFrom_68 : decode cX9_countFrom 68 = .ok (.iaload, 1) := by decide +kernel
theorem dX9_countFrom_69 : decode cX9_countFrom 69 = .ok (.iand, 1) := by decide +kernel
theorem dX9_countFrom_70 : decode cX9_countFrom 70 = .ok (.ifCond .eq 17, 3) := by decide +kernel
theorem dX9_countFrom_73 : decode cX9_countFrom 73 = .ok (.iload 5, 2) := by decide +kernel
theorem dX9_countFrom_75 : decode cX9_countFrom 75 = .ok (.iconst 1, 1) := by decide +kernel
theorem dX9_countFrom_76 : decode cX9_countFrom 76 = .ok (.iload_n 2, 1) := by decide +kernel
theorem dX9_countFrom_77 : decode cX9_countFrom 77 = .ok (.iload_n 3, 1) := by decide +kernel
theorem dX9_countFrom_78 : decode cX9_countFrom 78 = .ok (.iconst 1, 1) := by decide +kernel
theorem dX9_countFrom_79 : decode cX9_countFrom 79 = .ok (.iadd, 1) := by decide +kernel
theorem dX9_countFrom_80 : decode cX9_countFrom 80 = .ok (.ishr, 1) := by decide +kernel
theorem dX9_countFrom_81 : decode cX9_countFrom 81 = .ok (.invokestatic 69, 3) := by decide +kernel
theorem dX9_countFrom_84 : decode cX9_countFrom 84 = .ok (.ishl, 1) := by decide +kernel
theorem dX9_countFrom_85 : decode cX9_countFrom 85 = .ok (.iadd, 1) := by decide +kernel
theorem dX9_countFrom_86 : decode cX9_countFrom 86 = .ok (.ireturn, 1) := by decide +kernel
theorem dX9_countFrom_87 : decode cX9_countFrom 87 = .ok (.iload 4, 2) := by decide +kernel
theorem dX9_countFrom_89 : decode cX9_countFrom 89 = .ok (.aload_n 0, 1) := by decide +kernel
theorem dX9_countFrom_90 : decode cX9_countFrom 90 = .ok (.iload_n 3, 1) := by decide +kernel
theorem dX9_countFrom_91 : decode cX9_countFrom 91 = .ok (.iaload, 1) := by decide +kernel
theorem dX9_countFrom_92 : decode cX9_countFrom 92 = .ok (.iand, 1) := by decide +kernel
theorem dX9_countFrom_93 : decode cX9_countFrom 93 = .ok (.ifCond .ne 8, 3) := by decide +kernel
theorem dX9_countFrom_96 : decode cX9_countFrom 96 = .ok (.iconst 2, 1) := by decide +kernel
theorem dX9_countFrom_97 : decode cX9_countFrom 97 = .ok (.iload 5, 2) := by decide +kernel
theorem dX9_countFrom_99 : decode cX9_countFrom 99 = .ok (.imul, 1) := by decide +kernel
theorem dX9_countFrom_100 : decode cX9_countFrom 100 = .ok (.ireturn, 1) := by decide +kernel
theorem dX9_countFrom_101 : decode cX9_countFrom 101 = .ok (.iload 5, 2) := by decide +kernel
theorem dX9_countFrom_103 : decode cX9_countFrom 103 = .ok (.aload_n 0, 1) := by decide +kernel
theorem dX9_countFrom_104 : decode cX9_countFrom 104 = .ok (.aload_n 1, 1) := by decide +kernel
theorem dX9_countFrom_105 : decode cX9_countFrom 105 = .ok (.iload_n 2, 1) := by decide +kernel
theorem dX9_countFrom_106 : decode cX9_countFrom 106 = .ok (.iload_n 3, 1) := by decide +kernel
theorem dX9_countFrom_107 : decode cX9_countFrom 107 = .ok (.iconst 1, 1) := by decide +kernel
theorem dX9_countFrom_108 : decode cX9_countFrom 108 = .ok (.iadd, 1) := by decide +kernel
theorem dX9_countFrom_109 : decode cX9_countFrom 109 = .ok (.iload 4, 2) := by decide +kernel
theorem dX9_countFrom_111 : decode cX9_countFrom 111 = .ok (.invokestatic 57, 3) := by decide +kernel
theorem dX9_countFrom_114 : decode cX9_countFrom 114 = .ok (.iadd, 1) := by decide +kernel
theorem dX9_countFrom_115 : decode cX9_countFrom 115 = .ok (.ireturn, 1) := by decide +kernel
theorem dX10_init_0 : decode cX10_init 0 = .ok (.aload_n 0, 1) := by decide +kernel
theorem dX10_init_1 : decode cX10_init 1 = .ok (.invokespecial 1, 3) := by decide +kernel
theorem dX10_init_4 : decode cX10_init 4 = .ok (.aload_n 0, 1) := by decide +kernel
theorem dX10_init_5 : decode cX10_init 5 = .ok (.new 7, 3) := by decide +kernel
theorem dX10_init_8 : decode cX10_init 8 = .ok (.dup, 1) := by decide +kernel
theorem dX10_init_9 : decode cX10_init 9 = .ok (.invokespecial 9, 3) := by decide +kernel
theorem dX10_init_12 : decode cX10_init 12 = .ok (.putfield 10, 3) := by decide +kernel
theorem dX10_init_15 : decode cX10_init 15 = .ok (.aload_n 0, 1) := by decide +kernel
theorem dX10_init_16 : decode cX10_init 16 = .ok (.new 7, 3) := by decide +kernel
theorem dX10_init_19 : decode cX10_init 19 = .ok (.dup, 1) := by decide +kernel
theorem dX10_init_20 : decode cX10_init 20 = .ok (.invokespecial 9, 3) := by decide +kernel
theorem dX10_init_23 : decode cX10_init 23 = .ok (.putfield 16, 3) := by decide +kernel
theorem dX10_init_26 : decode cX10_init 26 = .ok (.aload_n 0, 1) := by decide +kernel
theorem dX10_init_27 : decode cX10_init 27 = .ok (.new 19, 3) := by decide +kernel
theorem dX10_init_30 : decode cX10_init 30 = .ok (.dup, 1) := by decide +kernel
theorem dX10_init_31 : decode cX10_init 31 = .ok (.invokespecial 21, 3) := by decide +kernel
theorem dX10_init_34 : decode cX10_init 34 = .ok (.putfield 22, 3) := by decide +kernel
theorem dX10_init_37 : decode cX10_init 37 = .ok (.aload_n 0, 1) := by decide +kernel
theorem dX10_init_38 : decode cX10_init 38 = .ok (.new 26, 3) := by decide +kernel
theorem dX10_init_41 : decode cX10_init 41 = .ok (.dup, 1) := by decide +kernel
theorem dX10_init_42 : decode cX10_init 42 = .ok (.bipush 60, 2) := by decide +kernel
theorem dX10_init_44 : decode cX10_init 44 = .ok (.invokespecial 28, 3) := by decide +kernel
theorem dX10_init_47 : decode cX10_init 47 = .ok (.putfield 31, 3) := by decide +kernel
theorem dX10_init_50 : decode cX10_init 50 = .ok (.aload_n 0, 1) := by decide +kernel
theorem dX10_init_51 : decode cX10_init 51 = .ok (.new 26, 3) := by decide +kernel
theorem dX10_init_54 : decode cX10_init 54 = .ok (.dup, 1) := by decide +kernel
theorem dX10_init_55 : decode cX10_init 55 = .ok (.sipush 1024, 3) := by decide +kernel
theorem dX10_init_58 : decode cX10_init 58 = .ok (.invokespecial 28, 3) := by decide +kernel
theorem dX10_init_61 : decode cX10_init 61 = .ok (.putfield 35, 3) := by decide +kernel
theorem dX10_init_64 : decode cX10_init 64 = .ok (.aload_n 0, 1) := by decide +kernel
theorem dX10_init_65 : decode cX10_init 65 = .ok (.new 38, 3) := by decide +kernel
theorem dX10_init_68 : decode cX10_init 68 = .ok (.dup, 1) := by decide +kernel
theorem dX10_init_69 : decode cX10_init 69 = .ok (.invokespecial 40, 3) := by decide +kernel
theorem dX10_init_72 : decode cX10_init 72 = .ok (.putfield 41, 3) := by decide +kernel
theorem dX10_init_75 : decode cX10_init 75 = .ok (.aload_n 0, 1) := by decide +kernel
theorem dX10_init_76 : decode cX10_init 76 = .ok (.new 38, 3) := by decide +kernel
theorem dX10_init_79 : decode cX10_init 79 = .ok (.dup, 1) := by decide +kernel
theorem dX10_init_80 : decode cX10_init 80 = .ok (.invokespecial 40, 3) := by decide +kernel
theorem dX10_init_83 : decode cX10_init 83 = .ok (.putfield 45, 3) := by decide +kernel
theorem dX10_init_86 : decode cX10_init 86 = .ok (.aload_n 0, 1) := by decide +kernel
theorem dX10_init_87 : decode cX10_init 87 = .ok (.new 48, 3) := by decide +kernel
theorem dX10_init_90 : decode cX10_init 90 = .ok (.dup, 1) := by decide +kernel
theorem dX10_init_91 : decode cX10_init 91 = .ok (.invokespecial 50, 3) := by decide +kernel
theorem dX10_init_94 : decode cX10_init 94 = .ok (.putfield 51, 3) := by decide +kernel
theorem dX10_init_97 : decode cX10_init 97 = .ok (.aload_n 0, 1) := by decide +kernel
theorem dX10_init_98 : decode cX10_init 98 = .ok (.new 55, 3) := by decide +kernel
theorem dX10_init_101 : decode cX10_init 101 = .ok (.dup, 1) := by decide +kernel
theorem dX10_init_102 : decode cX10_init 102 = .ok (.invokespecial 57, 3) := by decide +kernel
theorem dX10_init_105 : decode cX10_init 105 = .ok (.putfield 58, 3) := by decide +kernel
theorem dX10_init_108 : decode cX10_init 108 = .ok (.aload_n 0, 1) := by decide +kernel
theorem dX10_init_109 : decode cX10_init 109 = .ok (.new 62, 3) := by decide +kernel
theorem dX10_init_112 : decode cX10_init 112 = .ok (.dup, 1) := by decide +kernel
theorem dX10_init_113 : decode cX10_init 113 = .ok (.invokespecial 64, 3) := by decide +kernel
theorem dX10_init_116 : decode cX10_init 116 = .ok (.putfield 65, 3) := by decide +kernel
theorem dX10_init_119 : decode cX10_init 119 = .ok (.return_, 1) := by decide +kernel
theorem dX10_setColumns_0 : decode cX10_setColumns 0 = .ok (.iload_n 1, 1) := by decide +kernel
theorem dX10_setColumns_1 : decode cX10_setColumns 1 = .ok (.invokestatic 69, 3) := by decide +kernel
theorem dX10_setColumns_4 : decode cX10_setColumns 4 = .ok (.ifCond .ne 5, 3) := by decide +kernel
theorem dX10_setColumns_7 : decode cX10_setColumns 7 = .ok (.iconst (-1), 1) := by decide +kernel
theorem dX10_setColumns_8 : decode cX10_setColumns 8 = .ok (.ireturn, 1) := by decide +kernel
theorem dX10_setColumns_9 : decode cX10_setColumns 9 = .ok (.iload_n 2, 1) := by decide +kernel
theorem dX10_setColumns_10 : decode cX10_setColumns 10 = .ok (.iconst 1, 1) := by decide +kernel
theorem dX10_setColumns_11 : decode cX10_setColumns 11 = .ok (.if_icmp .lt 8, 3) := by decide +kernel
theorem dX10_setColumns_14 : decode cX10_setColumns 14 = .ok (.iload_n 2, 1) := by decide +kernel
theorem dX10_setColumns_15 : decode cX10_setColumns 15 = .ok (.iconst 3, 1) := by decide +kernel
theorem dX10_setColumns_16 : decode cX10_setColumns 16 = .ok (.if_icmp .le 6, 3) := by decide +kernel
theorem dX10_setColumns_19 : decode cX10_setColumns 19 = .ok (.bipush (-2), 2) := by decide +kernel
theorem dX10_setColumns_21 : decode cX10_setColumns 21 = .ok (.ireturn, 1) := by decide +kernel
theorem dX10_setColumns_22 : decode cX10_setColumns 22 = .ok (.aload_n 0, 1) := by decide +kernel
theorem dX10_setColumns_23 : decode cX10_setColumns 23 = .ok (.getfield 10, 3) := by decide +kernel
theorem dX10_setColumns_26 : decode cX10_setColumns 26 = .ok (.iload_n 1, 1) := by decide +kernel
theorem dX10_setColumns_27 : decode cX10_setColumns 27 = .ok (.invokevirtual 73, 3) := by decide +kernel
theorem dX10_setColumns_30 : decode cX10_setColumns 30 = .ok (.ifCond .ne 14, 3) := by decide +kernel
theorem dX10_setColumns_33 : decode cX10_setColumns 33 = .ok (.aload_n 0, 1) := by decide +kernel
theorem dX10_setColumns_34 : decode cX10_setColumns 34 = .ok (.getfield 10, 3) := by decide +kernel
theorem dX10_setColumns_37 : decode cX10_setColumns 37 = .ok (.iload_n 1, 1) := by decide +kernel
theorem dX10_setColumns_38 : decode cX10_setColumns 38 = .ok (.invokevirtual 76, 3) := by decide +kernel
theorem dX10_setColumns_41 : decode cX10_setColumns 41 = .ok (.ifCond .eq 6, 3) := by decide +kernel
theorem dX10_setColumns_44 : decode cX10_setColumns 44 = .ok (.bipush (-5), 2) := by decide +kernel
theorem dX10_setColumns_46 : decode cX10_setColumns 46 = .ok (.ireturn, 1) := by decide +kernel
theorem dX10_setColumns_47 : decode cX10_setColumns 47 = .ok (.aload_n 0, 1) := by decide +kernel
theorem dX10_setColumns_48 : decode cX10_setColumns 48 = .ok (.getfield 10, 3) := by decide +kernel
theorem dX10_setColumns_51 : decode cX10_setColumns 51 = .ok (.iload_n 1, 1) := by decide +kernel
theorem dX10_setColumns_52 : decode cX10_setColumns 52 = .ok (.invokevirtual 79, 3) := by decide +kernel
theorem dX10_setColumns_55 : decode cX10_setColumns 55 = .ok (.istore_n 3, 1) := by decide +kernel
theorem dX10_setColumns_56 : decode cX10_setColumns 56 = .ok (.aload_n 0, 1) := by decide +kernel
theorem dX10_setColumns_57 : decode cX10_setColumns 57 = .ok (.getfield 22, 3) := by decide +kernel
theorem dX10_setColumns_60 : decode cX10_setColumns 60 = .ok (.aload_n 0, 1) := by decide +kernel
theorem dX10_setColumns_61 : decode cX10_setColumns 61 = .ok (.getfield 10, 3) := by decide +kernel
theorem dX10_setColumns_64 : decode cX10_setColumns 64 = .ok (.invokevirtual 83, 3) := by decide +kernel
theorem dX10_setColumns_67 : decode cX10_setColumns 67 = .ok (.aload_n 0, 1) := by decide +kernel
theorem dX10_setColumns_68 : decode cX10_setColumns 68 = .ok (.getfield 10, 3) := by decide +kernel
theorem dX10_setColumns_71 : decode cX10_setColumns 71 = .ok (.iload_n 1, 1) := by decide +kernel
theorem dX10_setColumns_72 : decode cX10_setColumns 72 = .ok (.iload_n 2, 1) := by decide +kernel
theorem dX10_setColumns_73 : decode cX10_setColumns 73 = .ok (.invokevirtual 87, 3) := by decide +kernel
theorem dX10_setColumns_76 : decode cX10_setColumns 76 = .ok (.iload_n 3, 1) := by decide +kernel
theorem dX10_setColumns_77 : decode cX10_setColumns 77 = .ok (.ireturn, 1) := by decide +kernel
theorem dX10_addRow_0 : decode cX10_addRow 0 = .ok (.iload_n 1, 1) := by decide +kernel
theorem dX10_addRow_1 : decode cX10_addRow 1 = .ok (.invokestatic 69, 3) := by decide +kernel
theorem dX10_addRow_4 : decode cX10_addRow 4 = .ok (.ifCond .ne 5, 3) := by decide +kernel
theorem dX10_addRow_7 : decode cX10_addRow 7 = .ok (.iconst (-1), 1) := by decide +kernel
theorem dX10_addRow_8 : decode cX10_addRow 8 = .ok (.ireturn, 1) := by decide +kernel
theorem dX10_addRow_9 : decode cX10_addRow 9 = .ok (.aload_n 0, 1) := by decide +kernel
theorem dX10_addRow_10 : decode cX10_addRow 10 = .ok (.getfield 10, 3) := by decide +kernel
theorem dX10_addRow_13 : decode cX10_addRow 13 = .ok (.iload_n 1, 1) := by decide +kernel
theorem dX10_addRow_14 : decode cX10_addRow 14 = .ok (.invokevirtual 79, 3) := by decide +kernel
theorem dX10_addRow_17 : decode cX10_addRow 17 = .ok (.istore_n 3, 1) := by decide +kernel
theorem dX10_addRow_18 : decode cX10_addRow 18 = .ok (.iload_n 2, 1) := by decide +kernel
theorem dX10_addRow_19 : decode cX10_addRow 19 = .ok (.ifCond .lt 11, 3) := by decide +kernel
theorem dX10_addRow_22 : decode cX10_addRow 22 = .ok (.iload_n 2, 1) := by decide +kernel
theorem dX10_addRow_23 : decode cX10_addRow 23 = .ok (.iload_n 3, 1) := by decide +kernel
theorem dX10_addRow_24 : decode cX10_addRow 24 = .ok (.invokestatic 91, 3) := by decide +kernel
theorem dX10_addRow_27 : decode cX10_addRow 27 = .ok (.ifCond .eq 6, 3) := by decide +kernel
theorem dX10_addRow_30 : decode cX10_addRow 30 = .ok (.bipush (-2), 2) := by decide +kernel
theorem dX10_addRow_32 : decode cX10_addRow 32 = .ok (.ireturn, 1) := by decide +kernel
theorem dX10_addRow_33 : decode cX10_addRow 33 = .ok (.aload_n 0, 1) := by decide +kernel
theorem dX10_addRow_34 : decode cX10_addRow 34 = .ok (.getfield 10, 3) := by decide +kernel
theorem dX10_addRow_37 : decode cX10_addRow 37 = .ok (.invokevirtual 97, 3) := by decide +kernel
theorem dX10_addRow_40 : decode cX10_addRow 40 = .ok (.istore 4, 2) := by decide +kernel
theorem dX10_addRow_42 : decode cX10_addRow 42 = .ok (.iload 4, 2) := by decide +kernel
theorem dX10_addRow_44 : decode cX10_addRow 44 = .ok (.ifCond .ge 6, 3) := by decide +kernel
theorem dX10_addRow_47 : decode cX10_addRow 47 = .ok (.bipush (-4), 2) := by decide +kernel
theorem dX10_addRow_49 : decode cX10_addRow 49 = .ok (.ireturn, 1) := by decide +kernel
theorem dX10_addRow_50 : decode cX10_addRow 50 = .ok (.aload_n 0, 1) := by decide +kernel
theorem dX10_addRow_51 : decode cX10_addRow 51 = .ok (.getfield 16, 3) := by decide +kernel
theorem dX10_addRow_54 : decode cX10_addRow 54 = .ok (.aload_n 0, 1) := by decide +kernel
theorem dX10_addRow_55 : decode cX10_addRow 55 = .ok (.getfield 10, 3) := by decide +kernel
theorem dX10_addRow_58 : decode cX10_addRow 58 = .ok (.invokevirtual 101, 3) := by decide +kernel
theorem dX10_addRow_61 : decode cX10_addRow 61 = .ok (.aload_n 0, 1) := by decide +kernel
theorem dX10_addRow_62 : decode cX10_addRow 62 = .ok (.getfield 16, 3) := by decide +kernel
theorem dX10_addRow_65 : decode cX10_addRow 65 = .ok (.iload 4, 2) := by decide +kernel
theorem dX10_addRow_67 : decode cX10_addRow 67 = .ok (.iload_n 1, 1) := by decide +kernel
theorem dX10_addRow_68 : decode cX10_addRow 68 = .ok (.iload_n 2, 1) := by decide +kernel
theorem dX10_addRow_69 : decode cX10_addRow 69 = .ok (.iload_n 3, 1) := by decide +kernel
theorem dX10_addRow_70 : decode cX10_addRow 70 = .ok (.invokestatic 104, 3) := by decide +kernel
theorem dX10_addRow_73 : decode cX10_addRow 73 = .ok (.invokevirtual 108, 3) := by decide +kernel
theorem dX10_addRow_76 : decode cX10_addRow 76 = .ok (.aload_n 0, 1) := by decide +kernel
theorem dX10_addRow_77 : decode cX10_addRow 77 = .ok (.getfield 51, 3) := by decide +kernel
theorem dX10_addRow_80 : decode cX10_addRow 80 = .ok (.aload_n 0, 1) := by decide +kernel
theorem dX10_addRow_81 : decode cX10_addRow 81 = .ok (.getfield 45, 3) := by decide +kernel
theorem dX10_addRow_84 : decode cX10_addRow 84 = .ok (.aload_n 0, 1) := by decide +kernel
theorem dX10_addRow_85 : decode cX10_addRow 85 = .ok (.getfield 16, 3) := by decide +kernel
theorem dX10_addRow_88 : decode cX10_addRow 88 = .ok (.invokevirtual 112, 3) := by decide +kernel
theorem dX10_addRow_91 : decode cX10_addRow 91 = .ok (.ifCond .ne 6, 3) := by decide +kernel
theorem dX10_addRow_94 : decode cX10_addRow 94 = .ok (.bipush (-4), 2) := by decide +kernel
theorem dX10_addRow_96 : decode cX10_addRow 96 = .ok (.ireturn, 1) := by decide +kernel
theorem dX10_addRow_97 : decode cX10_addRow 97 = .ok (.aload_n 0, 1) := by decide +kernel
theorem dX10_addRow_98 : decode cX10_addRow 98 = .ok (.getfield 22, 3) := by decide +kernel
theorem dX10_addRow_101 : decode cX10_addRow 101 = .ok (.aload_n 0, 1) := by decide +kernel
theorem dX10_addRow_102 : decode cX10_addRow 102 = .ok (.getfield 10, 3) := by decide +kernel
theorem dX10_addRow_105 : decode cX10_addRow 105 = .ok (.invokevirtual 83, 3) := by decide +kernel
theorem dX10_addRow_108 : decode cX10_addRow 108 = .ok (.aload_n 0, 1) := by decide +kernel
theorem dX10_addRow_109 : decode cX10_addRow 109 = .ok (.getfield 10, 3) := by decide +kernel
theorem dX10_addRow_112 : decode cX10_addRow 112 = .ok (.aload_n 0, 1) := by decide +kernel
theorem dX10_addRow_113 : decode cX10_addRow 113 = .ok (.getfield 16, 3) := by decide +kernel
theorem dX10_addRow_116 : decode cX10_addRow 116 = .ok (.invokevirtual 101, 3) := by decide +kernel
theorem dX10_addRow_119 : decode cX10_addRow 119 = .ok (.aload_n 0, 1) := by decide +kernel
theorem dX10_addRow_120 : decode cX10_addRow 120 = .ok (.getfield 51, 3) := by decide +kernel
theorem dX10_addRow_123 : decode cX10_addRow 123 = .ok (.invokevirtual 116, 3) := by decide +kernel
theorem dX10_addRow_126 : decode cX10_addRow 126 = .ok (.iload 4, 2) := by decide +kernel
theorem dX10_addRow_128 : decode cX10_addRow 128 = .ok (.ireturn, 1) := by decide +kernel
theorem dX10_dropRow_0 : decode cX10_dropRow 0 = .ok (.aload_n 0, 1) := by decide +kernel
theorem dX10_dropRow_1 : decode cX10_dropRow 1 = .ok (.getfield 10, 3) := by decide +kernel
theorem dX10_dropRow_4 : decode cX10_dropRow 4 = .ok (.iload_n 1, 1) := by decide +kernel
theorem dX10_dropRow_5 : decode cX10_dropRow 5 = .ok (.invokevirtual 119, 3) := by decide +kernel
theorem dX10_dropRow_8 : decode cX10_dropRow 8 = .ok (.ifCond .ne 5, 3) := by decide +kernel
theorem dX10_dropRow_11 : decode cX10_dropRow 11 = .ok (.iconst (-1), 1) := by decide +kernel
theorem dX10_dropRow_12 : decode cX10_dropRow 12 = .ok (.ireturn, 1) := by decide +kernel
theorem dX10_dropRow_13 : decode cX10_dropRow 13 = .ok (.aload_n 0, 1) := by decide +kernel
theorem dX10_dropRow_14 : decode cX10_dropRow 14 = .ok (.getfield 22, 3) := by decide +kernel
theorem dX10_dropRow_17 : decode cX10_dropRow 17 = .ok (.aload_n 0, 1) := by decide +kernel
theorem dX10_dropRow_18 : decode cX10_dropRow 18 = .ok (.getfield 10, 3) := by decide +kernel
theorem dX10_dropRow_21 : decode cX10_dropRow 21 = .ok (.invokevirtual 83, 3) := by decide +kernel
theorem dX10_dropRow_24 : decode cX10_dropRow 24 = .ok (.aload_n 0, 1) := by decide +kernel
theorem dX10_dropRow_25 : decode cX10_dropRow 25 = .ok (.getfield 10, 3) := by decide +kernel
theorem dX10_dropRow_28 : decode cX10_dropRow 28 = .ok (.iload_n 1, 1) := by decide +kernel
theorem dX10_dropRow_29 : decode cX10_dropRow 29 = .ok (.invokevirtual 122, 3) := by decide +kernel
theorem dX10_dropRow_32 : decode cX10_dropRow 32 = .ok (.aload_n 0, 1) := by decide +kernel
theorem dX10_dropRow_33 : decode cX10_dropRow 33 = .ok (.invokevirtual 125, 3) := by decide +kernel
theorem dX10_dropRow_36 : decode cX10_dropRow 36 = .ok (.aload_n 0, 1) := by decide +kernel
theorem dX10_dropRow_37 : decode cX10_dropRow 37 = .ok (.getfield 10, 3) := by decide +kernel
theorem dX10_dropRow_40 : decode cX10_dropRow 40 = .ok (.invokevirtual 128, 3) := by decide +kernel
theorem dX10_dropRow_43 : decode cX10_dropRow 43 = .ok (.invokestatic 131, 3) := by decide +kernel
theorem dX10_dropRow_46 : decode cX10_dropRow 46 = .ok (.ireturn, 1) := by decide +kernel
theorem dX10_setCost_0 : decode cX10_setCost 0 = .ok (.aload_n 0, 1) := by decide +kernel
theorem dX10_setCost_1 : decode cX10_setCost 1 = .ok (.getfield 10, 3) := by decide +kernel
theorem dX10_setCost_4 : decode cX10_setCost 4 = .ok (.iload_n 1, 1) := by decide +kernel
theorem dX10_setCost_5 : decode cX10_setCost 5 = .ok (.invokevirtual 119, 3) := by decide +kernel
theorem dX10_setCost_8 : decode cX10_setCost 8 = .ok (.ifCond .ne 5, 3) := by decide +kernel
theorem dX10_setCost_11 : decode cX10_setCost 11 = .ok (.iconst (-1), 1) := by decide +kernel
theorem dX10_setCost_12 : decode cX10_setCost 12 = .ok (.ireturn, 1) := by decide +kernel
theorem dX10_setCost_13 : decode cX10_setCost 13 = .ok (.iload_n 2, 1) := by decide +kernel
theorem dX10_setCost_14 : decode cX10_setCost 14 = .ok (.ifCond .lt 10, 3) := by decide +kernel
theorem dX10_setCost_17 : decode cX10_setCost 17 = .ok (.iload_n 2, 1) := by decide +kernel
theorem dX10_setCost_18 : decode cX10_setCost 18 = .ok (.sipush 999, 3) := by decide +kernel
theorem dX10_setCost_21 : decode cX10_setCost 21 = .ok (.if_icmp .le 6, 3) := by decide +kernel
theorem dX10_setCost_24 : decode cX10_setCost 24 = .ok (.bipush (-2), 2) := by decide +kernel
theorem dX10_setCost_26 : decode cX10_setCost 26 = .ok (.ireturn, 1) := by decide +kernel
theorem dX10_setCost_27 : decode cX10_setCost 27 = .ok (.aload_n 0, 1) := by decide +kernel
theorem dX10_setCost_28 : decode cX10_setCost 28 = .ok (.getfield 10, 3) := by decide +kernel
theorem dX10_setCost_31 : decode cX10_setCost 31 = .ok (.iload_n 1, 1) := by decide +kernel
theorem dX10_setCost_32 : decode cX10_setCost 32 = .ok (.invokevirtual 136, 3) := by decide +kernel
theorem dX10_setCost_35 : decode cX10_setCost 35 = .ok (.istore_n 3, 1) := by decide +kernel
theorem dX10_setCost_36 : decode cX10_setCost 36 = .ok (.aload_n 0, 1) := by decide +kernel
theorem dX10_setCost_37 : decode cX10_setCost 37 = .ok (.getfield 22, 3) := by decide +kernel
theorem dX10_setCost_40 : decode cX10_setCost 40 = .ok (.aload_n 0, 1) := by decide +kernel
theorem dX10_setCost_41 : decode cX10_setCost 41 = .ok (.getfield 10, 3) := by decide +kernel
theorem dX10_setCost_44 : decode cX10_setCost 44 = .ok (.invokevirtual 83, 3) := by decide +kernel
theorem dX10_setCost_47 : decode cX10_setCost 47 = .ok (.aload_n 0, 1) := by decide +kernel
theorem dX10_setCost_48 : decode cX10_setCost 48 = .ok (.getfield 10, 3) := by decide +kernel
theorem dX10_setCost_51 : decode cX10_setCost 51 = .ok (.iload_n 1, 1) := by decide +kernel
theorem dX10_setCost_52 : decode cX10_setCost 52 = .ok (.iload_n 2, 1) := by decide +kernel
theorem dX10_setCost_53 : decode cX10_setCost 53 = .ok (.invokevirtual 139, 3) := by decide +kernel
theorem dX10_setCost_56 : decode cX10_setCost 56 = .ok (.iload_n 3, 1) := by decide +kernel
theorem dX10_setCost_57 : decode cX10_setCost 57 = .ok (.ireturn, 1) := by decide +kernel
theorem dX10_setTrust_0 : decode cX10_setTrust 0 = .ok (.aload_n 0, 1) := by decide +kernel
theorem dX10_setTrust_1 : decode cX10_setTrust 1 = .ok (.getfield 10, 3) := by decide +kernel
theorem dX10_setTrust_4 : decode cX10_setTrust 4 = .ok (.iload_n 1, 1) := by decide +kernel
theorem dX10_setTrust_5 : decode cX10_setTrust 5 = .ok (.invokevirtual 119, 3) := by decide +kernel
theorem dX10_setTrust_8 : decode cX10_setTrust 8 = .ok (.ifCond .ne 5, 3) := by decide +kernel
theorem dX10_setTrust_11 : decode cX10_setTrust 11 = .ok (.iconst (-1), 1) := by decide +kernel
theorem dX10_setTrust_12 : decode cX10_setTrust 12 = .ok (.ireturn, 1) := by decide +kernel
theorem dX10_setTrust_13 : decode cX10_setTrust 13 = .ok (.iload_n 2, 1) := by decide +kernel
theorem dX10_setTrust_14 : decode cX10_setTrust 14 = .ok (.ifCond .lt 9, 3) := by decide +kernel
theorem dX10_setTrust_17 : decode cX10_setTrust 17 = .ok (.iload_n 2, 1) := by decide +kernel
theorem dX10_setTrust_18 : decode cX10_setTrust 18 = .ok (.bipush 100, 2) := by decide +kernel
theorem dX10_setTrust_20 : decode cX10_setTrust 20 = .ok (.if_icmp .le 6, 3) := by decide +kernel
theorem dX10_setTrust_23 : decode cX10_setTrust 23 = .ok (.bipush (-2), 2) := by decide +kernel
theorem dX10_setTrust_25 : decode cX10_setTrust 25 = .ok (.ireturn, 1) := by decide +kernel
theorem dX10_setTrust_26 : decode cX10_setTrust 26 = .ok (.aload_n 0, 1) := by decide +kernel
theorem dX10_setTrust_27 : decode cX10_setTrust 27 = .ok (.getfield 10, 3) := by decide +kernel
theorem dX10_setTrust_30 : decode cX10_setTrust 30 = .ok (.iload_n 1, 1) := by decide +kernel
theorem dX10_setTrust_31 : decode cX10_setTrust 31 = .ok (.invokevirtual 142, 3) := by decide +kernel
theorem dX10_setTrust_34 : decode cX10_setTrust 34 = .ok (.istore_n 3, 1) := by decide +kernel
theorem dX10_setTrust_35 : decode cX10_setTrust 35 = .ok (.aload_n 0, 1) := by decide +kernel
theorem dX10_setTrust_36 : decode cX10_setTrust 36 = .ok (.getfield 22, 3) := by decide +kernel
theorem dX10_setTrust_39 : decode cX10_setTrust 39 = .ok (.aload_n 0, 1) := by decide +kernel
theorem dX10_setTrust_40 : decode cX10_setTrust 40 = .ok (.getfield 10, 3) := by decide +kernel
theorem dX10_setTrust_43 : decode cX10_setTrust 43 = .ok (.invokevirtual 83, 3) := by decide +kernel
theorem dX10_setTrust_46 : decode cX10_setTrust 46 = .ok (.aload_n 0, 1) := by decide +kernel
theorem dX10_setTrust_47 : decode cX10_setTrust 47 = .ok (.getfield 10, 3) := by decide +kernel
theorem dX10_setTrust_50 : decode cX10_setTrust 50 = .ok (.iload_n 1, 1) := by decide +kernel
theorem dX10_setTrust_51 : decode cX10_setTrust 51 = .ok (.iload_n 2, 1) := by decide +kernel
theorem dX10_setTrust_52 : decode cX10_setTrust 52 = .ok (.invokevirtual 145, 3) := by decide +kernel
theorem dX10_setTrust_55 : decode cX10_setTrust 55 = .ok (.iload_n 3, 1) := by decide +kernel
theorem dX10_setTrust_56 : decode cX10_setTrust 56 = .ok (.ireturn, 1) := by decide +kernel
theorem dX10_setWithdrawn_0 : decode cX10_setWithdrawn 0 = .ok (.aload_n 0, 1) := by decide +kernel
theorem dX10_setWithdrawn_1 : decode cX10_setWithdrawn 1 = .ok (.getfield 10, 3) := by decide +kernel
theorem dX10_setWithdrawn_4 : decode cX10_setWithdrawn 4 = .ok (.iload_n 1, 1) := by decide +kernel
theorem dX10_setWithdrawn_5 : decode cX10_setWithdrawn 5 = .ok (.invokevirtual 119, 3) := by decide +kernel
theorem dX10_setWithdrawn_8 : decode cX10_setWithdrawn 8 = .ok (.ifCond .ne 5, 3) := by decide +kernel
theorem dX10_setWithdrawn_11 : decode cX10_setWithdrawn 11 = .ok (.iconst (-1), 1) := by decide +kernel
theorem dX10_setWithdrawn_12 : decode cX10_setWithdrawn 12 = .ok (.ireturn, 1) := by decide +kernel
theorem dX10_setWithdrawn_13 : decode cX10_setWithdrawn 13 = .ok (.aload_n 0, 1) := by decide +kernel
theorem dX10_setWithdrawn_14 : decode cX10_setWithdrawn 14 = .ok (.getfield 22, 3) := by decide +kernel
theorem dX10_setWithdrawn_17 : decode cX10_setWithdrawn 17 = .ok (.aload_n 0, 1) := by decide +kernel
theorem dX10_setWithdrawn_18 : decode cX10_setWithdrawn 18 = .ok (.getfield 10, 3) := by decide +kernel
theorem dX10_setWithdrawn_21 : decode cX10_setWithdrawn 21 = .ok (.invokevirtual 83, 3) := by decide +kernel
theorem dX10_setWithdrawn_24 : decode cX10_setWithdrawn 24 = .ok (.aload_n 0, 1) := by decide +kernel
theorem dX10_setWithdrawn_25 : decode cX10_setWithdrawn 25 = .ok (.getfield 10, 3) := by decide +kernel
theorem dX10_setWithdrawn_28 : decode cX10_setWithdrawn 28 = .ok (.iload_n 1, 1) := by decide +kernel
theorem dX10_setWithdrawn_29 : decode cX10_setWithdrawn 29 = .ok (.iload_n 2, 1) := by decide +kernel
theorem dX10_setWithdrawn_30 : decode cX10_setWithdrawn 30 = .ok (.invokevirtual 148, 3) := by decide +kernel
theorem dX10_setWithdrawn_33 : decode cX10_setWithdrawn 33 = .ok (.aload_n 0, 1) := by decide +kernel
theorem dX10_setWithdrawn_34 : decode cX10_setWithdrawn 34 = .ok (.invokevirtual 152, 3) := by decide +kernel
theorem dX10_setWithdrawn_37 : decode cX10_setWithdrawn 37 = .ok (.ireturn, 1) := by decide +kernel
theorem dX10_setQuery_0 : decode cX10_setQuery 0 = .ok (.aload_n 0, 1) := by decide +kernel
theorem dX10_setQuery_1 : decode cX10_setQuery 1 = .ok (.getfield 41, 3) := by decide +kernel
theorem dX10_setQuery_4 : decode cX10_setQuery 4 = .ok (.aload_n 0, 1) := by decide +kernel
theorem dX10_setQuery_5 : decode cX10_setQuery 5 = .ok (.getfield 31, 3) := by decide +kernel
theorem dX10_setQuery_8 : decode cX10_setQuery 8 = .ok (.invokevirtual 155, 3) := by decide +kernel
theorem dX10_setQuery_11 : decode cX10_setQuery 11 = .ok (.ifCond .ne 6, 3) := by decide +kernel
theorem dX10_setQuery_14 : decode cX10_setQuery 14 = .ok (.bipush (-3), 2) := by decide +kernel
theorem dX10_setQuery_16 : decode cX10_setQuery 16 = .ok (.ireturn, 1) := by decide +kernel
theorem dX10_setQuery_17 : decode cX10_setQuery 17 = .ok (.aload_n 0, 1) := by decide +kernel
theorem dX10_setQuery_18 : decode cX10_setQuery 18 = .ok (.getfield 41, 3) := by decide +kernel
theorem dX10_setQuery_21 : decode cX10_setQuery 21 = .ok (.aload_n 0, 1) := by decide +kernel
theorem dX10_setQuery_22 : decode cX10_setQuery 22 = .ok (.getfield 10, 3) := by decide +kernel
theorem dX10_setQuery_25 : decode cX10_setQuery 25 = .ok (.invokevirtual 159, 3) := by decide +kernel
theorem dX10_setQuery_28 : decode cX10_setQuery 28 = .ok (.ifCond .ne 6, 3) := by decide +kernel
theorem dX10_setQuery_31 : decode cX10_setQuery 31 = .ok (.bipush (-5), 2) := by decide +kernel
theorem dX10_setQuery_33 : decode cX10_setQuery 33 = .ok (.ireturn, 1) := by decide +kernel
theorem dX10_setQuery_34 : decode cX10_setQuery 34 = .ok (.aload_n 0, 1) := by decide +kernel
theorem dX10_setQuery_35 : decode cX10_setQuery 35 = .ok (.getfield 51, 3) := by decide +kernel
theorem dX10_setQuery_38 : decode cX10_setQuery 38 = .ok (.aload_n 0, 1) := by decide +kernel
theorem dX10_setQuery_39 : decode cX10_setQuery 39 = .ok (.getfield 41, 3) := by decide +kernel
theorem dX10_setQuery_42 : decode cX10_setQuery 42 = .ok (.aload_n 0, 1) := by decide +kernel
theorem dX10_setQuery_43 : decode cX10_setQuery 43 = .ok (.getfield 10, 3) := by decide +kernel
theorem dX10_setQuery_46 : decode cX10_setQuery 46 = .ok (.invokevirtual 112, 3) := by decide +kernel
theorem dX10_setQuery_49 : decode cX10_setQuery 49 = .ok (.ifCond .ne 6, 3) := by decide +kernel
theorem dX10_setQuery_52 : decode cX10_setQuery 52 = .ok (.bipush (-4), 2) := by decide +kernel
theorem dX10_setQuery_54 : decode cX10_setQuery 54 = .ok (.ireturn, 1) := by decide +kernel
theorem dX10_setQuery_55 : decode cX10_setQuery 55 = .ok (.aload_n 0, 1) := by decide +kernel
theorem dX10_setQuery_56 : decode cX10_setQuery 56 = .ok (.getfield 22, 3) := by decide +kernel
theorem dX10_setQuery_59 : decode cX10_setQuery 59 = .ok (.aload_n 0, 1) := by decide +kernel
theorem dX10_setQuery_60 : decode cX10_setQuery 60 = .ok (.getfield 10, 3) := by decide +kernel
theorem dX10_setQuery_63 : decode cX10_setQuery 63 = .ok (.invokevirtual 83, 3) := by decide +kernel
theorem dX10_setQuery_66 : decode cX10_setQuery 66 = .ok (.aload_n 0, 1) := by decide +kernel
theorem dX10_setQuery_67 : decode cX10_setQuery 67 = .ok (.getfield 10, 3) := by decide +kernel
theorem dX10_setQuery_70 : decode cX10_setQuery 70 = .ok (.invokevirtual 163, 3) := by decide +kernel
theorem dX10_setQuery_73 : decode cX10_setQuery 73 = .ok (.aload_n 0, 1) := by decide +kernel
theorem dX10_setQuery_74 : decode cX10_setQuery 74 = .ok (.getfield 31, 3) := by decide +kernel
theorem dX10_setQuery_77 : decode cX10_setQuery 77 = .ok (.invokevirtual 167, 3) := by decide +kernel
theorem dX10_setQuery_80 : decode cX10_setQuery 80 = .ok (.aload_n 0, 1) := by decide +kernel
theorem dX10_setQuery_81 : decode cX10_setQuery 81 = .ok (.getfield 45, 3) := by decide +kernel
theorem dX10_setQuery_84 : decode cX10_setQuery 84 = .ok (.aload_n 0, 1) := by decide +kernel
theorem dX10_setQuery_85 : decode cX10_setQuery 85 = .ok (.getfield 10, 3) := by decide +kernel
theorem dX10_setQuery_88 : decode cX10_setQuery 88 = .ok (.invokevirtual 163, 3) := by decide +kernel
theorem dX10_setQuery_91 : decode cX10_setQuery 91 = .ok (.invokevirtual 155, 3) := by decide +kernel
theorem dX10_setQuery_94 : decode cX10_setQuery 94 = .ok (.pop, 1) := by decide +kernel
theorem dX10_setQuery_95 : decode cX10_setQuery 95 = .ok (.aload_n 0, 1) := by decide +kernel
theorem dX10_setQuery_96 : decode cX10_setQuery 96 = .ok (.getfield 51, 3) := by decide +kernel
theorem dX10_setQuery_99 : decode cX10_setQuery 99 = .ok (.invokevirtual 116, 3) := by decide +kernel
theorem dX10_setQuery_102 : decode cX10_setQuery 102 = .ok (.aload_n 0, 1) := by decide +kernel
theorem dX10_setQuery_103 : decode cX10_setQuery 103 = .ok (.invokevirtual 170, 3) := by decide +kernel
theorem dX10_setQuery_106 : decode cX10_setQuery 106 = .ok (.ireturn, 1) := by decide +kernel
theorem dX10_dropQuery_0 : decode cX10_dropQuery 0 = .ok (.aload_n 0, 1) := by decide +kernel
theorem dX10_dropQuery_1 : decode cX10_dropQuery 1 = .ok (.getfield 10, 3) := by decide +kernel
theorem dX10_dropQuery_4 : decode cX10_dropQuery 4 = .ok (.invokevirtual 163, 3) := by decide +kernel
theorem dX10_dropQuery_7 : decode cX10_dropQuery 7 = .ok (.invokevirtual 173, 3) := by decide +kernel
theorem dX10_dropQuery_10 : decode cX10_dropQuery 10 = .ok (.ifCond .ne 6, 3) := by decide +kernel
theorem dX10_dropQuery_13 : decode cX10_dropQuery 13 = .ok (.bipush (-5), 2) := by decide +kernel
theorem dX10_dropQuery_15 : decode cX10_dropQuery 15 = .ok (.ireturn, 1) := by decide +kernel
theorem dX10_dropQuery_16 : decode cX10_dropQuery 16 = .ok (.aload_n 0, 1) := by decide +kernel
theorem dX10_dropQuery_17 : decode cX10_dropQuery 17 = .ok (.invokevirtual 170, 3) := by decide +kernel
theorem dX10_dropQuery_20 : decode cX10_dropQuery 20 = .ok (.istore_n 1, 1) := by decide +kernel
theorem dX10_dropQuery_21 : decode cX10_dropQuery 21 = .ok (.aload_n 0, 1) := by decide +kernel
theorem dX10_dropQuery_22 : decode cX10_dropQuery 22 = .ok (.getfield 22, 3) := by decide +kernel
theorem dX10_dropQuery_25 : decode cX10_dropQuery 25 = .ok (.aload_n 0, 1) := by decide +kernel
theorem dX10_dropQuery_26 : decode cX10_dropQuery 26 = .ok (.getfield 10, 3) := by decide +kernel
theorem dX10_dropQuery_29 : decode cX10_dropQuery 29 = .ok (.invokevirtual 83, 3) := by decide +kernel
theorem dX10_dropQuery_32 : decode cX10_dropQuery 32 = .ok (.aload_n 0, 1) := by decide +kernel
theorem dX10_dropQuery_33 : decode cX10_dropQuery 33 = .ok (.getfield 10, 3) := by decide +kernel
theorem dX10_dropQuery_36 : decode cX10_dropQuery 36 = .ok (.invokevirtual 163, 3) := by decide +kernel
theorem dX10_dropQuery_39 : decode cX10_dropQuery 39 = .ok (.invokevirtual 176, 3) := by decide +kernel
theorem dX10_dropQuery_42 : decode cX10_dropQuery 42 = .ok (.aload_n 0, 1) := by decide +kernel
theorem dX10_dropQuery_43 : decode cX10_dropQuery 43 = .ok (.getfield 45, 3) := by decide +kernel
theorem dX10_dropQuery_46 : decode cX10_dropQuery 46 = .ok (.aload_n 0, 1) := by decide +kernel
theorem dX10_dropQuery_47 : decode cX10_dropQuery 47 = .ok (.getfield 10, 3) := by decide +kernel
theorem dX10_dropQuery_50 : decode cX10_dropQuery 50 = .ok (.invokevirtual 163, 3) := by decide +kernel
theorem dX10_dropQuery_53 : decode cX10_dropQuery 53 = .ok (.invokevirtual 155, 3) := by decide +kernel
theorem dX10_dropQuery_56 : decode cX10_dropQuery 56 = .ok (.pop, 1) := by decide +kernel
theorem dX10_dropQuery_57 : decode cX10_dropQuery 57 = .ok (.aload_n 0, 1) := by decide +kernel
theorem dX10_dropQuery_58 : decode cX10_dropQuery 58 = .ok (.invokevirtual 125, 3) := by decide +kernel
theorem dX10_dropQuery_61 : decode cX10_dropQuery 61 = .ok (.iload_n 1, 1) := by decide +kernel
theorem dX10_dropQuery_62 : decode cX10_dropQuery 62 = .ok (.ireturn, 1) := by decide +kernel
theorem dX10_append_0 : decode cX10_append 0 = .ok (.iload_n 1, 1) := by decide +kernel
theorem dX10_append_1 : decode cX10_append 1 = .ok (.bipush 32, 2) := by decide +kernel
theorem dX10_append_3 : decode cX10_append 3 = .ok (.if_icmp .lt 9, 3) := by decide +kernel
theorem dX10_append_6 : decode cX10_append 6 = .ok (.iload_n 1, 1) := by decide +kernel
theorem dX10_append_7 : decode cX10_append 7 = .ok (.bipush 126, 2) := by decide +kernel
theorem dX10_append_9 : decode cX10_append 9 = .ok (.if_icmp .le 6, 3) := by decide +kernel
theorem dX10_append_12 : decode cX10_append 12 = .ok (.bipush (-2), 2) := by decide +kernel
theorem dX10_append_14 : decode cX10_append 14 = .ok (.ireturn, 1) := by decide +kernel
theorem dX10_append_15 : decode cX10_append 15 = .ok (.aload_n 0, 1) := by decide +kernel
theorem dX10_append_16 : decode cX10_append 16 = .ok (.getfield 31, 3) := by decide +kernel
theorem dX10_append_19 : decode cX10_append 19 = .ok (.iload_n 1, 1) := by decide +kernel
theorem dX10_append_20 : decode cX10_append 20 = .ok (.i2c, 1) := by decide +kernel
theorem dX10_append_21 : decode cX10_append 21 = .ok (.invokevirtual 179, 3) := by decide +kernel
theorem dX10_append_24 : decode cX10_append 24 = .ok (.ifCond .ne 6, 3) := by decide +kernel
theorem dX10_append_27 : decode cX10_append 27 = .ok (.bipush (-4), 2) := by decide +kernel
theorem dX10_append_29 : decode cX10_append 29 = .ok (.ireturn, 1) := by decide +kernel
theorem dX10_append_30 : decode cX10_append 30 = .ok (.aload_n 0, 1) := by decide +kernel
theorem dX10_append_31 : decode cX10_append 31 = .ok (.getfield 31, 3) := by decide +kernel
theorem dX10_append_34 : decode cX10_append 34 = .ok (.invokevirtual 173, 3) := by decide +kernel
theorem dX10_append_37 : decode cX10_append 37 = .ok (.ireturn, 1) := by decide +kernel
theorem dX10_clearText_0 : decode cX10_clearText 0 = .ok (.aload_n 0, 1) := by decide +kernel
theorem dX10_clearText_1 : decode cX10_clearText 1 = .ok (.getfield 31, 3) := by decide +kernel
theorem dX10_clearText_4 : decode cX10_clearText 4 = .ok (.invokevirtual 173, 3) := by decide +kernel
theorem dX10_clearText_7 : decode cX10_clearText 7 = .ok (.istore_n 1, 1) := by decide +kernel
theorem dX10_clearText_8 : decode cX10_clearText 8 = .ok (.aload_n 0, 1) := by decide +kernel
theorem dX10_clearText_9 : decode cX10_clearText 9 = .ok (.getfield 31, 3) := by decide +kernel
theorem dX10_clearText_12 : decode cX10_clearText 12 = .ok (.invokevirtual 176, 3) := by decide +kernel
theorem dX10_clearText_15 : decode cX10_clearText 15 = .ok (.iload_n 1, 1) := by decide +kernel
theorem dX10_clearText_16 : decode cX10_clearText 16 = .ok (.ireturn, 1) := by decide +kernel
theorem dX10_fault_0 : decode cX10_fault 0 = .ok (.aload_n 0, 1) := by decide +kernel
theorem dX10_fault_1 : decode cX10_fault 1 = .ok (.getfield 41, 3) := by decide +kernel
theorem dX10_fault_4 : decode cX10_fault 4 = .ok (.aload_n 0, 1) := by decide +kernel
theorem dX10_fault_5 : decode cX10_fault 5 = .ok (.getfield 31, 3) := by decide +kernel
theorem dX10_fault_8 : decode cX10_fault 8 = .ok (.invokevirtual 155, 3) := by decide +kernel
theorem dX10_fault_11 : decode cX10_fault 11 = .ok (.ifCond .eq 8, 3) := by decide +kernel
theorem dX10_fault_14 : decode cX10_fault 14 = .ok (.bipush (-6), 2) := by decide +kernel
theorem dX10_fault_16 : decode cX10_fault 16 = .ok (.goto 10, 3) := by decide +kernel
theorem dX10_fault_19 : decode cX10_fault 19 = .ok (.aload_n 0, 1) := by decide +kernel
theorem dX10_fault_20 : decode cX10_fault 20 = .ok (.getfield 41, 3) := by decide +kernel
theorem dX10_fault_23 : decode cX10_fault 23 = .ok (.invokevirtual 183, 3) := by decide +kernel
theorem dX10_fault_26 : decode cX10_fault 26 = .ok (.ireturn, 1) := by decide +kernel
theorem dX10_undo_0 : decode cX10_undo 0 = .ok (.aload_n 0, 1) := by decide +kernel
theorem dX10_undo_1 : decode cX10_undo 1 = .ok (.getfield 22, 3) := by decide +kernel
theorem dX10_undo_4 : decode cX10_undo 4 = .ok (.invokevirtual 186, 3) := by decide +kernel
theorem dX10_undo_7 : decode cX10_undo 7 = .ok (.astore_n 1, 1) := by decide +kernel
theorem dX10_undo_8 : decode cX10_undo 8 = .ok (.aload_n 1, 1) := by decide +kernel
theorem dX10_undo_9 : decode cX10_undo 9 = .ok (.ifnonnull 6, 3) := by decide +kernel
theorem dX10_undo_12 : decode cX10_undo 12 = .ok (.bipush (-6), 2) := by decide +kernel
theorem dX10_undo_14 : decode cX10_undo 14 = .ok (.ireturn, 1) := by decide +kernel
theorem dX10_undo_15 : decode cX10_undo 15 = .ok (.aload_n 0, 1) := by decide +kernel
theorem dX10_undo_16 : decode cX10_undo 16 = .ok (.getfield 10, 3) := by decide +kernel
theorem dX10_undo_19 : decode cX10_undo 19 = .ok (.aload_n 1, 1) := by decide +kernel
theorem dX10_undo_20 : decode cX10_undo 20 = .ok (.invokevirtual 101, 3) := by decide +kernel
theorem dX10_undo_23 : decode cX10_undo 23 = .ok (.aload_n 0, 1) := by decide +kernel
theorem dX10_undo_24 : decode cX10_undo 24 = .ok (.getfield 45, 3) := by decide +kernel
theorem dX10_undo_27 : decode cX10_undo 27 = .ok (.aload_n 0, 1) := by decide +kernel
theorem dX10_undo_28 : decode cX10_undo 28 = .ok (.getfield 10, 3) := by decide +kernel
theorem dX10_undo_31 : decode cX10_undo 31 = .ok (.invokevirtual 163, 3) := by decide +kernel
theorem dX10_undo_34 : decode cX10_undo 34 = .ok (.invokevirtual 155, 3) := by decide +kernel
theorem dX10_undo_37 : decode cX10_undo 37 = .ok (.pop, 1) := by decide +kernel
theorem dX10_undo_38 : decode cX10_undo 38 = .ok (.aload_n 0, 1) := by decide +kernel
theorem dX10_undo_39 : decode cX10_undo 39 = .ok (.invokevirtual 125, 3) := by decide +kernel
theorem dX10_undo_42 : decode cX10_undo 42 = .ok (.aload_n 0, 1) := by decide +kernel
theorem dX10_undo_43 : decode cX10_undo 43 = .ok (.getfield 22, 3) := by decide +kernel
theorem dX10_undo_46 : decode cX10_undo 46 = .ok (.invokevirtual 190, 3) := by decide +kernel
theorem dX10_undo_49 : decode cX10_undo 49 = .ok (.ireturn, 1) := by decide +kernel
theorem dX10_columns_0 : decode cX10_columns 0 = .ok (.iload_n 1, 1) := by decide +kernel
theorem dX10_columns_1 : decode cX10_columns 1 = .ok (.invokestatic 69, 3) := by decide +kernel
theorem dX10_columns_4 : decode cX10_columns 4 = .ok (.ifCond .eq 14, 3) := by decide +kernel
theorem dX10_columns_7 : decode cX10_columns 7 = .ok (.aload_n 0, 1) := by decide +kernel
theorem dX10_columns_8 : decode cX10_columns 8 = .ok (.getfield 10, 3) := by decide +kernel
theorem dX10_columns_11 : decode cX10_columns 11 = .ok (.iload_n 1, 1) := by decide +kernel
theorem dX10_columns_12 : decode cX10_columns 12 = .ok (.invokevirtual 79, 3) := by decide +kernel
theorem dX10_columns_15 : decode cX10_columns 15 = .ok (.goto 4, 3) := by decide +kernel
theorem dX10_columns_18 : decode cX10_columns 18 = .ok (.iconst (-1), 1) := by decide +kernel
theorem dX10_columns_19 : decode cX10_columns 19 = .ok (.ireturn, 1) := by decide +kernel
theorem dX10_tags_0 : decode cX10_tags 0 = .ok (.aload_n 0, 1) := by decide +kernel
theorem dX10_tags_1 : decode cX10_tags 1 = .ok (.getfield 10, 3) := by decide +kernel
theorem dX10_tags_4 : decode cX10_tags 4 = .ok (.invokevirtual 128, 3) := by decide +kernel
theorem dX10_tags_7 : decode cX10_tags 7 = .ok (.ireturn, 1) := by decide +kernel
theorem dX10_withdrawn_0 : decode cX10_withdrawn 0 = .ok (.aload_n 0, 1) := by decide +kernel
theorem dX10_withdrawn_1 : decode cX10_withdrawn 1 = .ok (.getfield 10, 3) := by decide +kernel
theorem dX10_withdrawn_4 : decode cX10_withdrawn 4 = .ok (.invokevirtual 193, 3) := by decide +kernel
theorem dX10_withdrawn_7 : decode cX10_withdrawn 7 = .ok (.ireturn, 1) := by decide +kernel
theorem dX10_tableOf_0 : decode cX10_tableOf 0 = .ok (.aload_n 0, 1) := by decide +kernel
theorem dX10_tableOf_1 : decode cX10_tableOf 1 = .ok (.getfield 10, 3) := by decide +kernel
theorem dX10_tableOf_4 : decode cX10_tableOf 4 = .ok (.iload_n 1, 1) := by decide +kernel
theorem dX10_tableOf_5 : decode cX10_tableOf 5 = .ok (.invokevirtual 119, 3) := by decide +kernel
theorem dX10_tableOf_8 : decode cX10_tableOf 8 = .ok (.ifCond .eq 14, 3) := by decide +kernel
theorem dX10_tableOf_11 : decode cX10_tableOf 11 = .ok (.aload_n 0, 1) := by decide +kernel
theorem dX10_tableOf_12 : decode cX10_tableOf 12 = .ok (.getfield 10, 3) := by decide +kernel
theorem dX10_tableOf_15 : decode cX10_tableOf 15 = .ok (.iload_n 1, 1) := by decide +kernel
theorem dX10_tableOf_16 : decode cX10_tableOf 16 = .ok (.invokevirtual 196, 3) := by decide +kernel
theorem dX10_tableOf_19 : decode cX10_tableOf 19 = .ok (.goto 4, 3) := by decide +kernel
theorem dX10_tableOf_22 : decode cX10_tableOf 22 = .ok (.iconst (-1), 1) := by decide +kernel
theorem dX10_tableOf_23 : decode cX10_tableOf 23 = .ok (.ireturn, 1) := by decide +kernel
theorem dX10_value_0 : decode cX10_value 0 = .ok (.aload_n 0, 1) := by decide +kernel
theorem dX10_value_1 : decode cX10_value 1 = .ok (.getfield 10, 3) := by decide +kernel
theorem dX10_value_4 : decode cX10_value 4 = .ok (.iload_n 1, 1) := by decide +kernel
theorem dX10_value_5 : decode cX10_value 5 = .ok (.invokevirtual 119, 3) := by decide +kernel
theorem dX10_value_8 : decode cX10_value 8 = .ok (.ifCond .ne 5, 3) := by decide +kernel
theorem dX10_value_11 : decode cX10_value 11 = .ok (.iconst (-1), 1) := by decide +kernel
theorem dX10_value_12 : decode cX10_value 12 = .ok (.ireturn, 1) := by decide +kernel
theorem dX10_value_13 : decode cX10_value 13 = .ok (.aload_n 0, 1) := by decide +kernel
theorem dX10_value_14 : decode cX10_value 14 = .ok (.getfield 10, 3) := by decide +kernel
theorem dX10_value_17 : decode cX10_value 17 = .ok (.aload_n 0, 1) := by decide +kernel
theorem dX10_value_18 : decode cX10_value 18 = .ok (.getfield 10, 3) := by decide +kernel
theorem dX10_value_21 : decode cX10_value 21 = .ok (.iload_n 1, 1) := by decide +kernel
theorem dX10_value_22 : decode cX10_value 22 = .ok (.invokevirtual 196, 3) := by decide +kernel
theorem dX10_value_25 : decode cX10_value 25 = .ok (.invokevirtual 79, 3) := by decide +kernel
theorem dX10_value_28 : decode cX10_value 28 = .ok (.istore_n 3, 1) := by decide +kernel
theorem dX10_value_29 : decode cX10_value 29 = .ok (.iload_n 2, 1) := by decide +kernel
theorem dX10_value_30 : decode cX10_value 30 = .ok (.ifCond .lt 8, 3) := by decide +kernel
theorem dX10_value_33 : decode cX10_value 33 = .ok (.iload_n 2, 1) := by decide +kernel
theorem dX10_value_34 : decode cX10_value 34 = .ok (.iload_n 3, 1) := by decide +kernel
theorem dX10_value_35 : decode cX10_value 35 = .ok (.if_icmp .lt 5, 3) := by decide +kernel
theorem dX10_value_38 : decode cX10_value 38 = .ok (.iconst (-1), 1) := by decide +kernel
theorem dX10_value_39 : decode cX10_value 39 = .ok (.ireturn, 1) := by decide +kernel
theorem dX10_value_40 : decode cX10_value 40 = .ok (.aload_n 0, 1) := by decide +kernel
theorem dX10_value_41 : decode cX10_value 41 = .ok (.getfield 10, 3) := by decide +kernel
theorem dX10_value_44 : decode cX10_value 44 = .ok (.iload_n 1, 1) := by decide +kernel
theorem dX10_value_45 : decode cX10_value 45 = .ok (.invokevirtual 199, 3) := by decide +kernel
theorem dX10_value_48 : decode cX10_value 48 = .ok (.iload_n 3, 1) := by decide +kernel
theorem dX10_value_49 : decode cX10_value 49 = .ok (.iload_n 2, 1) := by decide +kernel
theorem dX10_value_50 : decode cX10_value 50 = .ok (.invokestatic 202, 3) := by decide +kernel
theorem dX10_value_53 : decode cX10_value 53 = .ok (.ireturn, 1) := by decide +kernel
theorem dX10_cost_0 : decode cX10_cost 0 = .ok (.aload_n 0, 1) := by decide +kernel
theorem dX10_cost_1 : decode cX10_cost 1 = .ok (.getfield 10, 3) := by decide +kernel
theorem dX10_cost_4 : decode cX10_cost 4 = .ok (.iload_n 1, 1) := by decide +kernel
theorem dX10_cost_5 : decode cX10_cost 5 = .ok (.invokevirtual 119, 3) := by decide +kernel
theorem dX10_cost_8 : decode cX10_cost 8 = .ok (.ifCond .eq 14, 3) := by decide +kernel
theorem dX10_cost_11 : decode cX10_cost 11 = .ok (.aload_n 0, 1) := by decide +kernel
theorem dX10_cost_12 : decode cX10_cost 12 = .ok (.getfield 10, 3) := by decide +kernel
theorem dX10_cost_15 : decode cX10_cost 15 = .ok (.iload_n 1, 1) := by decide +kernel
theorem dX10_cost_16 : decode cX10_cost 16 = .ok (.invokevirtual 136, 3) := by decide +kernel
theorem dX10_cost_19 : decode cX10_cost 19 = .ok (.goto 4, 3) := by decide +kernel
theorem dX10_cost_22 : decode cX10_cost 22 = .ok (.iconst (-1), 1) := by decide +kernel
theorem dX10_cost_23 : decode cX10_cost 23 = .ok (.ireturn, 1) := by decide +kernel
theorem dX10_trust_0 : decode cX10_trust 0 = .ok (.aload_n 0, 1) := by decide +kernel
theorem dX10_trust_1 : decode cX10_trust 1 = .ok (.getfield 10, 3) := by decide +kernel
theorem dX10_trust_4 : decode cX10_trust 4 = .ok (.iload_n 1, 1) := by decide +kernel
theorem dX10_trust_5 : decode cX10_trust 5 = .ok (.invokevirtual 119, 3) := by decide +kernel
theorem dX10_trust_8 : decode cX10_trust 8 = .ok (.ifCond .eq 14, 3) := by decide +kernel
theorem dX10_trust_11 : decode cX10_trust 11 = .ok (.aload_n 0, 1) := by decide +kernel
theorem dX10_trust_12 : decode cX10_trust 12 = .ok (.getfield 10, 3) := by decide +kernel
theorem dX10_trust_15 : decode cX10_trust 15 = .ok (.iload_n 1, 1) := by decide +kernel
theorem dX10_trust_16 : decode cX10_trust 16 = .ok (.invokevirtual 142, 3) := by decide +kernel
theorem dX10_trust_19 : decode cX10_trust 19 = .ok (.goto 4, 3) := by decide +kernel
theorem dX10_trust_22 : decode cX10_trust 22 = .ok (.iconst (-1), 1) := by decide +kernel
theorem dX10_trust_23 : decode cX10_trust 23 = .ok (.ireturn, 1) := by decide +kernel
theorem dX10_queryLength_0 : decode cX10_queryLength 0 = .ok (.aload_n 0, 1) := by decide +kernel
theorem dX10_queryLength_1 : decode cX10_queryLength 1 = .ok (.getfield 10, 3) := by decide +kernel
theorem dX10_queryLength_4 : decode cX10_queryLength 4 = .ok (.invokevirtual 163, 3) := by decide +kernel
theorem dX10_queryLength_7 : decode cX10_queryLength 7 = .ok (.invokevirtual 173, 3) := by decide +kernel
theorem dX10_queryLength_10 : decode cX10_queryLength 10 = .ok (.ireturn, 1) := by decide +kernel
theorem dX10_queryAt_0 : decode cX10_queryAt 0 = .ok (.aload_n 0, 1) := by decide +kernel
theorem dX10_queryAt_1 : decode cX10_queryAt 1 = .ok (.getfield 10, 3) := by decide +kernel
theorem dX10_queryAt_4 : decode cX10_queryAt 4 = .ok (.invokevirtual 163, 3) := by decide +kernel
theorem dX10_queryAt_7 : decode cX10_queryAt 7 = .ok (.iload_n 1, 1) := by decide +kernel
theorem dX10_queryAt_8 : decode cX10_queryAt 8 = .ok (.invokevirtual 206, 3) := by decide +kernel
theorem dX10_queryAt_11 : decode cX10_queryAt 11 = .ok (.ireturn, 1) := by decide +kernel
theorem dX10_answerRows_0 : decode cX10_answerRows 0 = .ok (.aload_n 0, 1) := by decide +kernel
theorem dX10_answerRows_1 : decode cX10_answerRows 1 = .ok (.getfield 51, 3) := by decide +kernel
theorem dX10_answerRows_4 : decode cX10_answerRows 4 = .ok (.invokevirtual 209, 3) := by decide +kernel
theorem dX10_answerRows_7 : decode cX10_answerRows 7 = .ok (.invokevirtual 213, 3) := by decide +kernel
theorem dX10_answerRows_10 : decode cX10_answerRows 10 = .ok (.ireturn, 1) := by decide +kernel
theorem dX10_answerColumns_0 : decode cX10_answerColumns 0 = .ok (.aload_n 0, 1) := by decide +kernel
theorem dX10_answerColumns_1 : decode cX10_answerColumns 1 = .ok (.getfield 51, 3) := by decide +kernel
theorem dX10_answerColumns_4 : decode cX10_answerColumns 4 = .ok (.invokevirtual 209, 3) := by decide +kernel
theorem dX10_answerColumns_7 : decode cX10_answerColumns 7 = .ok (.invokevirtual 216, 3) := by decide +kernel
theorem dX10_answerColumns_10 : decode cX10_answerColumns 10 = .ok (.ireturn, 1) := by decide +kernel
theorem dX10_answerValue_0 : decode cX10_answerValue 0 = .ok (.aload_n 0, 1) := by decide +kernel
theorem dX10_answerValue_1 : decode cX10_answerValue 1 = .ok (.getfield 51, 3) := by decide +kernel
theorem dX10_answerValue_4 : decode cX10_answerValue 4 = .ok (.invokevirtual 209, 3) := by decide +kernel
theorem dX10_answerValue_7 : decode cX10_answerValue 7 = .ok (.astore_n 3, 1) := by decide +kernel
theorem dX10_answerValue_8 : decode cX10_answerValue 8 = .ok (.aload_n 3, 1) := by decide +kernel
theorem dX10_answerValue_9 : decode cX10_answerValue 9 = .ok (.iload_n 1, 1) := by decide +kernel
theorem dX10_answerValue_10 : decode cX10_answerValue 10 = .ok (.invokevirtual 219, 3) := by decide +kernel
theorem dX10_answerValue_13 : decode cX10_answerValue 13 = .ok (.ifCond .eq 15, 3) := by decide +kernel
theorem dX10_answerValue_16 : decode cX10_answerValue 16 = .ok (.iload_n 2, 1) := by decide +kernel
theorem dX10_answerValue_17 : decode cX10_answerValue 17 = .ok (.ifCond .lt 11, 3) := by decide +kernel
theorem dX10_answerValue_20 : decode cX10_answerValue 20 = .ok (.iload_n 2, 1) := by decide +kernel
theorem dX10_answerValue_21 : decode cX10_answerValue 21 = .ok (.aload_n 3, 1) := by decide +kernel
theorem dX10_answerValue_22 : decode cX10_answerValue 22 = .ok (.invokevirtual 216, 3) := by decide +kernel
theorem dX10_answerValue_25 : decode cX10_answerValue 25 = .ok (.if_icmp .lt 5, 3) := by decide +kernel
theorem dX10_answerValue_28 : decode cX10_answerValue 28 = .ok (.iconst (-1), 1) := by decide +kernel
theorem dX10_answerValue_29 : decode cX10_answerValue 29 = .ok (.ireturn, 1) := by decide +kernel
theorem dX10_answerValue_30 : decode cX10_answerValue 30 = .ok (.aload_n 3, 1) := by decide +kernel
theorem dX10_answerValue_31 : decode cX10_answerValue 31 = .ok (.iload_n 1, 1) := by decide +kernel
theorem dX10_answerValue_32 : decode cX10_answerValue 32 = .ok (.invokevirtual 222, 3) := by decide +kernel
theorem dX10_answerValue_35 : decode cX10_answerValue 35 = .ok (.aload_n 3, 1) := by decide +kernel
theorem dX10_answerValue_36 : decode cX10_answerValue 36 = .ok (.invokevirtual 216, 3) := by decide +kernel
theorem dX10_answerValue_39 : decode cX10_answerValue 39 = .ok (.iload_n 2, 1) := by decide +kernel
theorem dX10_answerValue_40 : decode cX10_answerValue 40 = .ok (.invokestatic 202, 3) := by decide +kernel
theorem dX10_answerValue_43 : decode cX10_answerValue 43 = .ok (.ireturn, 1) := by decide +kernel
theorem dX10_terms_0 : decode cX10_terms 0 = .ok (.aload_n 0, 1) := by decide +kernel
theorem dX10_terms_1 : decode cX10_terms 1 = .ok (.getfield 51, 3) := by decide +kernel
theorem dX10_terms_4 : decode cX10_terms 4 = .ok (.invokevirtual 209, 3) := by decide +kernel
theorem dX10_terms_7 : decode cX10_terms 7 = .ok (.iload_n 1, 1) := by decide +kernel
theorem dX10_terms_8 : decode cX10_terms 8 = .ok (.invokevirtual 225, 3) := by decide +kernel
theorem dX10_terms_11 : decode cX10_terms 11 = .ok (.astore_n 3, 1) := by decide +kernel
theorem dX10_terms_12 : decode cX10_terms 12 = .ok (.aload_n 3, 1) := by decide +kernel
theorem dX10_terms_13 : decode cX10_terms 13 = .ok (.ifnonnull 5, 3) := by decide +kernel
theorem dX10_terms_16 : decode cX10_terms 16 = .ok (.iconst (-1), 1) := by decide +kernel
theorem dX10_terms_17 : decode cX10_terms 17 = .ok (.ireturn, 1) := by decide +kernel
theorem dX10_terms_18 : decode cX10_terms 18 = .ok (.iload_n 2, 1) := by decide +kernel
theorem dX10_terms_19 : decode cX10_terms 19 = .ok (.invokestatic 229, 3) := by decide +kernel
theorem dX10_terms_22 : decode cX10_terms 22 = .ok (.ifCond .ne 6, 3) := by decide +kernel
theorem dX10_terms_25 : decode cX10_terms 25 = .ok (.bipush (-2), 2) := by decide +kernel
theorem dX10_terms_27 : decode cX10_terms 27 = .ok (.ireturn, 1) := by decide +kernel
theorem dX10_terms_28 : decode cX10_terms 28 = .ok (.aload_n 0, 1) := by decide +kernel
theorem dX10_terms_29 : decode cX10_terms 29 = .ok (.getfield 58, 3) := by decide +kernel
theorem dX10_terms_32 : decode cX10_terms 32 = .ok (.aload_n 3, 1) := by decide +kernel
theorem dX10_terms_33 : decode cX10_terms 33 = .ok (.iload_n 2, 1) := by decide +kernel
theorem dX10_terms_34 : decode cX10_terms 34 = .ok (.invokevirtual 232, 3) := by decide +kernel
theorem dX10_terms_37 : decode cX10_terms 37 = .ok (.aload_n 0, 1) := by decide +kernel
theorem dX10_terms_38 : decode cX10_terms 38 = .ok (.getfield 58, 3) := by decide +kernel
theorem dX10_terms_41 : decode cX10_terms 41 = .ok (.invokevirtual 236, 3) := by decide +kernel
theorem dX10_terms_44 : decode cX10_terms 44 = .ok (.ireturn, 1) := by decide +kernel
theorem dX10_coefficient_0 : decode cX10_coefficient 0 = .ok (.aload_n 0, 1) := by decide +kernel
theorem dX10_coefficient_1 : decode cX10_coefficient 1 = .ok (.getfield 51, 3) := by decide +kernel
theorem dX10_coefficient_4 : decode cX10_coefficient 4 = .ok (.invokevirtual 209, 3) := by decide +kernel
theorem dX10_coefficient_7 : decode cX10_coefficient 7 = .ok (.iload_n 1, 1) := by decide +kernel
theorem dX10_coefficient_8 : decode cX10_coefficient 8 = .ok (.invokevirtual 225, 3) := by decide +kernel
theorem dX10_coefficient_11 : decode cX10_coefficient 11 = .ok (.astore 4, 2) := by decide +kernel
theorem dX10_coefficient_13 : decode cX10_coefficient 13 = .ok (.aload 4, 2) := by decide +kernel
theorem dX10_coefficient_15 : decode cX10_coefficient 15 = .ok (.ifnonnull 7, 3) := by decide +kernel
theorem dX10_coefficient_18 : decode cX10_coefficient 18 = .ok (.ldc2_w 237, 3) := by decide +kernel
theorem dX10_coefficient_21 : decode cX10_coefficient 21 = .ok (.lreturn, 1) := by decide +kernel
theorem dX10_coefficient_22 : decode cX10_coefficient 22 = .ok (.iload_n 2, 1) := by decide +kernel
theorem dX10_coefficient_23 : decode cX10_coefficient 23 = .ok (.invokestatic 229, 3) := by decide +kernel
theorem dX10_coefficient_26 : decode cX10_coefficient 26 = .ok (.ifCond .ne 7, 3) := by decide +kernel
theorem dX10_coefficient_29 : decode cX10_coefficient 29 = .ok (.ldc2_w 239, 3) := by decide +kernel
theorem dX10_coefficient_32 : decode cX10_coefficient 32 = .ok (.lreturn, 1) := by decide +kernel
theorem dX10_coefficient_33 : decode cX10_coefficient 33 = .ok (.aload_n 0, 1) := by decide +kernel
theorem dX10_coefficient_34 : decode cX10_coefficient 34 = .ok (.getfield 58, 3) := by decide +kernel
theorem dX10_coefficient_37 : decode cX10_coefficient 37 = .ok (.aload 4, 2) := by decide +kernel
theorem dX10_coefficient_39 : decode cX10_coefficient 39 = .ok (.iload_n 2, 1) := by decide +kernel
theorem dX10_coefficient_40 : decode cX10_coefficient 40 = .ok (.invokevirtual 232, 3) := by decide +kernel
theorem dX10_coefficient_43 : decode cX10_coefficient 43 = .ok (.aload_n 0, 1) := by decide +kernel
theorem dX10_coefficient_44 : decode cX10_coefficient 44 = .ok (.getfield 58, 3) := by decide +kernel
theorem dX10_coefficient_47 : decode cX10_coefficient 47 = .ok (.iload_n 3, 1) := by decide +kernel
theorem dX10_coefficient_48 : decode cX10_coefficient 48 = .ok (.invokevirtual 241, 3) := by decide +kernel
theorem dX10_coefficient_51 : decode cX10_coefficient 51 = .ok (.ifCond .eq 14, 3) := by decide +kernel
theorem dX10_coefficient_54 : decode cX10_coefficient 54 = .ok (.aload_n 0, 1) := by decide +kernel
theorem dX10_coefficient_55 : decode cX10_coefficient 55 = .ok (.getfield 58, 3) := by decide +kernel
theorem dX10_coefficient_58 : decode cX10_coefficient 58 = .ok (.iload_n 3, 1) := by decide +kernel
theorem dX10_coefficient_59 : decode cX10_coefficient 59 = .ok (.invokevirtual 244, 3) := by decide +kernel
theorem dX10_coefficient_62 : decode cX10_coefficient 62 = .ok (.goto 6, 3) := by decide +kernel
theorem dX10_coefficient_65 : decode cX10_coefficient 65 = .ok (.ldc2_w 237, 3) := by decide +kernel
theorem dX10_coefficient_68 : decode cX10_coefficient 68 = .ok (.lreturn, 1) := by decide +kernel
theorem dX10_exponent_0 : decode cX10_exponent 0 = .ok (.aload_n 0, 1) := by decide +kernel
theorem dX10_exponent_1 : decode cX10_exponent 1 = .ok (.getfield 51, 3) := by decide +kernel
theorem dX10_exponent_4 : decode cX10_exponent 4 = .ok (.invokevirtual 209, 3) := by decide +kernel
theorem dX10_exponent_7 : decode cX10_exponent 7 = .ok (.iload_n 1, 1) := by decide +kernel
theorem dX10_exponent_8 : decode cX10_exponent 8 = .ok (.invokevirtual 225, 3) := by decide +kernel
theorem dX10_exponent_11 : decode cX10_exponent 11 = .ok (.astore 5, 2) := by decide +kernel
theorem dX10_exponent_13 : decode cX10_exponent 13 = .ok (.aload 5, 2) := by decide +kernel
theorem dX10_exponent_15 : decode cX10_exponent 15 = .ok (.ifnonnull 5, 3) := by decide +kernel
theorem dX10_exponent_18 : decode cX10_exponent 18 = .ok (.iconst (-1), 1) := by decide +kernel
theorem dX10_exponent_19 : decode cX10_exponent 19 = .ok (.ireturn, 1) := by decide +kernel
theorem dX10_exponent_20 : decode cX10_exponent 20 = .ok (.iload_n 2, 1) := by decide +kernel
theorem dX10_exponent_21 : decode cX10_exponent 21 = .ok (.invokestatic 229, 3) := by decide +kernel
theorem dX10_exponent_24 : decode cX10_exponent 24 = .ok (.ifCond .eq 15, 3) := by decide +kernel
theorem dX10_exponent_27 : decode cX10_exponent 27 = .ok (.iload 4, 2) := by decide +kernel
theorem dX10_exponent_29 : decode cX10_exponent 29 = .ok (.ifCond .lt 10, 3) := by decide +kernel
theorem dX10_exponent_32 : decode cX10_exponent 32 = .ok (.iload 4, 2) := by decide +kernel
theorem dX10_exponent_34 : decode cX10_exponent 34 = .ok (.bipush 16, 2) := by decide +kernel
theorem dX10_exponent_36 : decode cX10_exponent 36 = .ok (.if_icmp .lt 6, 3) := by decide +kernel
theorem dX10_exponent_39 : decode cX10_exponent 39 = .ok (.bipush (-2), 2) := by decide +kernel
theorem dX10_exponent_41 : decode cX10_exponent 41 = .ok (.ireturn, 1) := by decide +kernel
theorem dX10_exponent_42 : decode cX10_exponent 42 = .ok (.aload_n 0, 1) := by decide +kernel
theorem dX10_exponent_43 : decode cX10_exponent 43 = .ok (.getfield 58, 3) := by decide +kernel
theorem dX10_exponent_46 : decode cX10_exponent 46 = .ok (.aload 5, 2) := by decide +kernel
theorem dX10_exponent_48 : decode cX10_exponent 48 = .ok (.iload_n 2, 1) := by decide +kernel
theorem dX10_exponent_49 : decode cX10_exponent 49 = .ok (.invokevirtual 232, 3) := by decide +kernel
theorem dX10_exponent_52 : decode cX10_exponent 52 = .ok (.aload_n 0, 1) := by decide +kernel
theorem dX10_exponent_53 : decode cX10_exponent 53 = .ok (.getfield 58, 3) := by decide +kernel
theorem dX10_exponent_56 : decode cX10_exponent 56 = .ok (.iload_n 3, 1) := by decide +kernel
theorem dX10_exponent_57 : decode cX10_exponent 57 = .ok (.invokevirtual 241, 3) := by decide +kernel
theorem dX10_exponent_60 : decode cX10_exponent 60 = .ok (.ifCond .eq 19, 3) := by decide +kernel
theorem dX10_exponent_63 : decode cX10_exponent 63 = .ok (.aload_n 0, 1) := by decide +kernel
theorem dX10_exponent_64 : decode cX10_exponent 64 = .ok (.getfield 58, 3) := by decide +kernel
theorem dX10_exponent_67 : decode cX10_exponent 67 = .ok (.iload_n 3, 1) := by decide +kernel
theorem dX10_exponent_68 : decode cX10_exponent 68 = .ok (.invokevirtual 248, 3) := by decide +kernel
theorem dX10_exponent_71 : decode cX10_exponent 71 = .ok (.iload 4, 2) := by decide +kernel
theorem dX10_exponent_73 : decode cX10_exponent 73 = .ok (.invokestatic 251, 3) := by decide +kernel
theorem dX10_exponent_76 : decode cX10_exponent 76 = .ok (.goto 4, 3) := by decide +kernel
theorem dX10_exponent_79 : decode cX10_exponent 79 = .ok (.iconst (-1), 1) := by decide +kernel
theorem dX10_exponent_80 : decode cX10_exponent 80 = .ok (.ireturn, 1) := by decide +kernel
theorem dX10_lineage_0 : decode cX10_lineage 0 = .ok (.aload_n 0, 1) := by decide +kernel
theorem dX10_lineage_1 : decode cX10_lineage 1 = .ok (.getfield 51, 3) := by decide +kernel
theorem dX10_lineage_4 : decode cX10_lineage 4 = .ok (.invokevirtual 209, 3) := by decide +kernel
theorem dX10_lineage_7 : decode cX10_lineage 7 = .ok (.iload_n 1, 1) := by decide +kernel
theorem dX10_lineage_8 : decode cX10_lineage 8 = .ok (.invokevirtual 225, 3) := by decide +kernel
theorem dX10_lineage_11 : decode cX10_lineage 11 = .ok (.astore_n 2, 1) := by decide +kernel
theorem dX10_lineage_12 : decode cX10_lineage 12 = .ok (.aload_n 2, 1) := by decide +kernel
theorem dX10_lineage_13 : decode cX10_lineage 13 = .ok (.ifnonnull 7, 3) := by decide +kernel
theorem dX10_lineage_16 : decode cX10_lineage 16 = .ok (.iconst (-1), 1) := by decide +kernel
theorem dX10_lineage_17 : decode cX10_lineage 17 = .ok (.goto 7, 3) := by decide +kernel
theorem dX10_lineage_20 : decode cX10_lineage 20 = .ok (.aload_n 2, 1) := by decide +kernel
theorem dX10_lineage_21 : decode cX10_lineage 21 = .ok (.invokevirtual 257, 3) := by decide +kernel
theorem dX10_lineage_24 : decode cX10_lineage 24 = .ok (.ireturn, 1) := by decide +kernel
theorem dX10_derivations_0 : decode cX10_derivations 0 = .ok (.aload_n 0, 1) := by decide +kernel
theorem dX10_derivations_1 : decode cX10_derivations 1 = .ok (.iload_n 1, 1) := by decide +kernel
theorem dX10_derivations_2 : decode cX10_derivations 2 = .ok (.invokevirtual 260, 3) := by decide +kernel
theorem dX10_derivations_5 : decode cX10_derivations 5 = .ok (.ifCond .ne 7, 3) := by decide +kernel
theorem dX10_derivations_8 : decode cX10_derivations 8 = .ok (.ldc2_w 237, 3) := by decide +kernel
theorem dX10_derivations_11 : decode cX10_derivations 11 = .ok (.lreturn, 1) := by decide +kernel
theorem dX10_derivations_12 : decode cX10_derivations 12 = .ok (.lconst 0, 1) := by decide +kernel
theorem dX10_derivations_13 : decode cX10_derivations 13 = .ok (.lstore_n 2, 1) := by decide +kernel
theorem dX10_derivations_14 : decode cX10_derivations 14 = .ok (.iconst 0, 1) := by decide +kernel
theorem dX10_derivations_15 : decode cX10_derivations 15 = .ok (.istore 4, 2) := by decide +kernel
theorem dX10_derivations_17 : decode cX10_derivations 17 = .ok (.iload 4, 2) := by decide +kernel
theorem dX10_derivations_19 : decode cX10_derivations 19 = .ok (.aload_n 0, 1) := by decide +kernel
theorem dX10_derivations_20 : decode cX10_derivations 20 = .ok (.getfield 58, 3) := by decide +kernel
theorem dX10_derivations_23 : decode cX10_derivations 23 = .ok (.invokevirtual 236, 3) := by decide +kernel
theorem dX10_derivations_26 : decode cX10_derivations 26 = .ok (.if_icmp .ge 21, 3) := by decide +kernel
theorem dX10_derivations_29 : decode cX10_derivations 29 = .ok (.lload_n 2, 1) := by decide +kernel
theorem dX10_derivations_30 : decode cX10_derivations 30 = .ok (.aload_n 0, 1) := by decide +kernel
theorem dX10_derivations_31 : decode cX10_derivations 31 = .ok (.getfield 58, 3) := by decide +kernel
theorem dX10_derivations_34 : decode cX10_derivations 34 = .ok (.iload 4, 2) := by decide +kernel
theorem dX10_derivations_36 : decode cX10_derivations 36 = .ok (.invokevirtual 244, 3) := by decide +kernel
theorem dX10_derivations_39 : decode cX10_derivations 39 = .ok (.ladd, 1) := by decide +kernel
theorem dX10_derivations_40 : decode cX10_derivations 40 = .ok (.lstore_n 2, 1) := by decide +kernel
theorem dX10_derivations_41 : decode cX10_derivations 41 = .ok (.iinc 4 1, 3) := by decide +kernel
theorem dX10_derivations_44 : decode cX10_derivations 44 = .ok (.goto (-27), 3) := by decide +kernel
theorem dX10_derivations_47 : decode cX10_derivations 47 = .ok (.lload_n 2, 1) := by decide +kernel
theorem dX10_derivations_48 : decode cX10_derivations 48 = .ok (.lreturn, 1) := by decide +kernel
theorem dX10_leastCost_0 : decode cX10_leastCost 0 = .ok (.aload_n 0, 1) := by decide +kernel
theorem dX10_leastCost_1 : decode cX10_leastCost 1 = .ok (.iload_n 1, 1) := by decide +kernel
theorem dX10_leastCost_2 : decode cX10_leastCost 2 = .ok (.invokevirtual 260, 3) := by decide +kernel
theorem dX10_leastCost_5 : decode cX10_leastCost 5 = .ok (.ifCond .ne 5, 3) := by decide +kernel
theorem dX10_leastCost_8 : decode cX10_leastCost 8 = .ok (.iconst (-1), 1) := by decide +kernel
theorem dX10_leastCost_9 : decode cX10_leastCost 9 = .ok (.ireturn, 1) := by decide +kernel
theorem dX10_leastCost_10 : decode cX10_leastCost 10 = .ok (.aload_n 0, 1) := by decide +kernel
theorem dX10_leastCost_11 : decode cX10_leastCost 11 = .ok (.getfield 58, 3) := by decide +kernel
theorem dX10_leastCost_14 : decode cX10_leastCost 14 = .ok (.invokevirtual 236, 3) := by decide +kernel
theorem dX10_leastCost_17 : decode cX10_leastCost 17 = .ok (.ifCond .ne 6, 3) := by decide +kernel
theorem dX10_leastCost_20 : decode cX10_leastCost 20 = .ok (.bipush (-6), 2) := by decide +kernel
theorem dX10_leastCost_22 : decode cX10_leastCost 22 = .ok (.ireturn, 1) := by decide +kernel
theorem dX10_leastCost_23 : decode cX10_leastCost 23 = .ok (.aload_n 0, 1) := by decide +kernel
theorem dX10_leastCost_24 : decode cX10_leastCost 24 = .ok (.getfield 10, 3) := by decide +kernel
theorem dX10_leastCost_27 : decode cX10_leastCost 27 = .ok (.aload_n 0, 1) := by decide +kernel
theorem dX10_leastCost_28 : decode cX10_leastCost 28 = .ok (.getfield 58, 3) := by decide +kernel
theorem dX10_leastCost_31 : decode cX10_leastCost 31 = .ok (.aload_n 0, 1) := by decide +kernel
theorem dX10_leastCost_32 : decode cX10_leastCost 32 = .ok (.invokevirtual 263, 3) := by decide +kernel
theorem dX10_leastCost_35 : decode cX10_leastCost 35 = .ok (.invokevirtual 248, 3) := by decide +kernel
theorem dX10_leastCost_38 : decode cX10_leastCost 38 = .ok (.invokevirtual 266, 3) := by decide +kernel
theorem dX10_leastCost_41 : decode cX10_leastCost 41 = .ok (.ireturn, 1) := by decide +kernel
theorem dX10_cheapestTags_0 : decode cX10_cheapestTags 0 = .ok (.aload_n 0, 1) := by decide +kernel
theorem dX10_cheapestTags_1 : decode cX10_cheapestTags 1 = .ok (.iload_n 1, 1) := by decide +kernel
theorem dX10_cheapestTags_2 : decode cX10_cheapestTags 2 = .ok (.invokevirtual 260, 3) := by decide +kernel
theorem dX10_cheapestTags_5 : decode cX10_cheapestTags 5 = .ok (.ifCond .ne 5, 3) := by decide +kernel
theorem dX10_cheapestTags_8 : decode cX10_cheapestTags 8 = .ok (.iconst (-1), 1) := by decide +kernel
theorem dX10_cheapestTags_9 : decode cX10_cheapestTags 9 = .ok (.ireturn, 1) := by decide +kernel
theorem dX10_cheapestTags_10 : decode cX10_cheapestTags 10 = .ok (.aload_n 0, 1) := by decide +kernel
theorem dX10_cheapestTags_11 : decode cX10_cheapestTags 11 = .ok (.getfield 58, 3) := by decide +kernel
theorem dX10_cheapestTags_14 : decode cX10_cheapestTags 14 = .ok (.invokevirtual 236, 3) := by decide +kernel
theorem dX10_cheapestTags_17 : decode cX10_cheapestTags 17 = .ok (.ifCond .ne 6, 3) := by decide +kernel
theorem dX10_cheapestTags_20 : decode cX10_cheapestTags 20 = .ok (.bipush (-6), 2) := by decide +kernel
theorem dX10_cheapestTags_22 : decode cX10_cheapestTags 22 = .ok (.ireturn, 1) := by decide +kernel
theorem dX10_cheapestTags_23 : decode cX10_cheapestTags 23 = .ok (.aload_n 0, 1) := by decide +kernel
theorem dX10_cheapestTags_24 : decode cX10_cheapestTags 24 = .ok (.getfield 58, 3) := by decide +kernel
theorem dX10_cheapestTags_27 : decode cX10_cheapestTags 27 = .ok (.aload_n 0, 1) := by decide +kernel
theorem dX10_cheapestTags_28 : decode cX10_cheapestTags 28 = .ok (.invokevirtual 263, 3) := by decide +kernel
theorem dX10_cheapestTags_31 : decode cX10_cheapestTags 31 = .ok (.invokevirtual 248, 3) := by decide +kernel
theorem dX10_cheapestTags_34 : decode cX10_cheapestTags 34 = .ok (.invokestatic 270, 3) := by decide +kernel
theorem dX10_cheapestTags_37 : decode cX10_cheapestTags 37 = .ok (.ireturn, 1) := by decide +kernel
theorem dX10_answerTrust_0 : decode cX10_answerTrust 0 = .ok (.aload_n 0, 1) := by decide +kernel
theorem dX10_answerTrust_1 : decode cX10_answerTrust 1 = .ok (.iload_n 1, 1) := by decide +kernel
theorem dX10_answerTrust_2 : decode cX10_answerTrust 2 = .ok (.invokevirtual 260, 3) := by decide +kernel
theorem dX10_answerTrust_5 : decode cX10_answerTrust 5 = .ok (.ifCond .ne 5, 3) := by decide +kernel
theorem dX10_answerTrust_8 : decode cX10_answerTrust 8 = .ok (.iconst (-1), 1) := by decide +kernel
theorem dX10_answerTrust_9 : decode cX10_answerTrust 9 = .ok (.ireturn, 1) := by decide +kernel
theorem dX10_answerTrust_10 : decode cX10_answerTrust 10 = .ok (.aload_n 0, 1) := by decide +kernel
theorem dX10_answerTrust_11 : decode cX10_answerTrust 11 = .ok (.getfield 58, 3) := by decide +kernel
theorem dX10_answerTrust_14 : decode cX10_answerTrust 14 = .ok (.invokevirtual 236, 3) := by decide +kernel
theorem dX10_answerTrust_17 : decode cX10_answerTrust 17 = .ok (.ifCond .ne 6, 3) := by decide +kernel
theorem dX10_answerTrust_20 : decode cX10_answerTrust 20 = .ok (.bipush (-6), 2) := by decide +kernel
theorem dX10_answerTrust_22 : decode cX10_answerTrust 22 = .ok (.ireturn, 1) := by decide +kernel
theorem dX10_answerTrust_23 : decode cX10_answerTrust 23 = .ok (.iconst 0, 1) := by decide +kernel
theorem dX10_answerTrust_24 : decode cX10_answerTrust 24 = .ok (.istore_n 2, 1) := by decide +kernel
theorem dX10_answerTrust_25 : decode cX10_answerTrust 25 = .ok (.iconst 0, 1) := by decide +kernel
theorem dX10_answerTrust_26 : decode cX10_answerTrust 26 = .ok (.istore_n 3, 1) := by decide +kernel
theorem dX10_answerTrust_27 : decode cX10_answerTrust 27 = .ok (.iload_n 3, 1) := by decide +kernel
theorem dX10_answerTrust_28 : decode cX10_answerTrust 28 = .ok (.aload_n 0, 1) := by decide +kernel
theorem dX10_answerTrust_29 : decode cX10_answerTrust 29 = .ok (.getfield 58, 3) := by decide +kernel
theorem dX10_answerTrust_32 : decode cX10_answerTrust 32 = .ok (.invokevirtual 236, 3) := by decide +kernel
theorem dX10_answerTrust_35 : decode cX10_answerTrust 35 = .ok (.if_icmp .ge 29, 3) := by decide +kernel
theorem dX10_answerTrust_38 : decode cX10_answerTrust 38 = .ok (.iload_n 2, 1) := by decide +kernel
theorem dX10_answerTrust_39 : decode cX10_answerTrust 39 = .ok (.aload_n 0, 1) := by decide +kernel
theorem dX10_answerTrust_40 : decode cX10_answerTrust 40 = .ok (.getfield 10, 3) := by decide +kernel
theorem dX10_answerTrust_43 : decode cX10_answerTrust 43 = .ok (.aload_n 0, 1) := by decide +kernel
theorem dX10_answerTrust_44 : decode cX10_answerTrust 44 = .ok (.getfield 58, 3) := by decide +kernel
theorem dX10_answerTrust_47 : decode cX10_answerTrust 47 = .ok (.iload_n 3, 1) := by decide +kernel
theorem dX10_answerTrust_48 : decode cX10_answerTrust 48 = .ok (.invokevirtual 248, 3) := by decide +kernel
theorem dX10_answerTrust_51 : decode cX10_answerTrust 51 = .ok (.invokevirtual 273, 3) := by decide +kernel
theorem dX10_answerTrust_54 : decode cX10_answerTrust 54 = .ok (.invokestatic 276, 3) := by decide +kernel
theorem dX10_answerTrust_57 : decode cX10_answerTrust 57 = .ok (.istore_n 2, 1) := by decide +kernel
theorem dX10_answerTrust_58 : decode cX10_answerTrust 58 = .ok (.iinc 3 1, 3) := by decide +kernel
theorem dX10_answerTrust_61 : decode cX10_answerTrust 61 = .ok (.goto (-34), 3) := by decide +kernel
theorem dX10_answerTrust_64 : decode cX10_answerTrust 64 = .ok (.iload_n 2, 1) := by decide +kernel
theorem dX10_answerTrust_65 : decode cX10_answerTrust 65 = .ok (.ireturn, 1) := by decide +kernel
theorem dX10_confidence_0 : decode cX10_confidence 0 = .ok (.aload_n 0, 1) := by decide +kernel
theorem dX10_confidence_1 : decode cX10_confidence 1 = .ok (.iload_n 1, 1) := by decide +kernel
theorem dX10_confidence_2 : decode cX10_confidence 2 = .ok (.invokevirtual 260, 3) := by decide +kernel
theorem dX10_confidence_5 : decode cX10_confidence 5 = .ok (.ifCond .ne 7, 3) := by decide +kernel
theorem dX10_confidence_8 : decode cX10_confidence 8 = .ok (.ldc_w 281, 3) := by decide +kernel
theorem dX10_confidence_11 : decode cX10_confidence 11 = .ok (.freturn, 1) := by decide +kernel
theorem dX10_confidence_12 : decode cX10_confidence 12 = .ok (.fconst 0, 1) := by decide +kernel
theorem dX10_confidence_13 : decode cX10_confidence 13 = .ok (.fstore_n 2, 1) := by decide +kernel
theorem dX10_confidence_14 : decode cX10_confidence 14 = .ok (.iconst 0, 1) := by decide +kernel
theorem dX10_confidence_15 : decode cX10_confidence 15 = .ok (.istore_n 3, 1) := by decide +kernel
theorem dX10_confidence_16 : decode cX10_confidence 16 = .ok (.iload_n 3, 1) := by decide +kernel
theorem dX10_confidence_17 : decode cX10_confidence 17 = .ok (.aload_n 0, 1) := by decide +kernel
theorem dX10_confidence_18 : decode cX10_confidence 18 = .ok (.getfield 58, 3) := by decide +kernel
theorem dX10_confidence_21 : decode cX10_confidence 21 = .ok (.invokevirtual 236, 3) := by decide +kernel
theorem dX10_confidence_24 : decode cX10_confidence 24 = .ok (.if_icmp .ge 40, 3) := by decide +kernel
theorem dX10_confidence_27 : decode cX10_confidence 27 = .ok (.aload_n 0, 1) := by decide +kernel
theorem dX10_confidence_28 : decode cX10_confidence 28 = .ok (.getfield 10, 3) := by decide +kernel
theorem dX10_confidence_31 : decode cX10_confidence 31 = .ok (.aload_n 0, 1) := by decide +kernel
theorem dX10_confidence_32 : decode cX10_confidence 32 = .ok (.getfield 58, 3) := by decide +kernel
theorem dX10_confidence_35 : decode cX10_confidence 35 = .ok (.iload_n 3, 1) := by decide +kernel
theorem dX10_confidence_36 : decode cX10_confidence 36 = .ok (.invokevirtual 248, 3) := by decide +kernel
theorem dX10_confidence_39 : decode cX10_confidence 39 = .ok (.invokevirtual 282, 3) := by decide +kernel
theorem dX10_confidence_42 : decode cX10_confidence 42 = .ok (.fstore 4, 2) := by decide +kernel
theorem dX10_confidence_44 : decode cX10_confidence 44 = .ok (.fload 4, 2) := by decide +kernel
theorem dX10_confidence_46 : decode cX10_confidence 46 = .ok (.fload_n 2, 1) := by decide +kernel
theorem dX10_confidence_47 : decode cX10_confidence 47 = .ok (.fcmp .l, 1) := by decide +kernel
theorem dX10_confidence_48 : decode cX10_confidence 48 = .ok (.ifCond .le 8, 3) := by decide +kernel
theorem dX10_confidence_51 : decode cX10_confidence 51 = .ok (.fload 4, 2) := by decide +kernel
theorem dX10_confidence_53 : decode cX10_confidence 53 = .ok (.goto 4, 3) := by decide +kernel
theorem dX10_confidence_56 : decode cX10_confidence 56 = .ok (.fload_n 2, 1) := by decide +kernel
theorem dX10_confidence_57 : decode cX10_confidence 57 = .ok (.fstore_n 2, 1) := by decide +kernel
theorem dX10_confidence_58 : decode cX10_confidence 58 = .ok (.iinc 3 1, 3) := by decide +kernel
theorem dX10_confidence_61 : decode cX10_confidence 61 = .ok (.goto (-45), 3) := by decide +kernel
theorem dX10_confidence_64 : decode cX10_confidence 64 = .ok (.fload_n 2, 1) := by decide +kernel
theorem dX10_confidence_65 : decode cX10_confidence 65 = .ok (.freturn, 1) := by decide +kernel
theorem dX10_needed_0 : decode cX10_needed 0 = .ok (.aload_n 0, 1) := by decide +kernel
theorem dX10_needed_1 : decode cX10_needed 1 = .ok (.iload_n 1, 1) := by decide +kernel
theorem dX10_needed_2 : decode cX10_needed 2 = .ok (.invokevirtual 260, 3) := by decide +kernel
theorem dX10_needed_5 : decode cX10_needed 5 = .ok (.ifCond .ne 5, 3) := by decide +kernel
theorem dX10_needed_8 : decode cX10_needed 8 = .ok (.iconst (-1), 1) := by decide +kernel
theorem dX10_needed_9 : decode cX10_needed 9 = .ok (.ireturn, 1) := by decide +kernel
theorem dX10_needed_10 : decode cX10_needed 10 = .ok (.aload_n 0, 1) := by decide +kernel
theorem dX10_needed_11 : decode cX10_needed 11 = .ok (.getfield 58, 3) := by decide +kernel
theorem dX10_needed_14 : decode cX10_needed 14 = .ok (.invokevirtual 236, 3) := by decide +kernel
theorem dX10_needed_17 : decode cX10_needed 17 = .ok (.ifCond .ne 6, 3) := by decide +kernel
theorem dX10_needed_20 : decode cX10_needed 20 = .ok (.bipush (-6), 2) := by decide +kernel
theorem dX10_needed_22 : decode cX10_needed 22 = .ok (.ireturn, 1) := by decide +kernel
theorem dX10_needed_23 : decode cX10_needed 23 = .ok (.aload_n 0, 1) := by decide +kernel
theorem dX10_needed_24 : decode cX10_needed 24 = .ok (.getfield 10, 3) := by decide +kernel
theorem dX10_needed_27 : decode cX10_needed 27 = .ok (.invokevirtual 128, 3) := by decide +kernel
theorem dX10_needed_30 : decode cX10_needed 30 = .ok (.istore_n 2, 1) := by decide +kernel
theorem dX10_needed_31 : decode cX10_needed 31 = .ok (.iconst 0, 1) := by decide +kernel
theorem dX10_needed_32 : decode cX10_needed 32 = .ok (.istore_n 3, 1) := by decide +kernel
theorem dX10_needed_33 : decode cX10_needed 33 = .ok (.iload_n 3, 1) := by decide +kernel
theorem dX10_needed_34 : decode cX10_needed 34 = .ok (.aload_n 0, 1) := by decide +kernel
theorem dX10_needed_35 : decode cX10_needed 35 = .ok (.getfield 58, 3) := by decide +kernel
theorem dX10_needed_38 : decode cX10_needed 38 = .ok (.invokevirtual 236, 3) := by decide +kernel
theorem dX10_needed_41 : decode cX10_needed 41 = .ok (.if_icmp .ge 23, 3) := by decide +kernel
theorem dX10_needed_44 : decode cX10_needed 44 = .ok (.iload_n 2, 1) := by decide +kernel
theorem dX10_needed_45 : decode cX10_needed 45 = .ok (.aload_n 0, 1) := by decide +kernel
theorem dX10_needed_46 : decode cX10_needed 46 = .ok (.getfield 58, 3) := by decide +kernel
theorem dX10_needed_49 : decode cX10_needed 49 = .ok (.iload_n 3, 1) := by decide +kernel
theorem dX10_needed_50 : decode cX10_needed 50 = .ok (.invokevirtual 248, 3) := by decide +kernel
theorem dX10_needed_53 : decode cX10_needed 53 = .ok (.invokestatic 270, 3) := by decide +kernel
theorem dX10_needed_56 : decode cX10_needed 56 = .ok (.iand, 1) := by decide +kernel
theorem dX10_needed_57 : decode cX10_needed 57 = .ok (.istore_n 2, 1) := by decide +kernel
theorem dX10_needed_58 : decode cX10_needed 58 = .ok (.iinc 3 1, 3) := by decide +kernel
theorem dX10_needed_61 : decode cX10_needed 61 = .ok (.goto (-28), 3) := by decide +kernel
theorem dX10_needed_64 : decode cX10_needed 64 = .ok (.iload_n 2, 1) := by decide +kernel
theorem dX10_needed_65 : decode cX10_needed 65 = .ok (.ireturn, 1) := by decide +kernel
theorem dX10_worlds_0 : decode cX10_worlds 0 = .ok (.aload_n 0, 1) := by decide +kernel
theorem dX10_worlds_1 : decode cX10_worlds 1 = .ok (.getfield 51, 3) := by decide +kernel
theorem dX10_worlds_4 : decode cX10_worlds 4 = .ok (.invokevirtual 209, 3) := by decide +kernel
theorem dX10_worlds_7 : decode cX10_worlds 7 = .ok (.iload_n 1, 1) := by decide +kernel
theorem dX10_worlds_8 : decode cX10_worlds 8 = .ok (.invokevirtual 225, 3) := by decide +kernel
theorem dX10_worlds_11 : decode cX10_worlds 11 = .ok (.astore_n 2, 1) := by decide +kernel
theorem dX10_worlds_12 : decode cX10_worlds 12 = .ok (.aload_n 2, 1) := by decide +kernel
theorem dX10_worlds_13 : decode cX10_worlds 13 = .ok (.ifnonnull 5, 3) := by decide +kernel
theorem dX10_worlds_16 : decode cX10_worlds 16 = .ok (.iconst (-1), 1) := by decide +kernel
theorem dX10_worlds_17 : decode cX10_worlds 17 = .ok (.ireturn, 1) := by decide +kernel
theorem dX10_worlds_18 : decode cX10_worlds 18 = .ok (.aload_n 0, 1) := by decide +kernel
theorem dX10_worlds_19 : decode cX10_worlds 19 = .ok (.getfield 65, 3) := by decide +kernel
theorem dX10_worlds_22 : decode cX10_worlds 22 = .ok (.aload_n 2, 1) := by decide +kernel
theorem dX10_worlds_23 : decode cX10_worlds 23 = .ok (.invokevirtual 286, 3) := by decide +kernel
theorem dX10_worlds_26 : decode cX10_worlds 26 = .ok (.aload_n 0, 1) := by decide +kernel
theorem dX10_worlds_27 : decode cX10_worlds 27 = .ok (.getfield 65, 3) := by decide +kernel
theorem dX10_worlds_30 : decode cX10_worlds 30 = .ok (.invokevirtual 293, 3) := by decide +kernel
theorem dX10_worlds_33 : decode cX10_worlds 33 = .ok (.ireturn, 1) := by decide +kernel
theorem dX10_lostIf_0 : decode cX10_lostIf 0 = .ok (.iload_n 1, 1) := by decide +kernel
theorem dX10_lostIf_1 : decode cX10_lostIf 1 = .ok (.ifCond .lt 17, 3) := by decide +kernel
theorem dX10_lostIf_4 : decode cX10_lostIf 4 = .ok (.iload_n 1, 1) := by decide +kernel
theorem dX10_lostIf_5 : decode cX10_lostIf 5 = .ok (.aload_n 0, 1) := by decide +kernel
theorem dX10_lostIf_6 : decode cX10_lostIf 6 = .ok (.getfield 10, 3) := by decide +kernel
theorem dX10_lostIf_9 : decode cX10_lostIf 9 = .ok (.invokevirtual 128, 3) := by decide +kernel
theorem dX10_lostIf_12 : decode cX10_lostIf 12 = .ok (.iconst (-1), 1) := by decide +kernel
theorem dX10_lostIf_13 : decode cX10_lostIf 13 = .ok (.ixor, 1) := by decide +kernel
theorem dX10_lostIf_14 : decode cX10_lostIf 14 = .ok (.iand, 1) := by decide +kernel
theorem dX10_lostIf_15 : decode cX10_lostIf 15 = .ok (.ifCond .eq 6, 3) := by decide +kernel
theorem dX10_lostIf_18 : decode cX10_lostIf 18 = .ok (.bipush (-2), 2) := by decide +kernel
theorem dX10_lostIf_20 : decode cX10_lostIf 20 = .ok (.ireturn, 1) := by decide +kernel
theorem dX10_lostIf_21 : decode cX10_lostIf 21 = .ok (.aload_n 0, 1) := by decide +kernel
theorem dX10_lostIf_22 : decode cX10_lostIf 22 = .ok (.getfield 51, 3) := by decide +kernel
theorem dX10_lostIf_25 : decode cX10_lostIf 25 = .ok (.invokevirtual 209, 3) := by decide +kernel
theorem dX10_lostIf_28 : decode cX10_lostIf 28 = .ok (.astore_n 2, 1) := by decide +kernel
theorem dX10_lostIf_29 : decode cX10_lostIf 29 = .ok (.aload_n 0, 1) := by decide +kernel
theorem dX10_lostIf_30 : decode cX10_lostIf 30 = .ok (.getfield 10, 3) := by decide +kernel
theorem dX10_lostIf_33 : decode cX10_lostIf 33 = .ok (.invokevirtual 193, 3) := by decide +kernel
theorem dX10_lostIf_36 : decode cX10_lostIf 36 = .ok (.istore_n 3, 1) := by decide +kernel
theorem dX10_lostIf_37 : decode cX10_lostIf 37 = .ok (.aload_n 2, 1) := by decide +kernel
theorem dX10_lostIf_38 : decode cX10_lostIf 38 = .ok (.iload_n 3, 1) := by decide +kernel
theorem dX10_lostIf_39 : decode cX10_lostIf 39 = .ok (.invokevirtual 296, 3) := by decide +kernel
theorem dX10_lostIf_42 : decode cX10_lostIf 42 = .ok (.aload_n 2, 1) := by decide +kernel
theorem dX10_lostIf_43 : decode cX10_lostIf 43 = .ok (.iload_n 3, 1) := by decide +kernel
theorem dX10_lostIf_44 : decode cX10_lostIf 44 = .ok (.iload_n 1, 1) := by decide +kernel
theorem dX10_lostIf_45 : decode cX10_lostIf 45 = .ok (.ior, 1) := by decide +kernel
theorem dX10_lostIf_46 : decode cX10_lostIf 46 = .ok (.invokevirtual 296, 3) := by decide +kernel
theorem dX10_lostIf_49 : decode cX10_lostIf 49 = .ok (.isub, 1) := by decide +kernel
theorem dX10_lostIf_50 : decode cX10_lostIf 50 = .ok (.ireturn, 1) := by decide +kernel
theorem dX10_isTable_0 : decode cX10_isTable 0 = .ok (.iload_n 0, 1) := by decide +kernel
theorem dX10_isTable_1 : decode cX10_isTable 1 = .ok (.ifCond .lt 12, 3) := by decide +kernel
theorem dX10_isTable_4 : decode cX10_isTable 4 = .ok (.iload_n 0, 1) := by decide +kernel
theorem dX10_isTable_5 : decode cX10_isTable 5 = .ok (.iconst 4, 1) := by decide +kernel
theorem dX10_isTable_6 : decode cX10_isTable 6 = .ok (.if_icmp .ge 7, 3) := by decide +kernel
theorem dX10_isTable_9 : decode cX10_isTable 9 = .ok (.iconst 1, 1) := by decide +kernel
theorem dX10_isTable_10 : decode cX10_isTable 10 = .ok (.goto 4, 3) := by decide +kernel
theorem dX10_isTable_13 : decode cX10_isTable 13 = .ok (.iconst 0, 1) := by decide +kernel
theorem dX10_isTable_14 : decode cX10_isTable 14 = .ok (.ireturn, 1) := by decide +kernel
theorem dX10_isForm_0 : decode cX10_isForm 0 = .ok (.iload_n 0, 1) := by decide +kernel
theorem dX10_isForm_1 : decode cX10_isForm 1 = .ok (.ifCond .lt 12, 3) := by decide +kernel
theorem dX10_isForm_4 : decode cX10_isForm 4 = .ok (.iload_n 0, 1) := by decide +kernel
theorem dX10_isForm_5 : decode cX10_isForm 5 = .ok (.iconst 5, 1) := by decide +kernel
theorem dX10_isForm_6 : decode cX10_isForm 6 = .ok (.if_icmp .ge 7, 3) := by decide +kernel
theorem dX10_isForm_9 : decode cX10_isForm 9 = .ok (.iconst 1, 1) := by decide +kernel
theorem dX10_isForm_10 : decode cX10_isForm 10 = .ok (.goto 4, 3) := by decide +kernel
theorem dX10_isForm_13 : decode cX10_isForm 13 = .ok (.iconst 0, 1) := by decide +kernel
theorem dX10_isForm_14 : decode cX10_isForm 14 = .ok (.ireturn, 1) := by decide +kernel
theorem dX10_refreshAnswer_0 : decode cX10_refreshAnswer 0 = .ok (.aload_n 0, 1) := by decide +kernel
theorem dX10_refreshAnswer_1 : decode cX10_refreshAnswer 1 = .ok (.getfield 51, 3) := by decide +kernel
theorem dX10_refreshAnswer_4 : decode cX10_refreshAnswer 4 = .ok (.aload_n 0, 1) := by decide +kernel
theorem dX10_refreshAnswer_5 : decode cX10_refreshAnswer 5 = .ok (.getfield 45, 3) := by decide +kernel
theorem dX10_refreshAnswer_8 : decode cX10_refreshAnswer 8 = .ok (.aload_n 0, 1) := by decide +kernel
theorem dX10_refreshAnswer_9 : decode cX10_refreshAnswer 9 = .ok (.getfield 10, 3) := by decide +kernel
theorem dX10_refreshAnswer_12 : decode cX10_refreshAnswer 12 = .ok (.invokevirtual 112, 3) := by decide +kernel
theorem dX10_refreshAnswer_15 : decode cX10_refreshAnswer 15 = .ok (.ifCond .eq 10, 3) := by decide +kernel
theorem dX10_refreshAnswer_18 : decode cX10_refreshAnswer 18 = .ok (.aload_n 0, 1) := by decide +kernel
theorem dX10_refreshAnswer_19 : decode cX10_refreshAnswer 19 = .ok (.getfield 51, 3) := by decide +kernel
theorem dX10_refreshAnswer_22 : decode cX10_refreshAnswer 22 = .ok (.invokevirtual 116, 3) := by decide +kernel
theorem dX10_refreshAnswer_25 : decode cX10_refreshAnswer 25 = .ok (.return_, 1) := by decide +kernel
theorem dX10_presentRows_0 : decode cX10_presentRows 0 = .ok (.aload_n 0, 1) := by decide +kernel
theorem dX10_presentRows_1 : decode cX10_presentRows 1 = .ok (.getfield 51, 3) := by decide +kernel
theorem dX10_presentRows_4 : decode cX10_presentRows 4 = .ok (.invokevirtual 209, 3) := by decide +kernel
theorem dX10_presentRows_7 : decode cX10_presentRows 7 = .ok (.aload_n 0, 1) := by decide +kernel
theorem dX10_presentRows_8 : decode cX10_presentRows 8 = .ok (.getfield 10, 3) := by decide +kernel
theorem dX10_presentRows_11 : decode cX10_presentRows 11 = .ok (.invokevirtual 193, 3) := by decide +kernel
theorem dX10_presentRows_14 : decode cX10_presentRows 14 = .ok (.invokevirtual 296, 3) := by decide +kernel
theorem dX10_presentRows_17 : decode cX10_presentRows 17 = .ok (.ireturn, 1) := by decide +kernel
theorem dX10_showAvailable_0 : decode cX10_showAvailable 0 = .ok (.aload_n 0, 1) := by decide +kernel
theorem dX10_showAvailable_1 : decode cX10_showAvailable 1 = .ok (.getfield 51, 3) := by decide +kernel
theorem dX10_showAvailable_4 : decode cX10_showAvailable 4 = .ok (.invokevirtual 209, 3) := by decide +kernel
theorem dX10_showAvailable_7 : decode cX10_showAvailable 7 = .ok (.iload_n 1, 1) := by decide +kernel
theorem dX10_showAvailable_8 : decode cX10_showAvailable 8 = .ok (.invokevirtual 225, 3) := by decide +kernel
theorem dX10_showAvailable_11 : decode cX10_showAvailable 11 = .ok (.astore_n 2, 1) := by decide +kernel
theorem dX10_showAvailable_12 : decode cX10_showAvailable 12 = .ok (.aload_n 2, 1) := by decide +kernel
theorem dX10_showAvailable_13 : decode cX10_showAvailable 13 = .ok (.ifnonnull 5, 3) := by decide +kernel
theorem dX10_showAvailable_16 : decode cX10_showAvailable 16 = .ok (.iconst 0, 1) := by decide +kernel
theorem dX10_showAvailable_17 : decode cX10_showAvailable 17 = .ok (.ireturn, 1) := by decide +kernel
theorem dX10_showAvailable_18 : decode cX10_showAvailable 18 = .ok (.aload_n 0, 1) := by decide +kernel
theorem dX10_showAvailable_19 : decode cX10_showAvailable 19 = .ok (.getfield 58, 3) := by decide +kernel
theorem dX10_showAvailable_22 : decode cX10_showAvailable 22 = .ok (.aload_n 2, 1) := by decide +kernel
theorem dX10_showAvailable_23 : decode cX10_showAvailable 23 = .ok (.aload_n 0, 1) := by decide +kernel
theorem dX10_showAvailable_24 : decode cX10_showAvailable 24 = .ok (.getfield 10, 3) := by decide +kernel
theorem dX10_showAvailable_27 : decode cX10_showAvailable 27 = .ok (.invokevirtual 193, 3) := by decide +kernel
theorem dX10_showAvailable_30 : decode cX10_showAvailable 30 = .ok (.invokevirtual 303, 3) := by decide +kernel
theorem dX10_showAvailable_33 : decode cX10_showAvailable 33 = .ok (.iconst 1, 1) := by decide +kernel
theorem dX10_showAvailable_34 : decode cX10_showAvailable 34 = .ok (.ireturn, 1) := by decide +kernel
theorem dX10_cheapestShown_0 : decode cX10_cheapestShown 0 = .ok (.iconst 0, 1) := by decide +kernel
theorem dX10_cheapestShown_1 : decode cX10_cheapestShown 1 = .ok (.istore_n 1, 1) := by decide +kernel
theorem dX10_cheapestShown_2 : decode cX10_cheapestShown 2 = .ok (.aload_n 0, 1) := by decide +kernel
theorem dX10_cheapestShown_3 : decode cX10_cheapestShown 3 = .ok (.getfield 10, 3) := by decide +kernel
theorem dX10_cheapestShown_6 : decode cX10_cheapestShown 6 = .ok (.aload_n 0, 1) := by decide +kernel
theorem dX10_cheapestShown_7 : decode cX10_cheapestShown 7 = .ok (.getfield 58, 3) := by decide +kernel
theorem dX10_cheapestShown_10 : decode cX10_cheapestShown 10 = .ok (.iconst 0, 1) := by decide +kernel
theorem dX10_cheapestShown_11 : decode cX10_cheapestShown 11 = .ok (.invokevirtual 248, 3) := by decide +kernel
theorem dX10_cheapestShown_14 : decode cX10_cheapestShown 14 = .ok (.invokevirtual 266, 3) := by decide +kernel
theorem dX10_cheapestShown_17 : decode cX10_cheapestShown 17 = .ok (.istore_n 2, 1) := by decide +kernel
theorem dX10_cheapestShown_18 : decode cX10_cheapestShown 18 = .ok (.iconst 1, 1) := by decide +kernel
theorem dX10_cheapestShown_19 : decode cX10_cheapestShown 19 = .ok (.istore_n 3, 1) := by decide +kernel
theorem dX10_cheapestShown_20 : decode cX10_cheapestShown 20 = .ok (.iload_n 3, 1) := by decide +kernel
theorem dX10_cheapestShown_21 : decode cX10_cheapestShown 21 = .ok (.aload_n 0, 1) := by decide +kernel
theorem dX10_cheapestShown_22 : decode cX10_cheapestShown 22 = .ok (.getfield 58, 3) := by decide +kernel
theorem dX10_cheapestShown_25 : decode cX10_cheapestShown 25 = .ok (.invokevirtual 236, 3) := by decide +kernel
theorem dX10_cheapestShown_28 : decode cX10_cheapestShown 28 = .ok (.if_icmp .ge 37, 3) := by decide +kernel
theorem dX10_cheapestShown_31 : decode cX10_cheapestShown 31 = .ok (.aload_n 0, 1) := by decide +kernel
theorem dX10_cheapestShown_32 : decode cX10_cheapestShown 32 = .ok (.getfield 10, 3) := by decide +kernel
theorem dX10_cheapestShown_35 : decode cX10_cheapestShown 35 = .ok (.aload_n 0, 1) := by decide +kernel
theorem dX10_cheapestShown_36 : decode cX10_cheapestShown 36 = .ok (.getfield 58, 3) := by decide +kernel
theorem dX10_cheapestShown_39 : decode cX10_cheapestShown 39 = .ok (.iload_n 3, 1) := by decide +kernel
theorem dX10_cheapestShown_40 : decode cX10_cheapestShown 40 = .ok (.invokevirtual 248, 3) := by decide +kernel
theorem dX10_cheapestShown_43 : decode cX10_cheapestShown 43 = .ok (.invokevirtual 266, 3) := by decide +kernel
theorem dX10_cheapestShown_46 : decode cX10_cheapestShown 46 = .ok (.istore 4, 2) := by decide +kernel
theorem dX10_cheapestShown_48 : decode cX10_cheapestShown 48 = .ok (.iload 4, 2) := by decide +kernel
theorem dX10_cheapestShown_50 : decode cX10_cheapestShown 50 = .ok (.iload_n 2, 1) := by decide +kernel
theorem dX10_cheapestShown_51 : decode cX10_cheapestShown 51 = .ok (.if_icmp .ge 8, 3) := by decide +kernel
theorem dX10_cheapestShown_54 : decode cX10_cheapestShown 54 = .ok (.iload_n 3, 1) := by decide +kernel
theorem dX10_cheapestShown_55 : decode cX10_cheapestShown 55 = .ok (.istore_n 1, 1) := by decide +kernel
theorem dX10_cheapestShown_56 : decode cX10_cheapestShown 56 = .ok (.iload 4, 2) := by decide +kernel
theorem dX10_cheapestShown_58 : decode cX10_cheapestShown 58 = .ok (.istore_n 2, 1) := by decide +kernel
theorem dX10_cheapestShown_59 : decode cX10_cheapestShown 59 = .ok (.iinc 3 1, 3) := by decide +kernel
theorem dX10_cheapestShown_62 : decode cX10_cheapestShown 62 = .ok (.goto (-42), 3) := by decide +kernel
theorem dX10_cheapestShown_65 : decode cX10_cheapestShown 65 = .ok (.iload_n 1, 1) := by decide +kernel
theorem dX10_cheapestShown_66 : decode cX10_cheapestShown 66 = .ok (.ireturn, 1) := by decide +kernel
theorem dJ6_bitCount_0f7a4_0 : decode cJ6_bitCount_0f7a4 0 = .ok (.iload_n 0, 1) := by decide +kernel
theorem dJ6_bitCount_0f7a4_1 : decode cJ6_bitCount_0f7a4 1 = .ok (.iload_n 0, 1) := by decide +kernel
theorem dJ6_bitCount_0f7a4_2 : decode cJ6_bitCount_0f7a4 2 = .ok (.iconst 1, 1) := by decide +kernel
theorem dJ6_bitCount_0f7a4_3 : decode cJ6_bitCount_0f7a4 3 = .ok (.iushr, 1) := by decide +kernel
theorem dJ6_bitCount_0f7a4_4 : decode cJ6_bitCount_0f7a4 4 = .ok (.ldc_w 265, 3) := by decide +kernel
theorem dJ6_bitCount_0f7a4_7 : decode cJ6_bitCount_0f7a4 7 = .ok (.iand, 1) := by decide +kernel
theorem dJ6_bitCount_0f7a4_8 : decode cJ6_bitCount_0f7a4 8 = .ok (.isub, 1) := by decide +kernel
theorem dJ6_bitCount_0f7a4_9 : decode cJ6_bitCount_0f7a4 9 = .ok (.istore_n 0, 1) := by decide +kernel
theorem dJ6_bitCount_0f7a4_10 : decode cJ6_bitCount_0f7a4 10 = .ok (.iload_n 0, 1) := by decide +kernel
theorem dJ6_bitCount_0f7a4_11 : decode cJ6_bitCount_0f7a4 11 = .ok (.ldc_w 266, 3) := by decide +kernel
theorem dJ6_bitCount_0f7a4_14 : decode cJ6_bitCount_0f7a4 14 = .ok (.iand, 1) := by decide +kernel
theorem dJ6_bitCount_0f7a4_15 : decode cJ6_bitCount_0f7a4 15 = .ok (.iload_n 0, 1) := by decide +kernel
theorem dJ6_bitCount_0f7a4_16 : decode cJ6_bitCount_0f7a4 16 = .ok (.iconst 2, 1) := by decide +kernel
theorem dJ6_bitCount_0f7a4_17 : decode cJ6_bitCount_0f7a4 17 = .ok (.iushr, 1) := by decide +kernel
theorem dJ6_bitCount_0f7a4_18 : decode cJ6_bitCount_0f7a4 18 = .ok (.ldc_w 266, 3) := by decide +kernel
theorem dJ6_bitCount_0f7a4_21 : decode cJ6_bitCount_0f7a4 21 = .ok (.iand, 1) := by decide +kernel
theorem dJ6_bitCount_0f7a4_22 : decode cJ6_bitCount_0f7a4 22 = .ok (.iadd, 1) := by decide +kernel
theorem dJ6_bitCount_0f7a4_23 : decode cJ6_bitCount_0f7a4 23 = .ok (.istore_n 0, 1) := by decide +kernel
theorem dJ6_bitCount_0f7a4_24 : decode cJ6_bitCount_0f7a4 24 = .ok (.iload_n 0, 1) := by decide +kernel
theorem dJ6_bitCount_0f7a4_25 : decode cJ6_bitCount_0f7a4 25 = .ok (.iload_n 0, 1) := by decide +kernel
theorem dJ6_bitCount_0f7a4_26 : decode cJ6_bitCount_0f7a4 26 = .ok (.iconst 4, 1) := by decide +kernel
theorem dJ6_bitCount_0f7a4_27 : decode cJ6_bitCount_0f7a4 27 = .ok (.iushr, 1) := by decide +kernel
theorem dJ6_bitCount_0f7a4_28 : decode cJ6_bitCount_0f7a4 28 = .ok (.iadd, 1) := by decide +kernel
theorem dJ6_bitCount_0f7a4_29 : decode cJ6_bitCount_0f7a4 29 = .ok (.ldc_w 267, 3) := by decide +kernel
theorem dJ6_bitCount_0f7a4_32 : decode cJ6_bitCount_0f7a4 32 = .ok (.iand, 1) := by decide +kernel
theorem dJ6_bitCount_0f7a4_33 : decode cJ6_bitCount_0f7a4 33 = .ok (.istore_n 0, 1) := by decide +kernel
theorem dJ6_bitCount_0f7a4_34 : decode cJ6_bitCount_0f7a4 34 = .ok (.iload_n 0, 1) := by decide +kernel
theorem dJ6_bitCount_0f7a4_35 : decode cJ6_bitCount_0f7a4 35 = .ok (.iload_n 0, 1) := by decide +kernel
theorem dJ6_bitCount_0f7a4_36 : decode cJ6_bitCount_0f7a4 36 = .ok (.bipush 8, 2) := by decide +kernel
theorem dJ6_bitCount_0f7a4_38 : decode cJ6_bitCount_0f7a4 38 = .ok (.iushr, 1) := by decide +kernel
theorem dJ6_bitCount_0f7a4_39 : decode cJ6_bitCount_0f7a4 39 = .ok (.iadd, 1) := by decide +kernel
theorem dJ6_bitCount_0f7a4_40 : decode cJ6_bitCount_0f7a4 40 = .ok (.istore_n 0, 1) := by decide +kernel
theorem dJ6_bitCount_0f7a4_41 : decode cJ6_bitCount_0f7a4 41 = .ok (.iload_n 0, 1) := by decide +kernel
theorem dJ6_bitCount_0f7a4_42 : decode cJ6_bitCount_0f7a4 42 = .ok (.iload_n 0, 1) := by decide +kernel
theorem dJ6_bitCount_0f7a4_43 : decode cJ6_bitCount_0f7a4 43 = .ok (.bipush 16, 2) := by decide +kernel
theorem dJ6_bitCount_0f7a4_45 : decode cJ6_bitCount_0f7a4 45 = .ok (.iushr, 1) := by decide +kernel
theorem dJ6_bitCount_0f7a4_46 : decode cJ6_bitCount_0f7a4 46 = .ok (.iadd, 1) := by decide +kernel
theorem dJ6_bitCount_0f7a4_47 : decode cJ6_bitCount_0f7a4 47 = .ok (.istore_n 0, 1) := by decide +kernel
theorem dJ6_bitCount_0f7a4_48 : decode cJ6_bitCount_0f7a4 48 = .ok (.iload_n 0, 1) := by decide +kernel
theorem dJ6_bitCount_0f7a4_49 : decode cJ6_bitCount_0f7a4 49 = .ok (.bipush 63, 2) := by decide +kernel
theorem dJ6_bitCount_0f7a4_51 : decode cJ6_bitCount_0f7a4 51 = .ok (.iand, 1) := by decide +kernel
theorem dJ6_bitCount_0f7a4_52 : decode cJ6_bitCount_0f7a4 52 = .ok (.ireturn, 1) := by decide +kernel
theorem dJ9_max_7cf53_0 : decode cJ9_max_7cf53 0 = .ok (.iload_n 0, 1) := by decide +kernel
theorem dJ9_max_7cf53_1 : decode cJ9_max_7cf53 1 = .ok (.iload_n 1, 1) := by decide +kernel
theorem dJ9_max_7cf53_2 : decode cJ9_max_7cf53 2 = .ok (.if_icmp .lt 7, 3) := by decide +kernel
theorem dJ9_max_7cf53_5 : decode cJ9_max_7cf53 5 = .ok (.iload_n 0, 1) := by decide +kernel
theorem dJ9_max_7cf53_6 : decode cJ9_max_7cf53 6 = .ok (.goto 4, 3) := by decide +kernel
theorem dJ9_max_7cf53_9 : decode cJ9_max_7cf53 9 = .ok (.iload_n 1, 1) := by decide +kernel
theorem dJ9_max_7cf53_10 : decode cJ9_max_7cf53 10 = .ok (.ireturn, 1) := by decide +kernel
theorem dJ9_min_7cf53_0 : decode cJ9_min_7cf53 0 = .ok (.iload_n 0, 1) := by decide +kernel
theorem dJ9_min_7cf53_1 : decode cJ9_min_7cf53 1 = .ok (.iload_n 1, 1) := by decide +kernel
theorem dJ9_min_7cf53_2 : decode cJ9_min_7cf53 2 = .ok (.if_icmp .gt 7, 3) := by decide +kernel
theorem dJ9_min_7cf53_5 : decode cJ9_min_7cf53 5 = .ok (.iload_n 0, 1) := by decide +kernel
theorem dJ9_min_7cf53_6 : decode cJ9_min_7cf53 6 = .ok (.goto 4, 3) := by decide +kernel
theorem dJ9_min_7cf53_9 : decode cJ9_min_7cf53 9 = .ok (.iload_n 1, 1) := by decide +kernel
theorem dJ9_min_7cf53_10 : decode cJ9_min_7cf53 10 = .ok (.ireturn, 1) := by decide +kernel
theorem dL_lot_0 : decode cL_lot 0 = .ok (.iload_n 1, 1) := by decide +kernel
theorem dL_lot_1 : decode cL_lot 1 = .ok (.aload_n 0, 1) := by decide +kernel
theorem dL_lot_2 : decode cL_lot 2 = .ok (.arraylength, 1) := by decide +kernel
theorem dL_lot_3 : decode cL_lot 3 = .ok (.if_icmp .ge 9, 3) := by decide +kernel
theorem dL_lot_6 : decode cL_lot 6 = .ok (.aload_n 0, 1) := by decide +kernel
theorem dL_lot_7 : decode cL_lot 7 = .ok (.iload_n 1, 1) := by decide +kernel
theorem dL_lot_8 : decode cL_lot 8 = .ok (.iaload, 1) := by decide +kernel
theorem dL_lot_9 : decode cL_lot 9 = .ok (.goto 15, 3) := by decide +kernel
theorem dL_lot_12 : decode cL_lot 12 = .ok (.ldc 7, 2) := by decide +kernel
theorem dL_lot_14 : decode cL_lot 14 = .ok (.iload_n 1, 1) := by decide +kernel
theorem dL_lot_15 : decode cL_lot 15 = .ok (.sipush 4243, 3) := by decide +kernel
theorem dL_lot_18 : decode cL_lot 18 = .ok (.iadd, 1) := by decide +kernel
theorem dL_lot_19 : decode cL_lot 19 = .ok (.imul, 1) := by decide +kernel
theorem dL_lot_20 : decode cL_lot 20 = .ok (.sipush 4013, 3) := by decide +kernel
theorem dL_lot_23 : decode cL_lot 23 = .ok (.iadd, 1) := by decide +kernel
theorem dL_lot_24 : decode cL_lot 24 = .ok (.ireturn, 1) := by decide +kernel
theorem dL_low_0 : decode cL_low 0 = .ok (.iload_n 0, 1) := by decide +kernel
theorem dL_low_1 : decode cL_low 1 = .ok (.ldc 8, 2) := by decide +kernel
theorem dL_low_3 : decode cL_low 3 = .ok (.iand, 1) := by decide +kernel
theorem dL_low_4 : decode cL_low 4 = .ok (.iload_n 1, 1) := by decide +kernel
theorem dL_low_5 : decode cL_low 5 = .ok (.irem, 1) := by decide +kernel
theorem dL_low_6 : decode cL_low 6 = .ok (.ireturn, 1) := by decide +kernel
theorem dL_look_0 : decode cL_look 0 = .ok (.ldc2_w 9, 3) := by decide +kernel
theorem dL_look_3 : decode cL_look 3 = .ok (.lstore_n 1, 1) := by decide +kernel
theorem dL_look_4 : decode cL_look 4 = .ok (.iconst 0, 1) := by decide +kernel
theorem dL_look_5 : decode cL_look 5 = .ok (.istore_n 3, 1) := by decide +kernel
theorem dL_look_6 : decode cL_look 6 = .ok (.iload_n 3, 1) := by decide +kernel
theorem dL_look_7 : decode cL_look 7 = .ok (.iconst 4, 1) := by decide +kernel
theorem dL_look_8 : decode cL_look 8 = .ok (.if_icmp .ge 22, 3) := by decide +kernel
theorem dL_look_11 : decode cL_look 11 = .ok (.ldc2_w 11, 3) := by decide +kernel
theorem dL_look_14 : decode cL_look 14 = .ok (.lload_n 1, 1) := by decide +kernel
theorem dL_look_15 : decode cL_look 15 = .ok (.lmul, 1) := by decide +kernel
theorem dL_look_16 : decode cL_look 16 = .ok (.aload_n 0, 1) := by decide +kernel
theorem dL_look_17 : decode cL_look 17 = .ok (.iload_n 3, 1) := by decide +kernel
theorem dL_look_18 : decode cL_look 18 = .ok (.invokevirtual 13, 3) := by decide +kernel
theorem dL_look_21 : decode cL_look 21 = .ok (.i2l, 1) := by decide +kernel
theorem dL_look_22 : decode cL_look 22 = .ok (.ladd, 1) := by decide +kernel
theorem dL_look_23 : decode cL_look 23 = .ok (.lstore_n 1, 1) := by decide +kernel
theorem dL_look_24 : decode cL_look 24 = .ok (.iinc 3 1, 3) := by decide +kernel
theorem dL_look_27 : decode cL_look 27 = .ok (.goto (-21), 3) := by decide +kernel
theorem dL_look_30 : decode cL_look 30 = .ok (.iconst 0, 1) := by decide +kernel
theorem dL_look_31 : decode cL_look 31 = .ok (.istore_n 3, 1) := by decide +kernel
theorem dL_look_32 : decode cL_look 32 = .ok (.iload_n 3, 1) := by decide +kernel
theorem dL_look_33 : decode cL_look 33 = .ok (.bipush 16, 2) := by decide +kernel
theorem dL_look_35 : decode cL_look 35 = .ok (.if_icmp .ge 74, 3) := by decide +kernel
theorem dL_look_38 : decode cL_look 38 = .ok (.ldc2_w 11, 3) := by decide +kernel
theorem dL_look_41 : decode cL_look 41 = .ok (.ldc2_w 11, 3) := by decide +kernel
theorem dL_look_44 : decode cL_look 44 = .ok (.ldc2_w 11, 3) := by decide +kernel
theorem dL_look_47 : decode cL_look 47 = .ok (.lload_n 1, 1) := by decide +kernel
theorem dL_look_48 : decode cL_look 48 = .ok (.lmul, 1) := by decide +kernel
theorem dL_look_49 : decode cL_look 49 = .ok (.aload_n 0, 1) := by decide +kernel
theorem dL_look_50 : decode cL_look 50 = .ok (.iload_n 3, 1) := by decide +kernel
theorem dL_look_51 : decode cL_look 51 = .ok (.invokevirtual 19, 3) := by decide +kernel
theorem dL_look_54 : decode cL_look 54 = .ok (.i2l, 1) := by decide +kernel
theorem dL_look_55 : decode cL_look 55 = .ok (.ladd, 1) := by decide +kernel
theorem dL_look_56 : decode cL_look 56 = .ok (.lmul, 1) := by decide +kernel
theorem dL_look_57 : decode cL_look 57 = .ok (.aload_n 0, 1) := by decide +kernel
theorem dL_look_58 : decode cL_look 58 = .ok (.iload_n 3, 1) := by decide +kernel
theorem dL_look_59 : decode cL_look 59 = .ok (.invokevirtual 22, 3) := by decide +kernel
theorem dL_look_62 : decode cL_look 62 = .ok (.i2l, 1) := by decide +kernel
theorem dL_look_63 : decode cL_look 63 = .ok (.ladd, 1) := by decide +kernel
theorem dL_look_64 : decode cL_look 64 = .ok (.lmul, 1) := by decide +kernel
theorem dL_look_65 : decode cL_look 65 = .ok (.aload_n 0, 1) := by decide +kernel
theorem dL_look_66 : decode cL_look 66 = .ok (.iload_n 3, 1) := by decide +kernel
theorem dL_look_67 : decode cL_look 67 = .ok (.invokevirtual 25, 3) := by decide +kernel
theorem dL_look_70 : decode cL_look 70 = .ok (.i2l, 1) := by decide +kernel
theorem dL_look_71 : decode cL_look 71 = .ok (.ladd, 1) := by decide +kernel
theorem dL_look_72 : decode cL_look 72 = .ok (.lstore_n 1, 1) := by decide +kernel
theorem dL_look_73 : decode cL_look 73 = .ok (.iconst 0, 1) := by decide +kernel
theorem dL_look_74 : decode cL_look 74 = .ok (.istore 4, 2) := by decide +kernel
theorem dL_look_76 : decode cL_look 76 = .ok (.iload 4, 2) := by decide +kernel
theorem dL_look_78 : decode cL_look 78 = .ok (.iconst 3, 1) := by decide +kernel
theorem dL_look_79 : decode cL_look 79 = .ok (.if_icmp .ge 24, 3) := by decide +kernel
theorem dL_look_82 : decode cL_look 82 = .ok (.ldc2_w 11, 3) := by decide +kernel
theorem dL_look_85 : decode cL_look 85 = .ok (.lload_n 1, 1) := by decide +kernel
theorem dL_look_86 : decode cL_look 86 = .ok (.lmul, 1) := by decide +kernel
theorem dL_look_87 : decode cL_look 87 = .ok (.aload_n 0, 1) := by decide +kernel
theorem dL_look_88 : decode cL_look 88 = .ok (.iload_n 3, 1) := by decide +kernel
theorem dL_look_89 : decode cL_look 89 = .ok (.iload 4, 2) := by decide +kernel
theorem dL_look_91 : decode cL_look 91 = .ok (.invokevirtual 28, 3) := by decide +kernel
theorem dL_look_94 : decode cL_look 94 = .ok (.i2l, 1) := by decide +kernel
theorem dL_look_95 : decode cL_look 95 = .ok (.ladd, 1) := by decide +kernel
theorem dL_look_96 : decode cL_look 96 = .ok (.lstore_n 1, 1) := by decide +kernel
theorem dL_look_97 : decode cL_look 97 = .ok (.iinc 4 1, 3) := by decide +kernel
theorem dL_look_100 : decode cL_look 100 = .ok (.goto (-24), 3) := by decide +kernel
theorem dL_look_103 : decode cL_look 103 = .ok (.iinc 3 1, 3) := by decide +kernel
theorem dL_look_106 : decode cL_look 106 = .ok (.goto (-74), 3) := by decide +kernel
theorem dL_look_109 : decode cL_look 109 = .ok (.ldc2_w 11, 3) := by decide +kernel
theorem dL_look_112 : decode cL_look 112 = .ok (.ldc2_w 11, 3) := by decide +kernel
theorem dL_look_115 : decode cL_look 115 = .ok (.lload_n 1, 1) := by decide +kernel
theorem dL_look_116 : decode cL_look 116 = .ok (.lmul, 1) := by decide +kernel
theorem dL_look_117 : decode cL_look 117 = .ok (.aload_n 0, 1) := by decide +kernel
theorem dL_look_118 : decode cL_look 118 = .ok (.invokevirtual 32, 3) := by decide +kernel
theorem dL_look_121 : decode cL_look 121 = .ok (.i2l, 1) := by decide +kernel
theorem dL_look_122 : decode cL_look 122 = .ok (.ladd, 1) := by decide +kernel
theorem dL_look_123 : decode cL_look 123 = .ok (.lmul, 1) := by decide +kernel
theorem dL_look_124 : decode cL_look 124 = .ok (.aload_n 0, 1) := by decide +kernel
theorem dL_look_125 : decode cL_look 125 = .ok (.invokevirtual 36, 3) := by decide +kernel
theorem dL_look_128 : decode cL_look 128 = .ok (.i2l, 1) := by decide +kernel
theorem dL_look_129 : decode cL_look 129 = .ok (.ladd, 1) := by decide +kernel
theorem dL_look_130 : decode cL_look 130 = .ok (.lstore_n 1, 1) := by decide +kernel
theorem dL_look_131 : decode cL_look 131 = .ok (.iconst 0, 1) := by decide +kernel
theorem dL_look_132 : decode cL_look 132 = .ok (.istore_n 3, 1) := by decide +kernel
theorem dL_look_133 : decode cL_look 133 = .ok (.iload_n 3, 1) := by decide +kernel
theorem dL_look_134 : decode cL_look 134 = .ok (.aload_n 0, 1) := by decide +kernel
theorem dL_look_135 : decode cL_look 135 = .ok (.invokevirtual 36, 3) := by decide +kernel
theorem dL_look_138 : decode cL_look 138 = .ok (.if_icmp .ge 22, 3) := by decide +kernel
theorem dL_look_141 : decode cL_look 141 = .ok (.ldc2_w 11, 3) := by decide +kernel
theorem dL_look_144 : decode cL_look 144 = .ok (.lload_n 1, 1) := by decide +kernel
theorem dL_look_145 : decode cL_look 145 = .ok (.lmul, 1) := by decide +kernel
theorem dL_look_146 : decode cL_look 146 = .ok (.aload_n 0, 1) := by decide +kernel
theorem dL_look_147 : decode cL_look 147 = .ok (.iload_n 3, 1) := by decide +kernel
theorem dL_look_148 : decode cL_look 148 = .ok (.invokevirtual 39, 3) := by decide +kernel
theorem dL_look_151 : decode cL_look 151 = .ok (.i2l, 1) := by decide +kernel
theorem dL_look_152 : decode cL_look 152 = .ok (.ladd, 1) := by decide +kernel
theorem dL_look_153 : decode cL_look 153 = .ok (.lstore_n 1, 1) := by decide +kernel
theorem dL_look_154 : decode cL_look 154 = .ok (.iinc 3 1, 3) := by decide +kernel
theorem dL_look_157 : decode cL_look 157 = .ok (.goto (-24), 3) := by decide +kernel
theorem dL_look_160 : decode cL_look 160 = .ok (.ldc2_w 11, 3) := by decide +kernel
theorem dL_look_163 : decode cL_look 163 = .ok (.ldc2_w 11, 3) := by decide +kernel
theorem dL_look_166 : decode cL_look 166 = .ok (.lload_n 1, 1) := by decide +kernel
theorem dL_look_167 : decode cL_look 167 = .ok (.lmul, 1) := by decide +kernel
theorem dL_look_168 : decode cL_look 168 = .ok (.aload_n 0, 1) := by decide +kernel
theorem dL_look_169 : decode cL_look 169 = .ok (.invokevirtual 42, 3) := by decide +kernel
theorem dL_look_172 : decode cL_look 172 = .ok (.i2l, 1) := by decide +kernel
theorem dL_look_173 : decode cL_look 173 = .ok (.ladd, 1) := by decide +kernel
theorem dL_look_174 : decode cL_look 174 = .ok (.lmul, 1) := by decide +kernel
theorem dL_look_175 : decode cL_look 175 = .ok (.aload_n 0, 1) := by decide +kernel
theorem dL_look_176 : decode cL_look 176 = .ok (.invokevirtual 45, 3) := by decide +kernel
theorem dL_look_179 : decode cL_look 179 = .ok (.i2l, 1) := by decide +kernel
theorem dL_look_180 : decode cL_look 180 = .ok (.ladd, 1) := by decide +kernel
theorem dL_look_181 : decode cL_look 181 = .ok (.lstore_n 1, 1) := by decide +kernel
theorem dL_look_182 : decode cL_look 182 = .ok (.iconst 0, 1) := by decide +kernel
theorem dL_look_183 : decode cL_look 183 = .ok (.istore_n 3, 1) := by decide +kernel
theorem dL_look_184 : decode cL_look 184 = .ok (.iload_n 3, 1) := by decide +kernel
theorem dL_look_185 : decode cL_look 185 = .ok (.aload_n 0, 1) := by decide +kernel
theorem dL_look_186 : decode cL_look 186 = .ok (.invokevirtual 42, 3) := by decide +kernel
theorem dL_look_189 : decode cL_look 189 = .ok (.if_icmp .ge 50, 3) := by decide +kernel
theorem dL_look_192 : decode cL_look 192 = .ok (.iload_n 3, 1) := by decide +kernel
theorem dL_look_193 : decode cL_look 193 = .ok (.bipush 6, 2) := by decide +kernel
theorem dL_look_195 : decode cL_look 195 = .ok (.if_icmp .ge 44, 3) := by decide +kernel
theorem dL_look_198 : decode cL_look 198 = .ok (.ldc2_w 11, 3) := by decide +kernel
theorem dL_look_201 : decode cL_look 201 = .ok (.ldc2_w 11, 3) := by decide +kernel
theorem dL_look_204 : decode cL_look 204 = .ok (.ldc2_w 11, 3) := by decide +kernel
theorem dL_look_207 : decode cL_look 207 = .ok (.lload_n 1, 1) := by decide +kernel
theorem dL_look_208 : decode cL_look 208 = .ok (.lmul, 1) := by decide +kernel
theorem dL_look_209 : decode cL_look 209 = .ok (.aload_n 0, 1) := by decide +kernel
theorem dL_look_210 : decode cL_look 210 = .ok (.iload_n 3, 1) := by decide +kernel
theorem dL_look_211 : decode cL_look 211 = .ok (.iconst 0, 1) := by decide +kernel
theorem dL_look_212 : decode cL_look 212 = .ok (.invokevirtual 48, 3) := by decide +kernel
theorem dL_look_215 : decode cL_look 215 = .ok (.i2l, 1) := by decide +kernel
theorem dL_look_216 : decode cL_look 216 = .ok (.ladd, 1) := by decide +kernel
theorem dL_look_217 : decode cL_look 217 = .ok (.lmul, 1) := by decide +kernel
theorem dL_look_218 : decode cL_look 218 = .ok (.aload_n 0, 1) := by decide +kernel
theorem dL_look_219 : decode cL_look 219 = .ok (.iload_n 3, 1) := by decide +kernel
theorem dL_look_220 : decode cL_look 220 = .ok (.invokevirtual 51, 3) := by decide +kernel
theorem dL_look_223 : decode cL_look 223 = .ok (.i2l, 1) := by decide +kernel
theorem dL_look_224 : decode cL_look 224 = .ok (.ladd, 1) := by decide +kernel
theorem dL_look_225 : decode cL_look 225 = .ok (.lmul, 1) := by decide +kernel
theorem dL_look_226 : decode cL_look 226 = .ok (.aload_n 0, 1) := by decide +kernel
theorem dL_look_227 : decode cL_look 227 = .ok (.iload_n 3, 1) := by decide +kernel
theorem dL_look_228 : decode cL_look 228 = .ok (.invokevirtual 54, 3) := by decide +kernel
theorem dL_look_231 : decode cL_look 231 = .ok (.ladd, 1) := by decide +kernel
theorem dL_look_232 : decode cL_look 232 = .ok (.lstore_n 1, 1) := by decide +kernel
theorem dL_look_233 : decode cL_look 233 = .ok (.iinc 3 1, 3) := by decide +kernel
theorem dL_look_236 : decode cL_look 236 = .ok (.goto (-52), 3) := by decide +kernel
theorem dL_look_239 : decode cL_look 239 = .ok (.lload_n 1, 1) := by decide +kernel
theorem dL_look_240 : decode cL_look 240 = .ok (.lreturn, 1) := by decide +kernel
theorem dL_holds_0 : decode cL_holds 0 = .ok (.aload_n 0, 1) := by decide +kernel
theorem dL_holds_1 : decode cL_holds 1 = .ok (.invokevirtual 42, 3) := by decide +kernel
theorem dL_holds_4 : decode cL_holds 4 = .ok (.istore_n 2, 1) := by decide +kernel
theorem dL_holds_5 : decode cL_holds 5 = .ok (.aload_n 0, 1) := by decide +kernel
theorem dL_holds_6 : decode cL_holds 6 = .ok (.invokevirtual 45, 3) := by decide +kernel
theorem dL_holds_9 : decode cL_holds 9 = .ok (.istore_n 3, 1) := by decide +kernel
theorem dL_holds_10 : decode cL_holds 10 = .ok (.iload_n 2, 1) := by decide +kernel
theorem dL_holds_11 : decode cL_holds 11 = .ok (.bipush 32, 2) := by decide +kernel
theorem dL_holds_13 : decode cL_holds 13 = .ok (.if_icmp .gt 90, 3) := by decide +kernel
theorem dL_holds_16 : decode cL_holds 16 = .ok (.iload_n 3, 1) := by decide +kernel
theorem dL_holds_17 : decode cL_holds 17 = .ok (.iconst 4, 1) := by decide +kernel
theorem dL_holds_18 : decode cL_holds 18 = .ok (.if_icmp .gt 85, 3) := by decide +kernel
theorem dL_holds_21 : decode cL_holds 21 = .ok (.iload_n 3, 1) := by decide +kernel
theorem dL_holds_22 : decode cL_holds 22 = .ok (.ifCond .le 7, 3) := by decide +kernel
theorem dL_holds_25 : decode cL_holds 25 = .ok (.iconst 1, 1) := by decide +kernel
theorem dL_holds_26 : decode cL_holds 26 = .ok (.goto 4, 3) := by decide +kernel
theorem dL_holds_29 : decode cL_holds 29 = .ok (.iconst 0, 1) := by decide +kernel
theorem dL_holds_30 : decode cL_holds 30 = .ok (.aload_n 0, 1) := by decide +kernel
theorem dL_holds_31 : decode cL_holds 31 = .ok (.invokevirtual 36, 3) := by decide +kernel
theorem dL_holds_34 : decode cL_holds 34 = .ok (.ifCond .le 7, 3) := by decide +kernel
theorem dL_holds_37 : decode cL_holds 37 = .ok (.iconst 1, 1) := by decide +kernel
theorem dL_holds_38 : decode cL_holds 38 = .ok (.goto 4, 3) := by decide +kernel
theorem dL_holds_41 : decode cL_holds 41 = .ok (.iconst 0, 1) := by decide +kernel
theorem dL_holds_42 : decode cL_holds 42 = .ok (.if_icmp .ne 61, 3) := by decide +kernel
theorem dL_holds_45 : decode cL_holds 45 = .ok (.aload_n 0, 1) := by decide +kernel
theorem dL_holds_46 : decode cL_holds 46 = .ok (.invokevirtual 32, 3) := by decide +kernel
theorem dL_holds_49 : decode cL_holds 49 = .ok (.aload_n 0, 1) := by decide +kernel
theorem dL_holds_50 : decode cL_holds 50 = .ok (.invokevirtual 58, 3) := by decide +kernel
theorem dL_holds_53 : decode cL_holds 53 = .ok (.iconst (-1), 1) := by decide +kernel
theorem dL_holds_54 : decode cL_holds 54 = .ok (.ixor, 1) := by decide +kernel
theorem dL_holds_55 : decode cL_holds 55 = .ok (.iand, 1) := by decide +kernel
theorem dL_holds_56 : decode cL_holds 56 = .ok (.ifCond .ne 47, 3) := by decide +kernel
theorem dL_holds_59 : decode cL_holds 59 = .ok (.aload_n 0, 1) := by decide +kernel
theorem dL_holds_60 : decode cL_holds 60 = .ok (.iload_n 2, 1) := by decide +kernel
theorem dL_holds_61 : decode cL_holds 61 = .ok (.iconst 0, 1) := by decide +kernel
theorem dL_holds_62 : decode cL_holds 62 = .ok (.invokevirtual 61, 3) := by decide +kernel
theorem dL_holds_65 : decode cL_holds 65 = .ok (.iconst (-1), 1) := by decide +kernel
theorem dL_holds_66 : decode cL_holds 66 = .ok (.if_icmp .ne 37, 3) := by decide +kernel
theorem dL_holds_69 : decode cL_holds 69 = .ok (.aload_n 0, 1) := by decide +kernel
theorem dL_holds_70 : decode cL_holds 70 = .ok (.iconst (-1), 1) := by decide +kernel
theorem dL_holds_71 : decode cL_holds 71 = .ok (.invokevirtual 51, 3) := by decide +kernel
theorem dL_holds_74 : decode cL_holds 74 = .ok (.iconst (-1), 1) := by decide +kernel
theorem dL_holds_75 : decode cL_holds 75 = .ok (.if_icmp .ne 28, 3) := by decide +kernel
theorem dL_holds_78 : decode cL_holds 78 = .ok (.aload_n 0, 1) := by decide +kernel
theorem dL_holds_79 : decode cL_holds 79 = .ok (.iload_n 2, 1) := by decide +kernel
theorem dL_holds_80 : decode cL_holds 80 = .ok (.invokevirtual 66, 3) := by decide +kernel
theorem dL_holds_83 : decode cL_holds 83 = .ok (.ldc 70, 2) := by decide +kernel
theorem dL_holds_85 : decode cL_holds 85 = .ok (.fcmp .l, 1) := by decide +kernel
theorem dL_holds_86 : decode cL_holds 86 = .ok (.ifCond .ne 17, 3) := by decide +kernel
theorem dL_holds_89 : decode cL_holds 89 = .ok (.aload_n 0, 1) := by decide +kernel
theorem dL_holds_90 : decode cL_holds 90 = .ok (.bipush 16, 2) := by decide +kernel
theorem dL_holds_92 : decode cL_holds 92 = .ok (.invokevirtual 19, 3) := by decide +kernel
theorem dL_holds_95 : decode cL_holds 95 = .ok (.iconst (-1), 1) := by decide +kernel
theorem dL_holds_96 : decode cL_holds 96 = .ok (.if_icmp .ne 7, 3) := by decide +kernel
theorem dL_holds_99 : decode cL_holds 99 = .ok (.iconst 1, 1) := by decide +kernel
theorem dL_holds_100 : decode cL_holds 100 = .ok (.goto 4, 3) := by decide +kernel
theorem dL_holds_103 : decode cL_holds 103 = .ok (.iconst 0, 1) := by decide +kernel
theorem dL_holds_104 : decode cL_holds 104 = .ok (.istore 4, 2) := by decide +kernel
theorem dL_holds_106 : decode cL_holds 106 = .ok (.iconst 1, 1) := by decide +kernel
theorem dL_holds_107 : decode cL_holds 107 = .ok (.istore 5, 2) := by decide +kernel
theorem dL_holds_109 : decode cL_holds 109 = .ok (.iload 5, 2) := by decide +kernel
theorem dL_holds_111 : decode cL_holds 111 = .ok (.iload_n 2, 1) := by decide +kernel
theorem dL_holds_112 : decode cL_holds 112 = .ok (.if_icmp .ge 84, 3) := by decide +kernel
theorem dL_holds_115 : decode cL_holds 115 = .ok (.iload 4, 2) := by decide +kernel
theorem dL_holds_117 : decode cL_holds 117 = .ok (.ifCond .eq 79, 3) := by decide +kernel
theorem dL_holds_120 : decode cL_holds 120 = .ok (.iconst 0, 1) := by decide +kernel
theorem dL_holds_121 : decode cL_holds 121 = .ok (.istore 6, 2) := by decide +kernel
theorem dL_holds_123 : decode cL_holds 123 = .ok (.iload 6, 2) := by decide +kernel
theorem dL_holds_125 : decode cL_holds 125 = .ok (.iload_n 3, 1) := by decide +kernel
theorem dL_holds_126 : decode cL_holds 126 = .ok (.if_icmp .ge 30, 3) := by decide +kernel
theorem dL_holds_129 : decode cL_holds 129 = .ok (.aload_n 0, 1) := by decide +kernel
theorem dL_holds_130 : decode cL_holds 130 = .ok (.iload 5, 2) := by decide +kernel
theorem dL_holds_132 : decode cL_holds 132 = .ok (.iload 6, 2) := by decide +kernel
theorem dL_holds_134 : decode cL_holds 134 = .ok (.invokevirtual 48, 3) := by decide +kernel
theorem dL_holds_137 : decode cL_holds 137 = .ok (.aload_n 0, 1) := by decide +kernel
theorem dL_holds_138 : decode cL_holds 138 = .ok (.iload 5, 2) := by decide +kernel
theorem dL_holds_140 : decode cL_holds 140 = .ok (.iconst 1, 1) := by decide +kernel
theorem dL_holds_141 : decode cL_holds 141 = .ok (.isub, 1) := by decide +kernel
theorem dL_holds_142 : decode cL_holds 142 = .ok (.iload 6, 2) := by decide +kernel
theorem dL_holds_144 : decode cL_holds 144 = .ok (.invokevirtual 48, 3) := by decide +kernel
theorem dL_holds_147 : decode cL_holds 147 = .ok (.if_icmp .ne 9, 3) := by decide +kernel
theorem dL_holds_150 : decode cL_holds 150 = .ok (.iinc 6 1, 3) := by decide +kernel
theorem dL_holds_153 : decode cL_holds 153 = .ok (.goto (-30), 3) := by decide +kernel
theorem dL_holds_156 : decode cL_holds 156 = .ok (.iload 6, 2) := by decide +kernel
theorem dL_holds_158 : decode cL_holds 158 = .ok (.iload_n 3, 1) := by decide +kernel
theorem dL_holds_159 : decode cL_holds 159 = .ok (.if_icmp .ge 28, 3) := by decide +kernel
theorem dL_holds_162 : decode cL_holds 162 = .ok (.aload_n 0, 1) := by decide +kernel
theorem dL_holds_163 : decode cL_holds 163 = .ok (.iload 5, 2) := by decide +kernel
theorem dL_holds_165 : decode cL_holds 165 = .ok (.iload 6, 2) := by decide +kernel
theorem dL_holds_167 : decode cL_holds 167 = .ok (.invokevirtual 48, 3) := by decide +kernel
theorem dL_holds_170 : decode cL_holds 170 = .ok (.aload_n 0, 1) := by decide +kernel
theorem dL_holds_171 : decode cL_holds 171 = .ok (.iload 5, 2) := by decide +kernel
theorem dL_holds_173 : decode cL_holds 173 = .ok (.iconst 1, 1) := by decide +kernel
theorem dL_holds_174 : decode cL_holds 174 = .ok (.isub, 1) := by decide +kernel
theorem dL_holds_175 : decode cL_holds 175 = .ok (.iload 6, 2) := by decide +kernel
theorem dL_holds_177 : decode cL_holds 177 = .ok (.invokevirtual 48, 3) := by decide +kernel
theorem dL_holds_180 : decode cL_holds 180 = .ok (.if_icmp .le 7, 3) := by decide +kernel
theorem dL_holds_183 : decode cL_holds 183 = .ok (.iconst 1, 1) := by decide +kernel
theorem dL_holds_184 : decode cL_holds 184 = .ok (.goto 4, 3) := by decide +kernel
theorem dL_holds_187 : decode cL_holds 187 = .ok (.iconst 0, 1) := by decide +kernel
theorem dL_holds_188 : decode cL_holds 188 = .ok (.istore 4, 2) := by decide +kernel
theorem dL_holds_190 : decode cL_holds 190 = .ok (.iinc 5 1, 3) := by decide +kernel
theorem dL_holds_193 : decode cL_holds 193 = .ok (.goto (-84), 3) := by decide +kernel
theorem dL_holds_196 : decode cL_holds 196 = .ok (.iload 4, 2) := by decide +kernel
theorem dL_holds_198 : decode cL_holds 198 = .ok (.ifCond .eq 7, 3) := by decide +kernel
theorem dL_holds_201 : decode cL_holds 201 = .ok (.iload_n 2, 1) := by decide +kernel
theorem dL_holds_202 : decode cL_holds 202 = .ok (.ifCond .ne 6, 3) := by decide +kernel
theorem dL_holds_205 : decode cL_holds 205 = .ok (.iload 4, 2) := by decide +kernel
theorem dL_holds_207 : decode cL_holds 207 = .ok (.ireturn, 1) := by decide +kernel
theorem dL_holds_208 : decode cL_holds 208 = .ok (.iload_n 1, 1) := by decide +kernel
theorem dL_holds_209 : decode cL_holds 209 = .ok (.iload_n 2, 1) := by decide +kernel
theorem dL_holds_210 : decode cL_holds 210 = .ok (.invokestatic 71, 3) := by decide +kernel
theorem dL_holds_213 : decode cL_holds 213 = .ok (.istore 5, 2) := by decide +kernel
theorem dL_holds_215 : decode cL_holds 215 = .ok (.iload_n 1, 1) := by decide +kernel
theorem dL_holds_216 : decode cL_holds 216 = .ok (.iconst 5, 1) := by decide +kernel
theorem dL_holds_217 : decode cL_holds 217 = .ok (.ishr, 1) := by decide +kernel
theorem dL_holds_218 : decode cL_holds 218 = .ok (.iconst 5, 1) := by decide +kernel
theorem dL_holds_219 : decode cL_holds 219 = .ok (.invokestatic 71, 3) := by decide +kernel
theorem dL_holds_222 : decode cL_holds 222 = .ok (.istore 6, 2) := by decide +kernel
theorem dL_holds_224 : decode cL_holds 224 = .ok (.aload_n 0, 1) := by decide +kernel
theorem dL_holds_225 : decode cL_holds 225 = .ok (.iload 5, 2) := by decide +kernel
theorem dL_holds_227 : decode cL_holds 227 = .ok (.iload 6, 2) := by decide +kernel
theorem dL_holds_229 : decode cL_holds 229 = .ok (.invokevirtual 61, 3) := by decide +kernel
theorem dL_holds_232 : decode cL_holds 232 = .ok (.istore 7, 2) := by decide +kernel
theorem dL_holds_234 : decode cL_holds 234 = .ok (.iconst 0, 1) := by decide +kernel
theorem dL_holds_235 : decode cL_holds 235 = .ok (.istore 8, 2) := by decide +kernel
theorem dL_holds_237 : decode cL_holds 237 = .ok (.iconst 0, 1) := by decide +kernel
theorem dL_holds_238 : decode cL_holds 238 = .ok (.istore 9, 2) := by decide +kernel
theorem dL_holds_240 : decode cL_holds 240 = .ok (.iload 9, 2) := by decide +kernel
theorem dL_holds_242 : decode cL_holds 242 = .ok (.iload 7, 2) := by decide +kernel
theorem dL_holds_244 : decode cL_holds 244 = .ok (.if_icmp .ge 257, 3) := by decide +kernel
theorem dL_holds_247 : decode cL_holds 247 = .ok (.iload 4, 2) := by decide +kernel
theorem dL_holds_249 : decode cL_holds 249 = .ok (.ifCond .eq 252, 3) := by decide +kernel
theorem dL_holds_252 : decode cL_holds 252 = .ok (.iconst 0, 1) := by decide +kernel
theorem dL_holds_253 : decode cL_holds 253 = .ok (.istore 10, 2) := by decide +kernel
theorem dL_holds_255 : decode cL_holds 255 = .ok (.iconst 0, 1) := by decide +kernel
theorem dL_holds_256 : decode cL_holds 256 = .ok (.istore 8, 2) := by decide +kernel
theorem dL_holds_258 : decode cL_holds 258 = .ok (.iconst 0, 1) := by decide +kernel
theorem dL_holds_259 : decode cL_holds 259 = .ok (.istore 11, 2) := by decide +kernel
theorem dL_holds_261 : decode cL_holds 261 = .ok (.iload 11, 2) := by decide +kernel
theorem dL_holds_263 : decode cL_holds 263 = .ok (.bipush 16, 2) := by decide +kernel
theorem dL_holds_265 : decode cL_holds 265 = .ok (.if_icmp .ge 70, 3) := by decide +kernel
theorem dL_holds_268 : decode cL_holds 268 = .ok (.aload_n 0, 1) := by decide +kernel
theorem dL_holds_269 : decode cL_holds 269 = .ok (.iload 5, 2) := by decide +kernel
theorem dL_holds_271 : decode cL_holds 271 = .ok (.iload 6, 2) := by decide +kernel
theorem dL_holds_273 : decode cL_holds 273 = .ok (.iload 9, 2) := by decide +kernel
theorem dL_holds_275 : decode cL_holds 275 = .ok (.iload 11, 2) := by decide +kernel
theorem dL_holds_277 : decode cL_holds 277 = .ok (.invokevirtual 74, 3) := by decide +kernel
theorem dL_holds_280 : decode cL_holds 280 = .ok (.istore 12, 2) := by decide +kernel
theorem dL_holds_282 : decode cL_holds 282 = .ok (.iload 10, 2) := by decide +kernel
theorem dL_holds_284 : decode cL_holds 284 = .ok (.iload 12, 2) := by decide +kernel
theorem dL_holds_286 : decode cL_holds 286 = .ok (.ifCond .le 10, 3) := by decide +kernel
theorem dL_holds_289 : decode cL_holds 289 = .ok (.iconst 1, 1) := by decide +kernel
theorem dL_holds_290 : decode cL_holds 290 = .ok (.iload 11, 2) := by decide +kernel
theorem dL_holds_292 : decode cL_holds 292 = .ok (.ishl, 1) := by decide +kernel
theorem dL_holds_293 : decode cL_holds 293 = .ok (.goto 4, 3) := by decide +kernel
theorem dL_holds_296 : decode cL_holds 296 = .ok (.iconst 0, 1) := by decide +kernel
theorem dL_holds_297 : decode cL_holds 297 = .ok (.ior, 1) := by decide +kernel
theorem dL_holds_298 : decode cL_holds 298 = .ok (.istore 10, 2) := by decide +kernel
theorem dL_holds_300 : decode cL_holds 300 = .ok (.iload 4, 2) := by decide +kernel
theorem dL_holds_302 : decode cL_holds 302 = .ok (.ifCond .eq 24, 3) := by decide +kernel
theorem dL_holds_305 : decode cL_holds 305 = .ok (.iload 12, 2) := by decide +kernel
theorem dL_holds_307 : decode cL_holds 307 = .ok (.ifCond .lt 19, 3) := by decide +kernel
theorem dL_holds_310 : decode cL_holds 310 = .ok (.iload 6, 2) := by decide +kernel
theorem dL_holds_312 : decode cL_holds 312 = .ok (.iconst 2, 1) := by decide +kernel
theorem dL_holds_313 : decode cL_holds 313 = .ok (.if_icmp .lt 9, 3) := by decide +kernel
theorem dL_holds_316 : decode cL_holds 316 = .ok (.iload 12, 2) := by decide +kernel
theorem dL_holds_318 : decode cL_holds 318 = .ok (.iconst 2, 1) := by decide +kernel
theorem dL_holds_319 : decode cL_holds 319 = .ok (.if_icmp .ge 7, 3) := by decide +kernel
theorem dL_holds_322 : decode cL_holds 322 = .ok (.iconst 1, 1) := by decide +kernel
theorem dL_holds_323 : decode cL_holds 323 = .ok (.goto 4, 3) := by decide +kernel
theorem dL_holds_326 : decode cL_holds 326 = .ok (.iconst 0, 1) := by decide +kernel
theorem dL_holds_327 : decode cL_holds 327 = .ok (.istore 4, 2) := by decide +kernel
theorem dL_holds_329 : decode cL_holds 329 = .ok (.iinc 11 1, 3) := by decide +kernel
theorem dL_holds_332 : decode cL_holds 332 = .ok (.goto (-71), 3) := by decide +kernel
theorem dL_holds_335 : decode cL_holds 335 = .ok (.iload 9, 2) := by decide +kernel
theorem dL_holds_337 : decode cL_holds 337 = .ok (.ifCond .le 45, 3) := by decide +kernel
theorem dL_holds_340 : decode cL_holds 340 = .ok (.iload 8, 2) := by decide +kernel
theorem dL_holds_342 : decode cL_holds 342 = .ok (.bipush 16, 2) := by decide +kernel
theorem dL_holds_344 : decode cL_holds 344 = .ok (.if_icmp .ge 38, 3) := by decide +kernel
theorem dL_holds_347 : decode cL_holds 347 = .ok (.aload_n 0, 1) := by decide +kernel
theorem dL_holds_348 : decode cL_holds 348 = .ok (.iload 5, 2) := by decide +kernel
theorem dL_holds_350 : decode cL_holds 350 = .ok (.iload 6, 2) := by decide +kernel
theorem dL_holds_352 : decode cL_holds 352 = .ok (.iload 9, 2) := by decide +kernel
theorem dL_holds_354 : decode cL_holds 354 = .ok (.iload 8, 2) := by decide +kernel
theorem dL_holds_356 : decode cL_holds 356 = .ok (.invokevirtual 74, 3) := by decide +kernel
theorem dL_holds_359 : decode cL_holds 359 = .ok (.aload_n 0, 1) := by decide +kernel
theorem dL_holds_360 : decode cL_holds 360 = .ok (.iload 5, 2) := by decide +kernel
theorem dL_holds_362 : decode cL_holds 362 = .ok (.iload 6, 2) := by decide +kernel
theorem dL_holds_364 : decode cL_holds 364 = .ok (.iload 9, 2) := by decide +kernel
theorem dL_holds_366 : decode cL_holds 366 = .ok (.iconst 1, 1) := by decide +kernel
theorem dL_holds_367 : decode cL_holds 367 = .ok (.isub, 1) := by decide +kernel
theorem dL_holds_368 : decode cL_holds 368 = .ok (.iload 8, 2) := by decide +kernel
theorem dL_holds_370 : decode cL_holds 370 = .ok (.invokevirtual 74, 3) := by decide +kernel
theorem dL_holds_373 : decode cL_holds 373 = .ok (.if_icmp .ne 9, 3) := by decide +kernel
theorem dL_holds_376 : decode cL_holds 376 = .ok (.iinc 8 1, 3) := by decide +kernel
theorem dL_holds_379 : decode cL_holds 379 = .ok (.goto (-44), 3) := by decide +kernel
theorem dL_holds_382 : decode cL_holds 382 = .ok (.iload 4, 2) := by decide +kernel
theorem dL_holds_384 : decode cL_holds 384 = .ok (.ifCond .eq 108, 3) := by decide +kernel
theorem dL_holds_387 : decode cL_holds 387 = .ok (.iload 10, 2) := by decide +kernel
theorem dL_holds_389 : decode cL_holds 389 = .ok (.ifCond .le 103, 3) := by decide +kernel
theorem dL_holds_392 : decode cL_holds 392 = .ok (.iload 10, 2) := by decide +kernel
theorem dL_holds_394 : decode cL_holds 394 = .ok (.aload_n 0, 1) := by decide +kernel
theorem dL_holds_395 : decode cL_holds 395 = .ok (.iload 5, 2) := by decide +kernel
theorem dL_holds_397 : decode cL_holds 397 = .ok (.invokevirtual 51, 3) := by decide +kernel
theorem dL_holds_400 : decode cL_holds 400 = .ok (.iconst (-1), 1) := by decide +kernel
theorem dL_holds_401 : decode cL_holds 401 = .ok (.ixor, 1) := by decide +kernel
theorem dL_holds_402 : decode cL_holds 402 = .ok (.iand, 1) := by decide +kernel
theorem dL_holds_403 : decode cL_holds 403 = .ok (.ifCond .ne 89, 3) := by decide +kernel
theorem dL_holds_406 : decode cL_holds 406 = .ok (.iload 9, 2) := by decide +kernel
theorem dL_holds_408 : decode cL_holds 408 = .ok (.ifCond .eq 39, 3) := by decide +kernel
theorem dL_holds_411 : decode cL_holds 411 = .ok (.iload 8, 2) := by decide +kernel
theorem dL_holds_413 : decode cL_holds 413 = .ok (.bipush 16, 2) := by decide +kernel
theorem dL_holds_415 : decode cL_holds 415 = .ok (.if_icmp .ge 77, 3) := by decide +kernel
theorem dL_holds_418 : decode cL_holds 418 = .ok (.aload_n 0, 1) := by decide +kernel
theorem dL_holds_419 : decode cL_holds 419 = .ok (.iload 5, 2) := by decide +kernel
theorem dL_holds_421 : decode cL_holds 421 = .ok (.iload 6, 2) := by decide +kernel
theorem dL_holds_423 : decode cL_holds 423 = .ok (.iload 9, 2) := by decide +kernel
theorem dL_holds_425 : decode cL_holds 425 = .ok (.iload 8, 2) := by decide +kernel
theorem dL_holds_427 : decode cL_holds 427 = .ok (.invokevirtual 74, 3) := by decide +kernel
theorem dL_holds_430 : decode cL_holds 430 = .ok (.aload_n 0, 1) := by decide +kernel
theorem dL_holds_431 : decode cL_holds 431 = .ok (.iload 5, 2) := by decide +kernel
theorem dL_holds_433 : decode cL_holds 433 = .ok (.iload 6, 2) := by decide +kernel
theorem dL_holds_435 : decode cL_holds 435 = .ok (.iload 9, 2) := by decide +kernel
theorem dL_holds_437 : decode cL_holds 437 = .ok (.iconst 1, 1) := by decide +kernel
theorem dL_holds_438 : decode cL_holds 438 = .ok (.isub, 1) := by decide +kernel
theorem dL_holds_439 : decode cL_holds 439 = .ok (.iload 8, 2) := by decide +kernel
theorem dL_holds_441 : decode cL_holds 441 = .ok (.invokevirtual 74, 3) := by decide +kernel
theorem dL_holds_444 : decode cL_holds 444 = .ok (.if_icmp .ge 48, 3) := by decide +kernel
theorem dL_holds_447 : decode cL_holds 447 = .ok (.aload_n 0, 1) := by decide +kernel
theorem dL_holds_448 : decode cL_holds 448 = .ok (.iload 5, 2) := by decide +kernel
theorem dL_holds_450 : decode cL_holds 450 = .ok (.iload 6, 2) := by decide +kernel
theorem dL_holds_452 : decode cL_holds 452 = .ok (.iload 9, 2) := by decide +kernel
theorem dL_holds_454 : decode cL_holds 454 = .ok (.invokevirtual 78, 3) := by decide +kernel
theorem dL_holds_457 : decode cL_holds 457 = .ok (.lconst 1, 1) := by decide +kernel
theorem dL_holds_458 : decode cL_holds 458 = .ok (.lcmp, 1) := by decide +kernel
theorem dL_holds_459 : decode cL_holds 459 = .ok (.ifCond .lt 33, 3) := by decide +kernel
theorem dL_holds_462 : decode cL_holds 462 = .ok (.iload 6, 2) := by decide +kernel
theorem dL_holds_464 : decode cL_holds 464 = .ok (.ifCond .eq 24, 3) := by decide +kernel
theorem dL_holds_467 : decode cL_holds 467 = .ok (.iload 6, 2) := by decide +kernel
theorem dL_holds_469 : decode cL_holds 469 = .ok (.iconst 2, 1) := by decide +kernel
theorem dL_holds_470 : decode cL_holds 470 = .ok (.if_icmp .eq 18, 3) := by decide +kernel
theorem dL_holds_473 : decode cL_holds 473 = .ok (.aload_n 0, 1) := by decide +kernel
theorem dL_holds_474 : decode cL_holds 474 = .ok (.iload 5, 2) := by decide +kernel
theorem dL_holds_476 : decode cL_holds 476 = .ok (.iload 6, 2) := by decide +kernel
theorem dL_holds_478 : decode cL_holds 478 = .ok (.iload 9, 2) := by decide +kernel
theorem dL_holds_480 : decode cL_holds 480 = .ok (.invokevirtual 78, 3) := by decide +kernel
theorem dL_holds_483 : decode cL_holds 483 = .ok (.lconst 1, 1) := by decide +kernel
theorem dL_holds_484 : decode cL_holds 484 = .ok (.lcmp, 1) := by decide +kernel
theorem dL_holds_485 : decode cL_holds 485 = .ok (.ifCond .ne 7, 3) := by decide +kernel
theorem dL_holds_488 : decode cL_holds 488 = .ok (.iconst 1, 1) := by decide +kernel
theorem dL_holds_489 : decode cL_holds 489 = .ok (.goto 4, 3) := by decide +kernel
theorem dL_holds_492 : decode cL_holds 492 = .ok (.iconst 0, 1) := by decide +kernel
theorem dL_holds_493 : decode cL_holds 493 = .ok (.istore 4, 2) := by decide +kernel
theorem dL_holds_495 : decode cL_holds 495 = .ok (.iinc 9 1, 3) := by decide +kernel
theorem dL_holds_498 : decode cL_holds 498 = .ok (.goto (-258), 3) := by decide +kernel
theorem dL_holds_501 : decode cL_holds 501 = .ok (.aload_n 0, 1) := by decide +kernel
theorem dL_holds_502 : decode cL_holds 502 = .ok (.iload 5, 2) := by decide +kernel
theorem dL_holds_504 : decode cL_holds 504 = .ok (.invokevirtual 54, 3) := by decide +kernel
theorem dL_holds_507 : decode cL_holds 507 = .ok (.lconst 0, 1) := by decide +kernel
theorem dL_holds_508 : decode cL_holds 508 = .ok (.lcmp, 1) := by decide +kernel
theorem dL_holds_509 : decode cL_holds 509 = .ok (.ifCond .le 7, 3) := by decide +kernel
theorem dL_holds_512 : decode cL_holds 512 = .ok (.iconst 1, 1) := by decide +kernel
theorem dL_holds_513 : decode cL_holds 513 = .ok (.goto 4, 3) := by decide +kernel
theorem dL_holds_516 : decode cL_holds 516 = .ok (.iconst 0, 1) := by decide +kernel
theorem dL_holds_517 : decode cL_holds 517 = .ok (.istore 9, 2) := by decide +kernel
theorem dL_holds_519 : decode cL_holds 519 = .ok (.aload_n 0, 1) := by decide +kernel
theorem dL_holds_520 : decode cL_holds 520 = .ok (.iload 5, 2) := by decide +kernel
theorem dL_holds_522 : decode cL_holds 522 = .ok (.invokevirtual 66, 3) := by decide +kernel
theorem dL_holds_525 : decode cL_holds 525 = .ok (.fstore 10, 2) := by decide +kernel
theorem dL_holds_527 : decode cL_holds 527 = .ok (.iload 4, 2) := by decide +kernel
theorem dL_holds_529 : decode cL_holds 529 = .ok (.ifCond .eq 181, 3) := by decide +kernel
theorem dL_holds_532 : decode cL_holds 532 = .ok (.iload 7, 2) := by decide +kernel
theorem dL_holds_534 : decode cL_holds 534 = .ok (.ifCond .le 176, 3) := by decide +kernel
theorem dL_holds_537 : decode cL_holds 537 = .ok (.iload 7, 2) := by decide +kernel
theorem dL_holds_539 : decode cL_holds 539 = .ok (.bipush 32, 2) := by decide +kernel
theorem dL_holds_541 : decode cL_holds 541 = .ok (.if_icmp .gt 169, 3) := by decide +kernel
theorem dL_holds_544 : decode cL_holds 544 = .ok (.aload_n 0, 1) := by decide +kernel
theorem dL_holds_545 : decode cL_holds 545 = .ok (.iload 5, 2) := by decide +kernel
theorem dL_holds_547 : decode cL_holds 547 = .ok (.invokevirtual 51, 3) := by decide +kernel
theorem dL_holds_550 : decode cL_holds 550 = .ok (.aload_n 0, 1) := by decide +kernel
theorem dL_holds_551 : decode cL_holds 551 = .ok (.invokevirtual 58, 3) := by decide +kernel
theorem dL_holds_554 : decode cL_holds 554 = .ok (.iconst (-1), 1) := by decide +kernel
theorem dL_holds_555 : decode cL_holds 555 = .ok (.ixor, 1) := by decide +kernel
theorem dL_holds_556 : decode cL_holds 556 = .ok (.iand, 1) := by decide +kernel
theorem dL_holds_557 : decode cL_holds 557 = .ok (.ifCond .ne 153, 3) := by decide +kernel
theorem dL_holds_560 : decode cL_holds 560 = .ok (.iload 9, 2) := by decide +kernel
theorem dL_holds_562 : decode cL_holds 562 = .ok (.ifCond .eq 80, 3) := by decide +kernel
theorem dL_holds_565 : decode cL_holds 565 = .ok (.aload_n 0, 1) := by decide +kernel
theorem dL_holds_566 : decode cL_holds 566 = .ok (.iload 5, 2) := by decide +kernel
theorem dL_holds_568 : decode cL_holds 568 = .ok (.invokevirtual 82, 3) := by decide +kernel
theorem dL_holds_571 : decode cL_holds 571 = .ok (.ifCond .lt 139, 3) := by decide +kernel
theorem dL_holds_574 : decode cL_holds 574 = .ok (.aload_n 0, 1) := by decide +kernel
theorem dL_holds_575 : decode cL_holds 575 = .ok (.iload 5, 2) := by decide +kernel
theorem dL_holds_577 : decode cL_holds 577 = .ok (.invokevirtual 85, 3) := by decide +kernel
theorem dL_holds_580 : decode cL_holds 580 = .ok (.ifCond .lt 130, 3) := by decide +kernel
theorem dL_holds_583 : decode cL_holds 583 = .ok (.aload_n 0, 1) := by decide +kernel
theorem dL_holds_584 : decode cL_holds 584 = .ok (.iload 5, 2) := by decide +kernel
theorem dL_holds_586 : decode cL_holds 586 = .ok (.invokevirtual 85, 3) := by decide +kernel
theorem dL_holds_589 : decode cL_holds 589 = .ok (.bipush 100, 2) := by decide +kernel
theorem dL_holds_591 : decode cL_holds 591 = .ok (.if_icmp .gt 119, 3) := by decide +kernel
theorem dL_holds_594 : decode cL_holds 594 = .ok (.aload_n 0, 1) := by decide +kernel
theorem dL_holds_595 : decode cL_holds 595 = .ok (.iload 5, 2) := by decide +kernel
theorem dL_holds_597 : decode cL_holds 597 = .ok (.invokevirtual 88, 3) := by decide +kernel
theorem dL_holds_600 : decode cL_holds 600 = .ok (.ifCond .le 110, 3) := by decide +kernel
theorem dL_holds_603 : decode cL_holds 603 = .ok (.aload_n 0, 1) := by decide +kernel
theorem dL_holds_604 : decode cL_holds 604 = .ok (.iload 5, 2) := by decide +kernel
theorem dL_holds_606 : decode cL_holds 606 = .ok (.invokevirtual 88, 3) := by decide +kernel
theorem dL_holds_609 : decode cL_holds 609 = .ok (.aload_n 0, 1) := by decide +kernel
theorem dL_holds_610 : decode cL_holds 610 = .ok (.invokevirtual 32, 3) := by decide +kernel
theorem dL_holds_613 : decode cL_holds 613 = .ok (.iand, 1) := by decide +kernel
theorem dL_holds_614 : decode cL_holds 614 = .ok (.ifCond .ne 96, 3) := by decide +kernel
theorem dL_holds_617 : decode cL_holds 617 = .ok (.aload_n 0, 1) := by decide +kernel
theorem dL_holds_618 : decode cL_holds 618 = .ok (.iload 5, 2) := by decide +kernel
theorem dL_holds_620 : decode cL_holds 620 = .ok (.invokevirtual 88, 3) := by decide +kernel
theorem dL_holds_623 : decode cL_holds 623 = .ok (.aload_n 0, 1) := by decide +kernel
theorem dL_holds_624 : decode cL_holds 624 = .ok (.iload 5, 2) := by decide +kernel
theorem dL_holds_626 : decode cL_holds 626 = .ok (.invokevirtual 91, 3) := by decide +kernel
theorem dL_holds_629 : decode cL_holds 629 = .ok (.iand, 1) := by decide +kernel
theorem dL_holds_630 : decode cL_holds 630 = .ok (.aload_n 0, 1) := by decide +kernel
theorem dL_holds_631 : decode cL_holds 631 = .ok (.iload 5, 2) := by decide +kernel
theorem dL_holds_633 : decode cL_holds 633 = .ok (.invokevirtual 91, 3) := by decide +kernel
theorem dL_holds_636 : decode cL_holds 636 = .ok (.if_icmp .ne 74, 3) := by decide +kernel
theorem dL_holds_639 : decode cL_holds 639 = .ok (.goto 43, 3) := by decide +kernel
theorem dL_holds_642 : decode cL_holds 642 = .ok (.aload_n 0, 1) := by decide +kernel
theorem dL_holds_643 : decode cL_holds 643 = .ok (.iload 5, 2) := by decide +kernel
theorem dL_holds_645 : decode cL_holds 645 = .ok (.invokevirtual 82, 3) := by decide +kernel
theorem dL_holds_648 : decode cL_holds 648 = .ok (.bipush (-6), 2) := by decide +kernel
theorem dL_holds_650 : decode cL_holds 650 = .ok (.if_icmp .ne 60, 3) := by decide +kernel
theorem dL_holds_653 : decode cL_holds 653 = .ok (.aload_n 0, 1) := by decide +kernel
theorem dL_holds_654 : decode cL_holds 654 = .ok (.iload 5, 2) := by decide +kernel
theorem dL_holds_656 : decode cL_holds 656 = .ok (.invokevirtual 85, 3) := by decide +kernel
theorem dL_holds_659 : decode cL_holds 659 = .ok (.bipush (-6), 2) := by decide +kernel
theorem dL_holds_661 : decode cL_holds 661 = .ok (.if_icmp .ne 49, 3) := by decide +kernel
theorem dL_holds_664 : decode cL_holds 664 = .ok (.aload_n 0, 1) := by decide +kernel
theorem dL_holds_665 : decode cL_holds 665 = .ok (.iload 5, 2) := by decide +kernel
theorem dL_holds_667 : decode cL_holds 667 = .ok (.invokevirtual 88, 3) := by decide +kernel
theorem dL_holds_670 : decode cL_holds 670 = .ok (.bipush (-6), 2) := by decide +kernel
theorem dL_holds_672 : decode cL_holds 672 = .ok (.if_icmp .ne 38, 3) := by decide +kernel
theorem dL_holds_675 : decode cL_holds 675 = .ok (.fload 10, 2) := by decide +kernel
theorem dL_holds_677 : decode cL_holds 677 = .ok (.fconst 0, 1) := by decide +kernel
theorem dL_holds_678 : decode cL_holds 678 = .ok (.fcmp .l, 1) := by decide +kernel
theorem dL_holds_679 : decode cL_holds 679 = .ok (.ifCond .ne 31, 3) := by decide +kernel
theorem dL_holds_682 : decode cL_holds 682 = .ok (.fload 10, 2) := by decide +kernel
theorem dL_holds_684 : decode cL_holds 684 = .ok (.fconst 0, 1) := by decide +kernel
theorem dL_holds_685 : decode cL_holds 685 = .ok (.fcmp .l, 1) := by decide +kernel
theorem dL_holds_686 : decode cL_holds 686 = .ok (.ifCond .lt 24, 3) := by decide +kernel
theorem dL_holds_689 : decode cL_holds 689 = .ok (.fload 10, 2) := by decide +kernel
theorem dL_holds_691 : decode cL_holds 691 = .ok (.fconst 1, 1) := by decide +kernel
theorem dL_holds_692 : decode cL_holds 692 = .ok (.fcmp .g, 1) := by decide +kernel
theorem dL_holds_693 : decode cL_holds 693 = .ok (.ifCond .gt 17, 3) := by decide +kernel
theorem dL_holds_696 : decode cL_holds 696 = .ok (.aload_n 0, 1) := by decide +kernel
theorem dL_holds_697 : decode cL_holds 697 = .ok (.iload 5, 2) := by decide +kernel
theorem dL_holds_699 : decode cL_holds 699 = .ok (.invokevirtual 94, 3) := by decide +kernel
theorem dL_holds_702 : decode cL_holds 702 = .ok (.iconst 1, 1) := by decide +kernel
theorem dL_holds_703 : decode cL_holds 703 = .ok (.if_icmp .lt 7, 3) := by decide +kernel
theorem dL_holds_706 : decode cL_holds 706 = .ok (.iconst 1, 1) := by decide +kernel
theorem dL_holds_707 : decode cL_holds 707 = .ok (.goto 4, 3) := by decide +kernel
theorem dL_holds_710 : decode cL_holds 710 = .ok (.iconst 0, 1) := by decide +kernel
theorem dL_holds_711 : decode cL_holds 711 = .ok (.ireturn, 1) := by decide +kernel
theorem dL_types_0 : decode cL_types 0 = .ok (.aload_n 0, 1) := by decide +kernel
theorem dL_types_1 : decode cL_types 1 = .ok (.invokevirtual 97, 3) := by decide +kernel
theorem dL_types_4 : decode cL_types 4 = .ok (.ifCond .lt 7, 3) := by decide +kernel
theorem dL_types_7 : decode cL_types 7 = .ok (.iconst 1, 1) := by decide +kernel
theorem dL_types_8 : decode cL_types 8 = .ok (.goto 4, 3) := by decide +kernel
theorem dL_types_11 : decode cL_types 11 = .ok (.iconst 0, 1) := by decide +kernel
theorem dL_types_12 : decode cL_types 12 = .ok (.istore_n 2, 1) := by decide +kernel
theorem dL_types_13 : decode cL_types 13 = .ok (.iconst 0, 1) := by decide +kernel
theorem dL_types_14 : decode cL_types 14 = .ok (.istore_n 3, 1) := by decide +kernel
theorem dL_types_15 : decode cL_types 15 = .ok (.iload_n 1, 1) := by decide +kernel
theorem dL_types_16 : decode cL_types 16 = .ok (.istore 4, 2) := by decide +kernel
theorem dL_types_18 : decode cL_types 18 = .ok (.iload_n 1, 1) := by decide +kernel
theorem dL_types_19 : decode cL_types 19 = .ok (.iconst 3, 1) := by decide +kernel
theorem dL_types_20 : decode cL_types 20 = .ok (.invokestatic 71, 3) := by decide +kernel
theorem dL_types_23 : decode cL_types 23 = .ok (.istore 5, 2) := by decide +kernel
theorem dL_types_25 : decode cL_types 25 = .ok (.iconst 0, 1) := by decide +kernel
theorem dL_types_26 : decode cL_types 26 = .ok (.istore 6, 2) := by decide +kernel
theorem dL_types_28 : decode cL_types 28 = .ok (.iload 6, 2) := by decide +kernel
theorem dL_types_30 : decode cL_types 30 = .ok (.iload 5, 2) := by decide +kernel
theorem dL_types_32 : decode cL_types 32 = .ok (.if_icmp .ge 272, 3) := by decide +kernel
theorem dL_types_35 : decode cL_types 35 = .ok (.iload_n 2, 1) := by decide +kernel
theorem dL_types_36 : decode cL_types 36 = .ok (.ifCond .eq 268, 3) := by decide +kernel
theorem dL_types_39 : decode cL_types 39 = .ok (.iload 4, 2) := by decide +kernel
theorem dL_types_41 : decode cL_types 41 = .ok (.iconst 3, 1) := by decide +kernel
theorem dL_types_42 : decode cL_types 42 = .ok (.ishr, 1) := by decide +kernel
theorem dL_types_43 : decode cL_types 43 = .ok (.istore 4, 2) := by decide +kernel
theorem dL_types_45 : decode cL_types 45 = .ok (.iload 4, 2) := by decide +kernel
theorem dL_types_47 : decode cL_types 47 = .ok (.iconst 4, 1) := by decide +kernel
theorem dL_types_48 : decode cL_types 48 = .ok (.invokestatic 71, 3) := by decide +kernel
theorem dL_types_51 : decode cL_types 51 = .ok (.istore 7, 2) := by decide +kernel
theorem dL_types_53 : decode cL_types 53 = .ok (.iload_n 2, 1) := by decide +kernel
theorem dL_types_54 : decode cL_types 54 = .ok (.ifCond .eq 48, 3) := by decide +kernel
theorem dL_types_57 : decode cL_types 57 = .ok (.aload_n 0, 1) := by decide +kernel
theorem dL_types_58 : decode cL_types 58 = .ok (.iload 7, 2) := by decide +kernel
theorem dL_types_60 : decode cL_types 60 = .ok (.ifCond .ne 8, 3) := by decide +kernel
theorem dL_types_63 : decode cL_types 63 = .ok (.bipush 115, 2) := by decide +kernel
theorem dL_types_65 : decode cL_types 65 = .ok (.goto 27, 3) := by decide +kernel
theorem dL_types_68 : decode cL_types 68 = .ok (.iload 7, 2) := by decide +kernel
theorem dL_types_70 : decode cL_types 70 = .ok (.iconst 1, 1) := by decide +kernel
theorem dL_types_71 : decode cL_types 71 = .ok (.if_icmp .ne 8, 3) := by decide +kernel
theorem dL_types_74 : decode cL_types 74 = .ok (.bipush 112, 2) := by decide +kernel
theorem dL_types_76 : decode cL_types 76 = .ok (.goto 16, 3) := by decide +kernel
theorem dL_types_79 : decode cL_types 79 = .ok (.iload 7, 2) := by decide +kernel
theorem dL_types_81 : decode cL_types 81 = .ok (.iconst 2, 1) := by decide +kernel
theorem dL_types_82 : decode cL_types 82 = .ok (.if_icmp .ne 8, 3) := by decide +kernel
theorem dL_types_85 : decode cL_types 85 = .ok (.bipush 106, 2) := by decide +kernel
theorem dL_types_87 : decode cL_types 87 = .ok (.goto 5, 3) := by decide +kernel
theorem dL_types_90 : decode cL_types 90 = .ok (.bipush 117, 2) := by decide +kernel
theorem dL_types_92 : decode cL_types 92 = .ok (.invokevirtual 100, 3) := by decide +kernel
theorem dL_types_95 : decode cL_types 95 = .ok (.ifCond .le 7, 3) := by decide +kernel
theorem dL_types_98 : decode cL_types 98 = .ok (.iconst 1, 1) := by decide +kernel
theorem dL_types_99 : decode cL_types 99 = .ok (.goto 4, 3) := by decide +kernel
theorem dL_types_102 : decode cL_types 102 = .ok (.iconst 0, 1) := by decide +kernel
theorem dL_types_103 : decode cL_types 103 = .ok (.istore_n 2, 1) := by decide +kernel
theorem dL_types_104 : decode cL_types 104 = .ok (.iload 7, 2) := by decide +kernel
theorem dL_types_106 : decode cL_types 106 = .ok (.iconst 3, 1) := by decide +kernel
theorem dL_types_107 : decode cL_types 107 = .ok (.if_icmp .ge 47, 3) := by decide +kernel
theorem dL_types_110 : decode cL_types 110 = .ok (.iload_n 2, 1) := by decide +kernel
theorem dL_types_111 : decode cL_types 111 = .ok (.ifCond .eq 41, 3) := by decide +kernel
theorem dL_types_114 : decode cL_types 114 = .ok (.aload_n 0, 1) := by decide +kernel
theorem dL_types_115 : decode cL_types 115 = .ok (.bipush 48, 2) := by decide +kernel
theorem dL_types_117 : decode cL_types 117 = .ok (.iload 4, 2) := by decide +kernel
theorem dL_types_119 : decode cL_types 119 = .ok (.iconst 2, 1) := by decide +kernel
theorem dL_types_120 : decode cL_types 120 = .ok (.ishr, 1) := by decide +kernel
theorem dL_types_121 : decode cL_types 121 = .ok (.iload_n 1, 1) := by decide +kernel
theorem dL_types_122 : decode cL_types 122 = .ok (.bipush 20, 2) := by decide +kernel
theorem dL_types_124 : decode cL_types 124 = .ok (.ishr, 1) := by decide +kernel
theorem dL_types_125 : decode cL_types 125 = .ok (.bipush 9, 2) := by decide +kernel
theorem dL_types_127 : decode cL_types 127 = .ok (.invokestatic 71, 3) := by decide +kernel
theorem dL_types_130 : decode cL_types 130 = .ok (.ifCond .ne 7, 3) := by decide +kernel
theorem dL_types_133 : decode cL_types 133 = .ok (.iconst 5, 1) := by decide +kernel
theorem dL_types_134 : decode cL_types 134 = .ok (.goto 4, 3) := by decide +kernel
theorem dL_types_137 : decode cL_types 137 = .ok (.iconst 2, 1) := by decide +kernel
theorem dL_types_138 : decode cL_types 138 = .ok (.invokestatic 71, 3) := by decide +kernel
theorem dL_types_141 : decode cL_types 141 = .ok (.iadd, 1) := by decide +kernel
theorem dL_types_142 : decode cL_types 142 = .ok (.invokevirtual 100, 3) := by decide +kernel
theorem dL_types_145 : decode cL_types 145 = .ok (.ifCond .le 7, 3) := by decide +kernel
theorem dL_types_148 : decode cL_types 148 = .ok (.iconst 1, 1) := by decide +kernel
theorem dL_types_149 : decode cL_types 149 = .ok (.goto 4, 3) := by decide +kernel
theorem dL_types_152 : decode cL_types 152 = .ok (.iconst 0, 1) := by decide +kernel
theorem dL_types_153 : decode cL_types 153 = .ok (.istore_n 2, 1) := by decide +kernel
theorem dL_types_154 : decode cL_types 154 = .ok (.iload 7, 2) := by decide +kernel
theorem dL_types_156 : decode cL_types 156 = .ok (.ifCond .ne 38, 3) := by decide +kernel
theorem dL_types_159 : decode cL_types 159 = .ok (.iload_n 2, 1) := by decide +kernel
theorem dL_types_160 : decode cL_types 160 = .ok (.ifCond .eq 32, 3) := by decide +kernel
theorem dL_types_163 : decode cL_types 163 = .ok (.aload_n 0, 1) := by decide +kernel
theorem dL_types_164 : decode cL_types 164 = .ok (.iload 4, 2) := by decide +kernel
theorem dL_types_166 : decode cL_types 166 = .ok (.iconst 3, 1) := by decide +kernel
theorem dL_types_167 : decode cL_types 167 = .ok (.ishr, 1) := by decide +kernel
theorem dL_types_168 : decode cL_types 168 = .ok (.iconst 2, 1) := by decide +kernel
theorem dL_types_169 : decode cL_types 169 = .ok (.invokestatic 71, 3) := by decide +kernel
theorem dL_types_172 : decode cL_types 172 = .ok (.ifCond .ne 8, 3) := by decide +kernel
theorem dL_types_175 : decode cL_types 175 = .ok (.bipush 61, 2) := by decide +kernel
theorem dL_types_177 : decode cL_types 177 = .ok (.goto 5, 3) := by decide +kernel
theorem dL_types_180 : decode cL_types 180 = .ok (.bipush 126, 2) := by decide +kernel
theorem dL_types_182 : decode cL_types 182 = .ok (.invokevirtual 100, 3) := by decide +kernel
theorem dL_types_185 : decode cL_types 185 = .ok (.ifCond .le 7, 3) := by decide +kernel
theorem dL_types_188 : decode cL_types 188 = .ok (.iconst 1, 1) := by decide +kernel
theorem dL_types_189 : decode cL_types 189 = .ok (.goto 4, 3) := by decide +kernel
theorem dL_types_192 : decode cL_types 192 = .ok (.iconst 0, 1) := by decide +kernel
theorem dL_types_193 : decode cL_types 193 = .ok (.istore_n 2, 1) := by decide +kernel
theorem dL_types_194 : decode cL_types 194 = .ok (.iload 7, 2) := by decide +kernel
theorem dL_types_196 : decode cL_types 196 = .ok (.ifCond .eq 9, 3) := by decide +kernel
theorem dL_types_199 : decode cL_types 199 = .ok (.iload 7, 2) := by decide +kernel
theorem dL_types_201 : decode cL_types 201 = .ok (.iconst 2, 1) := by decide +kernel
theorem dL_types_202 : decode cL_types 202 = .ok (.if_icmp .ne 31, 3) := by decide +kernel
theorem dL_types_205 : decode cL_types 205 = .ok (.iload_n 2, 1) := by decide +kernel
theorem dL_types_206 : decode cL_types 206 = .ok (.ifCond .eq 25, 3) := by decide +kernel
theorem dL_types_209 : decode cL_types 209 = .ok (.aload_n 0, 1) := by decide +kernel
theorem dL_types_210 : decode cL_types 210 = .ok (.bipush 48, 2) := by decide +kernel
theorem dL_types_212 : decode cL_types 212 = .ok (.iload 4, 2) := by decide +kernel
theorem dL_types_214 : decode cL_types 214 = .ok (.iconst 4, 1) := by decide +kernel
theorem dL_types_215 : decode cL_types 215 = .ok (.ishr, 1) := by decide +kernel
theorem dL_types_216 : decode cL_types 216 = .ok (.iconst 2, 1) := by decide +kernel
theorem dL_types_217 : decode cL_types 217 = .ok (.invokestatic 71, 3) := by decide +kernel
theorem dL_types_220 : decode cL_types 220 = .ok (.iadd, 1) := by decide +kernel
theorem dL_types_221 : decode cL_types 221 = .ok (.invokevirtual 100, 3) := by decide +kernel
theorem dL_types_224 : decode cL_types 224 = .ok (.ifCond .le 7, 3) := by decide +kernel
theorem dL_types_227 : decode cL_types 227 = .ok (.iconst 1, 1) := by decide +kernel
theorem dL_types_228 : decode cL_types 228 = .ok (.goto 4, 3) := by decide +kernel
theorem dL_types_231 : decode cL_types 231 = .ok (.iconst 0, 1) := by decide +kernel
theorem dL_types_232 : decode cL_types 232 = .ok (.istore_n 2, 1) := by decide +kernel
theorem dL_types_233 : decode cL_types 233 = .ok (.iload_n 2, 1) := by decide +kernel
theorem dL_types_234 : decode cL_types 234 = .ok (.ifCond .eq 16, 3) := by decide +kernel
theorem dL_types_237 : decode cL_types 237 = .ok (.aload_n 0, 1) := by decide +kernel
theorem dL_types_238 : decode cL_types 238 = .ok (.bipush 40, 2) := by decide +kernel
theorem dL_types_240 : decode cL_types 240 = .ok (.invokevirtual 100, 3) := by decide +kernel
theorem dL_types_243 : decode cL_types 243 = .ok (.ifCond .le 7, 3) := by decide +kernel
theorem dL_types_246 : decode cL_types 246 = .ok (.iconst 1, 1) := by decide +kernel
theorem dL_types_247 : decode cL_types 247 = .ok (.goto 4, 3) := by decide +kernel
theorem dL_types_250 : decode cL_types 250 = .ok (.iconst 0, 1) := by decide +kernel
theorem dL_types_251 : decode cL_types 251 = .ok (.istore_n 2, 1) := by decide +kernel
theorem dL_types_252 : decode cL_types 252 = .ok (.iload 7, 2) := by decide +kernel
theorem dL_types_254 : decode cL_types 254 = .ok (.iconst 1, 1) := by decide +kernel
theorem dL_types_255 : decode cL_types 255 = .ok (.if_icmp .le 40, 3) := by decide +kernel
theorem dL_types_258 : decode cL_types 258 = .ok (.iload_n 2, 1) := by decide +kernel
theorem dL_types_259 : decode cL_types 259 = .ok (.ifCond .eq 34, 3) := by decide +kernel
theorem dL_types_262 : decode cL_types 262 = .ok (.aload_n 0, 1) := by decide +kernel
theorem dL_types_263 : decode cL_types 263 = .ok (.bipush 65, 2) := by decide +kernel
theorem dL_types_265 : decode cL_types 265 = .ok (.iload 4, 2) := by decide +kernel
theorem dL_types_267 : decode cL_types 267 = .ok (.iconst 5, 1) := by decide +kernel
theorem dL_types_268 : decode cL_types 268 = .ok (.ishr, 1) := by decide +kernel
theorem dL_types_269 : decode cL_types 269 = .ok (.iconst 4, 1) := by decide +kernel
theorem dL_types_270 : decode cL_types 270 = .ok (.invokestatic 71, 3) := by decide +kernel
theorem dL_types_273 : decode cL_types 273 = .ok (.iadd, 1) := by decide +kernel
theorem dL_types_274 : decode cL_types 274 = .ok (.invokevirtual 100, 3) := by decide +kernel
theorem dL_types_277 : decode cL_types 277 = .ok (.ifCond .le 16, 3) := by decide +kernel
theorem dL_types_280 : decode cL_types 280 = .ok (.aload_n 0, 1) := by decide +kernel
theorem dL_types_281 : decode cL_types 281 = .ok (.bipush 44, 2) := by decide +kernel
theorem dL_types_283 : decode cL_types 283 = .ok (.invokevirtual 100, 3) := by decide +kernel
theorem dL_types_286 : decode cL_types 286 = .ok (.ifCond .le 7, 3) := by decide +kernel
theorem dL_types_289 : decode cL_types 289 = .ok (.iconst 1, 1) := by decide +kernel
theorem dL_types_290 : decode cL_types 290 = .ok (.goto 4, 3) := by decide +kernel
theorem dL_types_293 : decode cL_types 293 = .ok (.iconst 0, 1) := by decide +kernel
theorem dL_types_294 : decode cL_types 294 = .ok (.istore_n 2, 1) := by decide +kernel
theorem dL_types_295 : decode cL_types 295 = .ok (.iinc 3 1, 3) := by decide +kernel
theorem dL_types_298 : decode cL_types 298 = .ok (.iinc 6 1, 3) := by decide +kernel
theorem dL_types_301 : decode cL_types 301 = .ok (.goto (-273), 3) := by decide +kernel
theorem dL_types_304 : decode cL_types 304 = .ok (.iload_n 2, 1) := by decide +kernel
theorem dL_types_305 : decode cL_types 305 = .ok (.ifCond .eq 41, 3) := by decide +kernel
theorem dL_types_308 : decode cL_types 308 = .ok (.aload_n 0, 1) := by decide +kernel
theorem dL_types_309 : decode cL_types 309 = .ok (.bipush 65, 2) := by decide +kernel
theorem dL_types_311 : decode cL_types 311 = .ok (.iload_n 1, 1) := by decide +kernel
theorem dL_types_312 : decode cL_types 312 = .ok (.bipush 9, 2) := by decide +kernel
theorem dL_types_314 : decode cL_types 314 = .ok (.ishr, 1) := by decide +kernel
theorem dL_types_315 : decode cL_types 315 = .ok (.iload_n 1, 1) := by decide +kernel
theorem dL_types_316 : decode cL_types 316 = .ok (.bipush 24, 2) := by decide +kernel
theorem dL_types_318 : decode cL_types 318 = .ok (.ishr, 1) := by decide +kernel
theorem dL_types_319 : decode cL_types 319 = .ok (.bipush 9, 2) := by decide +kernel
theorem dL_types_321 : decode cL_types 321 = .ok (.invokestatic 71, 3) := by decide +kernel
theorem dL_types_324 : decode cL_types 324 = .ok (.ifCond .ne 7, 3) := by decide +kernel
theorem dL_types_327 : decode cL_types 327 = .ok (.iconst 5, 1) := by decide +kernel
theorem dL_types_328 : decode cL_types 328 = .ok (.goto 4, 3) := by decide +kernel
theorem dL_types_331 : decode cL_types 331 = .ok (.iconst 3, 1) := by decide +kernel
theorem dL_types_332 : decode cL_types 332 = .ok (.invokestatic 71, 3) := by decide +kernel
theorem dL_types_335 : decode cL_types 335 = .ok (.iadd, 1) := by decide +kernel
theorem dL_types_336 : decode cL_types 336 = .ok (.invokevirtual 100, 3) := by decide +kernel
theorem dL_types_339 : decode cL_types 339 = .ok (.ifCond .le 7, 3) := by decide +kernel
theorem dL_types_342 : decode cL_types 342 = .ok (.iconst 1, 1) := by decide +kernel
theorem dL_types_343 : decode cL_types 343 = .ok (.goto 4, 3) := by decide +kernel
theorem dL_types_346 : decode cL_types 346 = .ok (.iconst 0, 1) := by decide +kernel
theorem dL_types_347 : decode cL_types 347 = .ok (.istore_n 2, 1) := by decide +kernel
theorem dL_types_348 : decode cL_types 348 = .ok (.iload_n 1, 1) := by decide +kernel
theorem dL_types_349 : decode cL_types 349 = .ok (.bipush 26, 2) := by decide +kernel
theorem dL_types_351 : decode cL_types 351 = .ok (.ishr, 1) := by decide +kernel
theorem dL_types_352 : decode cL_types 352 = .ok (.bipush 7, 2) := by decide +kernel
theorem dL_types_354 : decode cL_types 354 = .ok (.invokestatic 71, 3) := by decide +kernel
theorem dL_types_357 : decode cL_types 357 = .ok (.ifCond .ne 7, 3) := by decide +kernel
theorem dL_types_360 : decode cL_types 360 = .ok (.iconst 1, 1) := by decide +kernel
theorem dL_types_361 : decode cL_types 361 = .ok (.goto 4, 3) := by decide +kernel
theorem dL_types_364 : decode cL_types 364 = .ok (.iconst 0, 1) := by decide +kernel
theorem dL_types_365 : decode cL_types 365 = .ok (.istore 6, 2) := by decide +kernel
theorem dL_types_367 : decode cL_types 367 = .ok (.iload 6, 2) := by decide +kernel
theorem dL_types_369 : decode cL_types 369 = .ok (.iload_n 3, 1) := by decide +kernel
theorem dL_types_370 : decode cL_types 370 = .ok (.if_icmp .ge 28, 3) := by decide +kernel
theorem dL_types_373 : decode cL_types 373 = .ok (.iload_n 2, 1) := by decide +kernel
theorem dL_types_374 : decode cL_types 374 = .ok (.ifCond .eq 24, 3) := by decide +kernel
theorem dL_types_377 : decode cL_types 377 = .ok (.aload_n 0, 1) := by decide +kernel
theorem dL_types_378 : decode cL_types 378 = .ok (.bipush 41, 2) := by decide +kernel
theorem dL_types_380 : decode cL_types 380 = .ok (.invokevirtual 100, 3) := by decide +kernel
theorem dL_types_383 : decode cL_types 383 = .ok (.ifCond .le 7, 3) := by decide +kernel
theorem dL_types_386 : decode cL_types 386 = .ok (.iconst 1, 1) := by decide +kernel
theorem dL_types_387 : decode cL_types 387 = .ok (.goto 4, 3) := by decide +kernel
theorem dL_types_390 : decode cL_types 390 = .ok (.iconst 0, 1) := by decide +kernel
theorem dL_types_391 : decode cL_types 391 = .ok (.istore_n 2, 1) := by decide +kernel
theorem dL_types_392 : decode cL_types 392 = .ok (.iinc 6 1, 3) := by decide +kernel
theorem dL_types_395 : decode cL_types 395 = .ok (.goto (-28), 3) := by decide +kernel
theorem dL_types_398 : decode cL_types 398 = .ok (.iload_n 2, 1) := by decide +kernel
theorem dL_types_399 : decode cL_types 399 = .ok (.ireturn, 1) := by decide +kernel
theorem dL_asks_0 : decode cL_asks 0 = .ok (.aload_n 0, 1) := by decide +kernel
theorem dL_asks_1 : decode cL_asks 1 = .ok (.invokevirtual 36, 3) := by decide +kernel
theorem dL_asks_4 : decode cL_asks 4 = .ok (.istore_n 3, 1) := by decide +kernel
theorem dL_asks_5 : decode cL_asks 5 = .ok (.aload_n 0, 1) := by decide +kernel
theorem dL_asks_6 : decode cL_asks 6 = .ok (.iload_n 2, 1) := by decide +kernel
theorem dL_asks_7 : decode cL_asks 7 = .ok (.invokestatic 103, 3) := by decide +kernel
theorem dL_asks_10 : decode cL_asks 10 = .ok (.istore 4, 2) := by decide +kernel
theorem dL_asks_12 : decode cL_asks 12 = .ok (.aload_n 0, 1) := by decide +kernel
theorem dL_asks_13 : decode cL_asks 13 = .ok (.invokevirtual 107, 3) := by decide +kernel
theorem dL_asks_16 : decode cL_asks 16 = .ok (.istore 5, 2) := by decide +kernel
theorem dL_asks_18 : decode cL_asks 18 = .ok (.aload_n 0, 1) := by decide +kernel
theorem dL_asks_19 : decode cL_asks 19 = .ok (.invokevirtual 110, 3) := by decide +kernel
theorem dL_asks_22 : decode cL_asks 22 = .ok (.istore 6, 2) := by decide +kernel
theorem dL_asks_24 : decode cL_asks 24 = .ok (.aload_n 1, 1) := by decide +kernel
theorem dL_asks_25 : decode cL_asks 25 = .ok (.iconst 0, 1) := by decide +kernel
theorem dL_asks_26 : decode cL_asks 26 = .ok (.iload 6, 2) := by decide +kernel
theorem dL_asks_28 : decode cL_asks 28 = .ok (.iastore, 1) := by decide +kernel
theorem dL_asks_29 : decode cL_asks 29 = .ok (.aload_n 0, 1) := by decide +kernel
theorem dL_asks_30 : decode cL_asks 30 = .ok (.invokevirtual 97, 3) := by decide +kernel
theorem dL_asks_33 : decode cL_asks 33 = .ok (.istore 7, 2) := by decide +kernel
theorem dL_asks_35 : decode cL_asks 35 = .ok (.iload 4, 2) := by decide +kernel
theorem dL_asks_37 : decode cL_asks 37 = .ok (.ifCond .eq 81, 3) := by decide +kernel
theorem dL_asks_40 : decode cL_asks 40 = .ok (.iload 5, 2) := by decide +kernel
theorem dL_asks_42 : decode cL_asks 42 = .ok (.bipush (-6), 2) := by decide +kernel
theorem dL_asks_44 : decode cL_asks 44 = .ok (.if_icmp .ne 38, 3) := by decide +kernel
theorem dL_asks_47 : decode cL_asks 47 = .ok (.iload 6, 2) := by decide +kernel
theorem dL_asks_49 : decode cL_asks 49 = .ok (.bipush (-5), 2) := by decide +kernel
theorem dL_asks_51 : decode cL_asks 51 = .ok (.if_icmp .eq 50, 3) := by decide +kernel
theorem dL_asks_54 : decode cL_asks 54 = .ok (.iload 6, 2) := by decide +kernel
theorem dL_asks_56 : decode cL_asks 56 = .ok (.bipush (-4), 2) := by decide +kernel
theorem dL_asks_58 : decode cL_asks 58 = .ok (.if_icmp .eq 43, 3) := by decide +kernel
theorem dL_asks_61 : decode cL_asks 61 = .ok (.iload 6, 2) := by decide +kernel
theorem dL_asks_63 : decode cL_asks 63 = .ok (.aload_n 0, 1) := by decide +kernel
theorem dL_asks_64 : decode cL_asks 64 = .ok (.invokevirtual 42, 3) := by decide +kernel
theorem dL_asks_67 : decode cL_asks 67 = .ok (.if_icmp .ne 51, 3) := by decide +kernel
theorem dL_asks_70 : decode cL_asks 70 = .ok (.aload_n 0, 1) := by decide +kernel
theorem dL_asks_71 : decode cL_asks 71 = .ok (.invokevirtual 36, 3) := by decide +kernel
theorem dL_asks_74 : decode cL_asks 74 = .ok (.iload 7, 2) := by decide +kernel
theorem dL_asks_76 : decode cL_asks 76 = .ok (.if_icmp .ne 42, 3) := by decide +kernel
theorem dL_asks_79 : decode cL_asks 79 = .ok (.goto 22, 3) := by decide +kernel
theorem dL_asks_82 : decode cL_asks 82 = .ok (.iload 5, 2) := by decide +kernel
theorem dL_asks_84 : decode cL_asks 84 = .ok (.ifCond .lt 34, 3) := by decide +kernel
theorem dL_asks_87 : decode cL_asks 87 = .ok (.iload 5, 2) := by decide +kernel
theorem dL_asks_89 : decode cL_asks 89 = .ok (.iload 7, 2) := by decide +kernel
theorem dL_asks_91 : decode cL_asks 91 = .ok (.if_icmp .gt 27, 3) := by decide +kernel
theorem dL_asks_94 : decode cL_asks 94 = .ok (.iload 6, 2) := by decide +kernel
theorem dL_asks_96 : decode cL_asks 96 = .ok (.bipush (-3), 2) := by decide +kernel
theorem dL_asks_98 : decode cL_asks 98 = .ok (.if_icmp .ne 20, 3) := by decide +kernel
theorem dL_asks_101 : decode cL_asks 101 = .ok (.iload 6, 2) := by decide +kernel
theorem dL_asks_103 : decode cL_asks 103 = .ok (.ifCond .ge 11, 3) := by decide +kernel
theorem dL_asks_106 : decode cL_asks 106 = .ok (.aload_n 0, 1) := by decide +kernel
theorem dL_asks_107 : decode cL_asks 107 = .ok (.invokevirtual 36, 3) := by decide +kernel
theorem dL_asks_110 : decode cL_asks 110 = .ok (.iload_n 3, 1) := by decide +kernel
theorem dL_asks_111 : decode cL_asks 111 = .ok (.if_icmp .ne 7, 3) := by decide +kernel
theorem dL_asks_114 : decode cL_asks 114 = .ok (.iconst 1, 1) := by decide +kernel
theorem dL_asks_115 : decode cL_asks 115 = .ok (.goto 4, 3) := by decide +kernel
theorem dL_asks_118 : decode cL_asks 118 = .ok (.iconst 0, 1) := by decide +kernel
theorem dL_asks_119 : decode cL_asks 119 = .ok (.ireturn, 1) := by decide +kernel
theorem dL_rows_0 : decode cL_rows 0 = .ok (.iload_n 3, 1) := by decide +kernel
theorem dL_rows_1 : decode cL_rows 1 = .ok (.bipush 17, 2) := by decide +kernel
theorem dL_rows_3 : decode cL_rows 3 = .ok (.invokestatic 71, 3) := by decide +kernel
theorem dL_rows_6 : decode cL_rows 6 = .ok (.istore 4, 2) := by decide +kernel
theorem dL_rows_8 : decode cL_rows 8 = .ok (.iload 4, 2) := by decide +kernel
theorem dL_rows_10 : decode cL_rows 10 = .ok (.bipush 16, 2) := by decide +kernel
theorem dL_rows_12 : decode cL_rows 12 = .ok (.if_icmp .ge 20, 3) := by decide +kernel
theorem dL_rows_15 : decode cL_rows 15 = .ok (.aload_n 0, 1) := by decide +kernel
theorem dL_rows_16 : decode cL_rows 16 = .ok (.invokevirtual 58, 3) := by decide +kernel
theorem dL_rows_19 : decode cL_rows 19 = .ok (.iload 4, 2) := by decide +kernel
theorem dL_rows_21 : decode cL_rows 21 = .ok (.ishr, 1) := by decide +kernel
theorem dL_rows_22 : decode cL_rows 22 = .ok (.iconst 1, 1) := by decide +kernel
theorem dL_rows_23 : decode cL_rows 23 = .ok (.iand, 1) := by decide +kernel
theorem dL_rows_24 : decode cL_rows 24 = .ok (.iconst 1, 1) := by decide +kernel
theorem dL_rows_25 : decode cL_rows 25 = .ok (.if_icmp .ne 7, 3) := by decide +kernel
theorem dL_rows_28 : decode cL_rows 28 = .ok (.iconst 1, 1) := by decide +kernel
theorem dL_rows_29 : decode cL_rows 29 = .ok (.goto 4, 3) := by decide +kernel
theorem dL_rows_32 : decode cL_rows 32 = .ok (.iconst 0, 1) := by decide +kernel
theorem dL_rows_33 : decode cL_rows 33 = .ok (.istore 5, 2) := by decide +kernel
theorem dL_rows_35 : decode cL_rows 35 = .ok (.iconst 0, 1) := by decide +kernel
theorem dL_rows_36 : decode cL_rows 36 = .ok (.istore 6, 2) := by decide +kernel
theorem dL_rows_38 : decode cL_rows 38 = .ok (.iconst 0, 1) := by decide +kernel
theorem dL_rows_39 : decode cL_rows 39 = .ok (.istore 7, 2) := by decide +kernel
theorem dL_rows_41 : decode cL_rows 41 = .ok (.iload 7, 2) := by decide +kernel
theorem dL_rows_43 : decode cL_rows 43 = .ok (.bipush 16, 2) := by decide +kernel
theorem dL_rows_45 : decode cL_rows 45 = .ok (.if_icmp .ge 23, 3) := by decide +kernel
theorem dL_rows_48 : decode cL_rows 48 = .ok (.iload 6, 2) := by decide +kernel
theorem dL_rows_50 : decode cL_rows 50 = .ok (.aload_n 0, 1) := by decide +kernel
theorem dL_rows_51 : decode cL_rows 51 = .ok (.invokevirtual 58, 3) := by decide +kernel
theorem dL_rows_54 : decode cL_rows 54 = .ok (.iload 7, 2) := by decide +kernel
theorem dL_rows_56 : decode cL_rows 56 = .ok (.ishr, 1) := by decide +kernel
theorem dL_rows_57 : decode cL_rows 57 = .ok (.iconst 1, 1) := by decide +kernel
theorem dL_rows_58 : decode cL_rows 58 = .ok (.iand, 1) := by decide +kernel
theorem dL_rows_59 : decode cL_rows 59 = .ok (.iadd, 1) := by decide +kernel
theorem dL_rows_60 : decode cL_rows 60 = .ok (.istore 6, 2) := by decide +kernel
theorem dL_rows_62 : decode cL_rows 62 = .ok (.iinc 7 1, 3) := by decide +kernel
theorem dL_rows_65 : decode cL_rows 65 = .ok (.goto (-24), 3) := by decide +kernel
theorem dL_rows_68 : decode cL_rows 68 = .ok (.iload_n 2, 1) := by decide +kernel
theorem dL_rows_69 : decode cL_rows 69 = .ok (.bipush 6, 2) := by decide +kernel
theorem dL_rows_71 : decode cL_rows 71 = .ok (.if_icmp .ge 295, 3) := by decide +kernel
theorem dL_rows_74 : decode cL_rows 74 = .ok (.iload_n 3, 1) := by decide +kernel
theorem dL_rows_75 : decode cL_rows 75 = .ok (.iconst 5, 1) := by decide +kernel
theorem dL_rows_76 : decode cL_rows 76 = .ok (.invokestatic 71, 3) := by decide +kernel
theorem dL_rows_79 : decode cL_rows 79 = .ok (.istore 7, 2) := by decide +kernel
theorem dL_rows_81 : decode cL_rows 81 = .ok (.iload 7, 2) := by decide +kernel
theorem dL_rows_83 : decode cL_rows 83 = .ok (.iconst 4, 1) := by decide +kernel
theorem dL_rows_84 : decode cL_rows 84 = .ok (.if_icmp .ne 7, 3) := by decide +kernel
theorem dL_rows_87 : decode cL_rows 87 = .ok (.iconst 1, 1) := by decide +kernel
theorem dL_rows_88 : decode cL_rows 88 = .ok (.goto 9, 3) := by decide +kernel
theorem dL_rows_91 : decode cL_rows 91 = .ok (.aload_n 0, 1) := by decide +kernel
theorem dL_rows_92 : decode cL_rows 92 = .ok (.iload 7, 2) := by decide +kernel
theorem dL_rows_94 : decode cL_rows 94 = .ok (.invokevirtual 13, 3) := by decide +kernel
theorem dL_rows_97 : decode cL_rows 97 = .ok (.istore 8, 2) := by decide +kernel
theorem dL_rows_99 : decode cL_rows 99 = .ok (.iload 8, 2) := by decide +kernel
theorem dL_rows_101 : decode cL_rows 101 = .ok (.iconst 1, 1) := by decide +kernel
theorem dL_rows_102 : decode cL_rows 102 = .ok (.if_icmp .ne 8, 3) := by decide +kernel
theorem dL_rows_105 : decode cL_rows 105 = .ok (.bipush 10, 2) := by decide +kernel
theorem dL_rows_107 : decode cL_rows 107 = .ok (.goto 17, 3) := by decide +kernel
theorem dL_rows_110 : decode cL_rows 110 = .ok (.iload 8, 2) := by decide +kernel
theorem dL_rows_112 : decode cL_rows 112 = .ok (.iconst 2, 1) := by decide +kernel
theorem dL_rows_113 : decode cL_rows 113 = .ok (.if_icmp .ne 8, 3) := by decide +kernel
theorem dL_rows_116 : decode cL_rows 116 = .ok (.bipush 100, 2) := by decide +kernel
theorem dL_rows_118 : decode cL_rows 118 = .ok (.goto 6, 3) := by decide +kernel
theorem dL_rows_121 : decode cL_rows 121 = .ok (.sipush 1000, 3) := by decide +kernel
theorem dL_rows_124 : decode cL_rows 124 = .ok (.istore 9, 2) := by decide +kernel
theorem dL_rows_126 : decode cL_rows 126 = .ok (.iload_n 3, 1) := by decide +kernel
theorem dL_rows_127 : decode cL_rows 127 = .ok (.iconst 3, 1) := by decide +kernel
theorem dL_rows_128 : decode cL_rows 128 = .ok (.ishr, 1) := by decide +kernel
theorem dL_rows_129 : decode cL_rows 129 = .ok (.iload_n 3, 1) := by decide +kernel
theorem dL_rows_130 : decode cL_rows 130 = .ok (.bipush 18, 2) := by decide +kernel
theorem dL_rows_132 : decode cL_rows 132 = .ok (.ishr, 1) := by decide +kernel
theorem dL_rows_133 : decode cL_rows 133 = .ok (.iconst 5, 1) := by decide +kernel
theorem dL_rows_134 : decode cL_rows 134 = .ok (.invokestatic 71, 3) := by decide +kernel
theorem dL_rows_137 : decode cL_rows 137 = .ok (.ifCond .ne 10, 3) := by decide +kernel
theorem dL_rows_140 : decode cL_rows 140 = .ok (.iload 9, 2) := by decide +kernel
theorem dL_rows_142 : decode cL_rows 142 = .ok (.iconst 1, 1) := by decide +kernel
theorem dL_rows_143 : decode cL_rows 143 = .ok (.iadd, 1) := by decide +kernel
theorem dL_rows_144 : decode cL_rows 144 = .ok (.goto 15, 3) := by decide +kernel
theorem dL_rows_147 : decode cL_rows 147 = .ok (.iload 8, 2) := by decide +kernel
theorem dL_rows_149 : decode cL_rows 149 = .ok (.iconst 1, 1) := by decide +kernel
theorem dL_rows_150 : decode cL_rows 150 = .ok (.if_icmp .ne 7, 3) := by decide +kernel
theorem dL_rows_153 : decode cL_rows 153 = .ok (.iconst 3, 1) := by decide +kernel
theorem dL_rows_154 : decode cL_rows 154 = .ok (.goto 5, 3) := by decide +kernel
theorem dL_rows_157 : decode cL_rows 157 = .ok (.bipush 30, 2) := by decide +kernel
theorem dL_rows_159 : decode cL_rows 159 = .ok (.invokestatic 71, 3) := by decide +kernel
theorem dL_rows_162 : decode cL_rows 162 = .ok (.istore 10, 2) := by decide +kernel
theorem dL_rows_164 : decode cL_rows 164 = .ok (.iconst 0, 1) := by decide +kernel
theorem dL_rows_165 : decode cL_rows 165 = .ok (.istore 11, 2) := by decide +kernel
theorem dL_rows_167 : decode cL_rows 167 = .ok (.iload 11, 2) := by decide +kernel
theorem dL_rows_169 : decode cL_rows 169 = .ok (.bipush 16, 2) := by decide +kernel
theorem dL_rows_171 : decode cL_rows 171 = .ok (.if_icmp .ge 22, 3) := by decide +kernel
theorem dL_rows_174 : decode cL_rows 174 = .ok (.aload_n 0, 1) := by decide +kernel
theorem dL_rows_175 : decode cL_rows 175 = .ok (.invokevirtual 58, 3) := by decide +kernel
theorem dL_rows_178 : decode cL_rows 178 = .ok (.iload 11, 2) := by decide +kernel
theorem dL_rows_180 : decode cL_rows 180 = .ok (.ishr, 1) := by decide +kernel
theorem dL_rows_181 : decode cL_rows 181 = .ok (.iconst 1, 1) := by decide +kernel
theorem dL_rows_182 : decode cL_rows 182 = .ok (.iand, 1) := by decide +kernel
theorem dL_rows_183 : decode cL_rows 183 = .ok (.iconst 1, 1) := by decide +kernel
theorem dL_rows_184 : decode cL_rows 184 = .ok (.if_icmp .ne 9, 3) := by decide +kernel
theorem dL_rows_187 : decode cL_rows 187 = .ok (.iinc 11 1, 3) := by decide +kernel
theorem dL_rows_190 : decode cL_rows 190 = .ok (.goto (-23), 3) := by decide +kernel
theorem dL_rows_193 : decode cL_rows 193 = .ok (.aload_n 0, 1) := by decide +kernel
theorem dL_rows_194 : decode cL_rows 194 = .ok (.invokevirtual 42, 3) := by decide +kernel
theorem dL_rows_197 : decode cL_rows 197 = .ok (.istore 12, 2) := by decide +kernel
theorem dL_rows_199 : decode cL_rows 199 = .ok (.aload_n 0, 1) := by decide +kernel
theorem dL_rows_200 : decode cL_rows 200 = .ok (.iload 7, 2) := by decide +kernel
theorem dL_rows_202 : decode cL_rows 202 = .ok (.iload 10, 2) := by decide +kernel
theorem dL_rows_204 : decode cL_rows 204 = .ok (.invokevirtual 113, 3) := by decide +kernel
theorem dL_rows_207 : decode cL_rows 207 = .ok (.istore 13, 2) := by decide +kernel
theorem dL_rows_209 : decode cL_rows 209 = .ok (.aload_n 1, 1) := by decide +kernel
theorem dL_rows_210 : decode cL_rows 210 = .ok (.iconst 0, 1) := by decide +kernel
theorem dL_rows_211 : decode cL_rows 211 = .ok (.iload 13, 2) := by decide +kernel
theorem dL_rows_213 : decode cL_rows 213 = .ok (.iastore, 1) := by decide +kernel
theorem dL_rows_214 : decode cL_rows 214 = .ok (.iload 7, 2) := by decide +kernel
theorem dL_rows_216 : decode cL_rows 216 = .ok (.iconst 4, 1) := by decide +kernel
theorem dL_rows_217 : decode cL_rows 217 = .ok (.if_icmp .eq 17, 3) := by decide +kernel
theorem dL_rows_220 : decode cL_rows 220 = .ok (.iload 10, 2) := by decide +kernel
theorem dL_rows_222 : decode cL_rows 222 = .ok (.iload 9, 2) := by decide +kernel
theorem dL_rows_224 : decode cL_rows 224 = .ok (.if_icmp .eq 10, 3) := by decide +kernel
theorem dL_rows_227 : decode cL_rows 227 = .ok (.iload 11, 2) := by decide +kernel
theorem dL_rows_229 : decode cL_rows 229 = .ok (.bipush 16, 2) := by decide +kernel
theorem dL_rows_231 : decode cL_rows 231 = .ok (.if_icmp .ne 38, 3) := by decide +kernel
theorem dL_rows_234 : decode cL_rows 234 = .ok (.iload 13, 2) := by decide +kernel
theorem dL_rows_236 : decode cL_rows 236 = .ok (.iload 7, 2) := by decide +kernel
theorem dL_rows_238 : decode cL_rows 238 = .ok (.iconst 4, 1) := by decide +kernel
theorem dL_rows_239 : decode cL_rows 239 = .ok (.if_icmp .ne 7, 3) := by decide +kernel
theorem dL_rows_242 : decode cL_rows 242 = .ok (.iconst (-1), 1) := by decide +kernel
theorem dL_rows_243 : decode cL_rows 243 = .ok (.goto 17, 3) := by decide +kernel
theorem dL_rows_246 : decode cL_rows 246 = .ok (.iload 10, 2) := by decide +kernel
theorem dL_rows_248 : decode cL_rows 248 = .ok (.iload 9, 2) := by decide +kernel
theorem dL_rows_250 : decode cL_rows 250 = .ok (.if_icmp .ne 8, 3) := by decide +kernel
theorem dL_rows_253 : decode cL_rows 253 = .ok (.bipush (-2), 2) := by decide +kernel
theorem dL_rows_255 : decode cL_rows 255 = .ok (.goto 5, 3) := by decide +kernel
theorem dL_rows_258 : decode cL_rows 258 = .ok (.bipush (-4), 2) := by decide +kernel
theorem dL_rows_260 : decode cL_rows 260 = .ok (.if_icmp .ne 7, 3) := by decide +kernel
theorem dL_rows_263 : decode cL_rows 263 = .ok (.iconst 1, 1) := by decide +kernel
theorem dL_rows_264 : decode cL_rows 264 = .ok (.goto 4, 3) := by decide +kernel
theorem dL_rows_267 : decode cL_rows 267 = .ok (.iconst 0, 1) := by decide +kernel
theorem dL_rows_268 : decode cL_rows 268 = .ok (.ireturn, 1) := by decide +kernel
theorem dL_rows_269 : decode cL_rows 269 = .ok (.iload 13, 2) := by decide +kernel
theorem dL_rows_271 : decode cL_rows 271 = .ok (.bipush (-4), 2) := by decide +kernel
theorem dL_rows_273 : decode cL_rows 273 = .ok (.if_icmp .ne 27, 3) := by decide +kernel
theorem dL_rows_276 : decode cL_rows 276 = .ok (.aload_n 0, 1) := by decide +kernel
theorem dL_rows_277 : decode cL_rows 277 = .ok (.invokevirtual 36, 3) := by decide +kernel
theorem dL_rows_280 : decode cL_rows 280 = .ok (.ifCond .le 16, 3) := by decide +kernel
theorem dL_rows_283 : decode cL_rows 283 = .ok (.aload_n 0, 1) := by decide +kernel
theorem dL_rows_284 : decode cL_rows 284 = .ok (.invokevirtual 42, 3) := by decide +kernel
theorem dL_rows_287 : decode cL_rows 287 = .ok (.iload 12, 2) := by decide +kernel
theorem dL_rows_289 : decode cL_rows 289 = .ok (.if_icmp .ne 7, 3) := by decide +kernel
theorem dL_rows_292 : decode cL_rows 292 = .ok (.iconst 1, 1) := by decide +kernel
theorem dL_rows_293 : decode cL_rows 293 = .ok (.goto 72, 3) := by decide +kernel
theorem dL_rows_296 : decode cL_rows 296 = .ok (.iconst 0, 1) := by decide +kernel
theorem dL_rows_297 : decode cL_rows 297 = .ok (.goto 68, 3) := by decide +kernel
theorem dL_rows_300 : decode cL_rows 300 = .ok (.iload 13, 2) := by decide +kernel
theorem dL_rows_302 : decode cL_rows 302 = .ok (.iload 11, 2) := by decide +kernel
theorem dL_rows_304 : decode cL_rows 304 = .ok (.if_icmp .ne 60, 3) := by decide +kernel
theorem dL_rows_307 : decode cL_rows 307 = .ok (.aload_n 0, 1) := by decide +kernel
theorem dL_rows_308 : decode cL_rows 308 = .ok (.iload 11, 2) := by decide +kernel
theorem dL_rows_310 : decode cL_rows 310 = .ok (.invokevirtual 19, 3) := by decide +kernel
theorem dL_rows_313 : decode cL_rows 313 = .ok (.iload 7, 2) := by decide +kernel
theorem dL_rows_315 : decode cL_rows 315 = .ok (.if_icmp .ne 49, 3) := by decide +kernel
theorem dL_rows_318 : decode cL_rows 318 = .ok (.aload_n 0, 1) := by decide +kernel
theorem dL_rows_319 : decode cL_rows 319 = .ok (.iload 11, 2) := by decide +kernel
theorem dL_rows_321 : decode cL_rows 321 = .ok (.invokevirtual 22, 3) := by decide +kernel
theorem dL_rows_324 : decode cL_rows 324 = .ok (.iconst 1, 1) := by decide +kernel
theorem dL_rows_325 : decode cL_rows 325 = .ok (.if_icmp .ne 39, 3) := by decide +kernel
theorem dL_rows_328 : decode cL_rows 328 = .ok (.aload_n 0, 1) := by decide +kernel
theorem dL_rows_329 : decode cL_rows 329 = .ok (.iload 11, 2) := by decide +kernel
theorem dL_rows_331 : decode cL_rows 331 = .ok (.invokevirtual 25, 3) := by decide +kernel
theorem dL_rows_334 : decode cL_rows 334 = .ok (.bipush 100, 2) := by decide +kernel
theorem dL_rows_336 : decode cL_rows 336 = .ok (.if_icmp .ne 28, 3) := by decide +kernel
theorem dL_rows_339 : decode cL_rows 339 = .ok (.aload_n 0, 1) := by decide +kernel
theorem dL_rows_340 : decode cL_rows 340 = .ok (.invokevirtual 32, 3) := by decide +kernel
theorem dL_rows_343 : decode cL_rows 343 = .ok (.iload 11, 2) := by decide +kernel
theorem dL_rows_345 : decode cL_rows 345 = .ok (.ishr, 1) := by decide +kernel
theorem dL_rows_346 : decode cL_rows 346 = .ok (.iconst 1, 1) := by decide +kernel
theorem dL_rows_347 : decode cL_rows 347 = .ok (.iand, 1) := by decide +kernel
theorem dL_rows_348 : decode cL_rows 348 = .ok (.ifCond .ne 16, 3) := by decide +kernel
theorem dL_rows_351 : decode cL_rows 351 = .ok (.aload_n 0, 1) := by decide +kernel
theorem dL_rows_352 : decode cL_rows 352 = .ok (.invokevirtual 42, 3) := by decide +kernel
theorem dL_rows_355 : decode cL_rows 355 = .ok (.iload 12, 2) := by decide +kernel
theorem dL_rows_357 : decode cL_rows 357 = .ok (.if_icmp .lt 7, 3) := by decide +kernel
theorem dL_rows_360 : decode cL_rows 360 = .ok (.iconst 1, 1) := by decide +kernel
theorem dL_rows_361 : decode cL_rows 361 = .ok (.goto 4, 3) := by decide +kernel
theorem dL_rows_364 : decode cL_rows 364 = .ok (.iconst 0, 1) := by decide +kernel
theorem dL_rows_365 : decode cL_rows 365 = .ok (.ireturn, 1) := by decide +kernel
theorem dL_rows_366 : decode cL_rows 366 = .ok (.iload_n 2, 1) := by decide +kernel
theorem dL_rows_367 : decode cL_rows 367 = .ok (.bipush 6, 2) := by decide +kernel
theorem dL_rows_369 : decode cL_rows 369 = .ok (.if_icmp .ne 62, 3) := by decide +kernel
theorem dL_rows_372 : decode cL_rows 372 = .ok (.aload_n 0, 1) := by decide +kernel
theorem dL_rows_373 : decode cL_rows 373 = .ok (.invokevirtual 42, 3) := by decide +kernel
theorem dL_rows_376 : decode cL_rows 376 = .ok (.istore 7, 2) := by decide +kernel
theorem dL_rows_378 : decode cL_rows 378 = .ok (.aload_n 1, 1) := by decide +kernel
theorem dL_rows_379 : decode cL_rows 379 = .ok (.iconst 0, 1) := by decide +kernel
theorem dL_rows_380 : decode cL_rows 380 = .ok (.aload_n 0, 1) := by decide +kernel
theorem dL_rows_381 : decode cL_rows 381 = .ok (.iload 4, 2) := by decide +kernel
theorem dL_rows_383 : decode cL_rows 383 = .ok (.invokevirtual 116, 3) := by decide +kernel
theorem dL_rows_386 : decode cL_rows 386 = .ok (.iastore, 1) := by decide +kernel
theorem dL_rows_387 : decode cL_rows 387 = .ok (.aload_n 1, 1) := by decide +kernel
theorem dL_rows_388 : decode cL_rows 388 = .ok (.iconst 0, 1) := by decide +kernel
theorem dL_rows_389 : decode cL_rows 389 = .ok (.iaload, 1) := by decide +kernel
theorem dL_rows_390 : decode cL_rows 390 = .ok (.iload 5, 2) := by decide +kernel
theorem dL_rows_392 : decode cL_rows 392 = .ok (.ifCond .eq 10, 3) := by decide +kernel
theorem dL_rows_395 : decode cL_rows 395 = .ok (.iload 6, 2) := by decide +kernel
theorem dL_rows_397 : decode cL_rows 397 = .ok (.iconst 1, 1) := by decide +kernel
theorem dL_rows_398 : decode cL_rows 398 = .ok (.isub, 1) := by decide +kernel
theorem dL_rows_399 : decode cL_rows 399 = .ok (.goto 4, 3) := by decide +kernel
theorem dL_rows_402 : decode cL_rows 402 = .ok (.iconst (-1), 1) := by decide +kernel
theorem dL_rows_403 : decode cL_rows 403 = .ok (.if_icmp .ne 26, 3) := by decide +kernel
theorem dL_rows_406 : decode cL_rows 406 = .ok (.aload_n 0, 1) := by decide +kernel
theorem dL_rows_407 : decode cL_rows 407 = .ok (.iload 4, 2) := by decide +kernel
theorem dL_rows_409 : decode cL_rows 409 = .ok (.invokevirtual 19, 3) := by decide +kernel
theorem dL_rows_412 : decode cL_rows 412 = .ok (.iconst (-1), 1) := by decide +kernel
theorem dL_rows_413 : decode cL_rows 413 = .ok (.if_icmp .ne 16, 3) := by decide +kernel
theorem dL_rows_416 : decode cL_rows 416 = .ok (.aload_n 0, 1) := by decide +kernel
theorem dL_rows_417 : decode cL_rows 417 = .ok (.invokevirtual 42, 3) := by decide +kernel
theorem dL_rows_420 : decode cL_rows 420 = .ok (.iload 7, 2) := by decide +kernel
theorem dL_rows_422 : decode cL_rows 422 = .ok (.if_icmp .gt 7, 3) := by decide +kernel
theorem dL_rows_425 : decode cL_rows 425 = .ok (.iconst 1, 1) := by decide +kernel
theorem dL_rows_426 : decode cL_rows 426 = .ok (.goto 4, 3) := by decide +kernel
theorem dL_rows_429 : decode cL_rows 429 = .ok (.iconst 0, 1) := by decide +kernel
theorem dL_rows_430 : decode cL_rows 430 = .ok (.ireturn, 1) := by decide +kernel
theorem dL_rows_431 : decode cL_rows 431 = .ok (.iload_n 3, 1) := by decide +kernel
theorem dL_rows_432 : decode cL_rows 432 = .ok (.iconst 5, 1) := by decide +kernel
theorem dL_rows_433 : decode cL_rows 433 = .ok (.ishr, 1) := by decide +kernel
theorem dL_rows_434 : decode cL_rows 434 = .ok (.iload_n 2, 1) := by decide +kernel
theorem dL_rows_435 : decode cL_rows 435 = .ok (.bipush 7, 2) := by decide +kernel
theorem dL_rows_437 : decode cL_rows 437 = .ok (.if_icmp .ne 9, 3) := by decide +kernel
theorem dL_rows_440 : decode cL_rows 440 = .ok (.sipush 1001, 3) := by decide +kernel
theorem dL_rows_443 : decode cL_rows 443 = .ok (.goto 5, 3) := by decide +kernel
theorem dL_rows_446 : decode cL_rows 446 = .ok (.bipush 102, 2) := by decide +kernel
theorem dL_rows_448 : decode cL_rows 448 = .ok (.invokestatic 71, 3) := by decide +kernel
theorem dL_rows_451 : decode cL_rows 451 = .ok (.istore 7, 2) := by decide +kernel
theorem dL_rows_453 : decode cL_rows 453 = .ok (.iload 5, 2) := by decide +kernel
theorem dL_rows_455 : decode cL_rows 455 = .ok (.ifCond .ne 7, 3) := by decide +kernel
theorem dL_rows_458 : decode cL_rows 458 = .ok (.iconst 0, 1) := by decide +kernel
theorem dL_rows_459 : decode cL_rows 459 = .ok (.goto 24, 3) := by decide +kernel
theorem dL_rows_462 : decode cL_rows 462 = .ok (.iload_n 2, 1) := by decide +kernel
theorem dL_rows_463 : decode cL_rows 463 = .ok (.bipush 7, 2) := by decide +kernel
theorem dL_rows_465 : decode cL_rows 465 = .ok (.if_icmp .ne 12, 3) := by decide +kernel
theorem dL_rows_468 : decode cL_rows 468 = .ok (.aload_n 0, 1) := by decide +kernel
theorem dL_rows_469 : decode cL_rows 469 = .ok (.iload 4, 2) := by decide +kernel
theorem dL_rows_471 : decode cL_rows 471 = .ok (.invokevirtual 22, 3) := by decide +kernel
theorem dL_rows_474 : decode cL_rows 474 = .ok (.goto 9, 3) := by decide +kernel
theorem dL_rows_477 : decode cL_rows 477 = .ok (.aload_n 0, 1) := by decide +kernel
theorem dL_rows_478 : decode cL_rows 478 = .ok (.iload 4, 2) := by decide +kernel
theorem dL_rows_480 : decode cL_rows 480 = .ok (.invokevirtual 25, 3) := by decide +kernel
theorem dL_rows_483 : decode cL_rows 483 = .ok (.istore 8, 2) := by decide +kernel
theorem dL_rows_485 : decode cL_rows 485 = .ok (.iload 7, 2) := by decide +kernel
theorem dL_rows_487 : decode cL_rows 487 = .ok (.iload_n 2, 1) := by decide +kernel
theorem dL_rows_488 : decode cL_rows 488 = .ok (.bipush 7, 2) := by decide +kernel
theorem dL_rows_490 : decode cL_rows 490 = .ok (.if_icmp .ne 9, 3) := by decide +kernel
theorem dL_rows_493 : decode cL_rows 493 = .ok (.sipush 1000, 3) := by decide +kernel
theorem dL_rows_496 : decode cL_rows 496 = .ok (.goto 5, 3) := by decide +kernel
theorem dL_rows_499 : decode cL_rows 499 = .ok (.bipush 101, 2) := by decide +kernel
theorem dL_rows_501 : decode cL_rows 501 = .ok (.if_icmp .ne 7, 3) := by decide +kernel
theorem dL_rows_504 : decode cL_rows 504 = .ok (.iconst 1, 1) := by decide +kernel
theorem dL_rows_505 : decode cL_rows 505 = .ok (.goto 4, 3) := by decide +kernel
theorem dL_rows_508 : decode cL_rows 508 = .ok (.iconst 0, 1) := by decide +kernel
theorem dL_rows_509 : decode cL_rows 509 = .ok (.istore 9, 2) := by decide +kernel
theorem dL_rows_511 : decode cL_rows 511 = .ok (.iload_n 2, 1) := by decide +kernel
theorem dL_rows_512 : decode cL_rows 512 = .ok (.bipush 7, 2) := by decide +kernel
theorem dL_rows_514 : decode cL_rows 514 = .ok (.if_icmp .ne 14, 3) := by decide +kernel
theorem dL_rows_517 : decode cL_rows 517 = .ok (.aload_n 0, 1) := by decide +kernel
theorem dL_rows_518 : decode cL_rows 518 = .ok (.iload 4, 2) := by decide +kernel
theorem dL_rows_520 : decode cL_rows 520 = .ok (.iload 7, 2) := by decide +kernel
theorem dL_rows_522 : decode cL_rows 522 = .ok (.invokevirtual 119, 3) := by decide +kernel
theorem dL_rows_525 : decode cL_rows 525 = .ok (.goto 11, 3) := by decide +kernel
theorem dL_rows_528 : decode cL_rows 528 = .ok (.aload_n 0, 1) := by decide +kernel
theorem dL_rows_529 : decode cL_rows 529 = .ok (.iload 4, 2) := by decide +kernel
theorem dL_rows_531 : decode cL_rows 531 = .ok (.iload 7, 2) := by decide +kernel
theorem dL_rows_533 : decode cL_rows 533 = .ok (.invokevirtual 122, 3) := by decide +kernel
theorem dL_rows_536 : decode cL_rows 536 = .ok (.istore 10, 2) := by decide +kernel
theorem dL_rows_538 : decode cL_rows 538 = .ok (.aload_n 1, 1) := by decide +kernel
theorem dL_rows_539 : decode cL_rows 539 = .ok (.iconst 0, 1) := by decide +kernel
theorem dL_rows_540 : decode cL_rows 540 = .ok (.iload 10, 2) := by decide +kernel
theorem dL_rows_542 : decode cL_rows 542 = .ok (.iastore, 1) := by decide +kernel
theorem dL_rows_543 : decode cL_rows 543 = .ok (.iload 10, 2) := by decide +kernel
theorem dL_rows_545 : decode cL_rows 545 = .ok (.iload 5, 2) := by decide +kernel
theorem dL_rows_547 : decode cL_rows 547 = .ok (.ifCond .ne 7, 3) := by decide +kernel
theorem dL_rows_550 : decode cL_rows 550 = .ok (.iconst (-1), 1) := by decide +kernel
theorem dL_rows_551 : decode cL_rows 551 = .ok (.goto 15, 3) := by decide +kernel
theorem dL_rows_554 : decode cL_rows 554 = .ok (.iload 9, 2) := by decide +kernel
theorem dL_rows_556 : decode cL_rows 556 = .ok (.ifCond .eq 8, 3) := by decide +kernel
theorem dL_rows_559 : decode cL_rows 559 = .ok (.bipush (-2), 2) := by decide +kernel
theorem dL_rows_561 : decode cL_rows 561 = .ok (.goto 5, 3) := by decide +kernel
theorem dL_rows_564 : decode cL_rows 564 = .ok (.iload 8, 2) := by decide +kernel
theorem dL_rows_566 : decode cL_rows 566 = .ok (.if_icmp .ne 43, 3) := by decide +kernel
theorem dL_rows_569 : decode cL_rows 569 = .ok (.iload 5, 2) := by decide +kernel
theorem dL_rows_571 : decode cL_rows 571 = .ok (.ifCond .eq 34, 3) := by decide +kernel
theorem dL_rows_574 : decode cL_rows 574 = .ok (.iload 9, 2) := by decide +kernel
theorem dL_rows_576 : decode cL_rows 576 = .ok (.ifCond .ne 29, 3) := by decide +kernel
theorem dL_rows_579 : decode cL_rows 579 = .ok (.iload_n 2, 1) := by decide +kernel
theorem dL_rows_580 : decode cL_rows 580 = .ok (.bipush 7, 2) := by decide +kernel
theorem dL_rows_582 : decode cL_rows 582 = .ok (.if_icmp .ne 12, 3) := by decide +kernel
theorem dL_rows_585 : decode cL_rows 585 = .ok (.aload_n 0, 1) := by decide +kernel
theorem dL_rows_586 : decode cL_rows 586 = .ok (.iload 4, 2) := by decide +kernel
theorem dL_rows_588 : decode cL_rows 588 = .ok (.invokevirtual 22, 3) := by decide +kernel
theorem dL_rows_591 : decode cL_rows 591 = .ok (.goto 9, 3) := by decide +kernel
theorem dL_rows_594 : decode cL_rows 594 = .ok (.aload_n 0, 1) := by decide +kernel
theorem dL_rows_595 : decode cL_rows 595 = .ok (.iload 4, 2) := by decide +kernel
theorem dL_rows_597 : decode cL_rows 597 = .ok (.invokevirtual 25, 3) := by decide +kernel
theorem dL_rows_600 : decode cL_rows 600 = .ok (.iload 7, 2) := by decide +kernel
theorem dL_rows_602 : decode cL_rows 602 = .ok (.if_icmp .ne 7, 3) := by decide +kernel
theorem dL_rows_605 : decode cL_rows 605 = .ok (.iconst 1, 1) := by decide +kernel
theorem dL_rows_606 : decode cL_rows 606 = .ok (.goto 4, 3) := by decide +kernel
theorem dL_rows_609 : decode cL_rows 609 = .ok (.iconst 0, 1) := by decide +kernel
theorem dL_rows_610 : decode cL_rows 610 = .ok (.ireturn, 1) := by decide +kernel
theorem dL_acts_0 : decode cL_acts 0 = .ok (.iload_n 2, 1) := by decide +kernel
theorem dL_acts_1 : decode cL_acts 1 = .ok (.bipush 18, 2) := by decide +kernel
theorem dL_acts_3 : decode cL_acts 3 = .ok (.invokestatic 71, 3) := by decide +kernel
theorem dL_acts_6 : decode cL_acts 6 = .ok (.istore 4, 2) := by decide +kernel
theorem dL_acts_8 : decode cL_acts 8 = .ok (.aload_n 1, 1) := by decide +kernel
theorem dL_acts_9 : decode cL_acts 9 = .ok (.iconst 0, 1) := by decide +kernel
theorem dL_acts_10 : decode cL_acts 10 = .ok (.iconst (-1), 1) := by decide +kernel
theorem dL_acts_11 : decode cL_acts 11 = .ok (.iastore, 1) := by decide +kernel
theorem dL_acts_12 : decode cL_acts 12 = .ok (.iload 4, 2) := by decide +kernel
theorem dL_acts_14 : decode cL_acts 14 = .ok (.bipush 10, 2) := by decide +kernel
theorem dL_acts_16 : decode cL_acts 16 = .ok (.if_icmp .ge 47, 3) := by decide +kernel
theorem dL_acts_19 : decode cL_acts 19 = .ok (.aload_n 0, 1) := by decide +kernel
theorem dL_acts_20 : decode cL_acts 20 = .ok (.aload_n 1, 1) := by decide +kernel
theorem dL_acts_21 : decode cL_acts 21 = .ok (.iload 4, 2) := by decide +kernel
theorem dL_acts_23 : decode cL_acts 23 = .ok (.bipush 6, 2) := by decide +kernel
theorem dL_acts_25 : decode cL_acts 25 = .ok (.if_icmp .ge 7, 3) := by decide +kernel
theorem dL_acts_28 : decode cL_acts 28 = .ok (.iconst 0, 1) := by decide +kernel
theorem dL_acts_29 : decode cL_acts 29 = .ok (.goto 29, 3) := by decide +kernel
theorem dL_acts_32 : decode cL_acts 32 = .ok (.iload 4, 2) := by decide +kernel
theorem dL_acts_34 : decode cL_acts 34 = .ok (.bipush 6, 2) := by decide +kernel
theorem dL_acts_36 : decode cL_acts 36 = .ok (.if_icmp .ne 8, 3) := by decide +kernel
theorem dL_acts_39 : decode cL_acts 39 = .ok (.bipush 6, 2) := by decide +kernel
theorem dL_acts_41 : decode cL_acts 41 = .ok (.goto 17, 3) := by decide +kernel
theorem dL_acts_44 : decode cL_acts 44 = .ok (.iload 4, 2) := by decide +kernel
theorem dL_acts_46 : decode cL_acts 46 = .ok (.bipush 9, 2) := by decide +kernel
theorem dL_acts_48 : decode cL_acts 48 = .ok (.if_icmp .ge 8, 3) := by decide +kernel
theorem dL_acts_51 : decode cL_acts 51 = .ok (.bipush 7, 2) := by decide +kernel
theorem dL_acts_53 : decode cL_acts 53 = .ok (.goto 5, 3) := by decide +kernel
theorem dL_acts_56 : decode cL_acts 56 = .ok (.bipush 8, 2) := by decide +kernel
theorem dL_acts_58 : decode cL_acts 58 = .ok (.iload_n 3, 1) := by decide +kernel
theorem dL_acts_59 : decode cL_acts 59 = .ok (.invokestatic 125, 3) := by decide +kernel
theorem dL_acts_62 : decode cL_acts 62 = .ok (.ireturn, 1) := by decide +kernel
theorem dL_acts_63 : decode cL_acts 63 = .ok (.iload 4, 2) := by decide +kernel
theorem dL_acts_65 : decode cL_acts 65 = .ok (.bipush 12, 2) := by decide +kernel
theorem dL_acts_67 : decode cL_acts 67 = .ok (.if_icmp .ge 245, 3) := by decide +kernel
theorem dL_acts_70 : decode cL_acts 70 = .ok (.iload_n 3, 1) := by decide +kernel
theorem dL_acts_71 : decode cL_acts 71 = .ok (.bipush 17, 2) := by decide +kernel
theorem dL_acts_73 : decode cL_acts 73 = .ok (.invokestatic 71, 3) := by decide +kernel
theorem dL_acts_76 : decode cL_acts 76 = .ok (.istore 5, 2) := by decide +kernel
theorem dL_acts_78 : decode cL_acts 78 = .ok (.iload_n 3, 1) := by decide +kernel
theorem dL_acts_79 : decode cL_acts 79 = .ok (.iconst 5, 1) := by decide +kernel
theorem dL_acts_80 : decode cL_acts 80 = .ok (.ishr, 1) := by decide +kernel
theorem dL_acts_81 : decode cL_acts 81 = .ok (.iconst 3, 1) := by decide +kernel
theorem dL_acts_82 : decode cL_acts 82 = .ok (.invokestatic 71, 3) := by decide +kernel
theorem dL_acts_85 : decode cL_acts 85 = .ok (.ifCond .le 7, 3) := by decide +kernel
theorem dL_acts_88 : decode cL_acts 88 = .ok (.iconst 1, 1) := by decide +kernel
theorem dL_acts_89 : decode cL_acts 89 = .ok (.goto 4, 3) := by decide +kernel
theorem dL_acts_92 : decode cL_acts 92 = .ok (.iconst 0, 1) := by decide +kernel
theorem dL_acts_93 : decode cL_acts 93 = .ok (.istore 6, 2) := by decide +kernel
theorem dL_acts_95 : decode cL_acts 95 = .ok (.iload 5, 2) := by decide +kernel
theorem dL_acts_97 : decode cL_acts 97 = .ok (.bipush 16, 2) := by decide +kernel
theorem dL_acts_99 : decode cL_acts 99 = .ok (.if_icmp .ge 20, 3) := by decide +kernel
theorem dL_acts_102 : decode cL_acts 102 = .ok (.aload_n 0, 1) := by decide +kernel
theorem dL_acts_103 : decode cL_acts 103 = .ok (.invokevirtual 58, 3) := by decide +kernel
theorem dL_acts_106 : decode cL_acts 106 = .ok (.iload 5, 2) := by decide +kernel
theorem dL_acts_108 : decode cL_acts 108 = .ok (.ishr, 1) := by decide +kernel
theorem dL_acts_109 : decode cL_acts 109 = .ok (.iconst 1, 1) := by decide +kernel
theorem dL_acts_110 : decode cL_acts 110 = .ok (.iand, 1) := by decide +kernel
theorem dL_acts_111 : decode cL_acts 111 = .ok (.iconst 1, 1) := by decide +kernel
theorem dL_acts_112 : decode cL_acts 112 = .ok (.if_icmp .ne 7, 3) := by decide +kernel
theorem dL_acts_115 : decode cL_acts 115 = .ok (.iconst 1, 1) := by decide +kernel
theorem dL_acts_116 : decode cL_acts 116 = .ok (.goto 4, 3) := by decide +kernel
theorem dL_acts_119 : decode cL_acts 119 = .ok (.iconst 0, 1) := by decide +kernel
theorem dL_acts_120 : decode cL_acts 120 = .ok (.istore 7, 2) := by decide +kernel
theorem dL_acts_122 : decode cL_acts 122 = .ok (.iload 7, 2) := by decide +kernel
theorem dL_acts_124 : decode cL_acts 124 = .ok (.ifCond .eq 20, 3) := by decide +kernel
theorem dL_acts_127 : decode cL_acts 127 = .ok (.aload_n 0, 1) := by decide +kernel
theorem dL_acts_128 : decode cL_acts 128 = .ok (.invokevirtual 32, 3) := by decide +kernel
theorem dL_acts_131 : decode cL_acts 131 = .ok (.iload 5, 2) := by decide +kernel
theorem dL_acts_133 : decode cL_acts 133 = .ok (.ishr, 1) := by decide +kernel
theorem dL_acts_134 : decode cL_acts 134 = .ok (.iconst 1, 1) := by decide +kernel
theorem dL_acts_135 : decode cL_acts 135 = .ok (.iand, 1) := by decide +kernel
theorem dL_acts_136 : decode cL_acts 136 = .ok (.iconst 1, 1) := by decide +kernel
theorem dL_acts_137 : decode cL_acts 137 = .ok (.if_icmp .ne 7, 3) := by decide +kernel
theorem dL_acts_140 : decode cL_acts 140 = .ok (.iconst 1, 1) := by decide +kernel
theorem dL_acts_141 : decode cL_acts 141 = .ok (.goto 4, 3) := by decide +kernel
theorem dL_acts_144 : decode cL_acts 144 = .ok (.iconst 0, 1) := by decide +kernel
theorem dL_acts_145 : decode cL_acts 145 = .ok (.istore 8, 2) := by decide +kernel
theorem dL_acts_147 : decode cL_acts 147 = .ok (.iconst 0, 1) := by decide +kernel
theorem dL_acts_148 : decode cL_acts 148 = .ok (.istore 9, 2) := by decide +kernel
theorem dL_acts_150 : decode cL_acts 150 = .ok (.iconst 0, 1) := by decide +kernel
theorem dL_acts_151 : decode cL_acts 151 = .ok (.istore 10, 2) := by decide +kernel
theorem dL_acts_153 : decode cL_acts 153 = .ok (.iload 10, 2) := by decide +kernel
theorem dL_acts_155 : decode cL_acts 155 = .ok (.aload_n 0, 1) := by decide +kernel
theorem dL_acts_156 : decode cL_acts 156 = .ok (.invokevirtual 42, 3) := by decide +kernel
theorem dL_acts_159 : decode cL_acts 159 = .ok (.if_icmp .ge 30, 3) := by decide +kernel
theorem dL_acts_162 : decode cL_acts 162 = .ok (.iload 9, 2) := by decide +kernel
theorem dL_acts_164 : decode cL_acts 164 = .ok (.aload_n 0, 1) := by decide +kernel
theorem dL_acts_165 : decode cL_acts 165 = .ok (.iload 10, 2) := by decide +kernel
theorem dL_acts_167 : decode cL_acts 167 = .ok (.invokevirtual 54, 3) := by decide +kernel
theorem dL_acts_170 : decode cL_acts 170 = .ok (.lconst 0, 1) := by decide +kernel
theorem dL_acts_171 : decode cL_acts 171 = .ok (.lcmp, 1) := by decide +kernel
theorem dL_acts_172 : decode cL_acts 172 = .ok (.ifCond .le 7, 3) := by decide +kernel
theorem dL_acts_175 : decode cL_acts 175 = .ok (.iconst 1, 1) := by decide +kernel
theorem dL_acts_176 : decode cL_acts 176 = .ok (.goto 4, 3) := by decide +kernel
theorem dL_acts_179 : decode cL_acts 179 = .ok (.iconst 0, 1) := by decide +kernel
theorem dL_acts_180 : decode cL_acts 180 = .ok (.iadd, 1) := by decide +kernel
theorem dL_acts_181 : decode cL_acts 181 = .ok (.istore 9, 2) := by decide +kernel
theorem dL_acts_183 : decode cL_acts 183 = .ok (.iinc 10 1, 3) := by decide +kernel
theorem dL_acts_186 : decode cL_acts 186 = .ok (.goto (-33), 3) := by decide +kernel
theorem dL_acts_189 : decode cL_acts 189 = .ok (.iload 7, 2) := by decide +kernel
theorem dL_acts_191 : decode cL_acts 191 = .ok (.ifCond .eq 14, 3) := by decide +kernel
theorem dL_acts_194 : decode cL_acts 194 = .ok (.aload_n 0, 1) := by decide +kernel
theorem dL_acts_195 : decode cL_acts 195 = .ok (.iconst 1, 1) := by decide +kernel
theorem dL_acts_196 : decode cL_acts 196 = .ok (.iload 5, 2) := by decide +kernel
theorem dL_acts_198 : decode cL_acts 198 = .ok (.ishl, 1) := by decide +kernel
theorem dL_acts_199 : decode cL_acts 199 = .ok (.invokevirtual 129, 3) := by decide +kernel
theorem dL_acts_202 : decode cL_acts 202 = .ok (.goto 4, 3) := by decide +kernel
theorem dL_acts_205 : decode cL_acts 205 = .ok (.iconst 0, 1) := by decide +kernel
theorem dL_acts_206 : decode cL_acts 206 = .ok (.istore 10, 2) := by decide +kernel
theorem dL_acts_208 : decode cL_acts 208 = .ok (.aload_n 0, 1) := by decide +kernel
theorem dL_acts_209 : decode cL_acts 209 = .ok (.iload 5, 2) := by decide +kernel
theorem dL_acts_211 : decode cL_acts 211 = .ok (.iload 6, 2) := by decide +kernel
theorem dL_acts_213 : decode cL_acts 213 = .ok (.invokevirtual 132, 3) := by decide +kernel
theorem dL_acts_216 : decode cL_acts 216 = .ok (.istore 11, 2) := by decide +kernel
theorem dL_acts_218 : decode cL_acts 218 = .ok (.aload_n 1, 1) := by decide +kernel
theorem dL_acts_219 : decode cL_acts 219 = .ok (.iconst 0, 1) := by decide +kernel
theorem dL_acts_220 : decode cL_acts 220 = .ok (.iload 11, 2) := by decide +kernel
theorem dL_acts_222 : decode cL_acts 222 = .ok (.iastore, 1) := by decide +kernel
theorem dL_acts_223 : decode cL_acts 223 = .ok (.iload 7, 2) := by decide +kernel
theorem dL_acts_225 : decode cL_acts 225 = .ok (.ifCond .ne 17, 3) := by decide +kernel
theorem dL_acts_228 : decode cL_acts 228 = .ok (.iload 11, 2) := by decide +kernel
theorem dL_acts_230 : decode cL_acts 230 = .ok (.iconst (-1), 1) := by decide +kernel
theorem dL_acts_231 : decode cL_acts 231 = .ok (.if_icmp .ne 7, 3) := by decide +kernel
theorem dL_acts_234 : decode cL_acts 234 = .ok (.iconst 1, 1) := by decide +kernel
theorem dL_acts_235 : decode cL_acts 235 = .ok (.goto 76, 3) := by decide +kernel
theorem dL_acts_238 : decode cL_acts 238 = .ok (.iconst 0, 1) := by decide +kernel
theorem dL_acts_239 : decode cL_acts 239 = .ok (.goto 72, 3) := by decide +kernel
theorem dL_acts_242 : decode cL_acts 242 = .ok (.iload 6, 2) := by decide +kernel
theorem dL_acts_244 : decode cL_acts 244 = .ok (.ifCond .eq 16, 3) := by decide +kernel
theorem dL_acts_247 : decode cL_acts 247 = .ok (.iload 11, 2) := by decide +kernel
theorem dL_acts_249 : decode cL_acts 249 = .ok (.iload 9, 2) := by decide +kernel
theorem dL_acts_251 : decode cL_acts 251 = .ok (.iload 10, 2) := by decide +kernel
theorem dL_acts_253 : decode cL_acts 253 = .ok (.isub, 1) := by decide +kernel
theorem dL_acts_254 : decode cL_acts 254 = .ok (.if_icmp .ne 56, 3) := by decide +kernel
theorem dL_acts_257 : decode cL_acts 257 = .ok (.goto 10, 3) := by decide +kernel
theorem dL_acts_260 : decode cL_acts 260 = .ok (.iload 11, 2) := by decide +kernel
theorem dL_acts_262 : decode cL_acts 262 = .ok (.iload 9, 2) := by decide +kernel
theorem dL_acts_264 : decode cL_acts 264 = .ok (.if_icmp .lt 46, 3) := by decide +kernel
theorem dL_acts_267 : decode cL_acts 267 = .ok (.aload_n 0, 1) := by decide +kernel
theorem dL_acts_268 : decode cL_acts 268 = .ok (.invokevirtual 32, 3) := by decide +kernel
theorem dL_acts_271 : decode cL_acts 271 = .ok (.iload 5, 2) := by decide +kernel
theorem dL_acts_273 : decode cL_acts 273 = .ok (.ishr, 1) := by decide +kernel
theorem dL_acts_274 : decode cL_acts 274 = .ok (.iconst 1, 1) := by decide +kernel
theorem dL_acts_275 : decode cL_acts 275 = .ok (.iand, 1) := by decide +kernel
theorem dL_acts_276 : decode cL_acts 276 = .ok (.iload 6, 2) := by decide +kernel
theorem dL_acts_278 : decode cL_acts 278 = .ok (.ifCond .eq 7, 3) := by decide +kernel
theorem dL_acts_281 : decode cL_acts 281 = .ok (.iconst 1, 1) := by decide +kernel
theorem dL_acts_282 : decode cL_acts 282 = .ok (.goto 4, 3) := by decide +kernel
theorem dL_acts_285 : decode cL_acts 285 = .ok (.iconst 0, 1) := by decide +kernel
theorem dL_acts_286 : decode cL_acts 286 = .ok (.if_icmp .ne 24, 3) := by decide +kernel
theorem dL_acts_289 : decode cL_acts 289 = .ok (.iload 8, 2) := by decide +kernel
theorem dL_acts_291 : decode cL_acts 291 = .ok (.ifCond .eq 15, 3) := by decide +kernel
theorem dL_acts_294 : decode cL_acts 294 = .ok (.iload 6, 2) := by decide +kernel
theorem dL_acts_296 : decode cL_acts 296 = .ok (.ifCond .eq 10, 3) := by decide +kernel
theorem dL_acts_299 : decode cL_acts 299 = .ok (.iload 11, 2) := by decide +kernel
theorem dL_acts_301 : decode cL_acts 301 = .ok (.iload 9, 2) := by decide +kernel
theorem dL_acts_303 : decode cL_acts 303 = .ok (.if_icmp .ne 7, 3) := by decide +kernel
theorem dL_acts_306 : decode cL_acts 306 = .ok (.iconst 1, 1) := by decide +kernel
theorem dL_acts_307 : decode cL_acts 307 = .ok (.goto 4, 3) := by decide +kernel
theorem dL_acts_310 : decode cL_acts 310 = .ok (.iconst 0, 1) := by decide +kernel
theorem dL_acts_311 : decode cL_acts 311 = .ok (.ireturn, 1) := by decide +kernel
theorem dL_acts_312 : decode cL_acts 312 = .ok (.iload 4, 2) := by decide +kernel
theorem dL_acts_314 : decode cL_acts 314 = .ok (.bipush 16, 2) := by decide +kernel
theorem dL_acts_316 : decode cL_acts 316 = .ok (.if_icmp .ge 10, 3) := by decide +kernel
theorem dL_acts_319 : decode cL_acts 319 = .ok (.aload_n 0, 1) := by decide +kernel
theorem dL_acts_320 : decode cL_acts 320 = .ok (.aload_n 1, 1) := by decide +kernel
theorem dL_acts_321 : decode cL_acts 321 = .ok (.iload_n 3, 1) := by decide +kernel
theorem dL_acts_322 : decode cL_acts 322 = .ok (.invokestatic 136, 3) := by decide +kernel
theorem dL_acts_325 : decode cL_acts 325 = .ok (.ireturn, 1) := by decide +kernel
theorem dL_acts_326 : decode cL_acts 326 = .ok (.iload 4, 2) := by decide +kernel
theorem dL_acts_328 : decode cL_acts 328 = .ok (.bipush 16, 2) := by decide +kernel
theorem dL_acts_330 : decode cL_acts 330 = .ok (.if_icmp .ne 88, 3) := by decide +kernel
theorem dL_acts_333 : decode cL_acts 333 = .ok (.aload_n 0, 1) := by decide +kernel
theorem dL_acts_334 : decode cL_acts 334 = .ok (.invokevirtual 42, 3) := by decide +kernel
theorem dL_acts_337 : decode cL_acts 337 = .ok (.istore 5, 2) := by decide +kernel
theorem dL_acts_339 : decode cL_acts 339 = .ok (.aload_n 0, 1) := by decide +kernel
theorem dL_acts_340 : decode cL_acts 340 = .ok (.invokevirtual 36, 3) := by decide +kernel
theorem dL_acts_343 : decode cL_acts 343 = .ok (.ifCond .le 7, 3) := by decide +kernel
theorem dL_acts_346 : decode cL_acts 346 = .ok (.iconst 1, 1) := by decide +kernel
theorem dL_acts_347 : decode cL_acts 347 = .ok (.goto 4, 3) := by decide +kernel
theorem dL_acts_350 : decode cL_acts 350 = .ok (.iconst 0, 1) := by decide +kernel
theorem dL_acts_351 : decode cL_acts 351 = .ok (.istore 6, 2) := by decide +kernel
theorem dL_acts_353 : decode cL_acts 353 = .ok (.aload_n 1, 1) := by decide +kernel
theorem dL_acts_354 : decode cL_acts 354 = .ok (.iconst 0, 1) := by decide +kernel
theorem dL_acts_355 : decode cL_acts 355 = .ok (.iload_n 3, 1) := by decide +kernel
theorem dL_acts_356 : decode cL_acts 356 = .ok (.iconst 3, 1) := by decide +kernel
theorem dL_acts_357 : decode cL_acts 357 = .ok (.invokestatic 71, 3) := by decide +kernel
theorem dL_acts_360 : decode cL_acts 360 = .ok (.ifCond .le 7, 3) := by decide +kernel
theorem dL_acts_363 : decode cL_acts 363 = .ok (.iconst (-1), 1) := by decide +kernel
theorem dL_acts_364 : decode cL_acts 364 = .ok (.goto 7, 3) := by decide +kernel
theorem dL_acts_367 : decode cL_acts 367 = .ok (.aload_n 0, 1) := by decide +kernel
theorem dL_acts_368 : decode cL_acts 368 = .ok (.invokevirtual 140, 3) := by decide +kernel
theorem dL_acts_371 : decode cL_acts 371 = .ok (.iastore, 1) := by decide +kernel
theorem dL_acts_372 : decode cL_acts 372 = .ok (.iload_n 3, 1) := by decide +kernel
theorem dL_acts_373 : decode cL_acts 373 = .ok (.iconst 3, 1) := by decide +kernel
theorem dL_acts_374 : decode cL_acts 374 = .ok (.invokestatic 71, 3) := by decide +kernel
theorem dL_acts_377 : decode cL_acts 377 = .ok (.ifCond .gt 35, 3) := by decide +kernel
theorem dL_acts_380 : decode cL_acts 380 = .ok (.aload_n 1, 1) := by decide +kernel
theorem dL_acts_381 : decode cL_acts 381 = .ok (.iconst 0, 1) := by decide +kernel
theorem dL_acts_382 : decode cL_acts 382 = .ok (.iaload, 1) := by decide +kernel
theorem dL_acts_383 : decode cL_acts 383 = .ok (.iload 6, 2) := by decide +kernel
theorem dL_acts_385 : decode cL_acts 385 = .ok (.ifCond .eq 8, 3) := by decide +kernel
theorem dL_acts_388 : decode cL_acts 388 = .ok (.iload 5, 2) := by decide +kernel
theorem dL_acts_390 : decode cL_acts 390 = .ok (.goto 5, 3) := by decide +kernel
theorem dL_acts_393 : decode cL_acts 393 = .ok (.bipush (-5), 2) := by decide +kernel
theorem dL_acts_395 : decode cL_acts 395 = .ok (.if_icmp .ne 21, 3) := by decide +kernel
theorem dL_acts_398 : decode cL_acts 398 = .ok (.aload_n 0, 1) := by decide +kernel
theorem dL_acts_399 : decode cL_acts 399 = .ok (.invokevirtual 36, 3) := by decide +kernel
theorem dL_acts_402 : decode cL_acts 402 = .ok (.ifCond .ne 14, 3) := by decide +kernel
theorem dL_acts_405 : decode cL_acts 405 = .ok (.aload_n 0, 1) := by decide +kernel
theorem dL_acts_406 : decode cL_acts 406 = .ok (.invokevirtual 45, 3) := by decide +kernel
theorem dL_acts_409 : decode cL_acts 409 = .ok (.ifCond .ne 7, 3) := by decide +kernel
theorem dL_acts_412 : decode cL_acts 412 = .ok (.iconst 1, 1) := by decide +kernel
theorem dL_acts_413 : decode cL_acts 413 = .ok (.goto 4, 3) := by decide +kernel
theorem dL_acts_416 : decode cL_acts 416 = .ok (.iconst 0, 1) := by decide +kernel
theorem dL_acts_417 : decode cL_acts 417 = .ok (.ireturn, 1) := by decide +kernel
theorem dL_acts_418 : decode cL_acts 418 = .ok (.iload_n 3, 1) := by decide +kernel
theorem dL_acts_419 : decode cL_acts 419 = .ok (.iconst 5, 1) := by decide +kernel
theorem dL_acts_420 : decode cL_acts 420 = .ok (.invokestatic 71, 3) := by decide +kernel
theorem dL_acts_423 : decode cL_acts 423 = .ok (.istore 5, 2) := by decide +kernel
theorem dL_acts_425 : decode cL_acts 425 = .ok (.iload_n 3, 1) := by decide +kernel
theorem dL_acts_426 : decode cL_acts 426 = .ok (.iconst 3, 1) := by decide +kernel
theorem dL_acts_427 : decode cL_acts 427 = .ok (.ishr, 1) := by decide +kernel
theorem dL_acts_428 : decode cL_acts 428 = .ok (.iconst 5, 1) := by decide +kernel
theorem dL_acts_429 : decode cL_acts 429 = .ok (.invokestatic 71, 3) := by decide +kernel
theorem dL_acts_432 : decode cL_acts 432 = .ok (.istore 6, 2) := by decide +kernel
theorem dL_acts_434 : decode cL_acts 434 = .ok (.iconst 1, 1) := by decide +kernel
theorem dL_acts_435 : decode cL_acts 435 = .ok (.istore 7, 2) := by decide +kernel
theorem dL_acts_437 : decode cL_acts 437 = .ok (.iconst 0, 1) := by decide +kernel
theorem dL_acts_438 : decode cL_acts 438 = .ok (.istore 8, 2) := by decide +kernel
theorem dL_acts_440 : decode cL_acts 440 = .ok (.iload 8, 2) := by decide +kernel
theorem dL_acts_442 : decode cL_acts 442 = .ok (.bipush 16, 2) := by decide +kernel
theorem dL_acts_444 : decode cL_acts 444 = .ok (.if_icmp .ge 32, 3) := by decide +kernel
theorem dL_acts_447 : decode cL_acts 447 = .ok (.iload 7, 2) := by decide +kernel
theorem dL_acts_449 : decode cL_acts 449 = .ok (.ifCond .eq 18, 3) := by decide +kernel
theorem dL_acts_452 : decode cL_acts 452 = .ok (.aload_n 0, 1) := by decide +kernel
theorem dL_acts_453 : decode cL_acts 453 = .ok (.iload 8, 2) := by decide +kernel
theorem dL_acts_455 : decode cL_acts 455 = .ok (.invokevirtual 19, 3) := by decide +kernel
theorem dL_acts_458 : decode cL_acts 458 = .ok (.iload 5, 2) := by decide +kernel
theorem dL_acts_460 : decode cL_acts 460 = .ok (.if_icmp .eq 7, 3) := by decide +kernel
theorem dL_acts_463 : decode cL_acts 463 = .ok (.iconst 1, 1) := by decide +kernel
theorem dL_acts_464 : decode cL_acts 464 = .ok (.goto 4, 3) := by decide +kernel
theorem dL_acts_467 : decode cL_acts 467 = .ok (.iconst 0, 1) := by decide +kernel
theorem dL_acts_468 : decode cL_acts 468 = .ok (.istore 7, 2) := by decide +kernel
theorem dL_acts_470 : decode cL_acts 470 = .ok (.iinc 8 1, 3) := by decide +kernel
theorem dL_acts_473 : decode cL_acts 473 = .ok (.goto (-33), 3) := by decide +kernel
theorem dL_acts_476 : decode cL_acts 476 = .ok (.iconst 0, 1) := by decide +kernel
theorem dL_acts_477 : decode cL_acts 477 = .ok (.istore 8, 2) := by decide +kernel
theorem dL_acts_479 : decode cL_acts 479 = .ok (.iload 8, 2) := by decide +kernel
theorem dL_acts_481 : decode cL_acts 481 = .ok (.aload_n 0, 1) := by decide +kernel
theorem dL_acts_482 : decode cL_acts 482 = .ok (.invokevirtual 36, 3) := by decide +kernel
theorem dL_acts_485 : decode cL_acts 485 = .ok (.if_icmp .ge 35, 3) := by decide +kernel
theorem dL_acts_488 : decode cL_acts 488 = .ok (.iload 7, 2) := by decide +kernel
theorem dL_acts_490 : decode cL_acts 490 = .ok (.ifCond .eq 21, 3) := by decide +kernel
theorem dL_acts_493 : decode cL_acts 493 = .ok (.aload_n 0, 1) := by decide +kernel
theorem dL_acts_494 : decode cL_acts 494 = .ok (.iload 8, 2) := by decide +kernel
theorem dL_acts_496 : decode cL_acts 496 = .ok (.invokevirtual 39, 3) := by decide +kernel
theorem dL_acts_499 : decode cL_acts 499 = .ok (.bipush 65, 2) := by decide +kernel
theorem dL_acts_501 : decode cL_acts 501 = .ok (.iload 5, 2) := by decide +kernel
theorem dL_acts_503 : decode cL_acts 503 = .ok (.iadd, 1) := by decide +kernel
theorem dL_acts_504 : decode cL_acts 504 = .ok (.if_icmp .eq 7, 3) := by decide +kernel
theorem dL_acts_507 : decode cL_acts 507 = .ok (.iconst 1, 1) := by decide +kernel
theorem dL_acts_508 : decode cL_acts 508 = .ok (.goto 4, 3) := by decide +kernel
theorem dL_acts_511 : decode cL_acts 511 = .ok (.iconst 0, 1) := by decide +kernel
theorem dL_acts_512 : decode cL_acts 512 = .ok (.istore 7, 2) := by decide +kernel
theorem dL_acts_514 : decode cL_acts 514 = .ok (.iinc 8 1, 3) := by decide +kernel
theorem dL_acts_517 : decode cL_acts 517 = .ok (.goto (-38), 3) := by decide +kernel
theorem dL_acts_520 : decode cL_acts 520 = .ok (.iload 6, 2) := by decide +kernel
theorem dL_acts_522 : decode cL_acts 522 = .ok (.ifCond .eq 9, 3) := by decide +kernel
theorem dL_acts_525 : decode cL_acts 525 = .ok (.iload 6, 2) := by decide +kernel
theorem dL_acts_527 : decode cL_acts 527 = .ok (.iconst 4, 1) := by decide +kernel
theorem dL_acts_528 : decode cL_acts 528 = .ok (.if_icmp .ne 7, 3) := by decide +kernel
theorem dL_acts_531 : decode cL_acts 531 = .ok (.iconst 1, 1) := by decide +kernel
theorem dL_acts_532 : decode cL_acts 532 = .ok (.goto 4, 3) := by decide +kernel
theorem dL_acts_535 : decode cL_acts 535 = .ok (.iconst 0, 1) := by decide +kernel
theorem dL_acts_536 : decode cL_acts 536 = .ok (.istore 8, 2) := by decide +kernel
theorem dL_acts_538 : decode cL_acts 538 = .ok (.aload_n 0, 1) := by decide +kernel
theorem dL_acts_539 : decode cL_acts 539 = .ok (.iload 5, 2) := by decide +kernel
theorem dL_acts_541 : decode cL_acts 541 = .ok (.invokevirtual 13, 3) := by decide +kernel
theorem dL_acts_544 : decode cL_acts 544 = .ok (.istore 9, 2) := by decide +kernel
theorem dL_acts_546 : decode cL_acts 546 = .ok (.aload_n 1, 1) := by decide +kernel
theorem dL_acts_547 : decode cL_acts 547 = .ok (.iconst 0, 1) := by decide +kernel
theorem dL_acts_548 : decode cL_acts 548 = .ok (.aload_n 0, 1) := by decide +kernel
theorem dL_acts_549 : decode cL_acts 549 = .ok (.iload 5, 2) := by decide +kernel
theorem dL_acts_551 : decode cL_acts 551 = .ok (.iload 6, 2) := by decide +kernel
theorem dL_acts_553 : decode cL_acts 553 = .ok (.invokevirtual 143, 3) := by decide +kernel
theorem dL_acts_556 : decode cL_acts 556 = .ok (.iastore, 1) := by decide +kernel
theorem dL_acts_557 : decode cL_acts 557 = .ok (.aload_n 1, 1) := by decide +kernel
theorem dL_acts_558 : decode cL_acts 558 = .ok (.iconst 0, 1) := by decide +kernel
theorem dL_acts_559 : decode cL_acts 559 = .ok (.iaload, 1) := by decide +kernel
theorem dL_acts_560 : decode cL_acts 560 = .ok (.iload 5, 2) := by decide +kernel
theorem dL_acts_562 : decode cL_acts 562 = .ok (.iconst 4, 1) := by decide +kernel
theorem dL_acts_563 : decode cL_acts 563 = .ok (.if_icmp .ne 7, 3) := by decide +kernel
theorem dL_acts_566 : decode cL_acts 566 = .ok (.iconst (-1), 1) := by decide +kernel
theorem dL_acts_567 : decode cL_acts 567 = .ok (.goto 25, 3) := by decide +kernel
theorem dL_acts_570 : decode cL_acts 570 = .ok (.iload 8, 2) := by decide +kernel
theorem dL_acts_572 : decode cL_acts 572 = .ok (.ifCond .eq 8, 3) := by decide +kernel
theorem dL_acts_575 : decode cL_acts 575 = .ok (.bipush (-2), 2) := by decide +kernel
theorem dL_acts_577 : decode cL_acts 577 = .ok (.goto 15, 3) := by decide +kernel
theorem dL_acts_580 : decode cL_acts 580 = .ok (.iload 7, 2) := by decide +kernel
theorem dL_acts_582 : decode cL_acts 582 = .ok (.ifCond .eq 8, 3) := by decide +kernel
theorem dL_acts_585 : decode cL_acts 585 = .ok (.iload 9, 2) := by decide +kernel
theorem dL_acts_587 : decode cL_acts 587 = .ok (.goto 5, 3) := by decide +kernel
theorem dL_acts_590 : decode cL_acts 590 = .ok (.bipush (-5), 2) := by decide +kernel
theorem dL_acts_592 : decode cL_acts 592 = .ok (.if_icmp .ne 43, 3) := by decide +kernel
theorem dL_acts_595 : decode cL_acts 595 = .ok (.aload_n 0, 1) := by decide +kernel
theorem dL_acts_596 : decode cL_acts 596 = .ok (.iload 5, 2) := by decide +kernel
theorem dL_acts_598 : decode cL_acts 598 = .ok (.invokevirtual 13, 3) := by decide +kernel
theorem dL_acts_601 : decode cL_acts 601 = .ok (.iload 5, 2) := by decide +kernel
theorem dL_acts_603 : decode cL_acts 603 = .ok (.iconst 4, 1) := by decide +kernel
theorem dL_acts_604 : decode cL_acts 604 = .ok (.if_icmp .ne 7, 3) := by decide +kernel
theorem dL_acts_607 : decode cL_acts 607 = .ok (.iconst (-1), 1) := by decide +kernel
theorem dL_acts_608 : decode cL_acts 608 = .ok (.goto 20, 3) := by decide +kernel
theorem dL_acts_611 : decode cL_acts 611 = .ok (.iload 8, 2) := by decide +kernel
theorem dL_acts_613 : decode cL_acts 613 = .ok (.ifCond .ne 8, 3) := by decide +kernel
theorem dL_acts_616 : decode cL_acts 616 = .ok (.iload 7, 2) := by decide +kernel
theorem dL_acts_618 : decode cL_acts 618 = .ok (.ifCond .ne 8, 3) := by decide +kernel
theorem dL_acts_621 : decode cL_acts 621 = .ok (.iload 9, 2) := by decide +kernel
theorem dL_acts_623 : decode cL_acts 623 = .ok (.goto 5, 3) := by decide +kernel
theorem dL_acts_626 : decode cL_acts 626 = .ok (.iload 6, 2) := by decide +kernel
theorem dL_acts_628 : decode cL_acts 628 = .ok (.if_icmp .ne 7, 3) := by decide +kernel
theorem dL_acts_631 : decode cL_acts 631 = .ok (.iconst 1, 1) := by decide +kernel
theorem dL_acts_632 : decode cL_acts 632 = .ok (.goto 4, 3) := by decide +kernel
theorem dL_acts_635 : decode cL_acts 635 = .ok (.iconst 0, 1) := by decide +kernel
theorem dL_acts_636 : decode cL_acts 636 = .ok (.ireturn, 1) := by decide +kernel
theorem dL_law_0 : decode cL_law 0 = .ok (.new 14, 3) := by decide +kernel
theorem dL_law_3 : decode cL_law 3 = .ok (.dup, 1) := by decide +kernel
theorem dL_law_4 : decode cL_law 4 = .ok (.invokespecial 146, 3) := by decide +kernel
theorem dL_law_7 : decode cL_law 7 = .ok (.astore_n 1, 1) := by decide +kernel
theorem dL_law_8 : decode cL_law 8 = .ok (.iconst 1, 1) := by decide +kernel
theorem dL_law_9 : decode cL_law 9 = .ok (.newarray .int, 2) := by decide +kernel
theorem dL_law_11 : decode cL_law 11 = .ok (.astore_n 2, 1) := by decide +kernel
theorem dL_law_12 : decode cL_law 12 = .ok (.aload_n 1, 1) := by decide +kernel
theorem dL_law_13 : decode cL_law 13 = .ok (.iconst 0, 1) := by decide +kernel
theorem dL_law_14 : decode cL_law 14 = .ok (.invokestatic 147, 3) := by decide +kernel
theorem dL_law_17 : decode cL_law 17 = .ok (.ifCond .eq 16, 3) := by decide +kernel
theorem dL_law_20 : decode cL_law 20 = .ok (.aload_n 1, 1) := by decide +kernel
theorem dL_law_21 : decode cL_law 21 = .ok (.invokevirtual 150, 3) := by decide +kernel
theorem dL_law_24 : decode cL_law 24 = .ok (.bipush (-6), 2) := by decide +kernel
theorem dL_law_26 : decode cL_law 26 = .ok (.if_icmp .ne 7, 3) := by decide +kernel
theorem dL_law_29 : decode cL_law 29 = .ok (.iconst 1, 1) := by decide +kernel
theorem dL_law_30 : decode cL_law 30 = .ok (.goto 4, 3) := by decide +kernel
theorem dL_law_33 : decode cL_law 33 = .ok (.iconst 0, 1) := by decide +kernel
theorem dL_law_34 : decode cL_law 34 = .ok (.istore_n 3, 1) := by decide +kernel
theorem dL_law_35 : decode cL_law 35 = .ok (.iconst 0, 1) := by decide +kernel
theorem dL_law_36 : decode cL_law 36 = .ok (.istore 4, 2) := by decide +kernel
theorem dL_law_38 : decode cL_law 38 = .ok (.iconst 0, 1) := by decide +kernel
theorem dL_law_39 : decode cL_law 39 = .ok (.istore 5, 2) := by decide +kernel
theorem dL_law_41 : decode cL_law 41 = .ok (.iload 5, 2) := by decide +kernel
theorem dL_law_43 : decode cL_law 43 = .ok (.bipush 44, 2) := by decide +kernel
theorem dL_law_45 : decode cL_law 45 = .ok (.if_icmp .ge 260, 3) := by decide +kernel
theorem dL_law_48 : decode cL_law 48 = .ok (.iload_n 3, 1) := by decide +kernel
theorem dL_law_49 : decode cL_law 49 = .ok (.ifCond .eq 256, 3) := by decide +kernel
theorem dL_law_52 : decode cL_law 52 = .ok (.iload 5, 2) := by decide +kernel
theorem dL_law_54 : decode cL_law 54 = .ok (.iconst 5, 1) := by decide +kernel
theorem dL_law_55 : decode cL_law 55 = .ok (.if_icmp .ge 7, 3) := by decide +kernel
theorem dL_law_58 : decode cL_law 58 = .ok (.iconst 0, 1) := by decide +kernel
theorem dL_law_59 : decode cL_law 59 = .ok (.goto 22, 3) := by decide +kernel
theorem dL_law_62 : decode cL_law 62 = .ok (.iload 5, 2) := by decide +kernel
theorem dL_law_64 : decode cL_law 64 = .ok (.iconst 5, 1) := by decide +kernel
theorem dL_law_65 : decode cL_law 65 = .ok (.if_icmp .ne 8, 3) := by decide +kernel
theorem dL_law_68 : decode cL_law 68 = .ok (.bipush 12, 2) := by decide +kernel
theorem dL_law_70 : decode cL_law 70 = .ok (.goto 11, 3) := by decide +kernel
theorem dL_law_73 : decode cL_law 73 = .ok (.aload_n 0, 1) := by decide +kernel
theorem dL_law_74 : decode cL_law 74 = .ok (.iconst 2, 1) := by decide +kernel
theorem dL_law_75 : decode cL_law 75 = .ok (.iload 5, 2) := by decide +kernel
theorem dL_law_77 : decode cL_law 77 = .ok (.imul, 1) := by decide +kernel
theorem dL_law_78 : decode cL_law 78 = .ok (.invokestatic 153, 3) := by decide +kernel
theorem dL_law_81 : decode cL_law 81 = .ok (.istore 6, 2) := by decide +kernel
theorem dL_law_83 : decode cL_law 83 = .ok (.aload_n 0, 1) := by decide +kernel
theorem dL_law_84 : decode cL_law 84 = .ok (.iconst 2, 1) := by decide +kernel
theorem dL_law_85 : decode cL_law 85 = .ok (.iload 5, 2) := by decide +kernel
theorem dL_law_87 : decode cL_law 87 = .ok (.imul, 1) := by decide +kernel
theorem dL_law_88 : decode cL_law 88 = .ok (.iconst 1, 1) := by decide +kernel
theorem dL_law_89 : decode cL_law 89 = .ok (.iadd, 1) := by decide +kernel
theorem dL_law_90 : decode cL_law 90 = .ok (.invokestatic 153, 3) := by decide +kernel
theorem dL_law_93 : decode cL_law 93 = .ok (.istore 7, 2) := by decide +kernel
theorem dL_law_95 : decode cL_law 95 = .ok (.aload_n 1, 1) := by decide +kernel
theorem dL_law_96 : decode cL_law 96 = .ok (.invokestatic 157, 3) := by decide +kernel
theorem dL_law_99 : decode cL_law 99 = .ok (.lstore 8, 2) := by decide +kernel
theorem dL_law_101 : decode cL_law 101 = .ok (.aload_n 1, 1) := by decide +kernel
theorem dL_law_102 : decode cL_law 102 = .ok (.aload_n 2, 1) := by decide +kernel
theorem dL_law_103 : decode cL_law 103 = .ok (.iload 6, 2) := by decide +kernel
theorem dL_law_105 : decode cL_law 105 = .ok (.iload 7, 2) := by decide +kernel
theorem dL_law_107 : decode cL_law 107 = .ok (.invokestatic 161, 3) := by decide +kernel
theorem dL_law_110 : decode cL_law 110 = .ok (.ifCond .eq 23, 3) := by decide +kernel
theorem dL_law_113 : decode cL_law 113 = .ok (.iload 5, 2) := by decide +kernel
theorem dL_law_115 : decode cL_law 115 = .ok (.iconst 3, 1) := by decide +kernel
theorem dL_law_116 : decode cL_law 116 = .ok (.irem, 1) := by decide +kernel
theorem dL_law_117 : decode cL_law 117 = .ok (.ifCond .gt 12, 3) := by decide +kernel
theorem dL_law_120 : decode cL_law 120 = .ok (.aload_n 1, 1) := by decide +kernel
theorem dL_law_121 : decode cL_law 121 = .ok (.iload 7, 2) := by decide +kernel
theorem dL_law_123 : decode cL_law 123 = .ok (.invokestatic 147, 3) := by decide +kernel
theorem dL_law_126 : decode cL_law 126 = .ok (.ifCond .eq 7, 3) := by decide +kernel
theorem dL_law_129 : decode cL_law 129 = .ok (.iconst 1, 1) := by decide +kernel
theorem dL_law_130 : decode cL_law 130 = .ok (.goto 4, 3) := by decide +kernel
theorem dL_law_133 : decode cL_law 133 = .ok (.iconst 0, 1) := by decide +kernel
theorem dL_law_134 : decode cL_law 134 = .ok (.istore_n 3, 1) := by decide +kernel
theorem dL_law_135 : decode cL_law 135 = .ok (.aload_n 2, 1) := by decide +kernel
theorem dL_law_136 : decode cL_law 136 = .ok (.iconst 0, 1) := by decide +kernel
theorem dL_law_137 : decode cL_law 137 = .ok (.iaload, 1) := by decide +kernel
theorem dL_law_138 : decode cL_law 138 = .ok (.ifCond .lt 7, 3) := by decide +kernel
theorem dL_law_141 : decode cL_law 141 = .ok (.iconst 1, 1) := by decide +kernel
theorem dL_law_142 : decode cL_law 142 = .ok (.goto 4, 3) := by decide +kernel
theorem dL_law_145 : decode cL_law 145 = .ok (.iconst 0, 1) := by decide +kernel
theorem dL_law_146 : decode cL_law 146 = .ok (.istore 10, 2) := by decide +kernel
theorem dL_law_148 : decode cL_law 148 = .ok (.iload_n 3, 1) := by decide +kernel
theorem dL_law_149 : decode cL_law 149 = .ok (.ifCond .eq 22, 3) := by decide +kernel
theorem dL_law_152 : decode cL_law 152 = .ok (.iload 10, 2) := by decide +kernel
theorem dL_law_154 : decode cL_law 154 = .ok (.ifCond .ne 13, 3) := by decide +kernel
theorem dL_law_157 : decode cL_law 157 = .ok (.aload_n 1, 1) := by decide +kernel
theorem dL_law_158 : decode cL_law 158 = .ok (.invokestatic 157, 3) := by decide +kernel
theorem dL_law_161 : decode cL_law 161 = .ok (.lload 8, 2) := by decide +kernel
theorem dL_law_163 : decode cL_law 163 = .ok (.lcmp, 1) := by decide +kernel
theorem dL_law_164 : decode cL_law 164 = .ok (.ifCond .ne 7, 3) := by decide +kernel
theorem dL_law_167 : decode cL_law 167 = .ok (.iconst 1, 1) := by decide +kernel
theorem dL_law_168 : decode cL_law 168 = .ok (.goto 4, 3) := by decide +kernel
theorem dL_law_171 : decode cL_law 171 = .ok (.iconst 0, 1) := by decide +kernel
theorem dL_law_172 : decode cL_law 172 = .ok (.istore_n 3, 1) := by decide +kernel
theorem dL_law_173 : decode cL_law 173 = .ok (.iload 4, 2) := by decide +kernel
theorem dL_law_175 : decode cL_law 175 = .ok (.iload 10, 2) := by decide +kernel
theorem dL_law_177 : decode cL_law 177 = .ok (.ifCond .eq 13, 3) := by decide +kernel
theorem dL_law_180 : decode cL_law 180 = .ok (.iload 4, 2) := by decide +kernel
theorem dL_law_182 : decode cL_law 182 = .ok (.iconst 4, 1) := by decide +kernel
theorem dL_law_183 : decode cL_law 183 = .ok (.if_icmp .ge 7, 3) := by decide +kernel
theorem dL_law_186 : decode cL_law 186 = .ok (.iconst 1, 1) := by decide +kernel
theorem dL_law_187 : decode cL_law 187 = .ok (.goto 4, 3) := by decide +kernel
theorem dL_law_190 : decode cL_law 190 = .ok (.iconst 0, 1) := by decide +kernel
theorem dL_law_191 : decode cL_law 191 = .ok (.iadd, 1) := by decide +kernel
theorem dL_law_192 : decode cL_law 192 = .ok (.istore 4, 2) := by decide +kernel
theorem dL_law_194 : decode cL_law 194 = .ok (.iload_n 3, 1) := by decide +kernel
theorem dL_law_195 : decode cL_law 195 = .ok (.ifCond .eq 48, 3) := by decide +kernel
theorem dL_law_198 : decode cL_law 198 = .ok (.iload 10, 2) := by decide +kernel
theorem dL_law_200 : decode cL_law 200 = .ok (.ifCond .eq 43, 3) := by decide +kernel
theorem dL_law_203 : decode cL_law 203 = .ok (.iload 7, 2) := by decide +kernel
theorem dL_law_205 : decode cL_law 205 = .ok (.bipush 8, 2) := by decide +kernel
theorem dL_law_207 : decode cL_law 207 = .ok (.ishr, 1) := by decide +kernel
theorem dL_law_208 : decode cL_law 208 = .ok (.iconst 3, 1) := by decide +kernel
theorem dL_law_209 : decode cL_law 209 = .ok (.invokestatic 71, 3) := by decide +kernel
theorem dL_law_212 : decode cL_law 212 = .ok (.ifCond .ne 31, 3) := by decide +kernel
theorem dL_law_215 : decode cL_law 215 = .ok (.iinc 4 (-1), 3) := by decide +kernel
theorem dL_law_218 : decode cL_law 218 = .ok (.aload_n 1, 1) := by decide +kernel
theorem dL_law_219 : decode cL_law 219 = .ok (.invokevirtual 150, 3) := by decide +kernel
theorem dL_law_222 : decode cL_law 222 = .ok (.iload 4, 2) := by decide +kernel
theorem dL_law_224 : decode cL_law 224 = .ok (.if_icmp .ne 17, 3) := by decide +kernel
theorem dL_law_227 : decode cL_law 227 = .ok (.aload_n 1, 1) := by decide +kernel
theorem dL_law_228 : decode cL_law 228 = .ok (.invokestatic 157, 3) := by decide +kernel
theorem dL_law_231 : decode cL_law 231 = .ok (.lload 8, 2) := by decide +kernel
theorem dL_law_233 : decode cL_law 233 = .ok (.lcmp, 1) := by decide +kernel
theorem dL_law_234 : decode cL_law 234 = .ok (.ifCond .ne 7, 3) := by decide +kernel
theorem dL_law_237 : decode cL_law 237 = .ok (.iconst 1, 1) := by decide +kernel
theorem dL_law_238 : decode cL_law 238 = .ok (.goto 4, 3) := by decide +kernel
theorem dL_law_241 : decode cL_law 241 = .ok (.iconst 0, 1) := by decide +kernel
theorem dL_law_242 : decode cL_law 242 = .ok (.istore_n 3, 1) := by decide +kernel
theorem dL_law_243 : decode cL_law 243 = .ok (.iload_n 3, 1) := by decide +kernel
theorem dL_law_244 : decode cL_law 244 = .ok (.ifCond .eq 55, 3) := by decide +kernel
theorem dL_law_247 : decode cL_law 247 = .ok (.iload 5, 2) := by decide +kernel
theorem dL_law_249 : decode cL_law 249 = .ok (.bipush 9, 2) := by decide +kernel
theorem dL_law_251 : decode cL_law 251 = .ok (.irem, 1) := by decide +kernel
theorem dL_law_252 : decode cL_law 252 = .ok (.bipush 8, 2) := by decide +kernel
theorem dL_law_254 : decode cL_law 254 = .ok (.if_icmp .ne 45, 3) := by decide +kernel
theorem dL_law_257 : decode cL_law 257 = .ok (.aload_n 1, 1) := by decide +kernel
theorem dL_law_258 : decode cL_law 258 = .ok (.invokevirtual 150, 3) := by decide +kernel
theorem dL_law_261 : decode cL_law 261 = .ok (.iload 4, 2) := by decide +kernel
theorem dL_law_263 : decode cL_law 263 = .ok (.ifCond .ne 8, 3) := by decide +kernel
theorem dL_law_266 : decode cL_law 266 = .ok (.bipush (-6), 2) := by decide +kernel
theorem dL_law_268 : decode cL_law 268 = .ok (.goto 7, 3) := by decide +kernel
theorem dL_law_271 : decode cL_law 271 = .ok (.iload 4, 2) := by decide +kernel
theorem dL_law_273 : decode cL_law 273 = .ok (.iconst 1, 1) := by decide +kernel
theorem dL_law_274 : decode cL_law 274 = .ok (.isub, 1) := by decide +kernel
theorem dL_law_275 : decode cL_law 275 = .ok (.if_icmp .ne 7, 3) := by decide +kernel
theorem dL_law_278 : decode cL_law 278 = .ok (.iconst 1, 1) := by decide +kernel
theorem dL_law_279 : decode cL_law 279 = .ok (.goto 4, 3) := by decide +kernel
theorem dL_law_282 : decode cL_law 282 = .ok (.iconst 0, 1) := by decide +kernel
theorem dL_law_283 : decode cL_law 283 = .ok (.istore_n 3, 1) := by decide +kernel
theorem dL_law_284 : decode cL_law 284 = .ok (.iload 4, 2) := by decide +kernel
theorem dL_law_286 : decode cL_law 286 = .ok (.iload 4, 2) := by decide +kernel
theorem dL_law_288 : decode cL_law 288 = .ok (.ifCond .ne 7, 3) := by decide +kernel
theorem dL_law_291 : decode cL_law 291 = .ok (.iconst 0, 1) := by decide +kernel
theorem dL_law_292 : decode cL_law 292 = .ok (.goto 4, 3) := by decide +kernel
theorem dL_law_295 : decode cL_law 295 = .ok (.iconst 1, 1) := by decide +kernel
theorem dL_law_296 : decode cL_law 296 = .ok (.isub, 1) := by decide +kernel
theorem dL_law_297 : decode cL_law 297 = .ok (.istore 4, 2) := by decide +kernel
theorem dL_law_299 : decode cL_law 299 = .ok (.iinc 5 1, 3) := by decide +kernel
theorem dL_law_302 : decode cL_law 302 = .ok (.goto (-261), 3) := by decide +kernel
theorem dL_law_305 : decode cL_law 305 = .ok (.iload_n 3, 1) := by decide +kernel
theorem dL_law_306 : decode cL_law 306 = .ok (.ifCond .eq 16, 3) := by decide +kernel
theorem dL_law_309 : decode cL_law 309 = .ok (.aload_n 1, 1) := by decide +kernel
theorem dL_law_310 : decode cL_law 310 = .ok (.bipush 7, 2) := by decide +kernel
theorem dL_law_312 : decode cL_law 312 = .ok (.invokestatic 147, 3) := by decide +kernel
theorem dL_law_315 : decode cL_law 315 = .ok (.ifCond .eq 7, 3) := by decide +kernel
theorem dL_law_318 : decode cL_law 318 = .ok (.iconst 1, 1) := by decide +kernel
theorem dL_law_319 : decode cL_law 319 = .ok (.goto 4, 3) := by decide +kernel
theorem dL_law_322 : decode cL_law 322 = .ok (.iconst 0, 1) := by decide +kernel
theorem dL_law_323 : decode cL_law 323 = .ok (.ireturn, 1) := by decide +kernel
