theorem dX0_init_0 : decode cX0_init 0 = .ok (.aload_n 0, 1) := by decide +kernel
theorem dX0_init_1 : decode cX0_init 1 = .ok (.invokespecial 3, 3) := by decide +kernel
theorem dX0_init_4 : decode cX0_init 4 = .ok (.aload_n 0, 1) := by decide +kernel
theorem dX0_init_5 : decode cX0_init 5 = .ok (.bipush 12, 2) := by decide +kernel
theorem dX0_init_7 : decode cX0_init 7 = .ok (.anewarray 11, 3) := by decide +kernel
theorem dX0_init_10 : decode cX0_init 10 = .ok (.putfield 13, 3) := by decide +kernel
theorem dX0_init_13 : decode cX0_init 13 = .ok (.aload_n 0, 1) := by decide +kernel
theorem dX0_init_14 : decode cX0_init 14 = .ok (.new 11, 3) := by decide +kernel
theorem dX0_init_17 : decode cX0_init 17 = .ok (.dup, 1) := by decide +kernel
theorem dX0_init_18 : decode cX0_init 18 = .ok (.invokespecial 17, 3) := by decide +kernel
theorem dX0_init_21 : decode cX0_init 21 = .ok (.putfield 18, 3) := by decide +kernel
theorem dX0_init_24 : decode cX0_init 24 = .ok (.aload_n 0, 1) := by decide +kernel
theorem dX0_init_25 : decode cX0_init 25 = .ok (.new 11, 3) := by decide +kernel
theorem dX0_init_28 : decode cX0_init 28 = .ok (.dup, 1) := by decide +kernel
theorem dX0_init_29 : decode cX0_init 29 = .ok (.invokespecial 17, 3) := by decide +kernel
theorem dX0_init_32 : decode cX0_init 32 = .ok (.putfield 22, 3) := by decide +kernel
theorem dX0_init_35 : decode cX0_init 35 = .ok (.iconst 0, 1) := by decide +kernel
theorem dX0_init_36 : decode cX0_init 36 = .ok (.istore_n 1, 1) := by decide +kernel
theorem dX0_init_37 : decode cX0_init 37 = .ok (.iload_n 1, 1) := by decide +kernel
theorem dX0_init_38 : decode cX0_init 38 = .ok (.bipush 12, 2) := by decide +kernel
theorem dX0_init_40 : decode cX0_init 40 = .ok (.if_icmp .ge 22, 3) := by decide +kernel
theorem dX0_init_43 : decode cX0_init 43 = .ok (.aload_n 0, 1) := by decide +kernel
theorem dX0_init_44 : decode cX0_init 44 = .ok (.getfield 13, 3) := by decide +kernel
theorem dX0_init_47 : decode cX0_init 47 = .ok (.iload_n 1, 1) := by decide +kernel
theorem dX0_init_48 : decode cX0_init 48 = .ok (.new 11, 3) := by decide +kernel
theorem dX0_init_51 : decode cX0_init 51 = .ok (.dup, 1) := by decide +kernel
theorem dX0_init_52 : decode cX0_init 52 = .ok (.invokespecial 17, 3) := by decide +kernel
theorem dX0_init_55 : decode cX0_init 55 = .ok (.aastore, 1) := by decide +kernel
theorem dX0_init_56 : decode cX0_init 56 = .ok (.iinc 1 1, 3) := by decide +kernel
theorem dX0_init_59 : decode cX0_init 59 = .ok (.goto (-22), 3) := by decide +kernel
theorem dX0_init_62 : decode cX0_init 62 = .ok (.return_, 1) := by decide +kernel
theorem dX0_answer_0 : decode cX0_answer 0 = .ok (.aload_n 0, 1) := by decide +kernel
theorem dX0_answer_1 : decode cX0_answer 1 = .ok (.getfield 22, 3) := by decide +kernel
theorem dX0_answer_4 : decode cX0_answer 4 = .ok (.areturn, 1) := by decide +kernel
theorem dX0_compute_0 : decode cX0_compute 0 = .ok (.aload_n 0, 1) := by decide +kernel
theorem dX0_compute_1 : decode cX0_compute 1 = .ok (.iconst 0, 1) := by decide +kernel
theorem dX0_compute_2 : decode cX0_compute 2 = .ok (.putfield 25, 3) := by decide +kernel
theorem dX0_compute_5 : decode cX0_compute 5 = .ok (.aload_n 1, 1) := by decide +kernel
theorem dX0_compute_6 : decode cX0_compute 6 = .ok (.invokevirtual 29, 3) := by decide +kernel
theorem dX0_compute_9 : decode cX0_compute 9 = .ok (.ifCond .ne 17, 3) := by decide +kernel
theorem dX0_compute_12 : decode cX0_compute 12 = .ok (.aload_n 0, 1) := by decide +kernel
theorem dX0_compute_13 : decode cX0_compute 13 = .ok (.getfield 18, 3) := by decide +kernel
theorem dX0_compute_16 : decode cX0_compute 16 = .ok (.iconst 0, 1) := by decide +kernel
theorem dX0_compute_17 : decode cX0_compute 17 = .ok (.invokevirtual 35, 3) := by decide +kernel
theorem dX0_compute_20 : decode cX0_compute 20 = .ok (.aload_n 0, 1) := by decide +kernel
theorem dX0_compute_21 : decode cX0_compute 21 = .ok (.iconst 0, 1) := by decide +kernel
theorem dX0_compute_22 : decode cX0_compute 22 = .ok (.invokevirtual 39, 3) := by decide +kernel
theorem dX0_compute_25 : decode cX0_compute 25 = .ok (.ireturn, 1) := by decide +kernel
theorem dX0_compute_26 : decode cX0_compute 26 = .ok (.aload_n 1, 1) := by decide +kernel
theorem dX0_compute_27 : decode cX0_compute 27 = .ok (.invokevirtual 43, 3) := by decide +kernel
theorem dX0_compute_30 : decode cX0_compute 30 = .ok (.iconst 1, 1) := by decide +kernel
theorem dX0_compute_31 : decode cX0_compute 31 = .ok (.isub, 1) := by decide +kernel
theorem dX0_compute_32 : decode cX0_compute 32 = .ok (.istore_n 3, 1) := by decide +kernel
theorem dX0_compute_33 : decode cX0_compute 33 = .ok (.iload_n 3, 1) := by decide +kernel
theorem dX0_compute_34 : decode cX0_compute 34 = .ok (.ifCond .lt 21, 3) := by decide +kernel
theorem dX0_compute_37 : decode cX0_compute 37 = .ok (.aload_n 0, 1) := by decide +kernel
theorem dX0_compute_38 : decode cX0_compute 38 = .ok (.aload_n 1, 1) := by decide +kernel
theorem dX0_compute_39 : decode cX0_compute 39 = .ok (.iload_n 3, 1) := by decide +kernel
theorem dX0_compute_40 : decode cX0_compute 40 = .ok (.aload_n 2, 1) := by decide +kernel
theorem dX0_compute_41 : decode cX0_compute 41 = .ok (.invokevirtual 47, 3) := by decide +kernel
theorem dX0_compute_44 : decode cX0_compute 44 = .ok (.ifCond .ne 5, 3) := by decide +kernel
theorem dX0_compute_47 : decode cX0_compute 47 = .ok (.iconst 0, 1) := by decide +kernel
theorem dX0_compute_48 : decode cX0_compute 48 = .ok (.ireturn, 1) := by decide +kernel
theorem dX0_compute_49 : decode cX0_compute 49 = .ok (.iinc 3 (-1), 3) := by decide +kernel
theorem dX0_compute_52 : decode cX0_compute 52 = .ok (.goto (-19), 3) := by decide +kernel
theorem dX0_compute_55 : decode cX0_compute 55 = .ok (.aload_n 0, 1) := by decide +kernel
theorem dX0_compute_56 : decode cX0_compute 56 = .ok (.getfield 25, 3) := by decide +kernel
theorem dX0_compute_59 : decode cX0_compute 59 = .ok (.iconst 1, 1) := by decide +kernel
theorem dX0_compute_60 : decode cX0_compute 60 = .ok (.if_icmp .ne 7, 3) := by decide +kernel
theorem dX0_compute_63 : decode cX0_compute 63 = .ok (.iconst 1, 1) := by decide +kernel
theorem dX0_compute_64 : decode cX0_compute 64 = .ok (.goto 4, 3) := by decide +kernel
theorem dX0_compute_67 : decode cX0_compute 67 = .ok (.iconst 0, 1) := by decide +kernel
theorem dX0_compute_68 : decode cX0_compute 68 = .ok (.ireturn, 1) := by decide +kernel
theorem dX0_keepResult_0 : decode cX0_keepResult 0 = .ok (.aload_n 0, 1) := by decide +kernel
theorem dX0_keepResult_1 : decode cX0_keepResult 1 = .ok (.getfield 13, 3) := by decide +kernel
theorem dX0_keepResult_4 : decode cX0_keepResult 4 = .ok (.iconst 0, 1) := by decide +kernel
theorem dX0_keepResult_5 : decode cX0_keepResult 5 = .ok (.aaload, 1) := by decide +kernel
theorem dX0_keepResult_6 : decode cX0_keepResult 6 = .ok (.astore_n 1, 1) := by decide +kernel
theorem dX0_keepResult_7 : decode cX0_keepResult 7 = .ok (.aload_n 1, 1) := by decide +kernel
theorem dX0_keepResult_8 : decode cX0_keepResult 8 = .ok (.ifnull 18, 3) := by decide +kernel
theorem dX0_keepResult_11 : decode cX0_keepResult 11 = .ok (.aload_n 0, 1) := by decide +kernel
theorem dX0_keepResult_12 : decode cX0_keepResult 12 = .ok (.getfield 13, 3) := by decide +kernel
theorem dX0_keepResult_15 : decode cX0_keepResult 15 = .ok (.iconst 0, 1) := by decide +kernel
theorem dX0_keepResult_16 : decode cX0_keepResult 16 = .ok (.aload_n 0, 1) := by decide +kernel
theorem dX0_keepResult_17 : decode cX0_keepResult 17 = .ok (.getfield 22, 3) := by decide +kernel
theorem dX0_keepResult_20 : decode cX0_keepResult 20 = .ok (.aastore, 1) := by decide +kernel
theorem dX0_keepResult_21 : decode cX0_keepResult 21 = .ok (.aload_n 0, 1) := by decide +kernel
theorem dX0_keepResult_22 : decode cX0_keepResult 22 = .ok (.aload_n 1, 1) := by decide +kernel
theorem dX0_keepResult_23 : decode cX0_keepResult 23 = .ok (.putfield 22, 3) := by decide +kernel
theorem dX0_keepResult_26 : decode cX0_keepResult 26 = .ok (.return_, 1) := by decide +kernel
theorem dX0_computeNode_0 : decode cX0_computeNode 0 = .ok (.aload_n 1, 1) := by decide +kernel
theorem dX0_computeNode_1 : decode cX0_computeNode 1 = .ok (.iload_n 2, 1) := by decide +kernel
theorem dX0_computeNode_2 : decode cX0_computeNode 2 = .ok (.invokevirtual 51, 3) := by decide +kernel
theorem dX0_computeNode_5 : decode cX0_computeNode 5 = .ok (.istore 4, 2) := by decide +kernel
theorem dX0_computeNode_7 : decode cX0_computeNode 7 = .ok (.iload 4, 2) := by decide +kernel
theorem dX0_computeNode_9 : decode cX0_computeNode 9 = .ok (.invokestatic 55, 3) := by decide +kernel
theorem dX0_computeNode_12 : decode cX0_computeNode 12 = .ok (.istore 5, 2) := by decide +kernel
theorem dX0_computeNode_14 : decode cX0_computeNode 14 = .ok (.aload_n 0, 1) := by decide +kernel
theorem dX0_computeNode_15 : decode cX0_computeNode 15 = .ok (.iconst 1, 1) := by decide +kernel
theorem dX0_computeNode_16 : decode cX0_computeNode 16 = .ok (.invokevirtual 58, 3) := by decide +kernel
theorem dX0_computeNode_19 : decode cX0_computeNode 19 = .ok (.astore 6, 2) := by decide +kernel
theorem dX0_computeNode_21 : decode cX0_computeNode 21 = .ok (.aload_n 0, 1) := by decide +kernel
theorem dX0_computeNode_22 : decode cX0_computeNode 22 = .ok (.iconst 2, 1) := by decide +kernel
theorem dX0_computeNode_23 : decode cX0_computeNode 23 = .ok (.invokevirtual 58, 3) := by decide +kernel
theorem dX0_computeNode_26 : decode cX0_computeNode 26 = .ok (.astore 7, 2) := by decide +kernel
theorem dX0_computeNode_28 : decode cX0_computeNode 28 = .ok (.iload 5, 2) := by decide +kernel
theorem dX0_computeNode_30 : decode cX0_computeNode 30 = .ok (.ifCond .le 8, 3) := by decide +kernel
theorem dX0_computeNode_33 : decode cX0_computeNode 33 = .ok (.aload 6, 2) := by decide +kernel
theorem dX0_computeNode_35 : decode cX0_computeNode 35 = .ok (.ifnull 14, 3) := by decide +kernel
theorem dX0_computeNode_38 : decode cX0_computeNode 38 = .ok (.iload 5, 2) := by decide +kernel
theorem dX0_computeNode_40 : decode cX0_computeNode 40 = .ok (.iconst 1, 1) := by decide +kernel
theorem dX0_computeNode_41 : decode cX0_computeNode 41 = .ok (.if_icmp .le 10, 3) := by decide +kernel
theorem dX0_computeNode_44 : decode cX0_computeNode 44 = .ok (.aload 7, 2) := by decide +kernel
theorem dX0_computeNode_46 : decode cX0_computeNode 46 = .ok (.ifnonnull 5, 3) := by decide +kernel
theorem dX0_computeNode_49 : decode cX0_computeNode 49 = .ok (.iconst 0, 1) := by decide +kernel
theorem dX0_computeNode_50 : decode cX0_computeNode 50 = .ok (.ireturn, 1) := by decide +kernel
theorem dX0_computeNode_51 : decode cX0_computeNode 51 = .ok (.aload_n 1, 1) := by decide +kernel
theorem dX0_computeNode_52 : decode cX0_computeNode 52 = .ok (.iload_n 2, 1) := by decide +kernel
theorem dX0_computeNode_53 : decode cX0_computeNode 53 = .ok (.invokevirtual 62, 3) := by decide +kernel
theorem dX0_computeNode_56 : decode cX0_computeNode 56 = .ok (.istore 8, 2) := by decide +kernel
theorem dX0_computeNode_58 : decode cX0_computeNode 58 = .ok (.aload_n 1, 1) := by decide +kernel
theorem dX0_computeNode_59 : decode cX0_computeNode 59 = .ok (.iload_n 2, 1) := by decide +kernel
theorem dX0_computeNode_60 : decode cX0_computeNode 60 = .ok (.invokevirtual 65, 3) := by decide +kernel
theorem dX0_computeNode_63 : decode cX0_computeNode 63 = .ok (.istore 9, 2) := by decide +kernel
theorem dX0_computeNode_65 : decode cX0_computeNode 65 = .ok (.iload 4, 2) := by decide +kernel
theorem dX0_computeNode_67 : decode cX0_computeNode 67 = .ok (.tableswitch 94 0 4 #[33, 45, 45, 62, 77], 33) := by decide +kernel
theorem dX0_computeNode_100 : decode cX0_computeNode 100 = .ok (.aload_n 0, 1) := by decide +kernel
theorem dX0_computeNode_101 : decode cX0_computeNode 101 = .ok (.iload 8, 2) := by decide +kernel
theorem dX0_computeNode_103 : decode cX0_computeNode 103 = .ok (.aload_n 3, 1) := by decide +kernel
theorem dX0_computeNode_104 : decode cX0_computeNode 104 = .ok (.invokevirtual 68, 3) := by decide +kernel
theorem dX0_computeNode_107 : decode cX0_computeNode 107 = .ok (.istore 10, 2) := by decide +kernel
theorem dX0_computeNode_109 : decode cX0_computeNode 109 = .ok (.goto 62, 3) := by decide +kernel
theorem dX0_computeNode_112 : decode cX0_computeNode 112 = .ok (.aload_n 0, 1) := by decide +kernel
theorem dX0_computeNode_113 : decode cX0_computeNode 113 = .ok (.aload 6, 2) := by decide +kernel
theorem dX0_computeNode_115 : decode cX0_computeNode 115 = .ok (.iload 4, 2) := by decide +kernel
theorem dX0_computeNode_117 : decode cX0_computeNode 117 = .ok (.iload 8, 2) := by decide +kernel
theorem dX0_computeNode_119 : decode cX0_computeNode 119 = .ok (.iload 9, 2) := by decide +kernel
theorem dX0_computeNode_121 : decode cX0_computeNode 121 = .ok (.invokevirtual 72, 3) := by decide +kernel
theorem dX0_computeNode_124 : decode cX0_computeNode 124 = .ok (.istore 10, 2) := by decide +kernel
theorem dX0_computeNode_126 : decode cX0_computeNode 126 = .ok (.goto 45, 3) := by decide +kernel
theorem dX0_computeNode_129 : decode cX0_computeNode 129 = .ok (.aload_n 0, 1) := by decide +kernel
theorem dX0_computeNode_130 : decode cX0_computeNode 130 = .ok (.aload 6, 2) := by decide +kernel
theorem dX0_computeNode_132 : decode cX0_computeNode 132 = .ok (.iload 8, 2) := by decide +kernel
theorem dX0_computeNode_134 : decode cX0_computeNode 134 = .ok (.iload 9, 2) := by decide +kernel
theorem dX0_computeNode_136 : decode cX0_computeNode 136 = .ok (.invokevirtual 76, 3) := by decide +kernel
theorem dX0_computeNode_139 : decode cX0_computeNode 139 = .ok (.istore 10, 2) := by decide +kernel
theorem dX0_computeNode_141 : decode cX0_computeNode 141 = .ok (.goto 30, 3) := by decide +kernel
theorem dX0_computeNode_144 : decode cX0_computeNode 144 = .ok (.aload_n 0, 1) := by decide +kernel
theorem dX0_computeNode_145 : decode cX0_computeNode 145 = .ok (.aload 6, 2) := by decide +kernel
theorem dX0_computeNode_147 : decode cX0_computeNode 147 = .ok (.aload 7, 2) := by decide +kernel
theorem dX0_computeNode_149 : decode cX0_computeNode 149 = .ok (.iload 8, 2) := by decide +kernel
theorem dX0_computeNode_151 : decode cX0_computeNode 151 = .ok (.iload 9, 2) := by decide +kernel
theorem dX0_computeNode_153 : decode cX0_computeNode 153 = .ok (.invokevirtual 80, 3) := by decide +kernel
theorem dX0_computeNode_156 : decode cX0_computeNode 156 = .ok (.istore 10, 2) := by decide +kernel
theorem dX0_computeNode_158 : decode cX0_computeNode 158 = .ok (.goto 13, 3) := by decide +kernel
theorem dX0_computeNode_161 : decode cX0_computeNode 161 = .ok (.aload_n 0, 1) := by decide +kernel
theorem dX0_computeNode_162 : decode cX0_computeNode 162 = .ok (.aload 6, 2) := by decide +kernel
theorem dX0_computeNode_164 : decode cX0_computeNode 164 = .ok (.aload 7, 2) := by decide +kernel
theorem dX0_computeNode_166 : decode cX0_computeNode 166 = .ok (.invokevirtual 84, 3) := by decide +kernel
theorem dX0_computeNode_169 : decode cX0_computeNode 169 = .ok (.istore 10, 2) := by decide +kernel
theorem dX0_computeNode_171 : decode cX0_computeNode 171 = .ok (.iload 10, 2) := by decide +kernel
theorem dX0_computeNode_173 : decode cX0_computeNode 173 = .ok (.ifCond .eq 16, 3) := by decide +kernel
theorem dX0_computeNode_176 : decode cX0_computeNode 176 = .ok (.aload_n 0, 1) := by decide +kernel
theorem dX0_computeNode_177 : decode cX0_computeNode 177 = .ok (.iload 5, 2) := by decide +kernel
theorem dX0_computeNode_179 : decode cX0_computeNode 179 = .ok (.invokevirtual 39, 3) := by decide +kernel
theorem dX0_computeNode_182 : decode cX0_computeNode 182 = .ok (.ifCond .eq 7, 3) := by decide +kernel
theorem dX0_computeNode_185 : decode cX0_computeNode 185 = .ok (.iconst 1, 1) := by decide +kernel
theorem dX0_computeNode_186 : decode cX0_computeNode 186 = .ok (.goto 4, 3) := by decide +kernel
theorem dX0_computeNode_189 : decode cX0_computeNode 189 = .ok (.iconst 0, 1) := by decide +kernel
theorem dX0_computeNode_190 : decode cX0_computeNode 190 = .ok (.ireturn, 1) := by decide +kernel
theorem dX0_fillTable_0 : decode cX0_fillTable 0 = .ok (.aload_n 0, 1) := by decide +kernel
theorem dX0_fillTable_1 : decode cX0_fillTable 1 = .ok (.getfield 18, 3) := by decide +kernel
theorem dX0_fillTable_4 : decode cX0_fillTable 4 = .ok (.aload_n 2, 1) := by decide +kernel
theorem dX0_fillTable_5 : decode cX0_fillTable 5 = .ok (.iload_n 1, 1) := by decide +kernel
theorem dX0_fillTable_6 : decode cX0_fillTable 6 = .ok (.invokevirtual 88, 3) := by decide +kernel
theorem dX0_fillTable_9 : decode cX0_fillTable 9 = .ok (.invokevirtual 35, 3) := by decide +kernel
theorem dX0_fillTable_12 : decode cX0_fillTable 12 = .ok (.iconst 0, 1) := by decide +kernel
theorem dX0_fillTable_13 : decode cX0_fillTable 13 = .ok (.istore_n 3, 1) := by decide +kernel
theorem dX0_fillTable_14 : decode cX0_fillTable 14 = .ok (.iload_n 3, 1) := by decide +kernel
theorem dX0_fillTable_15 : decode cX0_fillTable 15 = .ok (.bipush 16, 2) := by decide +kernel
theorem dX0_fillTable_17 : decode cX0_fillTable 17 = .ok (.if_icmp .ge 55, 3) := by decide +kernel
theorem dX0_fillTable_20 : decode cX0_fillTable 20 = .ok (.aload_n 2, 1) := by decide +kernel
theorem dX0_fillTable_21 : decode cX0_fillTable 21 = .ok (.iload_n 3, 1) := by decide +kernel
theorem dX0_fillTable_22 : decode cX0_fillTable 22 = .ok (.invokevirtual 93, 3) := by decide +kernel
theorem dX0_fillTable_25 : decode cX0_fillTable 25 = .ok (.iload_n 1, 1) := by decide +kernel
theorem dX0_fillTable_26 : decode cX0_fillTable 26 = .ok (.if_icmp .eq 6, 3) := by decide +kernel
theorem dX0_fillTable_29 : decode cX0_fillTable 29 = .ok (.goto 37, 3) := by decide +kernel
theorem dX0_fillTable_32 : decode cX0_fillTable 32 = .ok (.aload_n 0, 1) := by decide +kernel
theorem dX0_fillTable_33 : decode cX0_fillTable 33 = .ok (.getfield 18, 3) := by decide +kernel
theorem dX0_fillTable_36 : decode cX0_fillTable 36 = .ok (.aload_n 2, 1) := by decide +kernel
theorem dX0_fillTable_37 : decode cX0_fillTable 37 = .ok (.iload_n 3, 1) := by decide +kernel
theorem dX0_fillTable_38 : decode cX0_fillTable 38 = .ok (.invokevirtual 96, 3) := by decide +kernel
theorem dX0_fillTable_41 : decode cX0_fillTable 41 = .ok (.invokevirtual 99, 3) := by decide +kernel
theorem dX0_fillTable_44 : decode cX0_fillTable 44 = .ok (.astore 4, 2) := by decide +kernel
theorem dX0_fillTable_46 : decode cX0_fillTable 46 = .ok (.aload 4, 2) := by decide +kernel
theorem dX0_fillTable_48 : decode cX0_fillTable 48 = .ok (.ifnull 16, 3) := by decide +kernel
theorem dX0_fillTable_51 : decode cX0_fillTable 51 = .ok (.aload 4, 2) := by decide +kernel
theorem dX0_fillTable_53 : decode cX0_fillTable 53 = .ok (.iload_n 3, 1) := by decide +kernel
theorem dX0_fillTable_54 : decode cX0_fillTable 54 = .ok (.invokestatic 103, 3) := by decide +kernel
theorem dX0_fillTable_57 : decode cX0_fillTable 57 = .ok (.lconst 1, 1) := by decide +kernel
theorem dX0_fillTable_58 : decode cX0_fillTable 58 = .ok (.invokevirtual 109, 3) := by decide +kernel
theorem dX0_fillTable_61 : decode cX0_fillTable 61 = .ok (.ifCond .ne 5, 3) := by decide +kernel
theorem dX0_fillTable_64 : decode cX0_fillTable 64 = .ok (.iconst 0, 1) := by decide +kernel
theorem dX0_fillTable_65 : decode cX0_fillTable 65 = .ok (.ireturn, 1) := by decide +kernel
theorem dX0_fillTable_66 : decode cX0_fillTable 66 = .ok (.iinc 3 1, 3) := by decide +kernel
theorem dX0_fillTable_69 : decode cX0_fillTable 69 = .ok (.goto (-55), 3) := by decide +kernel
theorem dX0_fillTable_72 : decode cX0_fillTable 72 = .ok (.iconst 1, 1) := by decide +kernel
theorem dX0_fillTable_73 : decode cX0_fillTable 73 = .ok (.ireturn, 1) := by decide +kernel
theorem dX0_fillSelect_0 : decode cX0_fillSelect 0 = .ok (.aload_n 1, 1) := by decide +kernel
theorem dX0_fillSelect_1 : decode cX0_fillSelect 1 = .ok (.invokevirtual 115, 3) := by decide +kernel
theorem dX0_fillSelect_4 : decode cX0_fillSelect 4 = .ok (.istore 5, 2) := by decide +kernel
theorem dX0_fillSelect_6 : decode cX0_fillSelect 6 = .ok (.aload_n 0, 1) := by decide +kernel
theorem dX0_fillSelect_7 : decode cX0_fillSelect 7 = .ok (.getfield 18, 3) := by decide +kernel
theorem dX0_fillSelect_10 : decode cX0_fillSelect 10 = .ok (.iload 5, 2) := by decide +kernel
theorem dX0_fillSelect_12 : decode cX0_fillSelect 12 = .ok (.invokevirtual 35, 3) := by decide +kernel
theorem dX0_fillSelect_15 : decode cX0_fillSelect 15 = .ok (.iconst 0, 1) := by decide +kernel
theorem dX0_fillSelect_16 : decode cX0_fillSelect 16 = .ok (.istore 6, 2) := by decide +kernel
theorem dX0_fillSelect_18 : decode cX0_fillSelect 18 = .ok (.iload 6, 2) := by decide +kernel
theorem dX0_fillSelect_20 : decode cX0_fillSelect 20 = .ok (.aload_n 1, 1) := by decide +kernel
theorem dX0_fillSelect_21 : decode cX0_fillSelect 21 = .ok (.invokevirtual 118, 3) := by decide +kernel
theorem dX0_fillSelect_24 : decode cX0_fillSelect 24 = .ok (.if_icmp .ge 65, 3) := by decide +kernel
theorem dX0_fillSelect_27 : decode cX0_fillSelect 27 = .ok (.aload_n 1, 1) := by decide +kernel
theorem dX0_fillSelect_28 : decode cX0_fillSelect 28 = .ok (.iload 6, 2) := by decide +kernel
theorem dX0_fillSelect_30 : decode cX0_fillSelect 30 = .ok (.invokevirtual 119, 3) := by decide +kernel
theorem dX0_fillSelect_33 : decode cX0_fillSelect 33 = .ok (.istore 7, 2) := by decide +kernel
theorem dX0_fillSelect_35 : decode cX0_fillSelect 35 = .ok (.iload_n 2, 1) := by decide +kernel
theorem dX0_fillSelect_36 : decode cX0_fillSelect 36 = .ok (.iconst 2, 1) := by decide +kernel
theorem dX0_fillSelect_37 : decode cX0_fillSelect 37 = .ok (.if_icmp .ne 15, 3) := by decide +kernel
theorem dX0_fillSelect_40 : decode cX0_fillSelect 40 = .ok (.iload 7, 2) := by decide +kernel
theorem dX0_fillSelect_42 : decode cX0_fillSelect 42 = .ok (.iload 5, 2) := by decide +kernel
theorem dX0_fillSelect_44 : decode cX0_fillSelect 44 = .ok (.iload 4, 2) := by decide +kernel
theorem dX0_fillSelect_46 : decode cX0_fillSelect 46 = .ok (.invokestatic 122, 3) := by decide +kernel
theorem dX0_fillSelect_49 : decode cX0_fillSelect 49 = .ok (.goto 5, 3) := by decide +kernel
theorem dX0_fillSelect_52 : decode cX0_fillSelect 52 = .ok (.iload 4, 2) := by decide +kernel
theorem dX0_fillSelect_54 : decode cX0_fillSelect 54 = .ok (.istore 8, 2) := by decide +kernel
theorem dX0_fillSelect_56 : decode cX0_fillSelect 56 = .ok (.iload 7, 2) := by decide +kernel
theorem dX0_fillSelect_58 : decode cX0_fillSelect 58 = .ok (.iload 5, 2) := by decide +kernel
theorem dX0_fillSelect_60 : decode cX0_fillSelect 60 = .ok (.iload_n 3, 1) := by decide +kernel
theorem dX0_fillSelect_61 : decode cX0_fillSelect 61 = .ok (.invokestatic 122, 3) := by decide +kernel
theorem dX0_fillSelect_64 : decode cX0_fillSelect 64 = .ok (.iload 8, 2) := by decide +kernel
theorem dX0_fillSelect_66 : decode cX0_fillSelect 66 = .ok (.if_icmp .ne 17, 3) := by decide +kernel
theorem dX0_fillSelect_69 : decode cX0_fillSelect 69 = .ok (.aload_n 0, 1) := by decide +kernel
theorem dX0_fillSelect_70 : decode cX0_fillSelect 70 = .ok (.iload 7, 2) := by decide +kernel
theorem dX0_fillSelect_72 : decode cX0_fillSelect 72 = .ok (.aload_n 1, 1) := by decide +kernel
theorem dX0_fillSelect_73 : decode cX0_fillSelect 73 = .ok (.iload 6, 2) := by decide +kernel
theorem dX0_fillSelect_75 : decode cX0_fillSelect 75 = .ok (.invokevirtual 128, 3) := by decide +kernel
theorem dX0_fillSelect_78 : decode cX0_fillSelect 78 = .ok (.ifCond .ne 5, 3) := by decide +kernel
theorem dX0_fillSelect_81 : decode cX0_fillSelect 81 = .ok (.iconst 0, 1) := by decide +kernel
theorem dX0_fillSelect_82 : decode cX0_fillSelect 82 = .ok (.ireturn, 1) := by decide +kernel
theorem dX0_fillSelect_83 : decode cX0_fillSelect 83 = .ok (.iinc 6 1, 3) := by decide +kernel
theorem dX0_fillSelect_86 : decode cX0_fillSelect 86 = .ok (.goto (-68), 3) := by decide +kernel
theorem dX0_fillSelect_89 : decode cX0_fillSelect 89 = .ok (.iconst 1, 1) := by decide +kernel
theorem dX0_fillSelect_90 : decode cX0_fillSelect 90 = .ok (.ireturn, 1) := by decide +kernel
theorem dX0_fillProject_0 : decode cX0_fillProject 0 = .ok (.aload_n 0, 1) := by decide +kernel
theorem dX0_fillProject_1 : decode cX0_fillProject 1 = .ok (.getfield 18, 3) := by decide +kernel
theorem dX0_fillProject_4 : decode cX0_fillProject 4 = .ok (.iload_n 2, 1) := by decide +kernel
theorem dX0_fillProject_5 : decode cX0_fillProject 5 = .ok (.invokevirtual 35, 3) := by decide +kernel
theorem dX0_fillProject_8 : decode cX0_fillProject 8 = .ok (.iconst 0, 1) := by decide +kernel
theorem dX0_fillProject_9 : decode cX0_fillProject 9 = .ok (.istore 4, 2) := by decide +kernel
theorem dX0_fillProject_11 : decode cX0_fillProject 11 = .ok (.iload 4, 2) := by decide +kernel
theorem dX0_fillProject_13 : decode cX0_fillProject 13 = .ok (.aload_n 1, 1) := by decide +kernel
theorem dX0_fillProject_14 : decode cX0_fillProject 14 = .ok (.invokevirtual 118, 3) := by decide +kernel
theorem dX0_fillProject_17 : decode cX0_fillProject 17 = .ok (.if_icmp .ge 79, 3) := by decide +kernel
theorem dX0_fillProject_20 : decode cX0_fillProject 20 = .ok (.iconst 0, 1) := by decide +kernel
theorem dX0_fillProject_21 : decode cX0_fillProject 21 = .ok (.istore 5, 2) := by decide +kernel
theorem dX0_fillProject_23 : decode cX0_fillProject 23 = .ok (.iconst 0, 1) := by decide +kernel
theorem dX0_fillProject_24 : decode cX0_fillProject 24 = .ok (.istore 6, 2) := by decide +kernel
theorem dX0_fillProject_26 : decode cX0_fillProject 26 = .ok (.iload 6, 2) := by decide +kernel
theorem dX0_fillProject_28 : decode cX0_fillProject 28 = .ok (.iload_n 2, 1) := by decide +kernel
theorem dX0_fillProject_29 : decode cX0_fillProject 29 = .ok (.if_icmp .ge 47, 3) := by decide +kernel
theorem dX0_fillProject_32 : decode cX0_fillProject 32 = .ok (.iload 6, 2) := by decide +kernel
theorem dX0_fillProject_34 : decode cX0_fillProject 34 = .ok (.iconst 4, 1) := by decide +kernel
theorem dX0_fillProject_35 : decode cX0_fillProject 35 = .ok (.if_icmp .ge 41, 3) := by decide +kernel
theorem dX0_fillProject_38 : decode cX0_fillProject 38 = .ok (.iload_n 3, 1) := by decide +kernel
theorem dX0_fillProject_39 : decode cX0_fillProject 39 = .ok (.iload_n 2, 1) := by decide +kernel
theorem dX0_fillProject_40 : decode cX0_fillProject 40 = .ok (.iload 6, 2) := by decide +kernel
theorem dX0_fillProject_42 : decode cX0_fillProject 42 = .ok (.invokestatic 122, 3) := by decide +kernel
theorem dX0_fillProject_45 : decode cX0_fillProject 45 = .ok (.istore 7, 2) := by decide +kernel
theorem dX0_fillProject_47 : decode cX0_fillProject 47 = .ok (.iload 5, 2) := by decide +kernel
theorem dX0_fillProject_49 : decode cX0_fillProject 49 = .ok (.aload_n 1, 1) := by decide +kernel
theorem dX0_fillProject_50 : decode cX0_fillProject 50 = .ok (.iload 4, 2) := by decide +kernel
theorem dX0_fillProject_52 : decode cX0_fillProject 52 = .ok (.invokevirtual 119, 3) := by decide +kernel
theorem dX0_fillProject_55 : decode cX0_fillProject 55 = .ok (.aload_n 1, 1) := by decide +kernel
theorem dX0_fillProject_56 : decode cX0_fillProject 56 = .ok (.invokevirtual 115, 3) := by decide +kernel
theorem dX0_fillProject_59 : decode cX0_fillProject 59 = .ok (.iload 7, 2) := by decide +kernel
theorem dX0_fillProject_61 : decode cX0_fillProject 61 = .ok (.invokestatic 122, 3) := by decide +kernel
theorem dX0_fillProject_64 : decode cX0_fillProject 64 = .ok (.iconst 1, 1) := by decide +kernel
theorem dX0_fillProject_65 : decode cX0_fillProject 65 = .ok (.invokestatic 132, 3) := by decide +kernel
theorem dX0_fillProject_68 : decode cX0_fillProject 68 = .ok (.istore 5, 2) := by decide +kernel
theorem dX0_fillProject_70 : decode cX0_fillProject 70 = .ok (.iinc 6 1, 3) := by decide +kernel
theorem dX0_fillProject_73 : decode cX0_fillProject 73 = .ok (.goto (-47), 3) := by decide +kernel
theorem dX0_fillProject_76 : decode cX0_fillProject 76 = .ok (.aload_n 0, 1) := by decide +kernel
theorem dX0_fillProject_77 : decode cX0_fillProject 77 = .ok (.iload 5, 2) := by decide +kernel
theorem dX0_fillProject_79 : decode cX0_fillProject 79 = .ok (.aload_n 1, 1) := by decide +kernel
theorem dX0_fillProject_80 : decode cX0_fillProject 80 = .ok (.iload 4, 2) := by decide +kernel
theorem dX0_fillProject_82 : decode cX0_fillProject 82 = .ok (.invokevirtual 128, 3) := by decide +kernel
theorem dX0_fillProject_85 : decode cX0_fillProject 85 = .ok (.ifCond .ne 5, 3) := by decide +kernel
theorem dX0_fillProject_88 : decode cX0_fillProject 88 = .ok (.iconst 0, 1) := by decide +kernel
theorem dX0_fillProject_89 : decode cX0_fillProject 89 = .ok (.ireturn, 1) := by decide +kernel
theorem dX0_fillProject_90 : decode cX0_fillProject 90 = .ok (.iinc 4 1, 3) := by decide +kernel
theorem dX0_fillProject_93 : decode cX0_fillProject 93 = .ok (.goto (-82), 3) := by decide +kernel
theorem dX0_fillProject_96 : decode cX0_fillProject 96 = .ok (.iconst 1, 1) := by decide +kernel
theorem dX0_fillProject_97 : decode cX0_fillProject 97 = .ok (.ireturn, 1) := by decide +kernel
theorem dX0_fillJoin_0 : decode cX0_fillJoin 0 = .ok (.aload_n 0, 1) := by decide +kernel
theorem dX0_fillJoin_1 : decode cX0_fillJoin 1 = .ok (.getfield 18, 3) := by decide +kernel
theorem dX0_fillJoin_4 : decode cX0_fillJoin 4 = .ok (.aload_n 1, 1) := by decide +kernel
theorem dX0_fillJoin_5 : decode cX0_fillJoin 5 = .ok (.invokevirtual 115, 3) := by decide +kernel
theorem dX0_fillJoin_8 : decode cX0_fillJoin 8 = .ok (.aload_n 2, 1) := by decide +kernel
theorem dX0_fillJoin_9 : decode cX0_fillJoin 9 = .ok (.invokevirtual 115, 3) := by decide +kernel
theorem dX0_fillJoin_12 : decode cX0_fillJoin 12 = .ok (.iadd, 1) := by decide +kernel
theorem dX0_fillJoin_13 : decode cX0_fillJoin 13 = .ok (.invokevirtual 35, 3) := by decide +kernel
theorem dX0_fillJoin_16 : decode cX0_fillJoin 16 = .ok (.iconst 0, 1) := by decide +kernel
theorem dX0_fillJoin_17 : decode cX0_fillJoin 17 = .ok (.istore 5, 2) := by decide +kernel
theorem dX0_fillJoin_19 : decode cX0_fillJoin 19 = .ok (.iload 5, 2) := by decide +kernel
theorem dX0_fillJoin_21 : decode cX0_fillJoin 21 = .ok (.aload_n 1, 1) := by decide +kernel
theorem dX0_fillJoin_22 : decode cX0_fillJoin 22 = .ok (.invokevirtual 118, 3) := by decide +kernel
theorem dX0_fillJoin_25 : decode cX0_fillJoin 25 = .ok (.if_icmp .ge 139, 3) := by decide +kernel
theorem dX0_fillJoin_28 : decode cX0_fillJoin 28 = .ok (.aload_n 1, 1) := by decide +kernel
theorem dX0_fillJoin_29 : decode cX0_fillJoin 29 = .ok (.iload 5, 2) := by decide +kernel
theorem dX0_fillJoin_31 : decode cX0_fillJoin 31 = .ok (.invokevirtual 119, 3) := by decide +kernel
theorem dX0_fillJoin_34 : decode cX0_fillJoin 34 = .ok (.aload_n 1, 1) := by decide +kernel
theorem dX0_fillJoin_35 : decode cX0_fillJoin 35 = .ok (.invokevirtual 115, 3) := by decide +kernel
theorem dX0_fillJoin_38 : decode cX0_fillJoin 38 = .ok (.iload_n 3, 1) := by decide +kernel
theorem dX0_fillJoin_39 : decode cX0_fillJoin 39 = .ok (.invokestatic 122, 3) := by decide +kernel
theorem dX0_fillJoin_42 : decode cX0_fillJoin 42 = .ok (.istore 6, 2) := by decide +kernel
theorem dX0_fillJoin_44 : decode cX0_fillJoin 44 = .ok (.iconst 0, 1) := by decide +kernel
theorem dX0_fillJoin_45 : decode cX0_fillJoin 45 = .ok (.istore 7, 2) := by decide +kernel
theorem dX0_fillJoin_47 : decode cX0_fillJoin 47 = .ok (.iload 7, 2) := by decide +kernel
theorem dX0_fillJoin_49 : decode cX0_fillJoin 49 = .ok (.aload_n 2, 1) := by decide +kernel
theorem dX0_fillJoin_50 : decode cX0_fillJoin 50 = .ok (.invokevirtual 118, 3) := by decide +kernel
theorem dX0_fillJoin_53 : decode cX0_fillJoin 53 = .ok (.if_icmp .ge 105, 3) := by decide +kernel
theorem dX0_fillJoin_56 : decode cX0_fillJoin 56 = .ok (.aload_n 2, 1) := by decide +kernel
theorem dX0_fillJoin_57 : decode cX0_fillJoin 57 = .ok (.iload 7, 2) := by decide +kernel
theorem dX0_fillJoin_59 : decode cX0_fillJoin 59 = .ok (.invokevirtual 119, 3) := by decide +kernel
theorem dX0_fillJoin_62 : decode cX0_fillJoin 62 = .ok (.aload_n 2, 1) := by decide +kernel
theorem dX0_fillJoin_63 : decode cX0_fillJoin 63 = .ok (.invokevirtual 115, 3) := by decide +kernel
theorem dX0_fillJoin_66 : decode cX0_fillJoin 66 = .ok (.iload 4, 2) := by decide +kernel
theorem dX0_fillJoin_68 : decode cX0_fillJoin 68 = .ok (.invokestatic 122, 3) := by decide +kernel
theorem dX0_fillJoin_71 : decode cX0_fillJoin 71 = .ok (.iload 6, 2) := by decide +kernel
theorem dX0_fillJoin_73 : decode cX0_fillJoin 73 = .ok (.if_icmp .eq 6, 3) := by decide +kernel
theorem dX0_fillJoin_76 : decode cX0_fillJoin 76 = .ok (.goto 76, 3) := by decide +kernel
theorem dX0_fillJoin_79 : decode cX0_fillJoin 79 = .ok (.aload_n 0, 1) := by decide +kernel
theorem dX0_fillJoin_80 : decode cX0_fillJoin 80 = .ok (.getfield 18, 3) := by decide +kernel
theorem dX0_fillJoin_83 : decode cX0_fillJoin 83 = .ok (.aload_n 1, 1) := by decide +kernel
theorem dX0_fillJoin_84 : decode cX0_fillJoin 84 = .ok (.iload 5, 2) := by decide +kernel
theorem dX0_fillJoin_86 : decode cX0_fillJoin 86 = .ok (.invokevirtual 119, 3) := by decide +kernel
theorem dX0_fillJoin_89 : decode cX0_fillJoin 89 = .ok (.aload_n 2, 1) := by decide +kernel
theorem dX0_fillJoin_90 : decode cX0_fillJoin 90 = .ok (.iload 7, 2) := by decide +kernel
theorem dX0_fillJoin_92 : decode cX0_fillJoin 92 = .ok (.invokevirtual 119, 3) := by decide +kernel
theorem dX0_fillJoin_95 : decode cX0_fillJoin 95 = .ok (.aload_n 2, 1) := by decide +kernel
theorem dX0_fillJoin_96 : decode cX0_fillJoin 96 = .ok (.invokevirtual 115, 3) := by decide +kernel
theorem dX0_fillJoin_99 : decode cX0_fillJoin 99 = .ok (.invokestatic 132, 3) := by decide +kernel
theorem dX0_fillJoin_102 : decode cX0_fillJoin 102 = .ok (.invokevirtual 99, 3) := by decide +kernel
theorem dX0_fillJoin_105 : decode cX0_fillJoin 105 = .ok (.astore 8, 2) := by decide +kernel
theorem dX0_fillJoin_107 : decode cX0_fillJoin 107 = .ok (.aload_n 1, 1) := by decide +kernel
theorem dX0_fillJoin_108 : decode cX0_fillJoin 108 = .ok (.iload 5, 2) := by decide +kernel
theorem dX0_fillJoin_110 : decode cX0_fillJoin 110 = .ok (.invokevirtual 135, 3) := by decide +kernel
theorem dX0_fillJoin_113 : decode cX0_fillJoin 113 = .ok (.astore 9, 2) := by decide +kernel
theorem dX0_fillJoin_115 : decode cX0_fillJoin 115 = .ok (.aload_n 2, 1) := by decide +kernel
theorem dX0_fillJoin_116 : decode cX0_fillJoin 116 = .ok (.iload 7, 2) := by decide +kernel
theorem dX0_fillJoin_118 : decode cX0_fillJoin 118 = .ok (.invokevirtual 135, 3) := by decide +kernel
theorem dX0_fillJoin_121 : decode cX0_fillJoin 121 = .ok (.astore 10, 2) := by decide +kernel
theorem dX0_fillJoin_123 : decode cX0_fillJoin 123 = .ok (.aload 8, 2) := by decide +kernel
theorem dX0_fillJoin_125 : decode cX0_fillJoin 125 = .ok (.ifnull 25, 3) := by decide +kernel
theorem dX0_fillJoin_128 : decode cX0_fillJoin 128 = .ok (.aload 9, 2) := by decide +kernel
theorem dX0_fillJoin_130 : decode cX0_fillJoin 130 = .ok (.ifnull 20, 3) := by decide +kernel
theorem dX0_fillJoin_133 : decode cX0_fillJoin 133 = .ok (.aload 10, 2) := by decide +kernel
theorem dX0_fillJoin_135 : decode cX0_fillJoin 135 = .ok (.ifnull 15, 3) := by decide +kernel
theorem dX0_fillJoin_138 : decode cX0_fillJoin 138 = .ok (.aload 8, 2) := by decide +kernel
theorem dX0_fillJoin_140 : decode cX0_fillJoin 140 = .ok (.aload 9, 2) := by decide +kernel
theorem dX0_fillJoin_142 : decode cX0_fillJoin 142 = .ok (.aload 10, 2) := by decide +kernel
theorem dX0_fillJoin_144 : decode cX0_fillJoin 144 = .ok (.invokevirtual 138, 3) := by decide +kernel
theorem dX0_fillJoin_147 : decode cX0_fillJoin 147 = .ok (.ifCond .ne 5, 3) := by decide +kernel
theorem dX0_fillJoin_150 : decode cX0_fillJoin 150 = .ok (.iconst 0, 1) := by decide +kernel
theorem dX0_fillJoin_151 : decode cX0_fillJoin 151 = .ok (.ireturn, 1) := by decide +kernel
theorem dX0_fillJoin_152 : decode cX0_fillJoin 152 = .ok (.iinc 7 1, 3) := by decide +kernel
theorem dX0_fillJoin_155 : decode cX0_fillJoin 155 = .ok (.goto (-108), 3) := by decide +kernel
theorem dX0_fillJoin_158 : decode cX0_fillJoin 158 = .ok (.iinc 5 1, 3) := by decide +kernel
theorem dX0_fillJoin_161 : decode cX0_fillJoin 161 = .ok (.goto (-142), 3) := by decide +kernel
theorem dX0_fillJoin_164 : decode cX0_fillJoin 164 = .ok (.iconst 1, 1) := by decide +kernel
theorem dX0_fillJoin_165 : decode cX0_fillJoin 165 = .ok (.ireturn, 1) := by decide +kernel
theorem dX0_fillUnion_0 : decode cX0_fillUnion 0 = .ok (.aload_n 0, 1) := by decide +kernel
theorem dX0_fillUnion_1 : decode cX0_fillUnion 1 = .ok (.getfield 18, 3) := by decide +kernel
theorem dX0_fillUnion_4 : decode cX0_fillUnion 4 = .ok (.aload_n 1, 1) := by decide +kernel
theorem dX0_fillUnion_5 : decode cX0_fillUnion 5 = .ok (.invokevirtual 115, 3) := by decide +kernel
theorem dX0_fillUnion_8 : decode cX0_fillUnion 8 = .ok (.invokevirtual 35, 3) := by decide +kernel
theorem dX0_fillUnion_11 : decode cX0_fillUnion 11 = .ok (.iconst 0, 1) := by decide +kernel
theorem dX0_fillUnion_12 : decode cX0_fillUnion 12 = .ok (.istore_n 3, 1) := by decide +kernel
theorem dX0_fillUnion_13 : decode cX0_fillUnion 13 = .ok (.iload_n 3, 1) := by decide +kernel
theorem dX0_fillUnion_14 : decode cX0_fillUnion 14 = .ok (.aload_n 1, 1) := by decide +kernel
theorem dX0_fillUnion_15 : decode cX0_fillUnion 15 = .ok (.invokevirtual 118, 3) := by decide +kernel
theorem dX0_fillUnion_18 : decode cX0_fillUnion 18 = .ok (.if_icmp .ge 25, 3) := by decide +kernel
theorem dX0_fillUnion_21 : decode cX0_fillUnion 21 = .ok (.aload_n 0, 1) := by decide +kernel
theorem dX0_fillUnion_22 : decode cX0_fillUnion 22 = .ok (.aload_n 1, 1) := by decide +kernel
theorem dX0_fillUnion_23 : decode cX0_fillUnion 23 = .ok (.iload_n 3, 1) := by decide +kernel
theorem dX0_fillUnion_24 : decode cX0_fillUnion 24 = .ok (.invokevirtual 119, 3) := by decide +kernel
theorem dX0_fillUnion_27 : decode cX0_fillUnion 27 = .ok (.aload_n 1, 1) := by decide +kernel
theorem dX0_fillUnion_28 : decode cX0_fillUnion 28 = .ok (.iload_n 3, 1) := by decide +kernel
theorem dX0_fillUnion_29 : decode cX0_fillUnion 29 = .ok (.invokevirtual 128, 3) := by decide +kernel
theorem dX0_fillUnion_32 : decode cX0_fillUnion 32 = .ok (.ifCond .ne 5, 3) := by decide +kernel
theorem dX0_fillUnion_35 : decode cX0_fillUnion 35 = .ok (.iconst 0, 1) := by decide +kernel
theorem dX0_fillUnion_36 : decode cX0_fillUnion 36 = .ok (.ireturn, 1) := by decide +kernel
theorem dX0_fillUnion_37 : decode cX0_fillUnion 37 = .ok (.iinc 3 1, 3) := by decide +kernel
theorem dX0_fillUnion_40 : decode cX0_fillUnion 40 = .ok (.goto (-27), 3) := by decide +kernel
theorem dX0_fillUnion_43 : decode cX0_fillUnion 43 = .ok (.iconst 0, 1) := by decide +kernel
theorem dX0_fillUnion_44 : decode cX0_fillUnion 44 = .ok (.istore_n 3, 1) := by decide +kernel
theorem dX0_fillUnion_45 : decode cX0_fillUnion 45 = .ok (.iload_n 3, 1) := by decide +kernel
theorem dX0_fillUnion_46 : decode cX0_fillUnion 46 = .ok (.aload_n 2, 1) := by decide +kernel
theorem dX0_fillUnion_47 : decode cX0_fillUnion 47 = .ok (.invokevirtual 118, 3) := by decide +kernel
theorem dX0_fillUnion_50 : decode cX0_fillUnion 50 = .ok (.if_icmp .ge 25, 3) := by decide +kernel
theorem dX0_fillUnion_53 : decode cX0_fillUnion 53 = .ok (.aload_n 0, 1) := by decide +kernel
theorem dX0_fillUnion_54 : decode cX0_fillUnion 54 = .ok (.aload_n 2, 1) := by decide +kernel
theorem dX0_fillUnion_55 : decode cX0_fillUnion 55 = .ok (.iload_n 3, 1) := by decide +kernel
theorem dX0_fillUnion_56 : decode cX0_fillUnion 56 = .ok (.invokevirtual 119, 3) := by decide +kernel
theorem dX0_fillUnion_59 : decode cX0_fillUnion 59 = .ok (.aload_n 2, 1) := by decide +kernel
theorem dX0_fillUnion_60 : decode cX0_fillUnion 60 = .ok (.iload_n 3, 1) := by decide +kernel
theorem dX0_fillUnion_61 : decode cX0_fillUnion 61 = .ok (.invokevirtual 128, 3) := by decide +kernel
theorem dX0_fillUnion_64 : decode cX0_fillUnion 64 = .ok (.ifCond .ne 5, 3) := by decide +kernel
theorem dX0_fillUnion_67 : decode cX0_fillUnion 67 = .ok (.iconst 0, 1) := by decide +kernel
theorem dX0_fillUnion_68 : decode cX0_fillUnion 68 = .ok (.ireturn, 1) := by decide +kernel
theorem dX0_fillUnion_69 : decode cX0_fillUnion 69 = .ok (.iinc 3 1, 3) := by decide +kernel
theorem dX0_fillUnion_72 : decode cX0_fillUnion 72 = .ok (.goto (-27), 3) := by decide +kernel
theorem dX0_fillUnion_75 : decode cX0_fillUnion 75 = .ok (.iconst 1, 1) := by decide +kernel
theorem dX0_fillUnion_76 : decode cX0_fillUnion 76 = .ok (.ireturn, 1) := by decide +kernel
theorem dX0_addToSpare_0 : decode cX0_addToSpare 0 = .ok (.aload_n 0, 1) := by decide +kernel
theorem dX0_addToSpare_1 : decode cX0_addToSpare 1 = .ok (.getfield 18, 3) := by decide +kernel
theorem dX0_addToSpare_4 : decode cX0_addToSpare 4 = .ok (.iload_n 1, 1) := by decide +kernel
theorem dX0_addToSpare_5 : decode cX0_addToSpare 5 = .ok (.invokevirtual 99, 3) := by decide +kernel
theorem dX0_addToSpare_8 : decode cX0_addToSpare 8 = .ok (.astore 4, 2) := by decide +kernel
theorem dX0_addToSpare_10 : decode cX0_addToSpare 10 = .ok (.aload_n 2, 1) := by decide +kernel
theorem dX0_addToSpare_11 : decode cX0_addToSpare 11 = .ok (.iload_n 3, 1) := by decide +kernel
theorem dX0_addToSpare_12 : decode cX0_addToSpare 12 = .ok (.invokevirtual 135, 3) := by decide +kernel
theorem dX0_addToSpare_15 : decode cX0_addToSpare 15 = .ok (.astore 5, 2) := by decide +kernel
theorem dX0_addToSpare_17 : decode cX0_addToSpare 17 = .ok (.aload 4, 2) := by decide +kernel
theorem dX0_addToSpare_19 : decode cX0_addToSpare 19 = .ok (.ifnull 22, 3) := by decide +kernel
theorem dX0_addToSpare_22 : decode cX0_addToSpare 22 = .ok (.aload 5, 2) := by decide +kernel
theorem dX0_addToSpare_24 : decode cX0_addToSpare 24 = .ok (.ifnull 17, 3) := by decide +kernel
theorem dX0_addToSpare_27 : decode cX0_addToSpare 27 = .ok (.aload 4, 2) := by decide +kernel
theorem dX0_addToSpare_29 : decode cX0_addToSpare 29 = .ok (.aload 5, 2) := by decide +kernel
theorem dX0_addToSpare_31 : decode cX0_addToSpare 31 = .ok (.invokevirtual 142, 3) := by decide +kernel
theorem dX0_addToSpare_34 : decode cX0_addToSpare 34 = .ok (.ifCond .eq 7, 3) := by decide +kernel
theorem dX0_addToSpare_37 : decode cX0_addToSpare 37 = .ok (.iconst 1, 1) := by decide +kernel
theorem dX0_addToSpare_38 : decode cX0_addToSpare 38 = .ok (.goto 4, 3) := by decide +kernel
theorem dX0_addToSpare_41 : decode cX0_addToSpare 41 = .ok (.iconst 0, 1) := by decide +kernel
theorem dX0_addToSpare_42 : decode cX0_addToSpare 42 = .ok (.ireturn, 1) := by decide +kernel
theorem dX0_waiting_0 : decode cX0_waiting 0 = .ok (.aload_n 0, 1) := by decide +kernel
theorem dX0_waiting_1 : decode cX0_waiting 1 = .ok (.getfield 25, 3) := by decide +kernel
theorem dX0_waiting_4 : decode cX0_waiting 4 = .ok (.iload_n 1, 1) := by decide +kernel
theorem dX0_waiting_5 : decode cX0_waiting 5 = .ok (.isub, 1) := by decide +kernel
theorem dX0_waiting_6 : decode cX0_waiting 6 = .ok (.istore_n 2, 1) := by decide +kernel
theorem dX0_waiting_7 : decode cX0_waiting 7 = .ok (.iload_n 2, 1) := by decide +kernel
theorem dX0_waiting_8 : decode cX0_waiting 8 = .ok (.ifCond .lt 18, 3) := by decide +kernel
theorem dX0_waiting_11 : decode cX0_waiting 11 = .ok (.iload_n 2, 1) := by decide +kernel
theorem dX0_waiting_12 : decode cX0_waiting 12 = .ok (.bipush 12, 2) := by decide +kernel
theorem dX0_waiting_14 : decode cX0_waiting 14 = .ok (.if_icmp .ge 12, 3) := by decide +kernel
theorem dX0_waiting_17 : decode cX0_waiting 17 = .ok (.aload_n 0, 1) := by decide +kernel
theorem dX0_waiting_18 : decode cX0_waiting 18 = .ok (.getfield 13, 3) := by decide +kernel
theorem dX0_waiting_21 : decode cX0_waiting 21 = .ok (.iload_n 2, 1) := by decide +kernel
theorem dX0_waiting_22 : decode cX0_waiting 22 = .ok (.aaload, 1) := by decide +kernel
theorem dX0_waiting_23 : decode cX0_waiting 23 = .ok (.goto 4, 3) := by decide +kernel
theorem dX0_waiting_26 : decode cX0_waiting 26 = .ok (.aconst_null, 1) := by decide +kernel
theorem dX0_waiting_27 : decode cX0_waiting 27 = .ok (.areturn, 1) := by decide +kernel
theorem dX0_pushSpare_0 : decode cX0_pushSpare 0 = .ok (.aload_n 0, 1) := by decide +kernel
theorem dX0_pushSpare_1 : decode cX0_pushSpare 1 = .ok (.getfield 25, 3) := by decide +kernel
theorem dX0_pushSpare_4 : decode cX0_pushSpare 4 = .ok (.iload_n 1, 1) := by decide +kernel
theorem dX0_pushSpare_5 : decode cX0_pushSpare 5 = .ok (.isub, 1) := by decide +kernel
theorem dX0_pushSpare_6 : decode cX0_pushSpare 6 = .ok (.istore_n 2, 1) := by decide +kernel
theorem dX0_pushSpare_7 : decode cX0_pushSpare 7 = .ok (.iload_n 2, 1) := by decide +kernel
theorem dX0_pushSpare_8 : decode cX0_pushSpare 8 = .ok (.ifCond .lt 9, 3) := by decide +kernel
theorem dX0_pushSpare_11 : decode cX0_pushSpare 11 = .ok (.iload_n 2, 1) := by decide +kernel
theorem dX0_pushSpare_12 : decode cX0_pushSpare 12 = .ok (.bipush 12, 2) := by decide +kernel
theorem dX0_pushSpare_14 : decode cX0_pushSpare 14 = .ok (.if_icmp .lt 5, 3) := by decide +kernel
theorem dX0_pushSpare_17 : decode cX0_pushSpare 17 = .ok (.iconst 0, 1) := by decide +kernel
theorem dX0_pushSpare_18 : decode cX0_pushSpare 18 = .ok (.ireturn, 1) := by decide +kernel
theorem dX0_pushSpare_19 : decode cX0_pushSpare 19 = .ok (.aload_n 0, 1) := by decide +kernel
theorem dX0_pushSpare_20 : decode cX0_pushSpare 20 = .ok (.getfield 13, 3) := by decide +kernel
theorem dX0_pushSpare_23 : decode cX0_pushSpare 23 = .ok (.iload_n 2, 1) := by decide +kernel
theorem dX0_pushSpare_24 : decode cX0_pushSpare 24 = .ok (.aaload, 1) := by decide +kernel
theorem dX0_pushSpare_25 : decode cX0_pushSpare 25 = .ok (.astore_n 3, 1) := by decide +kernel
theorem dX0_pushSpare_26 : decode cX0_pushSpare 26 = .ok (.aload_n 3, 1) := by decide +kernel
theorem dX0_pushSpare_27 : decode cX0_pushSpare 27 = .ok (.ifnonnull 5, 3) := by decide +kernel
theorem dX0_pushSpare_30 : decode cX0_pushSpare 30 = .ok (.iconst 0, 1) := by decide +kernel
theorem dX0_pushSpare_31 : decode cX0_pushSpare 31 = .ok (.ireturn, 1) := by decide +kernel
theorem dX0_pushSpare_32 : decode cX0_pushSpare 32 = .ok (.aload_n 0, 1) := by decide +kernel
theorem dX0_pushSpare_33 : decode cX0_pushSpare 33 = .ok (.getfield 13, 3) := by decide +kernel
theorem dX0_pushSpare_36 : decode cX0_pushSpare 36 = .ok (.iload_n 2, 1) := by decide +kernel
theorem dX0_pushSpare_37 : decode cX0_pushSpare 37 = .ok (.aload_n 0, 1) := by decide +kernel
theorem dX0_pushSpare_38 : decode cX0_pushSpare 38 = .ok (.getfield 18, 3) := by decide +kernel
theorem dX0_pushSpare_41 : decode cX0_pushSpare 41 = .ok (.aastore, 1) := by decide +kernel
theorem dX0_pushSpare_42 : decode cX0_pushSpare 42 = .ok (.aload_n 0, 1) := by decide +kernel
theorem dX0_pushSpare_43 : decode cX0_pushSpare 43 = .ok (.aload_n 3, 1) := by decide +kernel
theorem dX0_pushSpare_44 : decode cX0_pushSpare 44 = .ok (.putfield 18, 3) := by decide +kernel
theorem dX0_pushSpare_47 : decode cX0_pushSpare 47 = .ok (.aload_n 0, 1) := by decide +kernel
theorem dX0_pushSpare_48 : decode cX0_pushSpare 48 = .ok (.iload_n 2, 1) := by decide +kernel
theorem dX0_pushSpare_49 : decode cX0_pushSpare 49 = .ok (.iconst 1, 1) := by decide +kernel
theorem dX0_pushSpare_50 : decode cX0_pushSpare 50 = .ok (.iadd, 1) := by decide +kernel
theorem dX0_pushSpare_51 : decode cX0_pushSpare 51 = .ok (.putfield 25, 3) := by decide +kernel
theorem dX0_pushSpare_54 : decode cX0_pushSpare 54 = .ok (.iconst 1, 1) := by decide +kernel
theorem dX0_pushSpare_55 : decode cX0_pushSpare 55 = .ok (.ireturn, 1) := by decide +kernel
theorem dX1_init_0 : decode cX1_init 0 = .ok (.aload_n 0, 1) := by decide +kernel
theorem dX1_init_1 : decode cX1_init 1 = .ok (.invokespecial 3, 3) := by decide +kernel
theorem dX1_init_4 : decode cX1_init 4 = .ok (.aload_n 0, 1) := by decide +kernel
theorem dX1_init_5 : decode cX1_init 5 = .ok (.iconst 4, 1) := by decide +kernel
theorem dX1_init_6 : decode cX1_init 6 = .ok (.anewarray 9, 3) := by decide +kernel
theorem dX1_init_9 : decode cX1_init 9 = .ok (.putfield 11, 3) := by decide +kernel
theorem dX1_init_12 : decode cX1_init 12 = .ok (.iconst 0, 1) := by decide +kernel
theorem dX1_init_13 : decode cX1_init 13 = .ok (.istore_n 1, 1) := by decide +kernel
theorem dX1_init_14 : decode cX1_init 14 = .ok (.iload_n 1, 1) := by decide +kernel
theorem dX1_init_15 : decode cX1_init 15 = .ok (.iconst 4, 1) := by decide +kernel
theorem dX1_init_16 : decode cX1_init 16 = .ok (.if_icmp .ge 22, 3) := by decide +kernel
theorem dX1_init_19 : decode cX1_init 19 = .ok (.aload_n 0, 1) := by decide +kernel
theorem dX1_init_20 : decode cX1_init 20 = .ok (.getfield 11, 3) := by decide +kernel
theorem dX1_init_23 : decode cX1_init 23 = .ok (.iload_n 1, 1) := by decide +kernel
theorem dX1_init_24 : decode cX1_init 24 = .ok (.new 9, 3) := by decide +kernel
theorem dX1_init_27 : decode cX1_init 27 = .ok (.dup, 1) := by decide +kernel
theorem dX1_init_28 : decode cX1_init 28 = .ok (.invokespecial 17, 3) := by decide +kernel
theorem dX1_init_31 : decode cX1_init 31 = .ok (.aastore, 1) := by decide +kernel
theorem dX1_init_32 : decode cX1_init 32 = .ok (.iinc 1 1, 3) := by decide +kernel
theorem dX1_init_35 : decode cX1_init 35 = .ok (.goto (-21), 3) := by decide +kernel
theorem dX1_init_38 : decode cX1_init 38 = .ok (.return_, 1) := by decide +kernel
theorem dX1_size_0 : decode cX1_size 0 = .ok (.aload_n 0, 1) := by decide +kernel
theorem dX1_size_1 : decode cX1_size 1 = .ok (.getfield 18, 3) := by decide +kernel
theorem dX1_size_4 : decode cX1_size 4 = .ok (.ireturn, 1) := by decide +kernel
theorem dX1_record_0 : decode cX1_record 0 = .ok (.aload_n 0, 1) := by decide +kernel
theorem dX1_record_1 : decode cX1_record 1 = .ok (.getfield 18, 3) := by decide +kernel
theorem dX1_record_4 : decode cX1_record 4 = .ok (.iconst 4, 1) := by decide +kernel
theorem dX1_record_5 : decode cX1_record 5 = .ok (.if_icmp .lt 12, 3) := by decide +kernel
theorem dX1_record_8 : decode cX1_record 8 = .ok (.aload_n 0, 1) := by decide +kernel
theorem dX1_record_9 : decode cX1_record 9 = .ok (.invokevirtual 22, 3) := by decide +kernel
theorem dX1_record_12 : decode cX1_record 12 = .ok (.aload_n 0, 1) := by decide +kernel
theorem dX1_record_13 : decode cX1_record 13 = .ok (.iconst 3, 1) := by decide +kernel
theorem dX1_record_14 : decode cX1_record 14 = .ok (.putfield 18, 3) := by decide +kernel
theorem dX1_record_17 : decode cX1_record 17 = .ok (.aload_n 0, 1) := by decide +kernel
theorem dX1_record_18 : decode cX1_record 18 = .ok (.getfield 18, 3) := by decide +kernel
theorem dX1_record_21 : decode cX1_record 21 = .ok (.ifCond .lt 15, 3) := by decide +kernel
theorem dX1_record_24 : decode cX1_record 24 = .ok (.aload_n 0, 1) := by decide +kernel
theorem dX1_record_25 : decode cX1_record 25 = .ok (.getfield 11, 3) := by decide +kernel
theorem dX1_record_28 : decode cX1_record 28 = .ok (.aload_n 0, 1) := by decide +kernel
theorem dX1_record_29 : decode cX1_record 29 = .ok (.getfield 18, 3) := by decide +kernel
theorem dX1_record_32 : decode cX1_record 32 = .ok (.aaload, 1) := by decide +kernel
theorem dX1_record_33 : decode cX1_record 33 = .ok (.goto 4, 3) := by decide +kernel
theorem dX1_record_36 : decode cX1_record 36 = .ok (.aconst_null, 1) := by decide +kernel
theorem dX1_record_37 : decode cX1_record 37 = .ok (.astore_n 2, 1) := by decide +kernel
theorem dX1_record_38 : decode cX1_record 38 = .ok (.aload_n 2, 1) := by decide +kernel
theorem dX1_record_39 : decode cX1_record 39 = .ok (.ifnull 18, 3) := by decide +kernel
theorem dX1_record_42 : decode cX1_record 42 = .ok (.aload_n 2, 1) := by decide +kernel
theorem dX1_record_43 : decode cX1_record 43 = .ok (.aload_n 1, 1) := by decide +kernel
theorem dX1_record_44 : decode cX1_record 44 = .ok (.invokevirtual 25, 3) := by decide +kernel
theorem dX1_record_47 : decode cX1_record 47 = .ok (.aload_n 0, 1) := by decide +kernel
theorem dX1_record_48 : decode cX1_record 48 = .ok (.dup, 1) := by decide +kernel
theorem dX1_record_49 : decode cX1_record 49 = .ok (.getfield 18, 3) := by decide +kernel
theorem dX1_record_52 : decode cX1_record 52 = .ok (.iconst 1, 1) := by decide +kernel
theorem dX1_record_53 : decode cX1_record 53 = .ok (.iadd, 1) := by decide +kernel
theorem dX1_record_54 : decode cX1_record 54 = .ok (.putfield 18, 3) := by decide +kernel
theorem dX1_record_57 : decode cX1_record 57 = .ok (.return_, 1) := by decide +kernel
theorem dX1_takeLatest_0 : decode cX1_takeLatest 0 = .ok (.aload_n 0, 1) := by decide +kernel
theorem dX1_takeLatest_1 : decode cX1_takeLatest 1 = .ok (.getfield 18, 3) := by decide +kernel
theorem dX1_takeLatest_4 : decode cX1_takeLatest 4 = .ok (.ifCond .le 11, 3) := by decide +kernel
theorem dX1_takeLatest_7 : decode cX1_takeLatest 7 = .ok (.aload_n 0, 1) := by decide +kernel
theorem dX1_takeLatest_8 : decode cX1_takeLatest 8 = .ok (.getfield 18, 3) := by decide +kernel
theorem dX1_takeLatest_11 : decode cX1_takeLatest 11 = .ok (.iconst 4, 1) := by decide +kernel
theorem dX1_takeLatest_12 : decode cX1_takeLatest 12 = .ok (.if_icmp .le 5, 3) := by decide +kernel
theorem dX1_takeLatest_15 : decode cX1_takeLatest 15 = .ok (.aconst_null, 1) := by decide +kernel
theorem dX1_takeLatest_16 : decode cX1_takeLatest 16 = .ok (.areturn, 1) := by decide +kernel
theorem dX1_takeLatest_17 : decode cX1_takeLatest 17 = .ok (.aload_n 0, 1) := by decide +kernel
theorem dX1_takeLatest_18 : decode cX1_takeLatest 18 = .ok (.dup, 1) := by decide +kernel
theorem dX1_takeLatest_19 : decode cX1_takeLatest 19 = .ok (.getfield 18, 3) := by decide +kernel
theorem dX1_takeLatest_22 : decode cX1_takeLatest 22 = .ok (.iconst 1, 1) := by decide +kernel
theorem dX1_takeLatest_23 : decode cX1_takeLatest 23 = .ok (.isub, 1) := by decide +kernel
theorem dX1_takeLatest_24 : decode cX1_takeLatest 24 = .ok (.putfield 18, 3) := by decide +kernel
theorem dX1_takeLatest_27 : decode cX1_takeLatest 27 = .ok (.aload_n 0, 1) := by decide +kernel
theorem dX1_takeLatest_28 : decode cX1_takeLatest 28 = .ok (.getfield 11, 3) := by decide +kernel
theorem dX1_takeLatest_31 : decode cX1_takeLatest 31 = .ok (.aload_n 0, 1) := by decide +kernel
theorem dX1_takeLatest_32 : decode cX1_takeLatest 32 = .ok (.getfield 18, 3) := by decide +kernel
theorem dX1_takeLatest_35 : decode cX1_takeLatest 35 = .ok (.aaload, 1) := by decide +kernel
theorem dX1_takeLatest_36 : decode cX1_takeLatest 36 = .ok (.areturn, 1) := by decide +kernel
theorem dX1_moveOldestToEnd_0 : decode cX1_moveOldestToEnd 0 = .ok (.aload_n 0, 1) := by decide +kernel
theorem dX1_moveOldestToEnd_1 : decode cX1_moveOldestToEnd 1 = .ok (.getfield 11, 3) := by decide +kernel
theorem dX1_moveOldestToEnd_4 : decode cX1_moveOldestToEnd 4 = .ok (.iconst 0, 1) := by decide +kernel
theorem dX1_moveOldestToEnd_5 : decode cX1_moveOldestToEnd 5 = .ok (.aaload, 1) := by decide +kernel
theorem dX1_moveOldestToEnd_6 : decode cX1_moveOldestToEnd 6 = .ok (.astore_n 1, 1) := by decide +kernel
theorem dX1_moveOldestToEnd_7 : decode cX1_moveOldestToEnd 7 = .ok (.iconst 1, 1) := by decide +kernel
theorem dX1_moveOldestToEnd_8 : decode cX1_moveOldestToEnd 8 = .ok (.istore_n 2, 1) := by decide +kernel
theorem dX1_moveOldestToEnd_9 : decode cX1_moveOldestToEnd 9 = .ok (.iload_n 2, 1) := by decide +kernel
theorem dX1_moveOldestToEnd_10 : decode cX1_moveOldestToEnd 10 = .ok (.iconst 4, 1) := by decide +kernel
theorem dX1_moveOldestToEnd_11 : decode cX1_moveOldestToEnd 11 = .ok (.if_icmp .ge 23, 3) := by decide +kernel
theorem dX1_moveOldestToEnd_14 : decode cX1_moveOldestToEnd 14 = .ok (.aload_n 0, 1) := by decide +kernel
theorem dX1_moveOldestToEnd_15 : decode cX1_moveOldestToEnd 15 = .ok (.getfield 11, 3) := by decide +kernel
theorem dX1_moveOldestToEnd_18 : decode cX1_moveOldestToEnd 18 = .ok (.iload_n 2, 1) := by decide +kernel
theorem dX1_moveOldestToEnd_19 : decode cX1_moveOldestToEnd 19 = .ok (.iconst 1, 1) := by decide +kernel
theorem dX1_moveOldestToEnd_20 : decode cX1_moveOldestToEnd 20 = .ok (.isub, 1) := by decide +kernel
theorem dX1_moveOldestToEnd_21 : decode cX1_moveOldestToEnd 21 = .ok (.aload_n 0, 1) := by decide +kernel
theorem dX1_moveOldestToEnd_22 : decode cX1_moveOldestToEnd 22 = .ok (.getfield 11, 3) := by decide +kernel
theorem dX1_moveOldestToEnd_25 : decode cX1_moveOldestToEnd 25 = .ok (.iload_n 2, 1) := by decide +kernel
theorem dX1_moveOldestToEnd_26 : decode cX1_moveOldestToEnd 26 = .ok (.aaload, 1) := by decide +kernel
theorem dX1_moveOldestToEnd_27 : decode cX1_moveOldestToEnd 27 = .ok (.aastore, 1) := by decide +kernel
theorem dX1_moveOldestToEnd_28 : decode cX1_moveOldestToEnd 28 = .ok (.iinc 2 1, 3) := by decide +kernel
theorem dX1_moveOldestToEnd_31 : decode cX1_moveOldestToEnd 31 = .ok (.goto (-22), 3) := by decide +kernel
theorem dX1_moveOldestToEnd_34 : decode cX1_moveOldestToEnd 34 = .ok (.aload_n 0, 1) := by decide +kernel
theorem dX1_moveOldestToEnd_35 : decode cX1_moveOldestToEnd 35 = .ok (.getfield 11, 3) := by decide +kernel
theorem dX1_moveOldestToEnd_38 : decode cX1_moveOldestToEnd 38 = .ok (.iconst 3, 1) := by decide +kernel
theorem dX1_moveOldestToEnd_39 : decode cX1_moveOldestToEnd 39 = .ok (.aload_n 1, 1) := by decide +kernel
theorem dX1_moveOldestToEnd_40 : decode cX1_moveOldestToEnd 40 = .ok (.aastore, 1) := by decide +kernel
theorem dX1_moveOldestToEnd_41 : decode cX1_moveOldestToEnd 41 = .ok (.return_, 1) := by decide +kernel
theorem dX2_hasMoreDigits_0 : decode cX2_hasMoreDigits 0 = .ok (.iload_n 0, 1) := by decide +kernel
theorem dX2_hasMoreDigits_1 : decode cX2_hasMoreDigits 1 = .ok (.istore_n 2, 1) := by decide +kernel
theorem dX2_hasMoreDigits_2 : decode cX2_hasMoreDigits 2 = .ok (.iconst 0, 1) := by decide +kernel
theorem dX2_hasMoreDigits_3 : decode cX2_hasMoreDigits 3 = .ok (.istore_n 3, 1) := by decide +kernel
theorem dX2_hasMoreDigits_4 : decode cX2_hasMoreDigits 4 = .ok (.iload_n 3, 1) := by decide +kernel
theorem dX2_hasMoreDigits_5 : decode cX2_hasMoreDigits 5 = .ok (.iload_n 1, 1) := by decide +kernel
theorem dX2_hasMoreDigits_6 : decode cX2_hasMoreDigits 6 = .ok (.if_icmp .ge 14, 3) := by decide +kernel
theorem dX2_hasMoreDigits_9 : decode cX2_hasMoreDigits 9 = .ok (.iload_n 2, 1) := by decide +kernel
theorem dX2_hasMoreDigits_10 : decode cX2_hasMoreDigits 10 = .ok (.bipush 10, 2) := by decide +kernel
theorem dX2_hasMoreDigits_12 : decode cX2_hasMoreDigits 12 = .ok (.idiv, 1) := by decide +kernel
theorem dX2_hasMoreDigits_13 : decode cX2_hasMoreDigits 13 = .ok (.istore_n 2, 1) := by decide +kernel
theorem dX2_hasMoreDigits_14 : decode cX2_hasMoreDigits 14 = .ok (.iinc 3 1, 3) := by decide +kernel
theorem dX2_hasMoreDigits_17 : decode cX2_hasMoreDigits 17 = .ok (.goto (-13), 3) := by decide +kernel
theorem dX2_hasMoreDigits_20 : decode cX2_hasMoreDigits 20 = .ok (.iload_n 2, 1) := by decide +kernel
theorem dX2_hasMoreDigits_21 : decode cX2_hasMoreDigits 21 = .ok (.ifCond .le 7, 3) := by decide +kernel
theorem dX2_hasMoreDigits_24 : decode cX2_hasMoreDigits 24 = .ok (.iconst 1, 1) := by decide +kernel
theorem dX2_hasMoreDigits_25 : decode cX2_hasMoreDigits 25 = .ok (.goto 4, 3) := by decide +kernel
theorem dX2_hasMoreDigits_28 : decode cX2_hasMoreDigits 28 = .ok (.iconst 0, 1) := by decide +kernel
theorem dX2_hasMoreDigits_29 : decode cX2_hasMoreDigits 29 = .ok (.ireturn, 1) := by decide +kernel
theorem dX2_ofDecimal_0 : decode cX2_ofDecimal 0 = .ok (.iconst 0, 1) := by decide +kernel
theorem dX2_ofDecimal_1 : decode cX2_ofDecimal 1 = .ok (.istore_n 2, 1) := by decide +kernel
theorem dX2_ofDecimal_2 : decode cX2_ofDecimal 2 = .ok (.iload_n 0, 1) := by decide +kernel
theorem dX2_ofDecimal_3 : decode cX2_ofDecimal 3 = .ok (.istore_n 3, 1) := by decide +kernel
theorem dX2_ofDecimal_4 : decode cX2_ofDecimal 4 = .ok (.iconst 0, 1) := by decide +kernel
theorem dX2_ofDecimal_5 : decode cX2_ofDecimal 5 = .ok (.istore 4, 2) := by decide +kernel
theorem dX2_ofDecimal_7 : decode cX2_ofDecimal 7 = .ok (.iload 4, 2) := by decide +kernel
theorem dX2_ofDecimal_9 : decode cX2_ofDecimal 9 = .ok (.iload_n 1, 1) := by decide +kernel
theorem dX2_ofDecimal_10 : decode cX2_ofDecimal 10 = .ok (.if_icmp .ge 26, 3) := by decide +kernel
theorem dX2_ofDecimal_13 : decode cX2_ofDecimal 13 = .ok (.iload_n 2, 1) := by decide +kernel
theorem dX2_ofDecimal_14 : decode cX2_ofDecimal 14 = .ok (.iload_n 3, 1) := by decide +kernel
theorem dX2_ofDecimal_15 : decode cX2_ofDecimal 15 = .ok (.bipush 10, 2) := by decide +kernel
theorem dX2_ofDecimal_17 : decode cX2_ofDecimal 17 = .ok (.irem, 1) := by decide +kernel
theorem dX2_ofDecimal_18 : decode cX2_ofDecimal 18 = .ok (.iconst 4, 1) := by decide +kernel
theorem dX2_ofDecimal_19 : decode cX2_ofDecimal 19 = .ok (.iload 4, 2) := by decide +kernel
theorem dX2_ofDecimal_21 : decode cX2_ofDecimal 21 = .ok (.imul, 1) := by decide +kernel
theorem dX2_ofDecimal_22 : decode cX2_ofDecimal 22 = .ok (.ishl, 1) := by decide +kernel
theorem dX2_ofDecimal_23 : decode cX2_ofDecimal 23 = .ok (.ior, 1) := by decide +kernel
theorem dX2_ofDecimal_24 : decode cX2_ofDecimal 24 = .ok (.istore_n 2, 1) := by decide +kernel
theorem dX2_ofDecimal_25 : decode cX2_ofDecimal 25 = .ok (.iload_n 3, 1) := by decide +kernel
theorem dX2_ofDecimal_26 : decode cX2_ofDecimal 26 = .ok (.bipush 10, 2) := by decide +kernel
theorem dX2_ofDecimal_28 : decode cX2_ofDecimal 28 = .ok (.idiv, 1) := by decide +kernel
theorem dX2_ofDecimal_29 : decode cX2_ofDecimal 29 = .ok (.istore_n 3, 1) := by decide +kernel
theorem dX2_ofDecimal_30 : decode cX2_ofDecimal 30 = .ok (.iinc 4 1, 3) := by decide +kernel
theorem dX2_ofDecimal_33 : decode cX2_ofDecimal 33 = .ok (.goto (-26), 3) := by decide +kernel
theorem dX2_ofDecimal_36 : decode cX2_ofDecimal 36 = .ok (.iload_n 2, 1) := by decide +kernel
theorem dX2_ofDecimal_37 : decode cX2_ofDecimal 37 = .ok (.ireturn, 1) := by decide +kernel
theorem dX2_digit_0 : decode cX2_digit 0 = .ok (.iload_n 0, 1) := by decide +kernel
theorem dX2_digit_1 : decode cX2_digit 1 = .ok (.iconst 4, 1) := by decide +kernel
theorem dX2_digit_2 : decode cX2_digit 2 = .ok (.iload_n 1, 1) := by decide +kernel
theorem dX2_digit_3 : decode cX2_digit 3 = .ok (.iconst 1, 1) := by decide +kernel
theorem dX2_digit_4 : decode cX2_digit 4 = .ok (.isub, 1) := by decide +kernel
theorem dX2_digit_5 : decode cX2_digit 5 = .ok (.iload_n 2, 1) := by decide +kernel
theorem dX2_digit_6 : decode cX2_digit 6 = .ok (.isub, 1) := by decide +kernel
theorem dX2_digit_7 : decode cX2_digit 7 = .ok (.imul, 1) := by decide +kernel
theorem dX2_digit_8 : decode cX2_digit 8 = .ok (.ishr, 1) := by decide +kernel
theorem dX2_digit_9 : decode cX2_digit 9 = .ok (.bipush 15, 2) := by decide +kernel
theorem dX2_digit_11 : decode cX2_digit 11 = .ok (.iand, 1) := by decide +kernel
theorem dX2_digit_12 : decode cX2_digit 12 = .ok (.ireturn, 1) := by decide +kernel
theorem dX2_join_0 : decode cX2_join 0 = .ok (.iload_n 0, 1) := by decide +kernel
theorem dX2_join_1 : decode cX2_join 1 = .ok (.iconst 4, 1) := by decide +kernel
theorem dX2_join_2 : decode cX2_join 2 = .ok (.iload_n 2, 1) := by decide +kernel
theorem dX2_join_3 : decode cX2_join 3 = .ok (.imul, 1) := by decide +kernel
theorem dX2_join_4 : decode cX2_join 4 = .ok (.ishl, 1) := by decide +kernel
theorem dX2_join_5 : decode cX2_join 5 = .ok (.iload_n 1, 1) := by decide +kernel
theorem dX2_join_6 : decode cX2_join 6 = .ok (.ior, 1) := by decide +kernel
theorem dX2_join_7 : decode cX2_join 7 = .ok (.ireturn, 1) := by decide +kernel
theorem dX3_init_0 : decode cX3_init 0 = .ok (.aload_n 0, 1) := by decide +kernel
theorem dX3_init_1 : decode cX3_init 1 = .ok (.invokespecial 3, 3) := by decide +kernel
theorem dX3_init_4 : decode cX3_init 4 = .ok (.aload_n 0, 1) := by decide +kernel
theorem dX3_init_5 : decode cX3_init 5 = .ok (.iload_n 1, 1) := by decide +kernel
theorem dX3_init_6 : decode cX3_init 6 = .ok (.iconst 0, 1) := by decide +kernel
theorem dX3_init_7 : decode cX3_init 7 = .ok (.invokestatic 9, 3) := by decide +kernel
theorem dX3_init_10 : decode cX3_init 10 = .ok (.newarray .char, 2) := by decide +kernel
theorem dX3_init_12 : decode cX3_init 12 = .ok (.putfield 15, 3) := by decide +kernel
theorem dX3_init_15 : decode cX3_init 15 = .ok (.return_, 1) := by decide +kernel
theorem dX3_length_0 : decode cX3_length 0 = .ok (.aload_n 0, 1) := by decide +kernel
theorem dX3_length_1 : decode cX3_length 1 = .ok (.getfield 21, 3) := by decide +kernel
theorem dX3_length_4 : decode cX3_length 4 = .ok (.ireturn, 1) := by decide +kernel
theorem dX3_clear_0 : decode cX3_clear 0 = .ok (.aload_n 0, 1) := by decide +kernel
theorem dX3_clear_1 : decode cX3_clear 1 = .ok (.iconst 0, 1) := by decide +kernel
theorem dX3_clear_2 : decode cX3_clear 2 = .ok (.putfield 21, 3) := by decide +kernel
theorem dX3_clear_5 : decode cX3_clear 5 = .ok (.return_, 1) := by decide +kernel
theorem dX3_add_0 : decode cX3_add 0 = .ok (.aload_n 0, 1) := by decide +kernel
theorem dX3_add_1 : decode cX3_add 1 = .ok (.getfield 21, 3) := by decide +kernel
theorem dX3_add_4 : decode cX3_add 4 = .ok (.ifCond .lt 15, 3) := by decide +kernel
theorem dX3_add_7 : decode cX3_add 7 = .ok (.aload_n 0, 1) := by decide +kernel
theorem dX3_add_8 : decode cX3_add 8 = .ok (.getfield 21, 3) := by decide +kernel
theorem dX3_add_11 : decode cX3_add 11 = .ok (.aload_n 0, 1) := by decide +kernel
theorem dX3_add_12 : decode cX3_add 12 = .ok (.getfield 15, 3) := by decide +kernel
theorem dX3_add_15 : decode cX3_add 15 = .ok (.arraylength, 1) := by decide +kernel
theorem dX3_add_16 : decode cX3_add 16 = .ok (.if_icmp .lt 5, 3) := by decide +kernel
theorem dX3_add_19 : decode cX3_add 19 = .ok (.iconst 0, 1) := by decide +kernel
theorem dX3_add_20 : decode cX3_add 20 = .ok (.ireturn, 1) := by decide +kernel
theorem dX3_add_21 : decode cX3_add 21 = .ok (.aload_n 0, 1) := by decide +kernel
theorem dX3_add_22 : decode cX3_add 22 = .ok (.getfield 15, 3) := by decide +kernel
theorem dX3_add_25 : decode cX3_add 25 = .ok (.aload_n 0, 1) := by decide +kernel
theorem dX3_add_26 : decode cX3_add 26 = .ok (.getfield 21, 3) := by decide +kernel
theorem dX3_add_29 : decode cX3_add 29 = .ok (.iload_n 1, 1) := by decide +kernel
theorem dX3_add_30 : decode cX3_add 30 = .ok (.castore, 1) := by decide +kernel
theorem dX3_add_31 : decode cX3_add 31 = .ok (.aload_n 0, 1) := by decide +kernel
theorem dX3_add_32 : decode cX3_add 32 = .ok (.dup, 1) := by decide +kernel
theorem dX3_add_33 : decode cX3_add 33 = .ok (.getfield 21, 3) := by decide +kernel
theorem dX3_add_36 : decode cX3_add 36 = .ok (.iconst 1, 1) := by decide +kernel
theorem dX3_add_37 : decode cX3_add 37 = .ok (.iadd, 1) := by decide +kernel
theorem dX3_add_38 : decode cX3_add 38 = .ok (.putfield 21, 3) := by decide +kernel
theorem dX3_add_41 : decode cX3_add 41 = .ok (.iconst 1, 1) := by decide +kernel
theorem dX3_add_42 : decode cX3_add 42 = .ok (.ireturn, 1) := by decide +kernel
theorem dX3_addNumber_0 : decode cX3_addNumber 0 = .ok (.lconst 1, 1) := by decide +kernel
theorem dX3_addNumber_1 : decode cX3_addNumber 1 = .ok (.lstore_n 3, 1) := by decide +kernel
theorem dX3_addNumber_2 : decode cX3_addNumber 2 = .ok (.iconst 1, 1) := by decide +kernel
theorem dX3_addNumber_3 : decode cX3_addNumber 3 = .ok (.istore 5, 2) := by decide +kernel
theorem dX3_addNumber_5 : decode cX3_addNumber 5 = .ok (.iload 5, 2) := by decide +kernel
theorem dX3_addNumber_7 : decode cX3_addNumber 7 = .ok (.bipush 19, 2) := by decide +kernel
theorem dX3_addNumber_9 : decode cX3_addNumber 9 = .ok (.if_icmp .ge 25, 3) := by decide +kernel
theorem dX3_addNumber_12 : decode cX3_addNumber 12 = .ok (.lload_n 1, 1) := by decide +kernel
theorem dX3_addNumber_13 : decode cX3_addNumber 13 = .ok (.ldc2_w 25, 3) := by decide +kernel
theorem dX3_addNumber_16 : decode cX3_addNumber 16 = .ok (.ldiv, 1) := by decide +kernel
theorem dX3_addNumber_17 : decode cX3_addNumber 17 = .ok (.lload_n 3, 1) := by decide +kernel
theorem dX3_addNumber_18 : decode cX3_addNumber 18 = .ok (.lcmp, 1) := by decide +kernel
theorem dX3_addNumber_19 : decode cX3_addNumber 19 = .ok (.ifCond .lt 15, 3) := by decide +kernel
theorem dX3_addNumber_22 : decode cX3_addNumber 22 = .ok (.lload_n 3, 1) := by decide +kernel
theorem dX3_addNumber_23 : decode cX3_addNumber 23 = .ok (.ldc2_w 25, 3) := by decide +kernel
theorem dX3_addNumber_26 : decode cX3_addNumber 26 = .ok (.lmul, 1) := by decide +kernel
theorem dX3_addNumber_27 : decode cX3_addNumber 27 = .ok (.lstore_n 3, 1) := by decide +kernel
theorem dX3_addNumber_28 : decode cX3_addNumber 28 = .ok (.iinc 5 1, 3) := by decide +kernel
theorem dX3_addNumber_31 : decode cX3_addNumber 31 = .ok (.goto (-26), 3) := by decide +kernel
theorem dX3_addNumber_34 : decode cX3_addNumber 34 = .ok (.iconst 0, 1) := by decide +kernel
theorem dX3_addNumber_35 : decode cX3_addNumber 35 = .ok (.istore 5, 2) := by decide +kernel
theorem dX3_addNumber_37 : decode cX3_addNumber 37 = .ok (.iload 5, 2) := by decide +kernel
theorem dX3_addNumber_39 : decode cX3_addNumber 39 = .ok (.bipush 19, 2) := by decide +kernel
theorem dX3_addNumber_41 : decode cX3_addNumber 41 = .ok (.if_icmp .ge 39, 3) := by decide +kernel
theorem dX3_addNumber_44 : decode cX3_addNumber 44 = .ok (.lload_n 3, 1) := by decide +kernel
theorem dX3_addNumber_45 : decode cX3_addNumber 45 = .ok (.lconst 0, 1) := by decide +kernel
theorem dX3_addNumber_46 : decode cX3_addNumber 46 = .ok (.lcmp, 1) := by decide +kernel
theorem dX3_addNumber_47 : decode cX3_addNumber 47 = .ok (.ifCond .le 33, 3) := by decide +kernel
theorem dX3_addNumber_50 : decode cX3_addNumber 50 = .ok (.aload_n 0, 1) := by decide +kernel
theorem dX3_addNumber_51 : decode cX3_addNumber 51 = .ok (.ldc2_w 27, 3) := by decide +kernel
theorem dX3_addNumber_54 : decode cX3_addNumber 54 = .ok (.lload_n 1, 1) := by decide +kernel
theorem dX3_addNumber_55 : decode cX3_addNumber 55 = .ok (.lload_n 3, 1) := by decide +kernel
theorem dX3_addNumber_56 : decode cX3_addNumber 56 = .ok (.ldiv, 1) := by decide +kernel
theorem dX3_addNumber_57 : decode cX3_addNumber 57 = .ok (.ldc2_w 25, 3) := by decide +kernel
theorem dX3_addNumber_60 : decode cX3_addNumber 60 = .ok (.lrem, 1) := by decide +kernel
theorem dX3_addNumber_61 : decode cX3_addNumber 61 = .ok (.ladd, 1) := by decide +kernel
theorem dX3_addNumber_62 : decode cX3_addNumber 62 = .ok (.l2i, 1) := by decide +kernel
theorem dX3_addNumber_63 : decode cX3_addNumber 63 = .ok (.i2c, 1) := by decide +kernel
theorem dX3_addNumber_64 : decode cX3_addNumber 64 = .ok (.invokevirtual 29, 3) := by decide +kernel
theorem dX3_addNumber_67 : decode cX3_addNumber 67 = .ok (.pop, 1) := by decide +kernel
theorem dX3_addNumber_68 : decode cX3_addNumber 68 = .ok (.lload_n 3, 1) := by decide +kernel
theorem dX3_addNumber_69 : decode cX3_addNumber 69 = .ok (.ldc2_w 25, 3) := by decide +kernel
theorem dX3_addNumber_72 : decode cX3_addNumber 72 = .ok (.ldiv, 1) := by decide +kernel
theorem dX3_addNumber_73 : decode cX3_addNumber 73 = .ok (.lstore_n 3, 1) := by decide +kernel
theorem dX3_addNumber_74 : decode cX3_addNumber 74 = .ok (.iinc 5 1, 3) := by decide +kernel
theorem dX3_addNumber_77 : decode cX3_addNumber 77 = .ok (.goto (-40), 3) := by decide +kernel
theorem dX3_addNumber_80 : decode cX3_addNumber 80 = .ok (.return_, 1) := by decide +kernel
theorem dX3_codeAt_0 : decode cX3_codeAt 0 = .ok (.iload_n 1, 1) := by decide +kernel
theorem dX3_codeAt_1 : decode cX3_codeAt 1 = .ok (.ifCond .lt 20, 3) := by decide +kernel
theorem dX3_codeAt_4 : decode cX3_codeAt 4 = .ok (.iload_n 1, 1) := by decide +kernel
theorem dX3_codeAt_5 : decode cX3_codeAt 5 = .ok (.aload_n 0, 1) := by decide +kernel
theorem dX3_codeAt_6 : decode cX3_codeAt 6 = .ok (.getfield 21, 3) := by decide +kernel
theorem dX3_codeAt_9 : decode cX3_codeAt 9 = .ok (.if_icmp .ge 12, 3) := by decide +kernel
theorem dX3_codeAt_12 : decode cX3_codeAt 12 = .ok (.iload_n 1, 1) := by decide +kernel
theorem dX3_codeAt_13 : decode cX3_codeAt 13 = .ok (.aload_n 0, 1) := by decide +kernel
theorem dX3_codeAt_14 : decode cX3_codeAt 14 = .ok (.getfield 15, 3) := by decide +kernel
theorem dX3_codeAt_17 : decode cX3_codeAt 17 = .ok (.arraylength, 1) := by decide +kernel
theorem dX3_codeAt_18 : decode cX3_codeAt 18 = .ok (.if_icmp .lt 5, 3) := by decide +kernel
theorem dX3_codeAt_21 : decode cX3_codeAt 21 = .ok (.iconst (-1), 1) := by decide +kernel
theorem dX3_codeAt_22 : decode cX3_codeAt 22 = .ok (.ireturn, 1) := by decide +kernel
theorem dX3_codeAt_23 : decode cX3_codeAt 23 = .ok (.aload_n 0, 1) := by decide +kernel
theorem dX3_codeAt_24 : decode cX3_codeAt 24 = .ok (.getfield 15, 3) := by decide +kernel
theorem dX3_codeAt_27 : decode cX3_codeAt 27 = .ok (.iload_n 1, 1) := by decide +kernel
theorem dX3_codeAt_28 : decode cX3_codeAt 28 = .ok (.caload, 1) := by decide +kernel
theorem dX3_codeAt_29 : decode cX3_codeAt 29 = .ok (.ireturn, 1) := by decide +kernel
theorem dX3_contains_0 : decode cX3_contains 0 = .ok (.iconst 0, 1) := by decide +kernel
theorem dX3_contains_1 : decode cX3_contains 1 = .ok (.istore_n 2, 1) := by decide +kernel
theorem dX3_contains_2 : decode cX3_contains 2 = .ok (.iload_n 2, 1) := by decide +kernel
theorem dX3_contains_3 : decode cX3_contains 3 = .ok (.aload_n 0, 1) := by decide +kernel
theorem dX3_contains_4 : decode cX3_contains 4 = .ok (.getfield 21, 3) := by decide +kernel
theorem dX3_contains_7 : decode cX3_contains 7 = .ok (.if_icmp .ge 20, 3) := by decide +kernel
theorem dX3_contains_10 : decode cX3_contains 10 = .ok (.aload_n 0, 1) := by decide +kernel
theorem dX3_contains_11 : decode cX3_contains 11 = .ok (.iload_n 2, 1) := by decide +kernel
theorem dX3_contains_12 : decode cX3_contains 12 = .ok (.invokevirtual 33, 3) := by decide +kernel
theorem dX3_contains_15 : decode cX3_contains 15 = .ok (.iload_n 1, 1) := by decide +kernel
theorem dX3_contains_16 : decode cX3_contains 16 = .ok (.if_icmp .ne 5, 3) := by decide +kernel
theorem dX3_contains_19 : decode cX3_contains 19 = .ok (.iconst 1, 1) := by decide +kernel
theorem dX3_contains_20 : decode cX3_contains 20 = .ok (.ireturn, 1) := by decide +kernel
theorem dX3_contains_21 : decode cX3_contains 21 = .ok (.iinc 2 1, 3) := by decide +kernel
theorem dX3_contains_24 : decode cX3_contains 24 = .ok (.goto (-22), 3) := by decide +kernel
theorem dX3_contains_27 : decode cX3_contains 27 = .ok (.iconst 0, 1) := by decide +kernel
theorem dX3_contains_28 : decode cX3_contains 28 = .ok (.ireturn, 1) := by decide +kernel
theorem dX3_copy_0 : decode cX3_copy 0 = .ok (.aload_n 0, 1) := by decide +kernel
theorem dX3_copy_1 : decode cX3_copy 1 = .ok (.invokevirtual 37, 3) := by decide +kernel
theorem dX3_copy_4 : decode cX3_copy 4 = .ok (.iconst 0, 1) := by decide +kernel
theorem dX3_copy_5 : decode cX3_copy 5 = .ok (.istore_n 2, 1) := by decide +kernel
theorem dX3_copy_6 : decode cX3_copy 6 = .ok (.iload_n 2, 1) := by decide +kernel
theorem dX3_copy_7 : decode cX3_copy 7 = .ok (.aload_n 1, 1) := by decide +kernel
theorem dX3_copy_8 : decode cX3_copy 8 = .ok (.invokevirtual 40, 3) := by decide +kernel
theorem dX3_copy_11 : decode cX3_copy 11 = .ok (.if_icmp .ge 20, 3) := by decide +kernel
theorem dX3_copy_14 : decode cX3_copy 14 = .ok (.aload_n 0, 1) := by decide +kernel
theorem dX3_copy_15 : decode cX3_copy 15 = .ok (.aload_n 1, 1) := by decide +kernel
theorem dX3_copy_16 : decode cX3_copy 16 = .ok (.iload_n 2, 1) := by decide +kernel
theorem dX3_copy_17 : decode cX3_copy 17 = .ok (.invokevirtual 33, 3) := by decide +kernel
theorem dX3_copy_20 : decode cX3_copy 20 = .ok (.i2c, 1) := by decide +kernel
theorem dX3_copy_21 : decode cX3_copy 21 = .ok (.invokevirtual 29, 3) := by decide +kernel
theorem dX3_copy_24 : decode cX3_copy 24 = .ok (.pop, 1) := by decide +kernel
theorem dX3_copy_25 : decode cX3_copy 25 = .ok (.iinc 2 1, 3) := by decide +kernel
theorem dX3_copy_28 : decode cX3_copy 28 = .ok (.goto (-22), 3) := by decide +kernel
theorem dX3_copy_31 : decode cX3_copy 31 = .ok (.return_, 1) := by decide +kernel
theorem dX4_ofTag_0 : decode cX4_ofTag 0 = .ok (.lconst 1, 1) := by decide +kernel
theorem dX4_ofTag_1 : decode cX4_ofTag 1 = .ok (.bipush 60, 2) := by decide +kernel
theorem dX4_ofTag_3 : decode cX4_ofTag 3 = .ok (.iconst 4, 1) := by decide +kernel
theorem dX4_ofTag_4 : decode cX4_ofTag 4 = .ok (.iload_n 0, 1) := by decide +kernel
theorem dX4_ofTag_5 : decode cX4_ofTag 5 = .ok (.imul, 1) := by decide +kernel
theorem dX4_ofTag_6 : decode cX4_ofTag 6 = .ok (.isub, 1) := by decide +kernel
theorem dX4_ofTag_7 : decode cX4_ofTag 7 = .ok (.lshl, 1) := by decide +kernel
theorem dX4_ofTag_8 : decode cX4_ofTag 8 = .ok (.lreturn, 1) := by decide +kernel
theorem dX4_power_0 : decode cX4_power 0 = .ok (.lload_n 0, 1) := by decide +kernel
theorem dX4_power_1 : decode cX4_power 1 = .ok (.bipush 60, 2) := by decide +kernel
theorem dX4_power_3 : decode cX4_power 3 = .ok (.iconst 4, 1) := by decide +kernel
theorem dX4_power_4 : decode cX4_power 4 = .ok (.iload_n 2, 1) := by decide +kernel
theorem dX4_power_5 : decode cX4_power 5 = .ok (.imul, 1) := by decide +kernel
theorem dX4_power_6 : decode cX4_power 6 = .ok (.isub, 1) := by decide +kernel
theorem dX4_power_7 : decode cX4_power 7 = .ok (.lushr, 1) := by decide +kernel
theorem dX4_power_8 : decode cX4_power 8 = .ok (.l2i, 1) := by decide +kernel
theorem dX4_power_9 : decode cX4_power 9 = .ok (.bipush 15, 2) := by decide +kernel
theorem dX4_power_11 : decode cX4_power 11 = .ok (.iand, 1) := by decide +kernel
theorem dX4_power_12 : decode cX4_power 12 = .ok (.ireturn, 1) := by decide +kernel
theorem dX4_withoutPowers_0 : decode cX4_withoutPowers 0 = .ok (.lload_n 0, 1) := by decide +kernel
theorem dX4_withoutPowers_1 : decode cX4_withoutPowers 1 = .ok (.lload_n 0, 1) := by decide +kernel
theorem dX4_withoutPowers_2 : decode cX4_withoutPowers 2 = .ok (.iconst 1, 1) := by decide +kernel
theorem dX4_withoutPowers_3 : decode cX4_withoutPowers 3 = .ok (.lushr, 1) := by decide +kernel
theorem dX4_withoutPowers_4 : decode cX4_withoutPowers 4 = .ok (.lor, 1) := by decide +kernel
theorem dX4_withoutPowers_5 : decode cX4_withoutPowers 5 = .ok (.lload_n 0, 1) := by decide +kernel
theorem dX4_withoutPowers_6 : decode cX4_withoutPowers 6 = .ok (.iconst 2, 1) := by decide +kernel
theorem dX4_withoutPowers_7 : decode cX4_withoutPowers 7 = .ok (.lushr, 1) := by decide +kernel
theorem dX4_withoutPowers_8 : decode cX4_withoutPowers 8 = .ok (.lor, 1) := by decide +kernel
theorem dX4_withoutPowers_9 : decode cX4_withoutPowers 9 = .ok (.lload_n 0, 1) := by decide +kernel
theorem dX4_withoutPowers_10 : decode cX4_withoutPowers 10 = .ok (.iconst 3, 1) := by decide +kernel
theorem dX4_withoutPowers_11 : decode cX4_withoutPowers 11 = .ok (.lushr, 1) := by decide +kernel
theorem dX4_withoutPowers_12 : decode cX4_withoutPowers 12 = .ok (.lor, 1) := by decide +kernel
theorem dX4_withoutPowers_13 : decode cX4_withoutPowers 13 = .ok (.ldc2_w 11, 3) := by decide +kernel
theorem dX4_withoutPowers_16 : decode cX4_withoutPowers 16 = .ok (.land, 1) := by decide +kernel
theorem dX4_withoutPowers_17 : decode cX4_withoutPowers 17 = .ok (.lreturn, 1) := by decide +kernel
theorem dX4_tagSet_0 : decode cX4_tagSet 0 = .ok (.iconst 0, 1) := by decide +kernel
theorem dX4_tagSet_1 : decode cX4_tagSet 1 = .ok (.istore_n 2, 1) := by decide +kernel
theorem dX4_tagSet_2 : decode cX4_tagSet 2 = .ok (.iconst 0, 1) := by decide +kernel
theorem dX4_tagSet_3 : decode cX4_tagSet 3 = .ok (.istore_n 3, 1) := by decide +kernel
theorem dX4_tagSet_4 : decode cX4_tagSet 4 = .ok (.iload_n 3, 1) := by decide +kernel
theorem dX4_tagSet_5 : decode cX4_tagSet 5 = .ok (.bipush 16, 2) := by decide +kernel
theorem dX4_tagSet_7 : decode cX4_tagSet 7 = .ok (.if_icmp .ge 23, 3) := by decide +kernel
theorem dX4_tagSet_10 : decode cX4_tagSet 10 = .ok (.lload_n 0, 1) := by decide +kernel
theorem dX4_tagSet_11 : decode cX4_tagSet 11 = .ok (.iload_n 3, 1) := by decide +kernel
theorem dX4_tagSet_12 : decode cX4_tagSet 12 = .ok (.invokestatic 13, 3) := by decide +kernel
theorem dX4_tagSet_15 : decode cX4_tagSet 15 = .ok (.ifCond .le 9, 3) := by decide +kernel
theorem dX4_tagSet_18 : decode cX4_tagSet 18 = .ok (.iload_n 2, 1) := by decide +kernel
theorem dX4_tagSet_19 : decode cX4_tagSet 19 = .ok (.iconst 1, 1) := by decide +kernel
theorem dX4_tagSet_20 : decode cX4_tagSet 20 = .ok (.iload_n 3, 1) := by decide +kernel
theorem dX4_tagSet_21 : decode cX4_tagSet 21 = .ok (.ishl, 1) := by decide +kernel
theorem dX4_tagSet_22 : decode cX4_tagSet 22 = .ok (.ior, 1) := by decide +kernel
theorem dX4_tagSet_23 : decode cX4_tagSet 23 = .ok (.istore_n 2, 1) := by decide +kernel
theorem dX4_tagSet_24 : decode cX4_tagSet 24 = .ok (.iinc 3 1, 3) := by decide +kernel
theorem dX4_tagSet_27 : decode cX4_tagSet 27 = .ok (.goto (-23), 3) := by decide +kernel
theorem dX4_tagSet_30 : decode cX4_tagSet 30 = .ok (.iload_n 2, 1) := by decide +kernel
theorem dX4_tagSet_31 : decode cX4_tagSet 31 = .ok (.ireturn, 1) := by decide +kernel
theorem dX4_maskOf_0 : decode cX4_maskOf 0 = .ok (.lconst 0, 1) := by decide +kernel
theorem dX4_maskOf_1 : decode cX4_maskOf 1 = .ok (.lstore_n 1, 1) := by decide +kernel
theorem dX4_maskOf_2 : decode cX4_maskOf 2 = .ok (.iconst 0, 1) := by decide +kernel
theorem dX4_maskOf_3 : decode cX4_maskOf 3 = .ok (.istore_n 3, 1) := by decide +kernel
theorem dX4_maskOf_4 : decode cX4_maskOf 4 = .ok (.iload_n 3, 1) := by decide +kernel
theorem dX4_maskOf_5 : decode cX4_maskOf 5 = .ok (.bipush 16, 2) := by decide +kernel
theorem dX4_maskOf_7 : decode cX4_maskOf 7 = .ok (.if_icmp .ge 30, 3) := by decide +kernel
theorem dX4_maskOf_10 : decode cX4_maskOf 10 = .ok (.iload_n 0, 1) := by decide +kernel
theorem dX4_maskOf_11 : decode cX4_maskOf 11 = .ok (.iload_n 3, 1) := by decide +kernel
theorem dX4_maskOf_12 : decode cX4_maskOf 12 = .ok (.ishr, 1) := by decide +kernel
theorem dX4_maskOf_13 : decode cX4_maskOf 13 = .ok (.iconst 1, 1) := by decide +kernel
theorem dX4_maskOf_14 : decode cX4_maskOf 14 = .ok (.iand, 1) := by decide +kernel
theorem dX4_maskOf_15 : decode cX4_maskOf 15 = .ok (.ifCond .eq 16, 3) := by decide +kernel
theorem dX4_maskOf_18 : decode cX4_maskOf 18 = .ok (.lload_n 1, 1) := by decide +kernel
theorem dX4_maskOf_19 : decode cX4_maskOf 19 = .ok (.ldc2_w 17, 3) := by decide +kernel
theorem dX4_maskOf_22 : decode cX4_maskOf 22 = .ok (.bipush 60, 2) := by decide +kernel
theorem dX4_maskOf_24 : decode cX4_maskOf 24 = .ok (.iconst 4, 1) := by decide +kernel
theorem dX4_maskOf_25 : decode cX4_maskOf 25 = .ok (.iload_n 3, 1) := by decide +kernel
theorem dX4_maskOf_26 : decode cX4_maskOf 26 = .ok (.imul, 1) := by decide +kernel
theorem dX4_maskOf_27 : decode cX4_maskOf 27 = .ok (.isub, 1) := by decide +kernel
theorem dX4_maskOf_28 : decode cX4_maskOf 28 = .ok (.lshl, 1) := by decide +kernel
theorem dX4_maskOf_29 : decode cX4_maskOf 29 = .ok (.lor, 1) := by decide +kernel
theorem dX4_maskOf_30 : decode cX4_maskOf 30 = .ok (.lstore_n 1, 1) := by decide +kernel
theorem dX4_maskOf_31 : decode cX4_maskOf 31 = .ok (.iinc 3 1, 3) := by decide +kernel
theorem dX4_maskOf_34 : decode cX4_maskOf 34 = .ok (.goto (-30), 3) := by decide +kernel
theorem dX4_maskOf_37 : decode cX4_maskOf 37 = .ok (.lload_n 1, 1) := by decide +kernel
theorem dX4_maskOf_38 : decode cX4_maskOf 38 = .ok (.lreturn, 1) := by decide +kernel
theorem dX5_init_0 : decode cX5_init 0 = .ok (.aload_n 0, 1) := by decide +kernel
theorem dX5_init_1 : decode cX5_init 1 = .ok (.invokespecial 3, 3) := by decide +kernel
theorem dX5_init_4 : decode cX5_init 4 = .ok (.aload_n 0, 1) := by decide +kernel
theorem dX5_init_5 : decode cX5_init 5 = .ok (.bipush 32, 2) := by decide +kernel
theorem dX5_init_7 : decode cX5_init 7 = .ok (.newarray .long, 2) := by decide +kernel
theorem dX5_init_9 : decode cX5_init 9 = .ok (.putfield 9, 3) := by decide +kernel
theorem dX5_init_12 : decode cX5_init 12 = .ok (.aload_n 0, 1) := by decide +kernel
theorem dX5_init_13 : decode cX5_init 13 = .ok (.bipush 32, 2) := by decide +kernel
theorem dX5_init_15 : decode cX5_init 15 = .ok (.newarray .long, 2) := by decide +kernel
theorem dX5_init_17 : decode cX5_init 17 = .ok (.putfield 15, 3) := by decide +kernel
theorem dX5_init_20 : decode cX5_init 20 = .ok (.return_, 1) := by decide +kernel
theorem dX5_size_0 : decode cX5_size 0 = .ok (.aload_n 0, 1) := by decide +kernel
theorem dX5_size_1 : decode cX5_size 1 = .ok (.getfield 18, 3) := by decide +kernel
theorem dX5_size_4 : decode cX5_size 4 = .ok (.ireturn, 1) := by decide +kernel
theorem dX5_clear_0 : decode cX5_clear 0 = .ok (.aload_n 0, 1) := by decide +kernel
theorem dX5_clear_1 : decode cX5_clear 1 = .ok (.iconst 0, 1) := by decide +kernel
theorem dX5_clear_2 : decode cX5_clear 2 = .ok (.putfield 18, 3) := by decide +kernel
theorem dX5_clear_5 : decode cX5_clear 5 = .ok (.return_, 1) := by decide +kernel
theorem dX5_hasTerm_0 : decode cX5_hasTerm 0 = .ok (.iload_n 1, 1) := by decide +kernel
theorem dX5_hasTerm_1 : decode cX5_hasTerm 1 = .ok (.ifCond .lt 21, 3) := by decide +kernel
theorem dX5_hasTerm_4 : decode cX5_hasTerm 4 = .ok (.iload_n 1, 1) := by decide +kernel
theorem dX5_hasTerm_5 : decode cX5_hasTerm 5 = .ok (.aload_n 0, 1) := by decide +kernel
theorem dX5_hasTerm_6 : decode cX5_hasTerm 6 = .ok (.getfield 18, 3) := by decide +kernel
theorem dX5_hasTerm_9 : decode cX5_hasTerm 9 = .ok (.if_icmp .ge 13, 3) := by decide +kernel
theorem dX5_hasTerm_12 : decode cX5_hasTerm 12 = .ok (.iload_n 1, 1) := by decide +kernel
theorem dX5_hasTerm_13 : decode cX5_hasTerm 13 = .ok (.bipush 32, 2) := by decide +kernel
theorem dX5_hasTerm_15 : decode cX5_hasTerm 15 = .ok (.if_icmp .ge 7, 3) := by decide +kernel
theorem dX5_hasTerm_18 : decode cX5_hasTerm 18 = .ok (.iconst 1, 1) := by decide +kernel
theorem dX5_hasTerm_19 : decode cX5_hasTerm 19 = .ok (.goto 4, 3) := by decide +kernel
theorem dX5_hasTerm_22 : decode cX5_hasTerm 22 = .ok (.iconst 0, 1) := by decide +kernel
theorem dX5_hasTerm_23 : decode cX5_hasTerm 23 = .ok (.ireturn, 1) := by decide +kernel
theorem dX5_monomialAt_0 : decode cX5_monomialAt 0 = .ok (.aload_n 0, 1) := by decide +kernel
theorem dX5_monomialAt_1 : decode cX5_monomialAt 1 = .ok (.iload_n 1, 1) := by decide +kernel
theorem dX5_monomialAt_2 : decode cX5_monomialAt 2 = .ok (.invokevirtual 22, 3) := by decide +kernel
theorem dX5_monomialAt_5 : decode cX5_monomialAt 5 = .ok (.ifCond .eq 12, 3) := by decide +kernel
theorem dX5_monomialAt_8 : decode cX5_monomialAt 8 = .ok (.aload_n 0, 1) := by decide +kernel
theorem dX5_monomialAt_9 : decode cX5_monomialAt 9 = .ok (.getfield 9, 3) := by decide +kernel
theorem dX5_monomialAt_12 : decode cX5_monomialAt 12 = .ok (.iload_n 1, 1) := by decide +kernel
theorem dX5_monomialAt_13 : decode cX5_monomialAt 13 = .ok (.laload, 1) := by decide +kernel
theorem dX5_monomialAt_14 : decode cX5_monomialAt 14 = .ok (.goto 4, 3) := by decide +kernel
theorem dX5_monomialAt_17 : decode cX5_monomialAt 17 = .ok (.lconst 0, 1) := by decide +kernel
theorem dX5_monomialAt_18 : decode cX5_monomialAt 18 = .ok (.lreturn, 1) := by decide +kernel
theorem dX5_factorAt_0 : decode cX5_factorAt 0 = .ok (.aload_n 0, 1) := by decide +kernel
theorem dX5_factorAt_1 : decode cX5_factorAt 1 = .ok (.iload_n 1, 1) := by decide +kernel
theorem dX5_factorAt_2 : decode cX5_factorAt 2 = .ok (.invokevirtual 22, 3) := by decide +kernel
theorem dX5_factorAt_5 : decode cX5_factorAt 5 = .ok (.ifCond .eq 12, 3) := by decide +kernel
theorem dX5_factorAt_8 : decode cX5_factorAt 8 = .ok (.aload_n 0, 1) := by decide +kernel
theorem dX5_factorAt_9 : decode cX5_factorAt 9 = .ok (.getfield 15, 3) := by decide +kernel
theorem dX5_factorAt_12 : decode cX5_factorAt 12 = .ok (.iload_n 1, 1) := by decide +kernel
theorem dX5_factorAt_13 : decode cX5_factorAt 13 = .ok (.laload, 1) := by decide +kernel
theorem dX5_factorAt_14 : decode cX5_factorAt 14 = .ok (.goto 4, 3) := by decide +kernel
theorem dX5_factorAt_17 : decode cX5_factorAt 17 = .ok (.lconst 0, 1) := by decide +kernel
theorem dX5_factorAt_18 : decode cX5_factorAt 18 = .ok (.lreturn, 1) := by decide +kernel
theorem dX5_addTerm_0 : decode cX5_addTerm 0 = .ok (.iconst 0, 1) := by decide +kernel
theorem dX5_addTerm_1 : decode cX5_addTerm 1 = .ok (.istore 5, 2) := by decide +kernel
theorem dX5_addTerm_3 : decode cX5_addTerm 3 = .ok (.lload_n 1, 1) := by decide +kernel
theorem dX5_addTerm_4 : decode cX5_addTerm 4 = .ok (.ldc2_w 28, 3) := by decide +kernel
theorem dX5_addTerm_7 : decode cX5_addTerm 7 = .ok (.lxor, 1) := by decide +kernel
theorem dX5_addTerm_8 : decode cX5_addTerm 8 = .ok (.lstore 6, 2) := by decide +kernel
theorem dX5_addTerm_10 : decode cX5_addTerm 10 = .ok (.iload 5, 2) := by decide +kernel
theorem dX5_addTerm_12 : decode cX5_addTerm 12 = .ok (.aload_n 0, 1) := by decide +kernel
theorem dX5_addTerm_13 : decode cX5_addTerm 13 = .ok (.getfield 18, 3) := by decide +kernel
theorem dX5_addTerm_16 : decode cX5_addTerm 16 = .ok (.if_icmp .ge 33, 3) := by decide +kernel
theorem dX5_addTerm_19 : decode cX5_addTerm 19 = .ok (.iload 5, 2) := by decide +kernel
theorem dX5_addTerm_21 : decode cX5_addTerm 21 = .ok (.bipush 32, 2) := by decide +kernel
theorem dX5_addTerm_23 : decode cX5_addTerm 23 = .ok (.if_icmp .ge 26, 3) := by decide +kernel
theorem dX5_addTerm_26 : decode cX5_addTerm 26 = .ok (.aload_n 0, 1) := by decide +kernel
theorem dX5_addTerm_27 : decode cX5_addTerm 27 = .ok (.getfield 9, 3) := by decide +kernel
theorem dX5_addTerm_30 : decode cX5_addTerm 30 = .ok (.iload 5, 2) := by decide +kernel
theorem dX5_addTerm_32 : decode cX5_addTerm 32 = .ok (.laload, 1) := by decide +kernel
theorem dX5_addTerm_33 : decode cX5_addTerm 33 = .ok (.ldc2_w 28, 3) := by decide +kernel
theorem dX5_addTerm_36 : decode cX5_addTerm 36 = .ok (.lxor, 1) := by decide +kernel
theorem dX5_addTerm_37 : decode cX5_addTerm 37 = .ok (.lload 6, 2) := by decide +kernel
theorem dX5_addTerm_39 : decode cX5_addTerm 39 = .ok (.lcmp, 1) := by decide +kernel
theorem dX5_addTerm_40 : decode cX5_addTerm 40 = .ok (.ifCond .le 9, 3) := by decide +kernel
theorem dX5_addTerm_43 : decode cX5_addTerm 43 = .ok (.iinc 5 1, 3) := by decide +kernel
theorem dX5_addTerm_46 : decode cX5_addTerm 46 = .ok (.goto (-36), 3) := by decide +kernel
theorem dX5_addTerm_49 : decode cX5_addTerm 49 = .ok (.iload 5, 2) := by decide +kernel
theorem dX5_addTerm_51 : decode cX5_addTerm 51 = .ok (.aload_n 0, 1) := by decide +kernel
theorem dX5_addTerm_52 : decode cX5_addTerm 52 = .ok (.getfield 18, 3) := by decide +kernel
theorem dX5_addTerm_55 : decode cX5_addTerm 55 = .ok (.if_icmp .ge 35, 3) := by decide +kernel
theorem dX5_addTerm_58 : decode cX5_addTerm 58 = .ok (.iload 5, 2) := by decide +kernel
theorem dX5_addTerm_60 : decode cX5_addTerm 60 = .ok (.bipush 32, 2) := by decide +kernel
theorem dX5_addTerm_62 : decode cX5_addTerm 62 = .ok (.if_icmp .ge 28, 3) := by decide +kernel
theorem dX5_addTerm_65 : decode cX5_addTerm 65 = .ok (.aload_n 0, 1) := by decide +kernel
theorem dX5_addTerm_66 : decode cX5_addTerm 66 = .ok (.getfield 9, 3) := by decide +kernel
theorem dX5_addTerm_69 : decode cX5_addTerm 69 = .ok (.iload 5, 2) := by decide +kernel
theorem dX5_addTerm_71 : decode cX5_addTerm 71 = .ok (.laload, 1) := by decide +kernel
theorem dX5_addTerm_72 : decode cX5_addTerm 72 = .ok (.lload_n 1, 1) := by decide +kernel
theorem dX5_addTerm_73 : decode cX5_addTerm 73 = .ok (.lcmp, 1) := by decide +kernel
theorem dX5_addTerm_74 : decode cX5_addTerm 74 = .ok (.ifCond .ne 16, 3) := by decide +kernel
theorem dX5_addTerm_77 : decode cX5_addTerm 77 = .ok (.aload_n 0, 1) := by decide +kernel
theorem dX5_addTerm_78 : decode cX5_addTerm 78 = .ok (.getfield 15, 3) := by decide +kernel
theorem dX5_addTerm_81 : decode cX5_addTerm 81 = .ok (.iload 5, 2) := by decide +kernel
theorem dX5_addTerm_83 : decode cX5_addTerm 83 = .ok (.dup2, 1) := by decide +kernel
theorem dX5_addTerm_84 : decode cX5_addTerm 84 = .ok (.laload, 1) := by decide +kernel
theorem dX5_addTerm_85 : decode cX5_addTerm 85 = .ok (.lload_n 3, 1) := by decide +kernel
theorem dX5_addTerm_86 : decode cX5_addTerm 86 = .ok (.ladd, 1) := by decide +kernel
theorem dX5_addTerm_87 : decode cX5_addTerm 87 = .ok (.lastore, 1) := by decide +kernel
theorem dX5_addTerm_88 : decode cX5_addTerm 88 = .ok (.iconst 1, 1) := by decide +kernel
theorem dX5_addTerm_89 : decode cX5_addTerm 89 = .ok (.ireturn, 1) := by decide +kernel
theorem dX5_addTerm_90 : decode cX5_addTerm 90 = .ok (.aload_n 0, 1) := by decide +kernel
theorem dX5_addTerm_91 : decode cX5_addTerm 91 = .ok (.getfield 18, 3) := by decide +kernel
theorem dX5_addTerm_94 : decode cX5_addTerm 94 = .ok (.bipush 32, 2) := by decide +kernel
theorem dX5_addTerm_96 : decode cX5_addTerm 96 = .ok (.if_icmp .lt 5, 3) := by decide +kernel
theorem dX5_addTerm_99 : decode cX5_addTerm 99 = .ok (.iconst 0, 1) := by decide +kernel
theorem dX5_addTerm_100 : decode cX5_addTerm 100 = .ok (.ireturn, 1) := by decide +kernel
theorem dX5_addTerm_101 : decode cX5_addTerm 101 = .ok (.aload_n 0, 1) := by decide +kernel
theorem dX5_addTerm_102 : decode cX5_addTerm 102 = .ok (.getfield 18, 3) := by decide +kernel
theorem dX5_addTerm_105 : decode cX5_addTerm 105 = .ok (.istore 8, 2) := by decide +kernel
theorem dX5_addTerm_107 : decode cX5_addTerm 107 = .ok (.iload 8, 2) := by decide +kernel
theorem dX5_addTerm_109 : decode cX5_addTerm 109 = .ok (.iload 5, 2) := by decide +kernel
theorem dX5_addTerm_111 : decode cX5_addTerm 111 = .ok (.if_icmp .le 41, 3) := by decide +kernel
theorem dX5_addTerm_114 : decode cX5_addTerm 114 = .ok (.aload_n 0, 1) := by decide +kernel
theorem dX5_addTerm_115 : decode cX5_addTerm 115 = .ok (.getfield 9, 3) := by decide +kernel
theorem dX5_addTerm_118 : decode cX5_addTerm 118 = .ok (.iload 8, 2) := by decide +kernel
theorem dX5_addTerm_120 : decode cX5_addTerm 120 = .ok (.aload_n 0, 1) := by decide +kernel
theorem dX5_addTerm_121 : decode cX5_addTerm 121 = .ok (.getfield 9, 3) := by decide +kernel
theorem dX5_addTerm_124 : decode cX5_addTerm 124 = .ok (.iload 8, 2) := by decide +kernel
theorem dX5_addTerm_126 : decode cX5_addTerm 126 = .ok (.iconst 1, 1) := by decide +kernel
theorem dX5_addTerm_127 : decode cX5_addTerm 127 = .ok (.isub, 1) := by decide +kernel
theorem dX5_addTerm_128 : decode cX5_addTerm 128 = .ok (.laload, 1) := by decide +kernel
theorem dX5_addTerm_129 : decode cX5_addTerm 129 = .ok (.lastore, 1) := by decide +kernel
theorem dX5_addTerm_130 : decode cX5_addTerm 130 = .ok (.aload_n 0, 1) := by decide +kernel
theorem dX5_addTerm_131 : decode cX5_addTerm 131 = .ok (.getfield 15, 3) := by decide +kernel
theorem dX5_addTerm_134 : decode cX5_addTerm 134 = .ok (.iload 8, 2) := by decide +kernel
theorem dX5_addTerm_136 : decode cX5_addTerm 136 = .ok (.aload_n 0, 1) := by decide +kernel
theorem dX5_addTerm_137 : decode cX5_addTerm 137 = .ok (.getfield 15, 3) := by decide +kernel
theorem dX5_addTerm_140 : decode cX5_addTerm 140 = .ok (.iload 8, 2) := by decide +kernel
theorem dX5_addTerm_142 : decode cX5_addTerm 142 = .ok (.iconst 1, 1) := by decide +kernel
theorem dX5_addTerm_143 : decode cX5_addTerm 143 = .ok (.isub, 1) := by decide +kernel
theorem dX5_addTerm_144 : decode cX5_addTerm 144 = .ok (.laload, 1) := by decide +kernel
theorem dX5_addTerm_145 : decode cX5_addTerm 145 = .ok (.lastore, 1) := by decide +kernel
theorem dX5_addTerm_146 : decode cX5_addTerm 146 = .ok (.iinc 8 (-1), 3) := by decide +kernel
theorem dX5_addTerm_149 : decode cX5_addTerm 149 = .ok (.goto (-42), 3) := by decide +kernel
theorem dX5_addTerm_152 : decode cX5_addTerm 152 = .ok (.aload_n 0, 1) := by decide +kernel
theorem dX5_addTerm_153 : decode cX5_addTerm 153 = .ok (.getfield 9, 3) := by decide +kernel
theorem dX5_addTerm_156 : decode cX5_addTerm 156 = .ok (.iload 5, 2) := by decide +kernel
theorem dX5_addTerm_158 : decode cX5_addTerm 158 = .ok (.lload_n 1, 1) := by decide +kernel
theorem dX5_addTerm_159 : decode cX5_addTerm 159 = .ok (.lastore, 1) := by decide +kernel
theorem dX5_addTerm_160 : decode cX5_addTerm 160 = .ok (.aload_n 0, 1) := by decide +kernel
theorem dX5_addTerm_161 : decode cX5_addTerm 161 = .ok (.getfield 15, 3) := by decide +kernel
theorem dX5_addTerm_164 : decode cX5_addTerm 164 = .ok (.iload 5, 2) := by decide +kernel
theorem dX5_addTerm_166 : decode cX5_addTerm 166 = .ok (.lload_n 3, 1) := by decide +kernel
theorem dX5_addTerm_167 : decode cX5_addTerm 167 = .ok (.lastore, 1) := by decide +kernel
theorem dX5_addTerm_168 : decode cX5_addTerm 168 = .ok (.aload_n 0, 1) := by decide +kernel
theorem dX5_addTerm_169 : decode cX5_addTerm 169 = .ok (.dup, 1) := by decide +kernel
theorem dX5_addTerm_170 : decode cX5_addTerm 170 = .ok (.getfield 18, 3) := by decide +kernel
theorem dX5_addTerm_173 : decode cX5_addTerm 173 = .ok (.iconst 1, 1) := by decide +kernel
theorem dX5_addTerm_174 : decode cX5_addTerm 174 = .ok (.iadd, 1) := by decide +kernel
theorem dX5_addTerm_175 : decode cX5_addTerm 175 = .ok (.putfield 18, 3) := by decide +kernel
theorem dX5_addTerm_178 : decode cX5_addTerm 178 = .ok (.iconst 1, 1) := by decide +kernel
theorem dX5_addTerm_179 : decode cX5_addTerm 179 = .ok (.ireturn, 1) := by decide +kernel
theorem dX5_addAll_0 : decode cX5_addAll 0 = .ok (.iconst 0, 1) := by decide +kernel
theorem dX5_addAll_1 : decode cX5_addAll 1 = .ok (.istore_n 2, 1) := by decide +kernel
theorem dX5_addAll_2 : decode cX5_addAll 2 = .ok (.iload_n 2, 1) := by decide +kernel
theorem dX5_addAll_3 : decode cX5_addAll 3 = .ok (.aload_n 1, 1) := by decide +kernel
theorem dX5_addAll_4 : decode cX5_addAll 4 = .ok (.getfield 18, 3) := by decide +kernel
theorem dX5_addAll_7 : decode cX5_addAll 7 = .ok (.if_icmp .ge 36, 3) := by decide +kernel
theorem dX5_addAll_10 : decode cX5_addAll 10 = .ok (.iload_n 2, 1) := by decide +kernel
theorem dX5_addAll_11 : decode cX5_addAll 11 = .ok (.bipush 32, 2) := by decide +kernel
theorem dX5_addAll_13 : decode cX5_addAll 13 = .ok (.if_icmp .ge 30, 3) := by decide +kernel
theorem dX5_addAll_16 : decode cX5_addAll 16 = .ok (.aload_n 0, 1) := by decide +kernel
theorem dX5_addAll_17 : decode cX5_addAll 17 = .ok (.aload_n 1, 1) := by decide +kernel
theorem dX5_addAll_18 : decode cX5_addAll 18 = .ok (.getfield 9, 3) := by decide +kernel
theorem dX5_addAll_21 : decode cX5_addAll 21 = .ok (.iload_n 2, 1) := by decide +kernel
theorem dX5_addAll_22 : decode cX5_addAll 22 = .ok (.laload, 1) := by decide +kernel
theorem dX5_addAll_23 : decode cX5_addAll 23 = .ok (.aload_n 1, 1) := by decide +kernel
theorem dX5_addAll_24 : decode cX5_addAll 24 = .ok (.getfield 15, 3) := by decide +kernel
theorem dX5_addAll_27 : decode cX5_addAll 27 = .ok (.iload_n 2, 1) := by decide +kernel
theorem dX5_addAll_28 : decode cX5_addAll 28 = .ok (.laload, 1) := by decide +kernel
theorem dX5_addAll_29 : decode cX5_addAll 29 = .ok (.invokevirtual 30, 3) := by decide +kernel
theorem dX5_addAll_32 : decode cX5_addAll 32 = .ok (.ifCond .ne 5, 3) := by decide +kernel
theorem dX5_addAll_35 : decode cX5_addAll 35 = .ok (.iconst 0, 1) := by decide +kernel
theorem dX5_addAll_36 : decode cX5_addAll 36 = .ok (.ireturn, 1) := by decide +kernel
theorem dX5_addAll_37 : decode cX5_addAll 37 = .ok (.iinc 2 1, 3) := by decide +kernel
theorem dX5_addAll_40 : decode cX5_addAll 40 = .ok (.goto (-38), 3) := by decide +kernel
theorem dX5_addAll_43 : decode cX5_addAll 43 = .ok (.iconst 1, 1) := by decide +kernel
theorem dX5_addAll_44 : decode cX5_addAll 44 = .ok (.ireturn, 1) := by decide +kernel
theorem dX5_addProduct_0 : decode cX5_addProduct 0 = .ok (.iconst 0, 1) := by decide +kernel
theorem dX5_addProduct_1 : decode cX5_addProduct 1 = .ok (.istore_n 3, 1) := by decide +kernel
theorem dX5_addProduct_2 : decode cX5_addProduct 2 = .ok (.iload_n 3, 1) := by decide +kernel
theorem dX5_addProduct_3 : decode cX5_addProduct 3 = .ok (.aload_n 1, 1) := by decide +kernel
theorem dX5_addProduct_4 : decode cX5_addProduct 4 = .ok (.getfield 18, 3) := by decide +kernel
theorem dX5_addProduct_7 : decode cX5_addProduct 7 = .ok (.if_icmp .ge 81, 3) := by decide +kernel
theorem dX5_addProduct_10 : decode cX5_addProduct 10 = .ok (.iload_n 3, 1) := by decide +kernel
theorem dX5_addProduct_11 : decode cX5_addProduct 11 = .ok (.bipush 32, 2) := by decide +kernel
theorem dX5_addProduct_13 : decode cX5_addProduct 13 = .ok (.if_icmp .ge 75, 3) := by decide +kernel
theorem dX5_addProduct_16 : decode cX5_addProduct 16 = .ok (.iconst 0, 1) := by decide +kernel
theorem dX5_addProduct_17 : decode cX5_addProduct 17 = .ok (.istore 4, 2) := by decide +kernel
theorem dX5_addProduct_19 : decode cX5_addProduct 19 = .ok (.iload 4, 2) := by decide +kernel
theorem dX5_addProduct_21 : decode cX5_addProduct 21 = .ok (.aload_n 2, 1) := by decide +kernel
theorem dX5_addProduct_22 : decode cX5_addProduct 22 = .ok (.getfield 18, 3) := by decide +kernel
theorem dX5_addProduct_25 : decode cX5_addProduct 25 = .ok (.if_icmp .ge 57, 3) := by decide +kernel
theorem dX5_addProduct_28 : decode cX5_addProduct 28 = .ok (.iload 4, 2) := by decide +kernel
theorem dX5_addProduct_30 : decode cX5_addProduct 30 = .ok (.bipush 32, 2) := by decide +kernel
theorem dX5_addProduct_32 : decode cX5_addProduct 32 = .ok (.if_icmp .ge 50, 3) := by decide +kernel
theorem dX5_addProduct_35 : decode cX5_addProduct 35 = .ok (.aload_n 1, 1) := by decide +kernel
theorem dX5_addProduct_36 : decode cX5_addProduct 36 = .ok (.getfield 9, 3) := by decide +kernel
theorem dX5_addProduct_39 : decode cX5_addProduct 39 = .ok (.iload_n 3, 1) := by decide +kernel
theorem dX5_addProduct_40 : decode cX5_addProduct 40 = .ok (.laload, 1) := by decide +kernel
theorem dX5_addProduct_41 : decode cX5_addProduct 41 = .ok (.aload_n 2, 1) := by decide +kernel
theorem dX5_addProduct_42 : decode cX5_addProduct 42 = .ok (.getfield 9, 3) := by decide +kernel
theorem dX5_addProduct_45 : decode cX5_addProduct 45 = .ok (.iload 4, 2) := by decide +kernel
theorem dX5_addProduct_47 : decode cX5_addProduct 47 = .ok (.laload, 1) := by decide +kernel
theorem dX5_addProduct_48 : decode cX5_addProduct 48 = .ok (.ladd, 1) := by decide +kernel
theorem dX5_addProduct_49 : decode cX5_addProduct 49 = .ok (.lstore 5, 2) := by decide +kernel
theorem dX5_addProduct_51 : decode cX5_addProduct 51 = .ok (.aload_n 0, 1) := by decide +kernel
theorem dX5_addProduct_52 : decode cX5_addProduct 52 = .ok (.lload 5, 2) := by decide +kernel
theorem dX5_addProduct_54 : decode cX5_addProduct 54 = .ok (.aload_n 1, 1) := by decide +kernel
theorem dX5_addProduct_55 : decode cX5_addProduct 55 = .ok (.getfield 15, 3) := by decide +kernel
theorem dX5_addProduct_58 : decode cX5_addProduct 58 = .ok (.iload_n 3, 1) := by decide +kernel
theorem dX5_addProduct_59 : decode cX5_addProduct 59 = .ok (.laload, 1) := by decide +kernel
theorem dX5_addProduct_60 : decode cX5_addProduct 60 = .ok (.aload_n 2, 1) := by decide +kernel
theorem dX5_addProduct_61 : decode cX5_addProduct 61 = .ok (.getfield 15, 3) := by decide +kernel
theorem dX5_addProduct_64 : decode cX5_addProduct 64 = .ok (.iload 4, 2) := by decide +kernel
theorem dX5_addProduct_66 : decode cX5_addProduct 66 = .ok (.laload, 1) := by decide +kernel
theorem dX5_addProduct_67 : decode cX5_addProduct 67 = .ok (.lmul, 1) := by decide +kernel
theorem dX5_addProduct_68 : decode cX5_addProduct 68 = .ok (.invokevirtual 30, 3) := by decide +kernel
theorem dX5_addProduct_71 : decode cX5_addProduct 71 = .ok (.ifCond .ne 5, 3) := by decide +kernel
theorem dX5_addProduct_74 : decode cX5_addProduct 74 = .ok (.iconst 0, 1) := by decide +kernel
theorem dX5_addProduct_75 : decode cX5_addProduct 75 = .ok (.ireturn, 1) := by decide +kernel
theorem dX5_addProduct_76 : decode cX5_addProduct 76 = .ok (.iinc 4 1, 3) := by decide +kernel
theorem dX5_addProduct_79 : decode cX5_addProduct 79 = .ok (.goto (-60), 3) := by decide +kernel
theorem dX5_addProduct_82 : decode cX5_addProduct 82 = .ok (.iinc 3 1, 3) := by decide +kernel
theorem dX5_addProduct_85 : decode cX5_addProduct 85 = .ok (.goto (-83), 3) := by decide +kernel
theorem dX5_addProduct_88 : decode cX5_addProduct 88 = .ok (.iconst 1, 1) := by decide +kernel
theorem dX5_addProduct_89 : decode cX5_addProduct 89 = .ok (.ireturn, 1) := by decide +kernel
theorem dX5_allTags_0 : decode cX5_allTags 0 = .ok (.lconst 0, 1) := by decide +kernel
theorem dX5_allTags_1 : decode cX5_allTags 1 = .ok (.lstore_n 1, 1) := by decide +kernel
theorem dX5_allTags_2 : decode cX5_allTags 2 = .ok (.iconst 0, 1) := by decide +kernel
theorem dX5_allTags_3 : decode cX5_allTags 3 = .ok (.istore_n 3, 1) := by decide +kernel
theorem dX5_allTags_4 : decode cX5_allTags 4 = .ok (.iload_n 3, 1) := by decide +kernel
theorem dX5_allTags_5 : decode cX5_allTags 5 = .ok (.aload_n 0, 1) := by decide +kernel
theorem dX5_allTags_6 : decode cX5_allTags 6 = .ok (.getfield 18, 3) := by decide +kernel
theorem dX5_allTags_9 : decode cX5_allTags 9 = .ok (.if_icmp .ge 17, 3) := by decide +kernel
theorem dX5_allTags_12 : decode cX5_allTags 12 = .ok (.lload_n 1, 1) := by decide +kernel
theorem dX5_allTags_13 : decode cX5_allTags 13 = .ok (.aload_n 0, 1) := by decide +kernel
theorem dX5_allTags_14 : decode cX5_allTags 14 = .ok (.iload_n 3, 1) := by decide +kernel
theorem dX5_allTags_15 : decode cX5_allTags 15 = .ok (.invokevirtual 34, 3) := by decide +kernel
theorem dX5_allTags_18 : decode cX5_allTags 18 = .ok (.lor, 1) := by decide +kernel
theorem dX5_allTags_19 : decode cX5_allTags 19 = .ok (.lstore_n 1, 1) := by decide +kernel
theorem dX5_allTags_20 : decode cX5_allTags 20 = .ok (.iinc 3 1, 3) := by decide +kernel
theorem dX5_allTags_23 : decode cX5_allTags 23 = .ok (.goto (-19), 3) := by decide +kernel
theorem dX5_allTags_26 : decode cX5_allTags 26 = .ok (.lload_n 1, 1) := by decide +kernel
theorem dX5_allTags_27 : decode cX5_allTags 27 = .ok (.invokestatic 38, 3) := by decide +kernel
theorem dX5_allTags_30 : decode cX5_allTags 30 = .ok (.ireturn, 1) := by decide +kernel
theorem dX5_hasTermWithout_0 : decode cX5_hasTermWithout 0 = .ok (.iconst 0, 1) := by decide +kernel
theorem dX5_hasTermWithout_1 : decode cX5_hasTermWithout 1 = .ok (.istore_n 3, 1) := by decide +kernel
theorem dX5_hasTermWithout_2 : decode cX5_hasTermWithout 2 = .ok (.iload_n 3, 1) := by decide +kernel
theorem dX5_hasTermWithout_3 : decode cX5_hasTermWithout 3 = .ok (.aload_n 0, 1) := by decide +kernel
theorem dX5_hasTermWithout_4 : decode cX5_hasTermWithout 4 = .ok (.getfield 18, 3) := by decide +kernel
theorem dX5_hasTermWithout_7 : decode cX5_hasTermWithout 7 = .ok (.if_icmp .ge 23, 3) := by decide +kernel
theorem dX5_hasTermWithout_10 : decode cX5_hasTermWithout 10 = .ok (.aload_n 0, 1) := by decide +kernel
theorem dX5_hasTermWithout_11 : decode cX5_hasTermWithout 11 = .ok (.iload_n 3, 1) := by decide +kernel
theorem dX5_hasTermWithout_12 : decode cX5_hasTermWithout 12 = .ok (.invokevirtual 34, 3) := by decide +kernel
theorem dX5_hasTermWithout_15 : decode cX5_hasTermWithout 15 = .ok (.lload_n 1, 1) := by decide +kernel
theorem dX5_hasTermWithout_16 : decode cX5_hasTermWithout 16 = .ok (.land, 1) := by decide +kernel
theorem dX5_hasTermWithout_17 : decode cX5_hasTermWithout 17 = .ok (.lconst 0, 1) := by decide +kernel
theorem dX5_hasTermWithout_18 : decode cX5_hasTermWithout 18 = .ok (.lcmp, 1) := by decide +kernel
theorem dX5_hasTermWithout_19 : decode cX5_hasTermWithout 19 = .ok (.ifCond .ne 5, 3) := by decide +kernel
theorem dX5_hasTermWithout_22 : decode cX5_hasTermWithout 22 = .ok (.iconst 1, 1) := by decide +kernel
theorem dX5_hasTermWithout_23 : decode cX5_hasTermWithout 23 = .ok (.ireturn, 1) := by decide +kernel
theorem dX5_hasTermWithout_24 : decode cX5_hasTermWithout 24 = .ok (.iinc 3 1, 3) := by decide +kernel
theorem dX5_hasTermWithout_27 : decode cX5_hasTermWithout 27 = .ok (.goto (-25), 3) := by decide +kernel
theorem dX5_hasTermWithout_30 : decode cX5_hasTermWithout 30 = .ok (.iconst 0, 1) := by decide +kernel
theorem dX5_hasTermWithout_31 : decode cX5_hasTermWithout 31 = .ok (.ireturn, 1) := by decide +kernel
theorem dX5_setToAvailable_0 : decode cX5_setToAvailable 0 = .ok (.iload_n 2, 1) := by decide +kernel
theorem dX5_setToAvailable_1 : decode cX5_setToAvailable 1 = .ok (.invokestatic 42, 3) := by decide +kernel
theorem dX5_setToAvailable_4 : decode cX5_setToAvailable 4 = .ok (.lstore_n 3, 1) := by decide +kernel
theorem dX5_setToAvailable_5 : decode cX5_setToAvailable 5 = .ok (.aload_n 0, 1) := by decide +kernel
theorem dX5_setToAvailable_6 : decode cX5_setToAvailable 6 = .ok (.invokevirtual 45, 3) := by decide +kernel
theorem dX5_setToAvailable_9 : decode cX5_setToAvailable 9 = .ok (.iconst 0, 1) := by decide +kernel
theorem dX5_setToAvailable_10 : decode cX5_setToAvailable 10 = .ok (.istore 5, 2) := by decide +kernel
theorem dX5_setToAvailable_12 : decode cX5_setToAvailable 12 = .ok (.iload 5, 2) := by decide +kernel
theorem dX5_setToAvailable_14 : decode cX5_setToAvailable 14 = .ok (.aload_n 1, 1) := by decide +kernel
theorem dX5_setToAvailable_15 : decode cX5_setToAvailable 15 = .ok (.invokevirtual 48, 3) := by decide +kernel
theorem dX5_setToAvailable_18 : decode cX5_setToAvailable 18 = .ok (.if_icmp .ge 39, 3) := by decide +kernel
theorem dX5_setToAvailable_21 : decode cX5_setToAvailable 21 = .ok (.aload_n 1, 1) := by decide +kernel
theorem dX5_setToAvailable_22 : decode cX5_setToAvailable 22 = .ok (.iload 5, 2) := by decide +kernel
theorem dX5_setToAvailable_24 : decode cX5_setToAvailable 24 = .ok (.invokevirtual 34, 3) := by decide +kernel
theorem dX5_setToAvailable_27 : decode cX5_setToAvailable 27 = .ok (.lload_n 3, 1) := by decide +kernel
theorem dX5_setToAvailable_28 : decode cX5_setToAvailable 28 = .ok (.land, 1) := by decide +kernel
theorem dX5_setToAvailable_29 : decode cX5_setToAvailable 29 = .ok (.lconst 0, 1) := by decide +kernel
theorem dX5_setToAvailable_30 : decode cX5_setToAvailable 30 = .ok (.lcmp, 1) := by decide +kernel
theorem dX5_setToAvailable_31 : decode cX5_setToAvailable 31 = .ok (.ifCond .ne 20, 3) := by decide +kernel
theorem dX5_setToAvailable_34 : decode cX5_setToAvailable 34 = .ok (.aload_n 0, 1) := by decide +kernel
theorem dX5_setToAvailable_35 : decode cX5_setToAvailable 35 = .ok (.aload_n 1, 1) := by decide +kernel
theorem dX5_setToAvailable_36 : decode cX5_setToAvailable 36 = .ok (.iload 5, 2) := by decide +kernel
theorem dX5_setToAvailable_38 : decode cX5_setToAvailable 38 = .ok (.invokevirtual 34, 3) := by decide +kernel
theorem dX5_setToAvailable_41 : decode cX5_setToAvailable 41 = .ok (.aload_n 1, 1) := by decide +kernel
theorem dX5_setToAvailable_42 : decode cX5_setToAvailable 42 = .ok (.iload 5, 2) := by decide +kernel
theorem dX5_setToAvailable_44 : decode cX5_setToAvailable 44 = .ok (.invokevirtual 51, 3) := by decide +kernel
theorem dX5_setToAvailable_47 : decode cX5_setToAvailable 47 = .ok (.invokevirtual 30, 3) := by decide +kernel
theorem dX5_setToAvailable_50 : decode cX5_setToAvailable 50 = .ok (.pop, 1) := by decide +kernel
theorem dX5_setToAvailable_51 : decode cX5_setToAvailable 51 = .ok (.iinc 5 1, 3) := by decide +kernel
theorem dX5_setToAvailable_54 : decode cX5_setToAvailable 54 = .ok (.goto (-42), 3) := by decide +kernel
theorem dX5_setToAvailable_57 : decode cX5_setToAvailable 57 = .ok (.return_, 1) := by decide +kernel
theorem dX5_setToForm_0 : decode cX5_setToForm 0 = .ok (.aload_n 0, 1) := by decide +kernel
theorem dX5_setToForm_1 : decode cX5_setToForm 1 = .ok (.invokevirtual 45, 3) := by decide +kernel
theorem dX5_setToForm_4 : decode cX5_setToForm 4 = .ok (.iconst 0, 1) := by decide +kernel
theorem dX5_setToForm_5 : decode cX5_setToForm 5 = .ok (.istore_n 3, 1) := by decide +kernel
theorem dX5_setToForm_6 : decode cX5_setToForm 6 = .ok (.iload_n 3, 1) := by decide +kernel
theorem dX5_setToForm_7 : decode cX5_setToForm 7 = .ok (.aload_n 1, 1) := by decide +kernel
theorem dX5_setToForm_8 : decode cX5_setToForm 8 = .ok (.invokevirtual 48, 3) := by decide +kernel
theorem dX5_setToForm_11 : decode cX5_setToForm 11 = .ok (.if_icmp .ge 41, 3) := by decide +kernel
theorem dX5_setToForm_14 : decode cX5_setToForm 14 = .ok (.aload_n 1, 1) := by decide +kernel
theorem dX5_setToForm_15 : decode cX5_setToForm 15 = .ok (.iload_n 3, 1) := by decide +kernel
theorem dX5_setToForm_16 : decode cX5_setToForm 16 = .ok (.invokevirtual 34, 3) := by decide +kernel
theorem dX5_setToForm_19 : decode cX5_setToForm 19 = .ok (.lstore 4, 2) := by decide +kernel
theorem dX5_setToForm_21 : decode cX5_setToForm 21 = .ok (.aload_n 0, 1) := by decide +kernel
theorem dX5_setToForm_22 : decode cX5_setToForm 22 = .ok (.iload_n 2, 1) := by decide +kernel
theorem dX5_setToForm_23 : decode cX5_setToForm 23 = .ok (.iconst 2, 1) := by decide +kernel
theorem dX5_setToForm_24 : decode cX5_setToForm 24 = .ok (.if_icmp .ge 8, 3) := by decide +kernel
theorem dX5_setToForm_27 : decode cX5_setToForm 27 = .ok (.lload 4, 2) := by decide +kernel
theorem dX5_setToForm_29 : decode cX5_setToForm 29 = .ok (.goto 8, 3) := by decide +kernel
theorem dX5_setToForm_32 : decode cX5_setToForm 32 = .ok (.lload 4, 2) := by decide +kernel
theorem dX5_setToForm_34 : decode cX5_setToForm 34 = .ok (.invokestatic 54, 3) := by decide +kernel
theorem dX5_setToForm_37 : decode cX5_setToForm 37 = .ok (.aload_n 1, 1) := by decide +kernel
theorem dX5_setToForm_38 : decode cX5_setToForm 38 = .ok (.iload_n 3, 1) := by decide +kernel
theorem dX5_setToForm_39 : decode cX5_setToForm 39 = .ok (.invokevirtual 51, 3) := by decide +kernel
theorem dX5_setToForm_42 : decode cX5_setToForm 42 = .ok (.invokevirtual 30, 3) := by decide +kernel
theorem dX5_setToForm_45 : decode cX5_setToForm 45 = .ok (.pop, 1) := by decide +kernel
theorem dX5_setToForm_46 : decode cX5_setToForm 46 = .ok (.iinc 3 1, 3) := by decide +kernel
theorem dX5_setToForm_49 : decode cX5_setToForm 49 = .ok (.goto (-43), 3) := by decide +kernel
theorem dX5_setToForm_52 : decode cX5_setToForm 52 = .ok (.iload_n 2, 1) := by decide +kernel
theorem dX5_setToForm_53 : decode cX5_setToForm 53 = .ok (.iconst 4, 1) := by decide +kernel
theorem dX5_setToForm_54 : decode cX5_setToForm 54 = .ok (.if_icmp .ne 7, 3) := by decide +kernel
theorem dX5_setToForm_57 : decode cX5_setToForm 57 = .ok (.aload_n 0, 1) := by decide +kernel
theorem dX5_setToForm_58 : decode cX5_setToForm 58 = .ok (.invokevirtual 58, 3) := by decide +kernel
theorem dX5_setToForm_61 : decode cX5_setToForm 61 = .ok (.iload_n 2, 1) := by decide +kernel
theorem dX5_setToForm_62 : decode cX5_setToForm 62 = .ok (.ifCond .eq 12, 3) := by decide +kernel
theorem dX5_setToForm_65 : decode cX5_setToForm 65 = .ok (.iload_n 2, 1) := by decide +kernel
theorem dX5_setToForm_66 : decode cX5_setToForm 66 = .ok (.iconst 2, 1) := by decide +kernel
theorem dX5_setToForm_67 : decode cX5_setToForm 67 = .ok (.if_icmp .eq 7, 3) := by decide +kernel
theorem dX5_setToForm_70 : decode cX5_setToForm 70 = .ok (.aload_n 0, 1) := by decide +kernel
theorem dX5_setToForm_71 : decode cX5_setToForm 71 = .ok (.invokevirtual 61, 3) := by decide +kernel
theorem dX5_setToForm_74 : decode cX5_setToForm 74 = .ok (.return_, 1) := by decide +kernel
theorem dX5_setFactorsToOne_0 : decode cX5_setFactorsToOne 0 = .ok (.iconst 0, 1) := by decide +kernel
theorem dX5_setFactorsToOne_1 : decode cX5_setFactorsToOne 1 = .ok (.istore_n 1, 1) := by decide +kernel
theorem dX5_setFactorsToOne_2 : decode cX5_setFactorsToOne 2 = .ok (.iload_n 1, 1) := by decide +kernel
theorem dX5_setFactorsToOne_3 : decode cX5_setFactorsToOne 3 = .ok (.aload_n 0, 1) := by decide +kernel
theorem dX5_setFactorsToOne_4 : decode cX5_setFactorsToOne 4 = .ok (.getfield 18, 3) := by decide +kernel
theorem dX5_setFactorsToOne_7 : decode cX5_setFactorsToOne 7 = .ok (.if_icmp .ge 22, 3) := by decide +kernel
theorem dX5_setFactorsToOne_10 : decode cX5_setFactorsToOne 10 = .ok (.iload_n 1, 1) := by decide +kernel
theorem dX5_setFactorsToOne_11 : decode cX5_setFactorsToOne 11 = .ok (.bipush 32, 2) := by decide +kernel
theorem dX5_setFactorsToOne_13 : decode cX5_setFactorsToOne 13 = .ok (.if_icmp .ge 16, 3) := by decide +kernel
theorem dX5_setFactorsToOne_16 : decode cX5_setFactorsToOne 16 = .ok (.aload_n 0, 1) := by decide +kernel
theorem dX5_setFactorsToOne_17 : decode cX5_setFactorsToOne 17 = .ok (.getfield 15, 3) := by decide +kernel
theorem dX5_setFactorsToOne_20 : decode cX5_setFactorsToOne 20 = .ok (.iload_n 1, 1) := by decide +kernel
theorem dX5_setFactorsToOne_21 : decode cX5_setFactorsToOne 21 = .ok (.lconst 1, 1) := by decide +kernel
theorem dX5_setFactorsToOne_22 : decode cX5_setFactorsToOne 22 = .ok (.lastore, 1) := by decide +kernel
theorem dX5_setFactorsToOne_23 : decode cX5_setFactorsToOne 23 = .ok (.iinc 1 1, 3) := by decide +kernel
theorem dX5_setFactorsToOne_26 : decode cX5_setFactorsToOne 26 = .ok (.goto (-24), 3) := by decide +kernel
theorem dX5_setFactorsToOne_29 : decode cX5_setFactorsToOne 29 = .ok (.return_, 1) := by decide +kernel
theorem dX5_dropContaining_0 : decode cX5_dropContaining 0 = .ok (.iconst 0, 1) := by decide +kernel
theorem dX5_dropContaining_1 : decode cX5_dropContaining 1 = .ok (.istore_n 1, 1) := by decide +kernel
theorem dX5_dropContaining_2 : decode cX5_dropContaining 2 = .ok (.iconst 0, 1) := by decide +kernel
theorem dX5_dropContaining_3 : decode cX5_dropContaining 3 = .ok (.istore_n 2, 1) := by decide +kernel
theorem dX5_dropContaining_4 : decode cX5_dropContaining 4 = .ok (.iload_n 2, 1) := by decide +kernel
theorem dX5_dropContaining_5 : decode cX5_dropContaining 5 = .ok (.aload_n 0, 1) := by decide +kernel
theorem dX5_dropContaining_6 : decode cX5_dropContaining 6 = .ok (.getfield 18, 3) := by decide +kernel
theorem dX5_dropContaining_9 : decode cX5_dropContaining 9 = .ok (.if_icmp .ge 23, 3) := by decide +kernel
theorem dX5_dropContaining_12 : decode cX5_dropContaining 12 = .ok (.aload_n 0, 1) := by decide +kernel
theorem dX5_dropContaining_13 : decode cX5_dropContaining 13 = .ok (.iload_n 2, 1) := by decide +kernel
theorem dX5_dropContaining_14 : decode cX5_dropContaining 14 = .ok (.invokevirtual 64, 3) := by decide +kernel
theorem dX5_dropContaining_17 : decode cX5_dropContaining 17 = .ok (.ifCond .eq 9, 3) := by decide +kernel
theorem dX5_dropContaining_20 : decode cX5_dropContaining 20 = .ok (.iload_n 1, 1) := by decide +kernel
theorem dX5_dropContaining_21 : decode cX5_dropContaining 21 = .ok (.iconst 1, 1) := by decide +kernel
theorem dX5_dropContaining_22 : decode cX5_dropContaining 22 = .ok (.iload_n 2, 1) := by decide +kernel
theorem dX5_dropContaining_23 : decode cX5_dropContaining 23 = .ok (.ishl, 1) := by decide +kernel
theorem dX5_dropContaining_24 : decode cX5_dropContaining 24 = .ok (.ior, 1) := by decide +kernel
theorem dX5_dropContaining_25 : decode cX5_dropContaining 25 = .ok (.istore_n 1, 1) := by decide +kernel
theorem dX5_dropContaining_26 : decode cX5_dropContaining 26 = .ok (.iinc 2 1, 3) := by decide +kernel
theorem dX5_dropContaining_29 : decode cX5_dropContaining 29 = .ok (.goto (-25), 3) := by decide +kernel
theorem dX5_dropContaining_32 : decode cX5_dropContaining 32 = .ok (.iconst 0, 1) := by decide +kernel
theorem dX5_dropContaining_33 : decode cX5_dropContaining 33 = .ok (.istore_n 2, 1) := by decide +kernel
theorem dX5_dropContaining_34 : decode cX5_dropContaining 34 = .ok (.iconst 0, 1) := by decide +kernel
theorem dX5_dropContaining_35 : decode cX5_dropContaining 35 = .ok (.istore_n 3, 1) := by decide +kernel
theorem dX5_dropContaining_36 : decode cX5_dropContaining 36 = .ok (.iload_n 3, 1) := by decide +kernel
theorem dX5_dropContaining_37 : decode cX5_dropContaining 37 = .ok (.aload_n 0, 1) := by decide +kernel
theorem dX5_dropContaining_38 : decode cX5_dropContaining 38 = .ok (.getfield 18, 3) := by decide +kernel
theorem dX5_dropContaining_41 : decode cX5_dropContaining 41 = .ok (.if_icmp .ge 55, 3) := by decide +kernel
theorem dX5_dropContaining_44 : decode cX5_dropContaining 44 = .ok (.iload_n 3, 1) := by decide +kernel
theorem dX5_dropContaining_45 : decode cX5_dropContaining 45 = .ok (.bipush 32, 2) := by decide +kernel
theorem dX5_dropContaining_47 : decode cX5_dropContaining 47 = .ok (.if_icmp .ge 49, 3) := by decide +kernel
theorem dX5_dropContaining_50 : decode cX5_dropContaining 50 = .ok (.iload_n 1, 1) := by decide +kernel
theorem dX5_dropContaining_51 : decode cX5_dropContaining 51 = .ok (.iload_n 3, 1) := by decide +kernel
theorem dX5_dropContaining_52 : decode cX5_dropContaining 52 = .ok (.ishr, 1) := by decide +kernel
theorem dX5_dropContaining_53 : decode cX5_dropContaining 53 = .ok (.iconst 1, 1) := by decide +kernel
theorem dX5_dropContaining_54 : decode cX5_dropContaining 54 = .ok (.iand, 1) := by decide +kernel
theorem dX5_dropContaining_55 : decode cX5_dropContaining 55 = .ok (.ifCond .ne 35, 3) := by decide +kernel
theorem dX5_dropContaining_58 : decode cX5_dropContaining 58 = .ok (.iload_n 2, 1) := by decide +kernel
theorem dX5_dropContaining_59 : decode cX5_dropContaining 59 = .ok (.iload_n 3, 1) := by decide +kernel
theorem dX5_dropContaining_60 : decode cX5_dropContaining 60 = .ok (.if_icmp .gt 30, 3) := by decide +kernel
theorem dX5_dropContaining_63 : decode cX5_dropContaining 63 = .ok (.aload_n 0, 1) := by decide +kernel
theorem dX5_dropContaining_64 : decode cX5_dropContaining 64 = .ok (.getfield 9, 3) := by decide +kernel
theorem dX5_dropContaining_67 : decode cX5_dropContaining 67 = .ok (.iload_n 2, 1) := by decide +kernel
theorem dX5_dropContaining_68 : decode cX5_dropContaining 68 = .ok (.aload_n 0, 1) := by decide +kernel
theorem dX5_dropContaining_69 : decode cX5_dropContaining 69 = .ok (.getfield 9, 3) := by decide +kernel
theorem dX5_dropContaining_72 : decode cX5_dropContaining 72 = .ok (.iload_n 3, 1) := by decide +kernel
theorem dX5_dropContaining_73 : decode cX5_dropContaining 73 = .ok (.laload, 1) := by decide +kernel
theorem dX5_dropContaining_74 : decode cX5_dropContaining 74 = .ok (.lastore, 1) := by decide +kernel
theorem dX5_dropContaining_75 : decode cX5_dropContaining 75 = .ok (.aload_n 0, 1) := by decide +kernel
theorem dX5_dropContaining_76 : decode cX5_dropContaining 76 = .ok (.getfield 15, 3) := by decide +kernel
theorem dX5_dropContaining_79 : decode cX5_dropContaining 79 = .ok (.iload_n 2, 1) := by decide +kernel
theorem dX5_dropContaining_80 : decode cX5_dropContaining 80 = .ok (.aload_n 0, 1) := by decide +kernel
theorem dX5_dropContaining_81 : decode cX5_dropContaining 81 = .ok (.getfield 15, 3) := by decide +kernel
theorem dX5_dropContaining_84 : decode cX5_dropContaining 84 = .ok (.iload_n 3, 1) := by decide +kernel
theorem dX5_dropContaining_85 : decode cX5_dropContaining 85 = .ok (.laload, 1) := by decide +kernel
theorem dX5_dropContaining_86 : decode cX5_dropContaining 86 = .ok (.lastore, 1) := by decide +kernel
theorem dX5_dropContaining_87 : decode cX5_dropContaining 87 = .ok (.iinc 2 1, 3) := by decide +kernel
theorem dX5_dropContaining_90 : decode cX5_dropContaining 90 = .ok (.iinc 3 1, 3) := by decide +kernel
theorem dX5_dropContaining_93 : decode cX5_dropContaining 93 = .ok (.goto (-57), 3) := by decide +kernel
theorem dX5_dropContaining_96 : decode cX5_dropContaining 96 = .ok (.aload_n 0, 1) := by decide +kernel
theorem dX5_dropContaining_97 : decode cX5_dropContaining 97 = .ok (.iload_n 2, 1) := by decide +kernel
theorem dX5_dropContaining_98 : decode cX5_dropContaining 98 = .ok (.putfield 18, 3) := by decide +kernel
theorem dX5_dropContaining_101 : decode cX5_dropContaining 101 = .ok (.return_, 1) := by decide +kernel
theorem dX5_containsAnother_0 : decode cX5_containsAnother 0 = .ok (.aload_n 0, 1) := by decide +kernel
theorem dX5_containsAnother_1 : decode cX5_containsAnother 1 = .ok (.iload_n 1, 1) := by decide +kernel
theorem dX5_containsAnother_2 : decode cX5_containsAnother 2 = .ok (.invokevirtual 34, 3) := by decide +kernel
theorem dX5_containsAnother_5 : decode cX5_containsAnother 5 = .ok (.lstore_n 2, 1) := by decide +kernel
theorem dX5_containsAnother_6 : decode cX5_containsAnother 6 = .ok (.iconst 0, 1) := by decide +kernel
theorem dX5_containsAnother_7 : decode cX5_containsAnother 7 = .ok (.istore 4, 2) := by decide +kernel
theorem dX5_containsAnother_9 : decode cX5_containsAnother 9 = .ok (.iload 4, 2) := by decide +kernel
theorem dX5_containsAnother_11 : decode cX5_containsAnother 11 = .ok (.aload_n 0, 1) := by decide +kernel
theorem dX5_containsAnother_12 : decode cX5_containsAnother 12 = .ok (.getfield 18, 3) := by decide +kernel
theorem dX5_containsAnother_15 : decode cX5_containsAnother 15 = .ok (.if_icmp .ge 35, 3) := by decide +kernel
theorem dX5_containsAnother_18 : decode cX5_containsAnother 18 = .ok (.aload_n 0, 1) := by decide +kernel
theorem dX5_containsAnother_19 : decode cX5_containsAnother 19 = .ok (.iload 4, 2) := by decide +kernel
theorem dX5_containsAnother_21 : decode cX5_containsAnother 21 = .ok (.invokevirtual 34, 3) := by decide +kernel
theorem dX5_containsAnother_24 : decode cX5_containsAnother 24 = .ok (.lstore 5, 2) := by decide +kernel
theorem dX5_containsAnother_26 : decode cX5_containsAnother 26 = .ok (.iload 4, 2) := by decide +kernel
theorem dX5_containsAnother_28 : decode cX5_containsAnother 28 = .ok (.iload_n 1, 1) := by decide +kernel
theorem dX5_containsAnother_29 : decode cX5_containsAnother 29 = .ok (.if_icmp .eq 15, 3) := by decide +kernel
theorem dX5_containsAnother_32 : decode cX5_containsAnother 32 = .ok (.lload_n 2, 1) := by decide +kernel
theorem dX5_containsAnother_33 : decode cX5_containsAnother 33 = .ok (.lload 5, 2) := by decide +kernel
theorem dX5_containsAnother_35 : decode cX5_containsAnother 35 = .ok (.land, 1) := by decide +kernel
theorem dX5_containsAnother_36 : decode cX5_containsAnother 36 = .ok (.lload 5, 2) := by decide +kernel
theorem dX5_containsAnother_38 : decode cX5_containsAnother 38 = .ok (.lcmp, 1) := by decide +kernel
theorem dX5_containsAnother_39 : decode cX5_containsAnother 39 = .ok (.ifCond .ne 5, 3) := by decide +kernel
theorem dX5_containsAnother_42 : decode cX5_containsAnother 42 = .ok (.iconst 1, 1) := by decide +kernel
theorem dX5_containsAnother_43 : decode cX5_containsAnother 43 = .ok (.ireturn, 1) := by decide +kernel
theorem dX5_containsAnother_44 : decode cX5_containsAnother 44 = .ok (.iinc 4 1, 3) := by decide +kernel
theorem dX5_containsAnother_47 : decode cX5_containsAnother 47 = .ok (.goto (-38), 3) := by decide +kernel
theorem dX5_containsAnother_50 : decode cX5_containsAnother 50 = .ok (.iconst 0, 1) := by decide +kernel
theorem dX5_containsAnother_51 : decode cX5_containsAnother 51 = .ok (.ireturn, 1) := by decide +kernel
theorem dX6_init_0 : decode cX6_init 0 = .ok (.aload_n 0, 1) := by decide +kernel
theorem dX6_init_1 : decode cX6_init 1 = .ok (.invokespecial 3, 3) := by decide +kernel
theorem dX6_init_4 : decode cX6_init 4 = .ok (.aload_n 0, 1) := by decide +kernel
theorem dX6_init_5 : decode cX6_init 5 = .ok (.bipush 60, 2) := by decide +kernel
theorem dX6_init_7 : decode cX6_init 7 = .ok (.newarray .int, 2) := by decide +kernel
theorem dX6_init_9 : decode cX6_init 9 = .ok (.putfield 9, 3) := by decide +kernel
theorem dX6_init_12 : decode cX6_init 12 = .ok (.aload_n 0, 1) := by decide +kernel
theorem dX6_init_13 : decode cX6_init 13 = .ok (.bipush 60, 2) := by decide +kernel
theorem dX6_init_15 : decode cX6_init 15 = .ok (.newarray .int, 2) := by decide +kernel
theorem dX6_init_17 : decode cX6_init 17 = .ok (.putfield 15, 3) := by decide +kernel
theorem dX6_init_20 : decode cX6_init 20 = .ok (.aload_n 0, 1) := by decide +kernel
theorem dX6_init_21 : decode cX6_init 21 = .ok (.bipush 60, 2) := by decide +kernel
theorem dX6_init_23 : decode cX6_init 23 = .ok (.newarray .int, 2) := by decide +kernel
theorem dX6_init_25 : decode cX6_init 25 = .ok (.putfield 18, 3) := by decide +kernel
theorem dX6_init_28 : decode cX6_init 28 = .ok (.aload_n 0, 1) := by decide +kernel
theorem dX6_init_29 : decode cX6_init 29 = .ok (.bipush 60, 2) := by decide +kernel
theorem dX6_init_31 : decode cX6_init 31 = .ok (.newarray .int, 2) := by decide +kernel
theorem dX6_init_33 : decode cX6_init 33 = .ok (.putfield 21, 3) := by decide +kernel
theorem dX6_init_36 : decode cX6_init 36 = .ok (.aload_n 0, 1) := by decide +kernel
theorem dX6_init_37 : decode cX6_init 37 = .ok (.bipush 120, 2) := by decide +kernel
theorem dX6_init_39 : decode cX6_init 39 = .ok (.newarray .char, 2) := by decide +kernel
theorem dX6_init_41 : decode cX6_init 41 = .ok (.putfield 24, 3) := by decide +kernel
theorem dX6_init_44 : decode cX6_init 44 = .ok (.return_, 1) := by decide +kernel
theorem dX6_isWhole_0 : decode cX6_isWhole 0 = .ok (.aload_n 0, 1) := by decide +kernel
theorem dX6_isWhole_1 : decode cX6_isWhole 1 = .ok (.getfield 28, 3) := by decide +kernel
theorem dX6_isWhole_4 : decode cX6_isWhole 4 = .ok (.ireturn, 1) := by decide +kernel
theorem dX6_size_0 : decode cX6_size 0 = .ok (.aload_n 0, 1) := by decide +kernel
theorem dX6_size_1 : decode cX6_size 1 = .ok (.getfield 32, 3) := by decide +kernel
theorem dX6_size_4 : decode cX6_size 4 = .ok (.ireturn, 1) := by decide +kernel
theorem dX6_stoppedAt_0 : decode cX6_stoppedAt 0 = .ok (.aload_n 0, 1) := by decide +kernel
theorem dX6_stoppedAt_1 : decode cX6_stoppedAt 1 = .ok (.getfield 36, 3) := by decide +kernel
theorem dX6_stoppedAt_4 : decode cX6_stoppedAt 4 = .ok (.ireturn, 1) := by decide +kernel
theorem dX6_kindAt_0 : decode cX6_kindAt 0 = .ok (.aload_n 0, 1) := by decide +kernel
theorem dX6_kindAt_1 : decode cX6_kindAt 1 = .ok (.iload_n 1, 1) := by decide +kernel
theorem dX6_kindAt_2 : decode cX6_kindAt 2 = .ok (.invokevirtual 39, 3) := by decide +kernel
theorem dX6_kindAt_5 : decode cX6_kindAt 5 = .ok (.ifCond .eq 12, 3) := by decide +kernel
theorem dX6_kindAt_8 : decode cX6_kindAt 8 = .ok (.aload_n 0, 1) := by decide +kernel
theorem dX6_kindAt_9 : decode cX6_kindAt 9 = .ok (.getfield 9, 3) := by decide +kernel
theorem dX6_kindAt_12 : decode cX6_kindAt 12 = .ok (.iload_n 1, 1) := by decide +kernel
theorem dX6_kindAt_13 : decode cX6_kindAt 13 = .ok (.iaload, 1) := by decide +kernel
theorem dX6_kindAt_14 : decode cX6_kindAt 14 = .ok (.goto 4, 3) := by decide +kernel
theorem dX6_kindAt_17 : decode cX6_kindAt 17 = .ok (.iconst (-1), 1) := by decide +kernel
theorem dX6_kindAt_18 : decode cX6_kindAt 18 = .ok (.ireturn, 1) := by decide +kernel
theorem dX6_firstAt_0 : decode cX6_firstAt 0 = .ok (.aload_n 0, 1) := by decide +kernel
theorem dX6_firstAt_1 : decode cX6_firstAt 1 = .ok (.iload_n 1, 1) := by decide +kernel
theorem dX6_firstAt_2 : decode cX6_firstAt 2 = .ok (.invokevirtual 39, 3) := by decide +kernel
theorem dX6_firstAt_5 : decode cX6_firstAt 5 = .ok (.ifCond .eq 12, 3) := by decide +kernel
theorem dX6_firstAt_8 : decode cX6_firstAt 8 = .ok (.aload_n 0, 1) := by decide +kernel
theorem dX6_firstAt_9 : decode cX6_firstAt 9 = .ok (.getfield 15, 3) := by decide +kernel
theorem dX6_firstAt_12 : decode cX6_firstAt 12 = .ok (.iload_n 1, 1) := by decide +kernel
theorem dX6_firstAt_13 : decode cX6_firstAt 13 = .ok (.iaload, 1) := by decide +kernel
theorem dX6_firstAt_14 : decode cX6_firstAt 14 = .ok (.goto 4, 3) := by decide +kernel
theorem dX6_firstAt_17 : decode cX6_firstAt 17 = .ok (.iconst 0, 1) := by decide +kernel
theorem dX6_firstAt_18 : decode cX6_firstAt 18 = .ok (.ireturn, 1) := by decide +kernel
theorem dX6_secondAt_0 : decode cX6_secondAt 0 = .ok (.aload_n 0, 1) := by decide +kernel
theorem dX6_secondAt_1 : decode cX6_secondAt 1 = .ok (.iload_n 1, 1) := by decide +kernel
theorem dX6_secondAt_2 : decode cX6_secondAt 2 = .ok (.invokevirtual 39, 3) := by decide +kernel
theorem dX6_secondAt_5 : decode cX6_secondAt 5 = .ok (.ifCond .eq 12, 3) := by decide +kernel
theorem dX6_secondAt_8 : decode cX6_secondAt 8 = .ok (.aload_n 0, 1) := by decide +kernel
theorem dX6_secondAt_9 : decode cX6_secondAt 9 = .ok (.getfield 18, 3) := by decide +kernel
theorem dX6_secondAt_12 : decode cX6_secondAt 12 = .ok (.iload_n 1, 1) := by decide +kernel
theorem dX6_secondAt_13 : decode cX6_secondAt 13 = .ok (.iaload, 1) := by decide +kernel
theorem dX6_secondAt_14 : decode cX6_secondAt 14 = .ok (.goto 4, 3) := by decide +kernel
theorem dX6_secondAt_17 : decode cX6_secondAt 17 = .ok (.iconst 0, 1) := by decide +kernel
theorem dX6_secondAt_18 : decode cX6_secondAt 18 = .ok (.ireturn, 1) := by decide +kernel
theorem dX6_partsOf_0 : decode cX6_partsOf 0 = .ok (.iload_n 0, 1) := by decide +kernel
theorem dX6_partsOf_1 : decode cX6_partsOf 1 = .ok (.ifCond .ne 5, 3) := by decide +kernel
theorem dX6_partsOf_4 : decode cX6_partsOf 4 = .ok (.iconst 0, 1) := by decide +kernel
theorem dX6_partsOf_5 : decode cX6_partsOf 5 = .ok (.ireturn, 1) := by decide +kernel
theorem dX6_partsOf_6 : decode cX6_partsOf 6 = .ok (.iload_n 0, 1) := by decide +kernel
theorem dX6_partsOf_7 : decode cX6_partsOf 7 = .ok (.iconst 4, 1) := by decide +kernel
theorem dX6_partsOf_8 : decode cX6_partsOf 8 = .ok (.if_icmp .eq 8, 3) := by decide +kernel
theorem dX6_partsOf_11 : decode cX6_partsOf 11 = .ok (.iload_n 0, 1) := by decide +kernel
theorem dX6_partsOf_12 : decode cX6_partsOf 12 = .ok (.iconst 5, 1) := by decide +kernel
theorem dX6_partsOf_13 : decode cX6_partsOf 13 = .ok (.if_icmp .ne 7, 3) := by decide +kernel
theorem dX6_partsOf_16 : decode cX6_partsOf 16 = .ok (.iconst 2, 1) := by decide +kernel
theorem dX6_partsOf_17 : decode cX6_partsOf 17 = .ok (.goto 4, 3) := by decide +kernel
theorem dX6_partsOf_20 : decode cX6_partsOf 20 = .ok (.iconst 1, 1) := by decide +kernel
theorem dX6_partsOf_21 : decode cX6_partsOf 21 = .ok (.ireturn, 1) := by decide +kernel
theorem dX6_read_0 : decode cX6_read 0 = .ok (.aload_n 0, 1) := by decide +kernel
theorem dX6_read_1 : decode cX6_read 1 = .ok (.aload_n 1, 1) := by decide +kernel
theorem dX6_read_2 : decode cX6_read 2 = .ok (.putfield 43, 3) := by decide +kernel
theorem dX6_read_5 : decode cX6_read 5 = .ok (.aload_n 0, 1) := by decide +kernel
theorem dX6_read_6 : decode cX6_read 6 = .ok (.iconst 0, 1) := by decide +kernel
theorem dX6_read_7 : decode cX6_read 7 = .ok (.putfield 32, 3) := by decide +kernel
theorem dX6_read_10 : decode cX6_read 10 = .ok (.aload_n 0, 1) := by decide +kernel
theorem dX6_read_11 : decode cX6_read 11 = .ok (.iconst 0, 1) := by decide +kernel
theorem dX6_read_12 : decode cX6_read 12 = .ok (.putfield 36, 3) := by decide +kernel
theorem dX6_read_15 : decode cX6_read 15 = .ok (.aload_n 0, 1) := by decide +kernel
theorem dX6_read_16 : decode cX6_read 16 = .ok (.iconst 0, 1) := by decide +kernel
theorem dX6_read_17 : decode cX6_read 17 = .ok (.putfield 47, 3) := by decide +kernel
theorem dX6_read_20 : decode cX6_read 20 = .ok (.aload_n 0, 1) := by decide +kernel
theorem dX6_read_21 : decode cX6_read 21 = .ok (.bipush 113, 2) := by decide +kernel
theorem dX6_read_23 : decode cX6_read 23 = .ok (.invokevirtual 50, 3) := by decide +kernel
theorem dX6_read_26 : decode cX6_read 26 = .ok (.iconst 1, 1) := by decide +kernel
theorem dX6_read_27 : decode cX6_read 27 = .ok (.istore_n 2, 1) := by decide +kernel
theorem dX6_read_28 : decode cX6_read 28 = .ok (.iconst 0, 1) := by decide +kernel
theorem dX6_read_29 : decode cX6_read 29 = .ok (.istore_n 3, 1) := by decide +kernel
theorem dX6_read_30 : decode cX6_read 30 = .ok (.iload_n 3, 1) := by decide +kernel
theorem dX6_read_31 : decode cX6_read 31 = .ok (.bipush 60, 2) := by decide +kernel
theorem dX6_read_33 : decode cX6_read 33 = .ok (.if_icmp .gt 47, 3) := by decide +kernel
theorem dX6_read_36 : decode cX6_read 36 = .ok (.iload_n 2, 1) := by decide +kernel
theorem dX6_read_37 : decode cX6_read 37 = .ok (.ifCond .eq 43, 3) := by decide +kernel
theorem dX6_read_40 : decode cX6_read 40 = .ok (.aload_n 0, 1) := by decide +kernel
theorem dX6_read_41 : decode cX6_read 41 = .ok (.getfield 47, 3) := by decide +kernel
theorem dX6_read_44 : decode cX6_read 44 = .ok (.ifCond .le 36, 3) := by decide +kernel
theorem dX6_read_47 : decode cX6_read 47 = .ok (.aload_n 0, 1) := by decide +kernel
theorem dX6_read_48 : decode cX6_read 48 = .ok (.invokevirtual 54, 3) := by decide +kernel
theorem dX6_read_51 : decode cX6_read 51 = .ok (.istore 4, 2) := by decide +kernel
theorem dX6_read_53 : decode cX6_read 53 = .ok (.iload 4, 2) := by decide +kernel
theorem dX6_read_55 : decode cX6_read 55 = .ok (.bipush 113, 2) := by decide +kernel
theorem dX6_read_57 : decode cX6_read 57 = .ok (.if_icmp .ne 10, 3) := by decide +kernel
theorem dX6_read_60 : decode cX6_read 60 = .ok (.aload_n 0, 1) := by decide +kernel
theorem dX6_read_61 : decode cX6_read 61 = .ok (.invokevirtual 58, 3) := by decide +kernel
theorem dX6_read_64 : decode cX6_read 64 = .ok (.goto 9, 3) := by decide +kernel
theorem dX6_read_67 : decode cX6_read 67 = .ok (.aload_n 0, 1) := by decide +kernel
theorem dX6_read_68 : decode cX6_read 68 = .ok (.iload 4, 2) := by decide +kernel
theorem dX6_read_70 : decode cX6_read 70 = .ok (.invokevirtual 62, 3) := by decide +kernel
theorem dX6_read_73 : decode cX6_read 73 = .ok (.istore_n 2, 1) := by decide +kernel
theorem dX6_read_74 : decode cX6_read 74 = .ok (.iinc 3 1, 3) := by decide +kernel
theorem dX6_read_77 : decode cX6_read 77 = .ok (.goto (-47), 3) := by decide +kernel
theorem dX6_read_80 : decode cX6_read 80 = .ok (.aload_n 0, 1) := by decide +kernel
theorem dX6_read_81 : decode cX6_read 81 = .ok (.iload_n 2, 1) := by decide +kernel
theorem dX6_read_82 : decode cX6_read 82 = .ok (.ifCond .eq 25, 3) := by decide +kernel
theorem dX6_read_85 : decode cX6_read 85 = .ok (.aload_n 0, 1) := by decide +kernel
theorem dX6_read_86 : decode cX6_read 86 = .ok (.getfield 47, 3) := by decide +kernel
theorem dX6_read_89 : decode cX6_read 89 = .ok (.ifCond .ne 18, 3) := by decide +kernel
theorem dX6_read_92 : decode cX6_read 92 = .ok (.aload_n 0, 1) := by decide +kernel
theorem dX6_read_93 : decode cX6_read 93 = .ok (.getfield 36, 3) := by decide +kernel
theorem dX6_read_96 : decode cX6_read 96 = .ok (.aload_n 1, 1) := by decide +kernel
theorem dX6_read_97 : decode cX6_read 97 = .ok (.invokevirtual 66, 3) := by decide +kernel
theorem dX6_read_100 : decode cX6_read 100 = .ok (.if_icmp .ne 7, 3) := by decide +kernel
theorem dX6_read_103 : decode cX6_read 103 = .ok (.iconst 1, 1) := by decide +kernel
theorem dX6_read_104 : decode cX6_read 104 = .ok (.goto 4, 3) := by decide +kernel
theorem dX6_read_107 : decode cX6_read 107 = .ok (.iconst 0, 1) := by decide +kernel
theorem dX6_read_108 : decode cX6_read 108 = .ok (.putfield 28, 3) := by decide +kernel
theorem dX6_read_111 : decode cX6_read 111 = .ok (.aload_n 0, 1) := by decide +kernel
theorem dX6_read_112 : decode cX6_read 112 = .ok (.getfield 28, 3) := by decide +kernel
theorem dX6_read_115 : decode cX6_read 115 = .ok (.ireturn, 1) := by decide +kernel
theorem dX6_fits_0 : decode cX6_fits 0 = .ok (.iconst 0, 1) := by decide +kernel
theorem dX6_fits_1 : decode cX6_fits 1 = .ok (.istore_n 2, 1) := by decide +kernel
theorem dX6_fits_2 : decode cX6_fits 2 = .ok (.aload_n 0, 1) := by decide +kernel
theorem dX6_fits_3 : decode cX6_fits 3 = .ok (.getfield 32, 3) := by decide +kernel
theorem dX6_fits_6 : decode cX6_fits 6 = .ok (.iconst 1, 1) := by decide +kernel
theorem dX6_fits_7 : decode cX6_fits 7 = .ok (.isub, 1) := by decide +kernel
theorem dX6_fits_8 : decode cX6_fits 8 = .ok (.istore_n 3, 1) := by decide +kernel
theorem dX6_fits_9 : decode cX6_fits 9 = .ok (.iload_n 3, 1) := by decide +kernel
theorem dX6_fits_10 : decode cX6_fits 10 = .ok (.ifCond .lt 104, 3) := by decide +kernel
theorem dX6_fits_13 : decode cX6_fits 13 = .ok (.iload_n 2, 1) := by decide +kernel
theorem dX6_fits_14 : decode cX6_fits 14 = .ok (.ifCond .le 14, 3) := by decide +kernel
theorem dX6_fits_17 : decode cX6_fits 17 = .ok (.aload_n 0, 1) := by decide +kernel
theorem dX6_fits_18 : decode cX6_fits 18 = .ok (.getfield 21, 3) := by decide +kernel
theorem dX6_fits_21 : decode cX6_fits 21 = .ok (.iload_n 2, 1) := by decide +kernel
theorem dX6_fits_22 : decode cX6_fits 22 = .ok (.iconst 1, 1) := by decide +kernel
theorem dX6_fits_23 : decode cX6_fits 23 = .ok (.isub, 1) := by decide +kernel
theorem dX6_fits_24 : decode cX6_fits 24 = .ok (.iaload, 1) := by decide +kernel
theorem dX6_fits_25 : decode cX6_fits 25 = .ok (.goto 4, 3) := by decide +kernel
theorem dX6_fits_28 : decode cX6_fits 28 = .ok (.iconst 0, 1) := by decide +kernel
theorem dX6_fits_29 : decode cX6_fits 29 = .ok (.istore 4, 2) := by decide +kernel
theorem dX6_fits_31 : decode cX6_fits 31 = .ok (.iload_n 2, 1) := by decide +kernel
theorem dX6_fits_32 : decode cX6_fits 32 = .ok (.iconst 1, 1) := by decide +kernel
theorem dX6_fits_33 : decode cX6_fits 33 = .ok (.if_icmp .le 14, 3) := by decide +kernel
theorem dX6_fits_36 : decode cX6_fits 36 = .ok (.aload_n 0, 1) := by decide +kernel
theorem dX6_fits_37 : decode cX6_fits 37 = .ok (.getfield 21, 3) := by decide +kernel
theorem dX6_fits_40 : decode cX6_fits 40 = .ok (.iload_n 2, 1) := by decide +kernel
theorem dX6_fits_41 : decode cX6_fits 41 = .ok (.iconst 2, 1) := by decide +kernel
theorem dX6_fits_42 : decode cX6_fits 42 = .ok (.isub, 1) := by decide +kernel
theorem dX6_fits_43 : decode cX6_fits 43 = .ok (.iaload, 1) := by decide +kernel
theorem dX6_fits_44 : decode cX6_fits 44 = .ok (.goto 4, 3) := by decide +kernel
theorem dX6_fits_47 : decode cX6_fits 47 = .ok (.iconst 0, 1) := by decide +kernel
theorem dX6_fits_48 : decode cX6_fits 48 = .ok (.istore 5, 2) := by decide +kernel
theorem dX6_fits_50 : decode cX6_fits 50 = .ok (.aload_n 0, 1) := by decide +kernel
theorem dX6_fits_51 : decode cX6_fits 51 = .ok (.iload_n 3, 1) := by decide +kernel
theorem dX6_fits_52 : decode cX6_fits 52 = .ok (.iload 4, 2) := by decide +kernel
theorem dX6_fits_54 : decode cX6_fits 54 = .ok (.iload 5, 2) := by decide +kernel
theorem dX6_fits_56 : decode cX6_fits 56 = .ok (.aload_n 1, 1) := by decide +kernel
theorem dX6_fits_57 : decode cX6_fits 57 = .ok (.invokevirtual 72, 3) := by decide +kernel
theorem dX6_fits_60 : decode cX6_fits 60 = .ok (.istore 6, 2) := by decide +kernel
theorem dX6_fits_62 : decode cX6_fits 62 = .ok (.iload_n 2, 1) := by decide +kernel
theorem dX6_fits_63 : decode cX6_fits 63 = .ok (.aload_n 0, 1) := by decide +kernel
theorem dX6_fits_64 : decode cX6_fits 64 = .ok (.iload_n 3, 1) := by decide +kernel
theorem dX6_fits_65 : decode cX6_fits 65 = .ok (.invokevirtual 76, 3) := by decide +kernel
theorem dX6_fits_68 : decode cX6_fits 68 = .ok (.invokestatic 80, 3) := by decide +kernel
theorem dX6_fits_71 : decode cX6_fits 71 = .ok (.isub, 1) := by decide +kernel
theorem dX6_fits_72 : decode cX6_fits 72 = .ok (.istore_n 2, 1) := by decide +kernel
theorem dX6_fits_73 : decode cX6_fits 73 = .ok (.iload 6, 2) := by decide +kernel
theorem dX6_fits_75 : decode cX6_fits 75 = .ok (.iconst 1, 1) := by decide +kernel
theorem dX6_fits_76 : decode cX6_fits 76 = .ok (.if_icmp .lt 19, 3) := by decide +kernel
theorem dX6_fits_79 : decode cX6_fits 79 = .ok (.iload 6, 2) := by decide +kernel
theorem dX6_fits_81 : decode cX6_fits 81 = .ok (.iconst 4, 1) := by decide +kernel
theorem dX6_fits_82 : decode cX6_fits 82 = .ok (.if_icmp .gt 13, 3) := by decide +kernel
theorem dX6_fits_85 : decode cX6_fits 85 = .ok (.iload_n 2, 1) := by decide +kernel
theorem dX6_fits_86 : decode cX6_fits 86 = .ok (.ifCond .lt 9, 3) := by decide +kernel
theorem dX6_fits_89 : decode cX6_fits 89 = .ok (.iload_n 2, 1) := by decide +kernel
theorem dX6_fits_90 : decode cX6_fits 90 = .ok (.bipush 60, 2) := by decide +kernel
theorem dX6_fits_92 : decode cX6_fits 92 = .ok (.if_icmp .lt 5, 3) := by decide +kernel
theorem dX6_fits_95 : decode cX6_fits 95 = .ok (.iconst 0, 1) := by decide +kernel
theorem dX6_fits_96 : decode cX6_fits 96 = .ok (.ireturn, 1) := by decide +kernel
theorem dX6_fits_97 : decode cX6_fits 97 = .ok (.aload_n 0, 1) := by decide +kernel
theorem dX6_fits_98 : decode cX6_fits 98 = .ok (.getfield 21, 3) := by decide +kernel
theorem dX6_fits_101 : decode cX6_fits 101 = .ok (.iload_n 2, 1) := by decide +kernel
theorem dX6_fits_102 : decode cX6_fits 102 = .ok (.iload 6, 2) := by decide +kernel
theorem dX6_fits_104 : decode cX6_fits 104 = .ok (.iastore, 1) := by decide +kernel
theorem dX6_fits_105 : decode cX6_fits 105 = .ok (.iinc 2 1, 3) := by decide +kernel
theorem dX6_fits_108 : decode cX6_fits 108 = .ok (.iinc 3 (-1), 3) := by decide +kernel
theorem dX6_fits_111 : decode cX6_fits 111 = .ok (.goto (-102), 3) := by decide +kernel
theorem dX6_fits_114 : decode cX6_fits 114 = .ok (.iconst 1, 1) := by decide +kernel
theorem dX6_fits_115 : decode cX6_fits 115 = .ok (.ireturn, 1) := by decide +kernel
theorem dX6_hasNode_0 : decode cX6_hasNode 0 = .ok (.iload_n 1, 1) := by decide +kernel
theorem dX6_hasNode_1 : decode cX6_hasNode 1 = .ok (.ifCond .lt 21, 3) := by decide +kernel
theorem dX6_hasNode_4 : decode cX6_hasNode 4 = .ok (.iload_n 1, 1) := by decide +kernel
theorem dX6_hasNode_5 : decode cX6_hasNode 5 = .ok (.aload_n 0, 1) := by decide +kernel
theorem dX6_hasNode_6 : decode cX6_hasNode 6 = .ok (.getfield 32, 3) := by decide +kernel
theorem dX6_hasNode_9 : decode cX6_hasNode 9 = .ok (.if_icmp .ge 13, 3) := by decide +kernel
theorem dX6_hasNode_12 : decode cX6_hasNode 12 = .ok (.iload_n 1, 1) := by decide +kernel
theorem dX6_hasNode_13 : decode cX6_hasNode 13 = .ok (.bipush 60, 2) := by decide +kernel
theorem dX6_hasNode_15 : decode cX6_hasNode 15 = .ok (.if_icmp .ge 7, 3) := by decide +kernel
theorem dX6_hasNode_18 : decode cX6_hasNode 18 = .ok (.iconst 1, 1) := by decide +kernel
theorem dX6_hasNode_19 : decode cX6_hasNode 19 = .ok (.goto 4, 3) := by decide +kernel
theorem dX6_hasNode_22 : decode cX6_hasNode 22 = .ok (.iconst 0, 1) := by decide +kernel
theorem dX6_hasNode_23 : decode cX6_hasNode 23 = .ok (.ireturn, 1) := by decide +kernel
theorem dX6_widthOfNode_0 : decode cX6_widthOfNode 0 = .ok (.aload_n 0, 1) := by decide +kernel
theorem dX6_widthOfNode_1 : decode cX6_widthOfNode 1 = .ok (.iload_n 1, 1) := by decide +kernel
theorem dX6_widthOfNode_2 : decode cX6_widthOfNode 2 = .ok (.invokevirtual 83, 3) := by decide +kernel
theorem dX6_widthOfNode_5 : decode cX6_widthOfNode 5 = .ok (.istore 5, 2) := by decide +kernel
theorem dX6_widthOfNode_7 : decode cX6_widthOfNode 7 = .ok (.aload_n 0, 1) := by decide +kernel
theorem dX6_widthOfNode_8 : decode cX6_widthOfNode 8 = .ok (.iload_n 1, 1) := by decide +kernel
theorem dX6_widthOfNode_9 : decode cX6_widthOfNode 9 = .ok (.invokevirtual 86, 3) := by decide +kernel
theorem dX6_widthOfNode_12 : decode cX6_widthOfNode 12 = .ok (.istore 6, 2) := by decide +kernel
theorem dX6_widthOfNode_14 : decode cX6_widthOfNode 14 = .ok (.aload_n 0, 1) := by decide +kernel
theorem dX6_widthOfNode_15 : decode cX6_widthOfNode 15 = .ok (.iload_n 1, 1) := by decide +kernel
theorem dX6_widthOfNode_16 : decode cX6_widthOfNode 16 = .ok (.invokevirtual 76, 3) := by decide +kernel
theorem dX6_widthOfNode_19 : decode cX6_widthOfNode 19 = .ok (.tableswitch 124 0 5 #[37, 45, 57, 75, 93, 113], 37) := by decide +kernel
theorem dX6_widthOfNode_56 : decode cX6_widthOfNode 56 = .ok (.aload 4, 2) := by decide +kernel
theorem dX6_widthOfNode_58 : decode cX6_widthOfNode 58 = .ok (.iload 5, 2) := by decide +kernel
theorem dX6_widthOfNode_60 : decode cX6_widthOfNode 60 = .ok (.invokevirtual 89, 3) := by decide +kernel
theorem dX6_widthOfNode_63 : decode cX6_widthOfNode 63 = .ok (.ireturn, 1) := by decide +kernel
theorem dX6_widthOfNode_64 : decode cX6_widthOfNode 64 = .ok (.iload 5, 2) := by decide +kernel
theorem dX6_widthOfNode_66 : decode cX6_widthOfNode 66 = .ok (.iload_n 2, 1) := by decide +kernel
theorem dX6_widthOfNode_67 : decode cX6_widthOfNode 67 = .ok (.if_icmp .ge 7, 3) := by decide +kernel
theorem dX6_widthOfNode_70 : decode cX6_widthOfNode 70 = .ok (.iload_n 2, 1) := by decide +kernel
theorem dX6_widthOfNode_71 : decode cX6_widthOfNode 71 = .ok (.goto 4, 3) := by decide +kernel
theorem dX6_widthOfNode_74 : decode cX6_widthOfNode 74 = .ok (.iconst 0, 1) := by decide +kernel
theorem dX6_widthOfNode_75 : decode cX6_widthOfNode 75 = .ok (.ireturn, 1) := by decide +kernel
theorem dX6_widthOfNode_76 : decode cX6_widthOfNode 76 = .ok (.iload 5, 2) := by decide +kernel
theorem dX6_widthOfNode_78 : decode cX6_widthOfNode 78 = .ok (.iload_n 2, 1) := by decide +kernel
theorem dX6_widthOfNode_79 : decode cX6_widthOfNode 79 = .ok (.if_icmp .ge 13, 3) := by decide +kernel
theorem dX6_widthOfNode_82 : decode cX6_widthOfNode 82 = .ok (.iload 6, 2) := by decide +kernel
theorem dX6_widthOfNode_84 : decode cX6_widthOfNode 84 = .ok (.iload_n 2, 1) := by decide +kernel
theorem dX6_widthOfNode_85 : decode cX6_widthOfNode 85 = .ok (.if_icmp .ge 7, 3) := by decide +kernel
theorem dX6_widthOfNode_88 : decode cX6_widthOfNode 88 = .ok (.iload_n 2, 1) := by decide +kernel
theorem dX6_widthOfNode_89 : decode cX6_widthOfNode 89 = .ok (.goto 4, 3) := by decide +kernel
theorem dX6_widthOfNode_92 : decode cX6_widthOfNode 92 = .ok (.iconst 0, 1) := by decide +kernel
theorem dX6_widthOfNode_93 : decode cX6_widthOfNode 93 = .ok (.ireturn, 1) := by decide +kernel
theorem dX6_widthOfNode_94 : decode cX6_widthOfNode 94 = .ok (.iload_n 2, 1) := by decide +kernel
theorem dX6_widthOfNode_95 : decode cX6_widthOfNode 95 = .ok (.iload 5, 2) := by decide +kernel
theorem dX6_widthOfNode_97 : decode cX6_widthOfNode 97 = .ok (.iload 6, 2) := by decide +kernel
theorem dX6_widthOfNode_99 : decode cX6_widthOfNode 99 = .ok (.invokestatic 94, 3) := by decide +kernel
theorem dX6_widthOfNode_102 : decode cX6_widthOfNode 102 = .ok (.ifCond .eq 8, 3) := by decide +kernel
theorem dX6_widthOfNode_105 : decode cX6_widthOfNode 105 = .ok (.iload 5, 2) := by decide +kernel
theorem dX6_widthOfNode_107 : decode cX6_widthOfNode 107 = .ok (.goto 4, 3) := by decide +kernel
theorem dX6_widthOfNode_110 : decode cX6_widthOfNode 110 = .ok (.iconst 0, 1) := by decide +kernel
theorem dX6_widthOfNode_111 : decode cX6_widthOfNode 111 = .ok (.ireturn, 1) := by decide +kernel
theorem dX6_widthOfNode_112 : decode cX6_widthOfNode 112 = .ok (.iload 5, 2) := by decide +kernel
theorem dX6_widthOfNode_114 : decode cX6_widthOfNode 114 = .ok (.iload_n 2, 1) := by decide +kernel
theorem dX6_widthOfNode_115 : decode cX6_widthOfNode 115 = .ok (.if_icmp .ge 15, 3) := by decide +kernel
theorem dX6_widthOfNode_118 : decode cX6_widthOfNode 118 = .ok (.iload 6, 2) := by decide +kernel
theorem dX6_widthOfNode_120 : decode cX6_widthOfNode 120 = .ok (.iload_n 3, 1) := by decide +kernel
theorem dX6_widthOfNode_121 : decode cX6_widthOfNode 121 = .ok (.if_icmp .ge 9, 3) := by decide +kernel
theorem dX6_widthOfNode_124 : decode cX6_widthOfNode 124 = .ok (.iload_n 2, 1) := by decide +kernel
theorem dX6_widthOfNode_125 : decode cX6_widthOfNode 125 = .ok (.iload_n 3, 1) := by decide +kernel
theorem dX6_widthOfNode_126 : decode cX6_widthOfNode 126 = .ok (.iadd, 1) := by decide +kernel
theorem dX6_widthOfNode_127 : decode cX6_widthOfNode 127 = .ok (.goto 4, 3) := by decide +kernel
theorem dX6_widthOfNode_130 : decode cX6_widthOfNode 130 = .ok (.iconst 0, 1) := by decide +kernel
theorem dX6_widthOfNode_131 : decode cX6_widthOfNode 131 = .ok (.ireturn, 1) := by decide +kernel
theorem dX6_widthOfNode_132 : decode cX6_widthOfNode 132 = .ok (.iload_n 2, 1) := by decide +kernel
theorem dX6_widthOfNode_133 : decode cX6_widthOfNode 133 = .ok (.iload_n 3, 1) := by decide +kernel
theorem dX6_widthOfNode_134 : decode cX6_widthOfNode 134 = .ok (.if_icmp .ne 7, 3) := by decide +kernel
theorem dX6_widthOfNode_137 : decode cX6_widthOfNode 137 = .ok (.iload_n 2, 1) := by decide +kernel
theorem dX6_widthOfNode_138 : decode cX6_widthOfNode 138 = .ok (.goto 4, 3) := by decide +kernel
theorem dX6_widthOfNode_141 : decode cX6_widthOfNode 141 = .ok (.iconst 0, 1) := by decide +kernel
theorem dX6_widthOfNode_142 : decode cX6_widthOfNode 142 = .ok (.ireturn, 1) := by decide +kernel
theorem dX6_widthOfNode_143 : decode cX6_widthOfNode 143 = .ok (.iconst 0, 1) := by decide +kernel
theorem dX6_widthOfNode_144 : decode cX6_widthOfNode 144 = .ok (.ireturn, 1) := by decide +kernel
theorem dX6_namesColumnsBelow_0 : decode cX6_namesColumnsBelow 0 = .ok (.iconst 0, 1) := by decide +kernel
theorem dX6_namesColumnsBelow_1 : decode cX6_namesColumnsBelow 1 = .ok (.istore_n 3, 1) := by decide +kernel
theorem dX6_namesColumnsBelow_2 : decode cX6_namesColumnsBelow 2 = .ok (.iload_n 3, 1) := by decide +kernel
theorem dX6_namesColumnsBelow_3 : decode cX6_namesColumnsBelow 3 = .ok (.iload_n 1, 1) := by decide +kernel
theorem dX6_namesColumnsBelow_4 : decode cX6_namesColumnsBelow 4 = .ok (.if_icmp .ge 26, 3) := by decide +kernel
theorem dX6_namesColumnsBelow_7 : decode cX6_namesColumnsBelow 7 = .ok (.iload_n 3, 1) := by decide +kernel
theorem dX6_namesColumnsBelow_8 : decode cX6_namesColumnsBelow 8 = .ok (.iconst 4, 1) := by decide +kernel
theorem dX6_namesColumnsBelow_9 : decode cX6_namesColumnsBelow 9 = .ok (.if_icmp .ge 21, 3) := by decide +kernel
theorem dX6_namesColumnsBelow_12 : decode cX6_namesColumnsBelow 12 = .ok (.iload_n 2, 1) := by decide +kernel
theorem dX6_namesColumnsBelow_13 : decode cX6_namesColumnsBelow 13 = .ok (.iload_n 1, 1) := by decide +kernel
theorem dX6_namesColumnsBelow_14 : decode cX6_namesColumnsBelow 14 = .ok (.iload_n 3, 1) := by decide +kernel
theorem dX6_namesColumnsBelow_15 : decode cX6_namesColumnsBelow 15 = .ok (.invokestatic 98, 3) := by decide +kernel
theorem dX6_namesColumnsBelow_18 : decode cX6_namesColumnsBelow 18 = .ok (.iload_n 0, 1) := by decide +kernel
theorem dX6_namesColumnsBelow_19 : decode cX6_namesColumnsBelow 19 = .ok (.if_icmp .lt 5, 3) := by decide +kernel
theorem dX6_namesColumnsBelow_22 : decode cX6_namesColumnsBelow 22 = .ok (.iconst 0, 1) := by decide +kernel
theorem dX6_namesColumnsBelow_23 : decode cX6_namesColumnsBelow 23 = .ok (.ireturn, 1) := by decide +kernel
theorem dX6_namesColumnsBelow_24 : decode cX6_namesColumnsBelow 24 = .ok (.iinc 3 1, 3) := by decide +kernel
theorem dX6_namesColumnsBelow_27 : decode cX6_namesColumnsBelow 27 = .ok (.goto (-25), 3) := by decide +kernel
theorem dX6_namesColumnsBelow_30 : decode cX6_namesColumnsBelow 30 = .ok (.iconst 1, 1) := by decide +kernel
theorem dX6_namesColumnsBelow_31 : decode cX6_namesColumnsBelow 31 = .ok (.ireturn, 1) := by decide +kernel
theorem dX6_readHead_0 : decode cX6_readHead 0 = .ok (.aload_n 0, 1) := by decide +kernel
theorem dX6_readHead_1 : decode cX6_readHead 1 = .ok (.invokevirtual 104, 3) := by decide +kernel
theorem dX6_readHead_4 : decode cX6_readHead 4 = .ok (.istore_n 1, 1) := by decide +kernel
theorem dX6_readHead_5 : decode cX6_readHead 5 = .ok (.iload_n 1, 1) := by decide +kernel
theorem dX6_readHead_6 : decode cX6_readHead 6 = .ok (.bipush 65, 2) := by decide +kernel
theorem dX6_readHead_8 : decode cX6_readHead 8 = .ok (.if_icmp .lt 30, 3) := by decide +kernel
theorem dX6_readHead_11 : decode cX6_readHead 11 = .ok (.iload_n 1, 1) := by decide +kernel
theorem dX6_readHead_12 : decode cX6_readHead 12 = .ok (.bipush 69, 2) := by decide +kernel
theorem dX6_readHead_14 : decode cX6_readHead 14 = .ok (.if_icmp .ge 24, 3) := by decide +kernel
theorem dX6_readHead_17 : decode cX6_readHead 17 = .ok (.aload_n 0, 1) := by decide +kernel
theorem dX6_readHead_18 : decode cX6_readHead 18 = .ok (.dup, 1) := by decide +kernel
theorem dX6_readHead_19 : decode cX6_readHead 19 = .ok (.getfield 36, 3) := by decide +kernel
theorem dX6_readHead_22 : decode cX6_readHead 22 = .ok (.iconst 1, 1) := by decide +kernel
theorem dX6_readHead_23 : decode cX6_readHead 23 = .ok (.iadd, 1) := by decide +kernel
theorem dX6_readHead_24 : decode cX6_readHead 24 = .ok (.putfield 36, 3) := by decide +kernel
theorem dX6_readHead_27 : decode cX6_readHead 27 = .ok (.aload_n 0, 1) := by decide +kernel
theorem dX6_readHead_28 : decode cX6_readHead 28 = .ok (.iconst 0, 1) := by decide +kernel
theorem dX6_readHead_29 : decode cX6_readHead 29 = .ok (.iload_n 1, 1) := by decide +kernel
theorem dX6_readHead_30 : decode cX6_readHead 30 = .ok (.bipush 65, 2) := by decide +kernel
theorem dX6_readHead_32 : decode cX6_readHead 32 = .ok (.isub, 1) := by decide +kernel
theorem dX6_readHead_33 : decode cX6_readHead 33 = .ok (.iconst 0, 1) := by decide +kernel
theorem dX6_readHead_34 : decode cX6_readHead 34 = .ok (.invokevirtual 107, 3) := by decide +kernel
theorem dX6_readHead_37 : decode cX6_readHead 37 = .ok (.ireturn, 1) := by decide +kernel
theorem dX6_readHead_38 : decode cX6_readHead 38 = .ok (.iload_n 1, 1) := by decide +kernel
theorem dX6_readHead_39 : decode cX6_readHead 39 = .ok (.lookupswitch 121 #[(106, 71), (112, 56), (115, 41), (117, 86)], 41) := by decide +kernel
theorem dX6_readHead_80 : decode cX6_readHead 80 = .ok (.aload_n 0, 1) := by decide +kernel
theorem dX6_readHead_81 : decode cX6_readHead 81 = .ok (.dup, 1) := by decide +kernel
theorem dX6_readHead_82 : decode cX6_readHead 82 = .ok (.getfield 36, 3) := by decide +kernel
theorem dX6_readHead_85 : decode cX6_readHead 85 = .ok (.iconst 1, 1) := by decide +kernel
theorem dX6_readHead_86 : decode cX6_readHead 86 = .ok (.iadd, 1) := by decide +kernel
theorem dX6_readHead_87 : decode cX6_readHead 87 = .ok (.putfield 36, 3) := by decide +kernel
theorem dX6_readHead_90 : decode cX6_readHead 90 = .ok (.aload_n 0, 1) := by decide +kernel
theorem dX6_readHead_91 : decode cX6_readHead 91 = .ok (.invokevirtual 110, 3) := by decide +kernel
theorem dX6_readHead_94 : decode cX6_readHead 94 = .ok (.ireturn, 1) := by decide +kernel
theorem dX6_readHead_95 : decode cX6_readHead 95 = .ok (.aload_n 0, 1) := by decide +kernel
theorem dX6_readHead_96 : decode cX6_readHead 96 = .ok (.dup, 1) := by decide +kernel
theorem dX6_readHead_97 : decode cX6_readHead 97 = .ok (.getfield 36, 3) := by decide +kernel
theorem dX6_readHead_100 : decode cX6_readHead 100 = .ok (.iconst 1, 1) := by decide +kernel
theorem dX6_readHead_101 : decode cX6_readHead 101 = .ok (.iadd, 1) := by decide +kernel
theorem dX6_readHead_102 : decode cX6_readHead 102 = .ok (.putfield 36, 3) := by decide +kernel
theorem dX6_readHead_105 : decode cX6_readHead 105 = .ok (.aload_n 0, 1) := by decide +kernel
theorem dX6_readHead_106 : decode cX6_readHead 106 = .ok (.invokevirtual 113, 3) := by decide +kernel
theorem dX6_readHead_109 : decode cX6_readHead 109 = .ok (.ireturn, 1) := by decide +kernel
theorem dX6_readHead_110 : decode cX6_readHead 110 = .ok (.aload_n 0, 1) := by decide +kernel
theorem dX6_readHead_111 : decode cX6_readHead 111 = .ok (.dup, 1) := by decide +kernel
theorem dX6_readHead_112 : decode cX6_readHead 112 = .ok (.getfield 36, 3) := by decide +kernel
theorem dX6_readHead_115 : decode cX6_readHead 115 = .ok (.iconst 1, 1) := by decide +kernel
theorem dX6_readHead_116 : decode cX6_readHead 116 = .ok (.iadd, 1) := by decide +kernel
theorem dX6_readHead_117 : decode cX6_readHead 117 = .ok (.putfield 36, 3) := by decide +kernel
theorem dX6_readHead_120 : decode cX6_readHead 120 = .ok (.aload_n 0, 1) := by decide +kernel
theorem dX6_readHead_121 : decode cX6_readHead 121 = .ok (.invokevirtual 116, 3) := by decide +kernel
theorem dX6_readHead_124 : decode cX6_readHead 124 = .ok (.ireturn, 1) := by decide +kernel
theorem dX6_readHead_125 : decode cX6_readHead 125 = .ok (.aload_n 0, 1) := by decide +kernel
theorem dX6_readHead_126 : decode cX6_readHead 126 = .ok (.dup, 1) := by decide +kernel
theorem dX6_readHead_127 : decode cX6_readHead 127 = .ok (.getfield 36, 3) := by decide +kernel
theorem dX6_readHead_130 : decode cX6_readHead 130 = .ok (.iconst 1, 1) := by decide +kernel
theorem dX6_readHead_131 : decode cX6_readHead 131 = .ok (.iadd, 1) := by decide +kernel
theorem dX6_readHead_132 : decode cX6_readHead 132 = .ok (.putfield 36, 3) := by decide +kernel
theorem dX6_readHead_135 : decode cX6_readHead 135 = .ok (.aload_n 0, 1) := by decide +kernel
theorem dX6_readHead_136 : decode cX6_readHead 136 = .ok (.bipush 40, 2) := by decide +kernel
theorem dX6_readHead_138 : decode cX6_readHead 138 = .ok (.invokevirtual 62, 3) := by decide +kernel
theorem dX6_readHead_141 : decode cX6_readHead 141 = .ok (.ifCond .eq 17, 3) := by decide +kernel
theorem dX6_readHead_144 : decode cX6_readHead 144 = .ok (.aload_n 0, 1) := by decide +kernel
theorem dX6_readHead_145 : decode cX6_readHead 145 = .ok (.iconst 5, 1) := by decide +kernel
theorem dX6_readHead_146 : decode cX6_readHead 146 = .ok (.iconst 0, 1) := by decide +kernel
theorem dX6_readHead_147 : decode cX6_readHead 147 = .ok (.iconst 0, 1) := by decide +kernel
theorem dX6_readHead_148 : decode cX6_readHead 148 = .ok (.invokevirtual 107, 3) := by decide +kernel
theorem dX6_readHead_151 : decode cX6_readHead 151 = .ok (.ifCond .eq 7, 3) := by decide +kernel
theorem dX6_readHead_154 : decode cX6_readHead 154 = .ok (.iconst 1, 1) := by decide +kernel
theorem dX6_readHead_155 : decode cX6_readHead 155 = .ok (.goto 4, 3) := by decide +kernel
theorem dX6_readHead_158 : decode cX6_readHead 158 = .ok (.iconst 0, 1) := by decide +kernel
theorem dX6_readHead_159 : decode cX6_readHead 159 = .ok (.ireturn, 1) := by decide +kernel
theorem dX6_readHead_160 : decode cX6_readHead 160 = .ok (.iconst 0, 1) := by decide +kernel
theorem dX6_readHead_161 : decode cX6_readHead 161 = .ok (.ireturn, 1) := by decide +kernel
theorem dX6_readSelect_0 : decode cX6_readSelect 0 = .ok (.aload_n 0, 1) := by decide +kernel
theorem dX6_readSelect_1 : decode cX6_readSelect 1 = .ok (.iconst 4, 1) := by decide +kernel
theorem dX6_readSelect_2 : decode cX6_readSelect 2 = .ok (.invokevirtual 119, 3) := by decide +kernel
theorem dX6_readSelect_5 : decode cX6_readSelect 5 = .ok (.istore_n 1, 1) := by decide +kernel
theorem dX6_readSelect_6 : decode cX6_readSelect 6 = .ok (.iload_n 1, 1) := by decide +kernel
theorem dX6_readSelect_7 : decode cX6_readSelect 7 = .ok (.ifCond .ge 5, 3) := by decide +kernel
theorem dX6_readSelect_10 : decode cX6_readSelect 10 = .ok (.iconst 0, 1) := by decide +kernel
theorem dX6_readSelect_11 : decode cX6_readSelect 11 = .ok (.ireturn, 1) := by decide +kernel
theorem dX6_readSelect_12 : decode cX6_readSelect 12 = .ok (.aload_n 0, 1) := by decide +kernel
theorem dX6_readSelect_13 : decode cX6_readSelect 13 = .ok (.invokevirtual 104, 3) := by decide +kernel
theorem dX6_readSelect_16 : decode cX6_readSelect 16 = .ok (.bipush 126, 2) := by decide +kernel
theorem dX6_readSelect_18 : decode cX6_readSelect 18 = .ok (.if_icmp .ne 7, 3) := by decide +kernel
theorem dX6_readSelect_21 : decode cX6_readSelect 21 = .ok (.iconst 2, 1) := by decide +kernel
theorem dX6_readSelect_22 : decode cX6_readSelect 22 = .ok (.goto 4, 3) := by decide +kernel
theorem dX6_readSelect_25 : decode cX6_readSelect 25 = .ok (.iconst 1, 1) := by decide +kernel
theorem dX6_readSelect_26 : decode cX6_readSelect 26 = .ok (.istore_n 2, 1) := by decide +kernel
theorem dX6_readSelect_27 : decode cX6_readSelect 27 = .ok (.aload_n 0, 1) := by decide +kernel
theorem dX6_readSelect_28 : decode cX6_readSelect 28 = .ok (.iload_n 2, 1) := by decide +kernel
theorem dX6_readSelect_29 : decode cX6_readSelect 29 = .ok (.iconst 2, 1) := by decide +kernel
theorem dX6_readSelect_30 : decode cX6_readSelect 30 = .ok (.if_icmp .ne 8, 3) := by decide +kernel
theorem dX6_readSelect_33 : decode cX6_readSelect 33 = .ok (.bipush 126, 2) := by decide +kernel
theorem dX6_readSelect_35 : decode cX6_readSelect 35 = .ok (.goto 5, 3) := by decide +kernel
theorem dX6_readSelect_38 : decode cX6_readSelect 38 = .ok (.bipush 61, 2) := by decide +kernel
theorem dX6_readSelect_40 : decode cX6_readSelect 40 = .ok (.invokevirtual 62, 3) := by decide +kernel
theorem dX6_readSelect_43 : decode cX6_readSelect 43 = .ok (.ifCond .ne 5, 3) := by decide +kernel
theorem dX6_readSelect_46 : decode cX6_readSelect 46 = .ok (.iconst 0, 1) := by decide +kernel
theorem dX6_readSelect_47 : decode cX6_readSelect 47 = .ok (.ireturn, 1) := by decide +kernel
theorem dX6_readSelect_48 : decode cX6_readSelect 48 = .ok (.aload_n 0, 1) := by decide +kernel
theorem dX6_readSelect_49 : decode cX6_readSelect 49 = .ok (.iload_n 2, 1) := by decide +kernel
theorem dX6_readSelect_50 : decode cX6_readSelect 50 = .ok (.iconst 2, 1) := by decide +kernel
theorem dX6_readSelect_51 : decode cX6_readSelect 51 = .ok (.if_icmp .ne 7, 3) := by decide +kernel
theorem dX6_readSelect_54 : decode cX6_readSelect 54 = .ok (.iconst 4, 1) := by decide +kernel
theorem dX6_readSelect_55 : decode cX6_readSelect 55 = .ok (.goto 5, 3) := by decide +kernel
theorem dX6_readSelect_58 : decode cX6_readSelect 58 = .ok (.bipush 10, 2) := by decide +kernel
theorem dX6_readSelect_60 : decode cX6_readSelect 60 = .ok (.invokevirtual 119, 3) := by decide +kernel
theorem dX6_readSelect_63 : decode cX6_readSelect 63 = .ok (.istore_n 3, 1) := by decide +kernel
theorem dX6_readSelect_64 : decode cX6_readSelect 64 = .ok (.iload_n 3, 1) := by decide +kernel
theorem dX6_readSelect_65 : decode cX6_readSelect 65 = .ok (.ifCond .lt 26, 3) := by decide +kernel
theorem dX6_readSelect_68 : decode cX6_readSelect 68 = .ok (.aload_n 0, 1) := by decide +kernel
theorem dX6_readSelect_69 : decode cX6_readSelect 69 = .ok (.bipush 40, 2) := by decide +kernel
theorem dX6_readSelect_71 : decode cX6_readSelect 71 = .ok (.invokevirtual 62, 3) := by decide +kernel
theorem dX6_readSelect_74 : decode cX6_readSelect 74 = .ok (.ifCond .eq 17, 3) := by decide +kernel
theorem dX6_readSelect_77 : decode cX6_readSelect 77 = .ok (.aload_n 0, 1) := by decide +kernel
theorem dX6_readSelect_78 : decode cX6_readSelect 78 = .ok (.iload_n 2, 1) := by decide +kernel
theorem dX6_readSelect_79 : decode cX6_readSelect 79 = .ok (.iload_n 1, 1) := by decide +kernel
theorem dX6_readSelect_80 : decode cX6_readSelect 80 = .ok (.iload_n 3, 1) := by decide +kernel
theorem dX6_readSelect_81 : decode cX6_readSelect 81 = .ok (.invokevirtual 107, 3) := by decide +kernel
theorem dX6_readSelect_84 : decode cX6_readSelect 84 = .ok (.ifCond .eq 7, 3) := by decide +kernel
theorem dX6_readSelect_87 : decode cX6_readSelect 87 = .ok (.iconst 1, 1) := by decide +kernel
theorem dX6_readSelect_88 : decode cX6_readSelect 88 = .ok (.goto 4, 3) := by decide +kernel
theorem dX6_readSelect_91 : decode cX6_readSelect 91 = .ok (.iconst 0, 1) := by decide +kernel
theorem dX6_readSelect_92 : decode cX6_readSelect 92 = .ok (.ireturn, 1) := by decide +kernel
theorem dX6_readProject_0 : decode cX6_readProject 0 = .ok (.iconst 0, 1) := by decide +kernel
theorem dX6_readProject_1 : decode cX6_readProject 1 = .ok (.istore_n 1, 1) := by decide +kernel
theorem dX6_readProject_2 : decode cX6_readProject 2 = .ok (.iconst 0, 1) := by decide +kernel
theorem dX6_readProject_3 : decode cX6_readProject 3 = .ok (.istore_n 2, 1) := by decide +kernel
theorem dX6_readProject_4 : decode cX6_readProject 4 = .ok (.iconst 0, 1) := by decide +kernel
theorem dX6_readProject_5 : decode cX6_readProject 5 = .ok (.istore_n 3, 1) := by decide +kernel
theorem dX6_readProject_6 : decode cX6_readProject 6 = .ok (.iload_n 3, 1) := by decide +kernel
theorem dX6_readProject_7 : decode cX6_readProject 7 = .ok (.iconst 4, 1) := by decide +kernel
theorem dX6_readProject_8 : decode cX6_readProject 8 = .ok (.if_icmp .ge 35, 3) := by decide +kernel
theorem dX6_readProject_11 : decode cX6_readProject 11 = .ok (.aload_n 0, 1) := by decide +kernel
theorem dX6_readProject_12 : decode cX6_readProject 12 = .ok (.iconst 4, 1) := by decide +kernel
theorem dX6_readProject_13 : decode cX6_readProject 13 = .ok (.invokevirtual 119, 3) := by decide +kernel
theorem dX6_readProject_16 : decode cX6_readProject 16 = .ok (.istore 4, 2) := by decide +kernel
theorem dX6_readProject_18 : decode cX6_readProject 18 = .ok (.iload 4, 2) := by decide +kernel
theorem dX6_readProject_20 : decode cX6_readProject 20 = .ok (.ifCond .ge 6, 3) := by decide +kernel
theorem dX6_readProject_23 : decode cX6_readProject 23 = .ok (.goto 20, 3) := by decide +kernel
theorem dX6_readProject_26 : decode cX6_readProject 26 = .ok (.iload_n 2, 1) := by decide +kernel
theorem dX6_readProject_27 : decode cX6_readProject 27 = .ok (.iload 4, 2) := by decide +kernel
theorem dX6_readProject_29 : decode cX6_readProject 29 = .ok (.iconst 1, 1) := by decide +kernel
theorem dX6_readProject_30 : decode cX6_readProject 30 = .ok (.invokestatic 122, 3) := by decide +kernel
theorem dX6_readProject_33 : decode cX6_readProject 33 = .ok (.istore_n 2, 1) := by decide +kernel
theorem dX6_readProject_34 : decode cX6_readProject 34 = .ok (.iinc 1 1, 3) := by decide +kernel
theorem dX6_readProject_37 : decode cX6_readProject 37 = .ok (.iinc 3 1, 3) := by decide +kernel
theorem dX6_readProject_40 : decode cX6_readProject 40 = .ok (.goto (-34), 3) := by decide +kernel
theorem dX6_readProject_43 : decode cX6_readProject 43 = .ok (.iload_n 1, 1) := by decide +kernel
theorem dX6_readProject_44 : decode cX6_readProject 44 = .ok (.ifCond .le 26, 3) := by decide +kernel
theorem dX6_readProject_47 : decode cX6_readProject 47 = .ok (.aload_n 0, 1) := by decide +kernel
theorem dX6_readProject_48 : decode cX6_readProject 48 = .ok (.bipush 40, 2) := by decide +kernel
theorem dX6_readProject_50 : decode cX6_readProject 50 = .ok (.invokevirtual 62, 3) := by decide +kernel
theorem dX6_readProject_53 : decode cX6_readProject 53 = .ok (.ifCond .eq 17, 3) := by decide +kernel
theorem dX6_readProject_56 : decode cX6_readProject 56 = .ok (.aload_n 0, 1) := by decide +kernel
theorem dX6_readProject_57 : decode cX6_readProject 57 = .ok (.iconst 3, 1) := by decide +kernel
theorem dX6_readProject_58 : decode cX6_readProject 58 = .ok (.iload_n 1, 1) := by decide +kernel
theorem dX6_readProject_59 : decode cX6_readProject 59 = .ok (.iload_n 2, 1) := by decide +kernel
theorem dX6_readProject_60 : decode cX6_readProject 60 = .ok (.invokevirtual 107, 3) := by decide +kernel
theorem dX6_readProject_63 : decode cX6_readProject 63 = .ok (.ifCond .eq 7, 3) := by decide +kernel
theorem dX6_readProject_66 : decode cX6_readProject 66 = .ok (.iconst 1, 1) := by decide +kernel
theorem dX6_readProject_67 : decode cX6_readProject 67 = .ok (.goto 4, 3) := by decide +kernel
theorem dX6_readProject_70 : decode cX6_readProject 70 = .ok (.iconst 0, 1) := by decide +kernel
theorem dX6_readProject_71 : decode cX6_readProject 71 = .ok (.ireturn, 1) := by decide +kernel
theorem dX6_readJoin_0 : decode cX6_readJoin 0 = .ok (.aload_n 0, 1) := by decide +kernel
theorem dX6_readJoin_1 : decode cX6_readJoin 1 = .ok (.iconst 4, 1) := by decide +kernel
theorem dX6_readJoin_2 : decode cX6_readJoin 2 = .ok (.invokevirtual 119, 3) := by decide +kernel
theorem dX6_readJoin_5 : decode cX6_readJoin 5 = .ok (.istore_n 1, 1) := by decide +kernel
theorem dX6_readJoin_6 : decode cX6_readJoin 6 = .ok (.iload_n 1, 1) := by decide +kernel
theorem dX6_readJoin_7 : decode cX6_readJoin 7 = .ok (.ifCond .ge 5, 3) := by decide +kernel
theorem dX6_readJoin_10 : decode cX6_readJoin 10 = .ok (.iconst 0, 1) := by decide +kernel
theorem dX6_readJoin_11 : decode cX6_readJoin 11 = .ok (.ireturn, 1) := by decide +kernel
theorem dX6_readJoin_12 : decode cX6_readJoin 12 = .ok (.aload_n 0, 1) := by decide +kernel
theorem dX6_readJoin_13 : decode cX6_readJoin 13 = .ok (.iconst 4, 1) := by decide +kernel
theorem dX6_readJoin_14 : decode cX6_readJoin 14 = .ok (.invokevirtual 119, 3) := by decide +kernel
theorem dX6_readJoin_17 : decode cX6_readJoin 17 = .ok (.istore_n 2, 1) := by decide +kernel
theorem dX6_readJoin_18 : decode cX6_readJoin 18 = .ok (.iload_n 2, 1) := by decide +kernel
theorem dX6_readJoin_19 : decode cX6_readJoin 19 = .ok (.ifCond .lt 26, 3) := by decide +kernel
theorem dX6_readJoin_22 : decode cX6_readJoin 22 = .ok (.aload_n 0, 1) := by decide +kernel
theorem dX6_readJoin_23 : decode cX6_readJoin 23 = .ok (.bipush 40, 2) := by decide +kernel
theorem dX6_readJoin_25 : decode cX6_readJoin 25 = .ok (.invokevirtual 62, 3) := by decide +kernel
theorem dX6_readJoin_28 : decode cX6_readJoin 28 = .ok (.ifCond .eq 17, 3) := by decide +kernel
theorem dX6_readJoin_31 : decode cX6_readJoin 31 = .ok (.aload_n 0, 1) := by decide +kernel
theorem dX6_readJoin_32 : decode cX6_readJoin 32 = .ok (.iconst 4, 1) := by decide +kernel
theorem dX6_readJoin_33 : decode cX6_readJoin 33 = .ok (.iload_n 1, 1) := by decide +kernel
theorem dX6_readJoin_34 : decode cX6_readJoin 34 = .ok (.iload_n 2, 1) := by decide +kernel
theorem dX6_readJoin_35 : decode cX6_readJoin 35 = .ok (.invokevirtual 107, 3) := by decide +kernel
theorem dX6_readJoin_38 : decode cX6_readJoin 38 = .ok (.ifCond .eq 7, 3) := by decide +kernel
theorem dX6_readJoin_41 : decode cX6_readJoin 41 = .ok (.iconst 1, 1) := by decide +kernel
theorem dX6_readJoin_42 : decode cX6_readJoin 42 = .ok (.goto 4, 3) := by decide +kernel
theorem dX6_readJoin_45 : decode cX6_readJoin 45 = .ok (.iconst 0, 1) := by decide +kernel
theorem dX6_readJoin_46 : decode cX6_readJoin 46 = .ok (.ireturn, 1) := by decide +kernel
theorem dX6_addNode_0 : decode cX6_addNode 0 = .ok (.aload_n 0, 1) := by decide +kernel
theorem dX6_addNode_1 : decode cX6_addNode 1 = .ok (.getfield 32, 3) := by decide +kernel
theorem dX6_addNode_4 : decode cX6_addNode 4 = .ok (.ifCond .lt 12, 3) := by decide +kernel
theorem dX6_addNode_7 : decode cX6_addNode 7 = .ok (.aload_n 0, 1) := by decide +kernel
theorem dX6_addNode_8 : decode cX6_addNode 8 = .ok (.getfield 32, 3) := by decide +kernel
theorem dX6_addNode_11 : decode cX6_addNode 11 = .ok (.bipush 60, 2) := by decide +kernel
theorem dX6_addNode_13 : decode cX6_addNode 13 = .ok (.if_icmp .lt 5, 3) := by decide +kernel
theorem dX6_addNode_16 : decode cX6_addNode 16 = .ok (.iconst 0, 1) := by decide +kernel
theorem dX6_addNode_17 : decode cX6_addNode 17 = .ok (.ireturn, 1) := by decide +kernel
theorem dX6_addNode_18 : decode cX6_addNode 18 = .ok (.aload_n 0, 1) := by decide +kernel
theorem dX6_addNode_19 : decode cX6_addNode 19 = .ok (.getfield 9, 3) := by decide +kernel
theorem dX6_addNode_22 : decode cX6_addNode 22 = .ok (.aload_n 0, 1) := by decide +kernel
theorem dX6_addNode_23 : decode cX6_addNode 23 = .ok (.getfield 32, 3) := by decide +kernel
theorem dX6_addNode_26 : decode cX6_addNode 26 = .ok (.iload_n 1, 1) := by decide +kernel
theorem dX6_addNode_27 : decode cX6_addNode 27 = .ok (.iastore, 1) := by decide +kernel
theorem dX6_addNode_28 : decode cX6_addNode 28 = .ok (.aload_n 0, 1) := by decide +kernel
theorem dX6_addNode_29 : decode cX6_addNode 29 = .ok (.getfield 15, 3) := by decide +kernel
theorem dX6_addNode_32 : decode cX6_addNode 32 = .ok (.aload_n 0, 1) := by decide +kernel
theorem dX6_addNode_33 : decode cX6_addNode 33 = .ok (.getfield 32, 3) := by decide +kernel
theorem dX6_addNode_36 : decode cX6_addNode 36 = .ok (.iload_n 2, 1) := by decide +kernel
theorem dX6_addNode_37 : decode cX6_addNode 37 = .ok (.iastore, 1) := by decide +kernel
theorem dX6_addNode_38 : decode cX6_addNode 38 = .ok (.aload_n 0, 1) := by decide +kernel
theorem dX6_addNode_39 : decode cX6_addNode 39 = .ok (.getfield 18, 3) := by decide +kernel
theorem dX6_addNode_42 : decode cX6_addNode 42 = .ok (.aload_n 0, 1) := by decide +kernel
theorem dX6_addNode_43 : decode cX6_addNode 43 = .ok (.getfield 32, 3) := by decide +kernel
theorem dX6_addNode_46 : decode cX6_addNode 46 = .ok (.iload_n 3, 1) := by decide +kernel
theorem dX6_addNode_47 : decode cX6_addNode 47 = .ok (.iastore, 1) := by decide +kernel
theorem dX6_addNode_48 : decode cX6_addNode 48 = .ok (.aload_n 0, 1) := by decide +kernel
theorem dX6_addNode_49 : decode cX6_addNode 49 = .ok (.dup, 1) := by decide +kernel
theorem dX6_addNode_50 : decode cX6_addNode 50 = .ok (.getfield 32, 3) := by decide +kernel
theorem dX6_addNode_53 : decode cX6_addNode 53 = .ok (.iconst 1, 1) := by decide +kernel
theorem dX6_addNode_54 : decode cX6_addNode 54 = .ok (.iadd, 1) := by decide +kernel
theorem dX6_addNode_55 : decode cX6_addNode 55 = .ok (.putfield 32, 3) := by decide +kernel
theorem dX6_addNode_58 : decode cX6_addNode 58 = .ok (.iload_n 1, 1) := by decide +kernel
theorem dX6_addNode_59 : decode cX6_addNode 59 = .ok (.invokestatic 80, 3) := by decide +kernel
theorem dX6_addNode_62 : decode cX6_addNode 62 = .ok (.istore 4, 2) := by decide +kernel
theorem dX6_addNode_64 : decode cX6_addNode 64 = .ok (.iload 4, 2) := by decide +kernel
theorem dX6_addNode_66 : decode cX6_addNode 66 = .ok (.ifCond .le 15, 3) := by decide +kernel
theorem dX6_addNode_69 : decode cX6_addNode 69 = .ok (.aload_n 0, 1) := by decide +kernel
theorem dX6_addNode_70 : decode cX6_addNode 70 = .ok (.bipush 41, 2) := by decide +kernel
theorem dX6_addNode_72 : decode cX6_addNode 72 = .ok (.invokevirtual 50, 3) := by decide +kernel
theorem dX6_addNode_75 : decode cX6_addNode 75 = .ok (.aload_n 0, 1) := by decide +kernel
theorem dX6_addNode_76 : decode cX6_addNode 76 = .ok (.bipush 113, 2) := by decide +kernel
theorem dX6_addNode_78 : decode cX6_addNode 78 = .ok (.invokevirtual 50, 3) := by decide +kernel
theorem dX6_addNode_81 : decode cX6_addNode 81 = .ok (.iload 4, 2) := by decide +kernel
theorem dX6_addNode_83 : decode cX6_addNode 83 = .ok (.iconst 1, 1) := by decide +kernel
theorem dX6_addNode_84 : decode cX6_addNode 84 = .ok (.if_icmp .le 15, 3) := by decide +kernel
theorem dX6_addNode_87 : decode cX6_addNode 87 = .ok (.aload_n 0, 1) := by decide +kernel
theorem dX6_addNode_88 : decode cX6_addNode 88 = .ok (.bipush 44, 2) := by decide +kernel
theorem dX6_addNode_90 : decode cX6_addNode 90 = .ok (.invokevirtual 50, 3) := by decide +kernel
theorem dX6_addNode_93 : decode cX6_addNode 93 = .ok (.aload_n 0, 1) := by decide +kernel
theorem dX6_addNode_94 : decode cX6_addNode 94 = .ok (.bipush 113, 2) := by decide +kernel
theorem dX6_addNode_96 : decode cX6_addNode 96 = .ok (.invokevirtual 50, 3) := by decide +kernel
theorem dX6_addNode_99 : decode cX6_addNode 99 = .ok (.iconst 1, 1) := by decide +kernel
theorem dX6_addNode_100 : decode cX6_addNode 100 = .ok (.ireturn, 1) := by decide +kernel
theorem dX6_nextCode_0 : decode cX6_nextCode 0 = .ok (.aload_n 0, 1) := by decide +kernel
theorem dX6_nextCode_1 : decode cX6_nextCode 1 = .ok (.getfield 43, 3) := by decide +kernel
theorem dX6_nextCode_4 : decode cX6_nextCode 4 = .ok (.ifnonnull 7, 3) := by decide +kernel
theorem dX6_nextCode_7 : decode cX6_nextCode 7 = .ok (.iconst (-1), 1) := by decide +kernel
theorem dX6_nextCode_8 : decode cX6_nextCode 8 = .ok (.goto 14, 3) := by decide +kernel
theorem dX6_nextCode_11 : decode cX6_nextCode 11 = .ok (.aload_n 0, 1) := by decide +kernel
theorem dX6_nextCode_12 : decode cX6_nextCode 12 = .ok (.getfield 43, 3) := by decide +kernel
theorem dX6_nextCode_15 : decode cX6_nextCode 15 = .ok (.aload_n 0, 1) := by decide +kernel
theorem dX6_nextCode_16 : decode cX6_nextCode 16 = .ok (.getfield 36, 3) := by decide +kernel
theorem dX6_nextCode_19 : decode cX6_nextCode 19 = .ok (.invokevirtual 125, 3) := by decide +kernel
theorem dX6_nextCode_22 : decode cX6_nextCode 22 = .ok (.ireturn, 1) := by decide +kernel
theorem dX6_take_0 : decode cX6_take 0 = .ok (.aload_n 0, 1) := by decide +kernel
theorem dX6_take_1 : decode cX6_take 1 = .ok (.invokevirtual 104, 3) := by decide +kernel
theorem dX6_take_4 : decode cX6_take 4 = .ok (.iload_n 1, 1) := by decide +kernel
theorem dX6_take_5 : decode cX6_take 5 = .ok (.if_icmp .eq 5, 3) := by decide +kernel
theorem dX6_take_8 : decode cX6_take 8 = .ok (.iconst 0, 1) := by decide +kernel
theorem dX6_take_9 : decode cX6_take 9 = .ok (.ireturn, 1) := by decide +kernel
theorem dX6_take_10 : decode cX6_take 10 = .ok (.aload_n 0, 1) := by decide +kernel
theorem dX6_take_11 : decode cX6_take 11 = .ok (.dup, 1) := by decide +kernel
theorem dX6_take_12 : decode cX6_take 12 = .ok (.getfield 36, 3) := by decide +kernel
theorem dX6_take_15 : decode cX6_take 15 = .ok (.iconst 1, 1) := by decide +kernel
theorem dX6_take_16 : decode cX6_take 16 = .ok (.iadd, 1) := by decide +kernel
theorem dX6_take_17 : decode cX6_take 17 = .ok (.putfield 36, 3) := by decide +kernel
theorem dX6_take_20 : decode cX6_take 20 = .ok (.iconst 1, 1) := by decide +kernel
theorem dX6_take_21 : decode cX6_take 21 = .ok (.ireturn, 1) := by decide +kernel
theorem dX6_takeDigit_0 : decode cX6_takeDigit 0 = .ok (.aload_n 0, 1) := by decide +kernel
theorem dX6_takeDigit_1 : decode cX6_takeDigit 1 = .ok (.invokevirtual 104, 3) := by decide +kernel
theorem dX6_takeDigit_4 : decode cX6_takeDigit 4 = .ok (.bipush 48, 2) := by decide +kernel
theorem dX6_takeDigit_6 : decode cX6_takeDigit 6 = .ok (.isub, 1) := by decide +kernel
theorem dX6_takeDigit_7 : decode cX6_takeDigit 7 = .ok (.istore_n 2, 1) := by decide +kernel
theorem dX6_takeDigit_8 : decode cX6_takeDigit 8 = .ok (.iload_n 2, 1) := by decide +kernel
theorem dX6_takeDigit_9 : decode cX6_takeDigit 9 = .ok (.ifCond .lt 8, 3) := by decide +kernel
theorem dX6_takeDigit_12 : decode cX6_takeDigit 12 = .ok (.iload_n 2, 1) := by decide +kernel
theorem dX6_takeDigit_13 : decode cX6_takeDigit 13 = .ok (.iload_n 1, 1) := by decide +kernel
theorem dX6_takeDigit_14 : decode cX6_takeDigit 14 = .ok (.if_icmp .lt 5, 3) := by decide +kernel
theorem dX6_takeDigit_17 : decode cX6_takeDigit 17 = .ok (.iconst (-1), 1) := by decide +kernel
theorem dX6_takeDigit_18 : decode cX6_takeDigit 18 = .ok (.ireturn, 1) := by decide +kernel
theorem dX6_takeDigit_19 : decode cX6_takeDigit 19 = .ok (.aload_n 0, 1) := by decide +kernel
theorem dX6_takeDigit_20 : decode cX6_takeDigit 20 = .ok (.dup, 1) := by decide +kernel
theorem dX6_takeDigit_21 : decode cX6_takeDigit 21 = .ok (.getfield 36, 3) := by decide +kernel
theorem dX6_takeDigit_24 : decode cX6_takeDigit 24 = .ok (.iconst 1, 1) := by decide +kernel
theorem dX6_takeDigit_25 : decode cX6_takeDigit 25 = .ok (.iadd, 1) := by decide +kernel
theorem dX6_takeDigit_26 : decode cX6_takeDigit 26 = .ok (.putfield 36, 3) := by decide +kernel
theorem dX6_takeDigit_29 : decode cX6_takeDigit 29 = .ok (.iload_n 2, 1) := by decide +kernel
theorem dX6_takeDigit_30 : decode cX6_takeDigit 30 = .ok (.ireturn, 1) := by decide +kernel
theorem dX6_push_0 : decode cX6_push 0 = .ok (.aload_n 0, 1) := by decide +kernel
theorem dX6_push_1 : decode cX6_push 1 = .ok (.getfield 47, 3) := by decide +kernel
theorem dX6_push_4 : decode cX6_push 4 = .ok (.ifCond .lt 32, 3) := by decide +kernel
theorem dX6_push_7 : decode cX6_push 7 = .ok (.aload_n 0, 1) := by decide +kernel
theorem dX6_push_8 : decode cX6_push 8 = .ok (.getfield 47, 3) := by decide +kernel
theorem dX6_push_11 : decode cX6_push 11 = .ok (.bipush 120, 2) := by decide +kernel
theorem dX6_push_13 : decode cX6_push 13 = .ok (.if_icmp .ge 23, 3) := by decide +kernel
theorem dX6_push_16 : decode cX6_push 16 = .ok (.aload_n 0, 1) := by decide +kernel
theorem dX6_push_17 : decode cX6_push 17 = .ok (.getfield 24, 3) := by decide +kernel
theorem dX6_push_20 : decode cX6_push 20 = .ok (.aload_n 0, 1) := by decide +kernel
theorem dX6_push_21 : decode cX6_push 21 = .ok (.getfield 47, 3) := by decide +kernel
theorem dX6_push_24 : decode cX6_push 24 = .ok (.iload_n 1, 1) := by decide +kernel
theorem dX6_push_25 : decode cX6_push 25 = .ok (.castore, 1) := by decide +kernel
theorem dX6_push_26 : decode cX6_push 26 = .ok (.aload_n 0, 1) := by decide +kernel
theorem dX6_push_27 : decode cX6_push 27 = .ok (.dup, 1) := by decide +kernel
theorem dX6_push_28 : decode cX6_push 28 = .ok (.getfield 47, 3) := by decide +kernel
theorem dX6_push_31 : decode cX6_push 31 = .ok (.iconst 1, 1) := by decide +kernel
theorem dX6_push_32 : decode cX6_push 32 = .ok (.iadd, 1) := by decide +kernel
theorem dX6_push_33 : decode cX6_push 33 = .ok (.putfield 47, 3) := by decide +kernel
theorem dX6_push_36 : decode cX6_push 36 = .ok (.return_, 1) := by decide +kernel
theorem dX6_pop_0 : decode cX6_pop 0 = .ok (.aload_n 0, 1) := by decide +kernel
theorem dX6_pop_1 : decode cX6_pop 1 = .ok (.getfield 47, 3) := by decide +kernel
theorem dX6_pop_4 : decode cX6_pop 4 = .ok (.ifCond .le 12, 3) := by decide +kernel
theorem dX6_pop_7 : decode cX6_pop 7 = .ok (.aload_n 0, 1) := by decide +kernel
theorem dX6_pop_8 : decode cX6_pop 8 = .ok (.getfield 47, 3) := by decide +kernel
theorem dX6_pop_11 : decode cX6_pop 11 = .ok (.bipush 120, 2) := by decide +kernel
theorem dX6_pop_13 : decode cX6_pop 13 = .ok (.if_icmp .le 6, 3) := by decide +kernel
theorem dX6_pop_16 : decode cX6_pop 16 = .ok (.bipush 113, 2) := by decide +kernel
theorem dX6_pop_18 : decode cX6_pop 18 = .ok (.ireturn, 1) := by decide +kernel
theorem dX6_pop_19 : decode cX6_pop 19 = .ok (.aload_n 0, 1) := by decide +kernel
theorem dX6_pop_20 : decode cX6_pop 20 = .ok (.dup, 1) := by decide +kernel
theorem dX6_pop_21 : decode cX6_pop 21 = .ok (.getfield 47, 3) := by decide +kernel
theorem dX6_pop_24 : decode cX6_pop 24 = .ok (.iconst 1, 1) := by decide +kernel
theorem dX6_pop_25 : decode cX6_pop 25 = .ok (.isub, 1) := by decide +kernel
theorem dX6_pop_26 : decode cX6_pop 26 = .ok (.putfield 47, 3) := by decide +kernel
theorem dX6_pop_29 : decode cX6_pop 29 = .ok (.aload_n 0, 1) := by decide +kernel
theorem dX6_pop_30 : decode cX6_pop 30 = .ok (.getfield 24, 3) := by decide +kernel
theorem dX6_pop_33 : decode cX6_pop 33 = .ok (.aload_n 0, 1) := by decide +kernel
theorem dX6_pop_34 : decode cX6_pop 34 = .ok (.getfield 47, 3) := by decide +kernel
theorem dX6_pop_37 : decode cX6_pop 37 = .ok (.caload, 1) := by decide +kernel
theorem dX6_pop_38 : decode cX6_pop 38 = .ok (.ireturn, 1) := by decide +kernel
theorem dX7_init_0 : decode cX7_init 0 = .ok (.aload_n 0, 1) := by decide +kernel
theorem dX7_init_1 : decode cX7_init 1 = .ok (.invokespecial 3, 3) := by decide +kernel
theorem dX7_init_4 : decode cX7_init 4 = .ok (.aload_n 0, 1) := by decide +kernel
theorem dX7_init_5 : decode cX7_init 5 = .ok (.bipush 32, 2) := by decide +kernel
theorem dX7_init_7 : decode cX7_init 7 = .ok (.newarray .int, 2) := by decide +kernel
theorem dX7_init_9 : decode cX7_init 9 = .ok (.putfield 9, 3) := by decide +kernel
theorem dX7_init_12 : decode cX7_init 12 = .ok (.aload_n 0, 1) := by decide +kernel
theorem dX7_init_13 : decode cX7_init 13 = .ok (.bipush 32, 2) := by decide +kernel
theorem dX7_init_15 : decode cX7_init 15 = .ok (.anewarray 15, 3) := by decide +kernel
theorem dX7_init_18 : decode cX7_init 18 = .ok (.putfield 17, 3) := by decide +kernel
theorem dX7_init_21 : decode cX7_init 21 = .ok (.iconst 0, 1) := by decide +kernel
theorem dX7_init_22 : decode cX7_init 22 = .ok (.istore_n 1, 1) := by decide +kernel
theorem dX7_init_23 : decode cX7_init 23 = .ok (.iload_n 1, 1) := by decide +kernel
theorem dX7_init_24 : decode cX7_init 24 = .ok (.bipush 32, 2) := by decide +kernel
theorem dX7_init_26 : decode cX7_init 26 = .ok (.if_icmp .ge 22, 3) := by decide +kernel
theorem dX7_init_29 : decode cX7_init 29 = .ok (.aload_n 0, 1) := by decide +kernel
theorem dX7_init_30 : decode cX7_init 30 = .ok (.getfield 17, 3) := by decide +kernel
theorem dX7_init_33 : decode cX7_init 33 = .ok (.iload_n 1, 1) := by decide +kernel
theorem dX7_init_34 : decode cX7_init 34 = .ok (.new 15, 3) := by decide +kernel
theorem dX7_init_37 : decode cX7_init 37 = .ok (.dup, 1) := by decide +kernel
theorem dX7_init_38 : decode cX7_init 38 = .ok (.invokespecial 21, 3) := by decide +kernel
theorem dX7_init_41 : decode cX7_init 41 = .ok (.aastore, 1) := by decide +kernel
theorem dX7_init_42 : decode cX7_init 42 = .ok (.iinc 1 1, 3) := by decide +kernel
theorem dX7_init_45 : decode cX7_init 45 = .ok (.goto (-22), 3) := by decide +kernel
theorem dX7_init_48 : decode cX7_init 48 = .ok (.return_, 1) := by decide +kernel
theorem dX7_clear_0 : decode cX7_clear 0 = .ok (.aload_n 0, 1) := by decide +kernel
theorem dX7_clear_1 : decode cX7_clear 1 = .ok (.iload_n 1, 1) := by decide +kernel
theorem dX7_clear_2 : decode cX7_clear 2 = .ok (.putfield 22, 3) := by decide +kernel
theorem dX7_clear_5 : decode cX7_clear 5 = .ok (.aload_n 0, 1) := by decide +kernel
theorem dX7_clear_6 : decode cX7_clear 6 = .ok (.iconst 0, 1) := by decide +kernel
theorem dX7_clear_7 : decode cX7_clear 7 = .ok (.putfield 26, 3) := by decide +kernel
theorem dX7_clear_10 : decode cX7_clear 10 = .ok (.return_, 1) := by decide +kernel
theorem dX7_width_0 : decode cX7_width 0 = .ok (.aload_n 0, 1) := by decide +kernel
theorem dX7_width_1 : decode cX7_width 1 = .ok (.getfield 22, 3) := by decide +kernel
theorem dX7_width_4 : decode cX7_width 4 = .ok (.ireturn, 1) := by decide +kernel
theorem dX7_size_0 : decode cX7_size 0 = .ok (.aload_n 0, 1) := by decide +kernel
theorem dX7_size_1 : decode cX7_size 1 = .ok (.getfield 26, 3) := by decide +kernel
theorem dX7_size_4 : decode cX7_size 4 = .ok (.ireturn, 1) := by decide +kernel
theorem dX7_hasRow_0 : decode cX7_hasRow 0 = .ok (.iload_n 1, 1) := by decide +kernel
theorem dX7_hasRow_1 : decode cX7_hasRow 1 = .ok (.ifCond .lt 21, 3) := by decide +kernel
theorem dX7_hasRow_4 : decode cX7_hasRow 4 = .ok (.iload_n 1, 1) := by decide +kernel
theorem dX7_hasRow_5 : decode cX7_hasRow 5 = .ok (.aload_n 0, 1) := by decide +kernel
theorem dX7_hasRow_6 : decode cX7_hasRow 6 = .ok (.getfield 26, 3) := by decide +kernel
theorem dX7_hasRow_9 : decode cX7_hasRow 9 = .ok (.if_icmp .ge 13, 3) := by decide +kernel
theorem dX7_hasRow_12 : decode cX7_hasRow 12 = .ok (.iload_n 1, 1) := by decide +kernel
theorem dX7_hasRow_13 : decode cX7_hasRow 13 = .ok (.bipush 32, 2) := by decide +kernel
theorem dX7_hasRow_15 : decode cX7_hasRow 15 = .ok (.if_icmp .ge 7, 3) := by decide +kernel
theorem dX7_hasRow_18 : decode cX7_hasRow 18 = .ok (.iconst 1, 1) := by decide +kernel
theorem dX7_hasRow_19 : decode cX7_hasRow 19 = .ok (.goto 4, 3) := by decide +kernel
theorem dX7_hasRow_22 : decode cX7_hasRow 22 = .ok (.iconst 0, 1) := by decide +kernel
theorem dX7_hasRow_23 : decode cX7_hasRow 23 = .ok (.ireturn, 1) := by decide +kernel
theorem dX7_keyAt_0 : decode cX7_keyAt 0 = .ok (.aload_n 0, 1) := by decide +kernel
theorem dX7_keyAt_1 : decode cX7_keyAt 1 = .ok (.iload_n 1, 1) := by decide +kernel
theorem dX7_keyAt_2 : decode cX7_keyAt 2 = .ok (.invokevirtual 29, 3) := by decide +kernel
theorem dX7_keyAt_5 : decode cX7_keyAt 5 = .ok (.ifCond .eq 12, 3) := by decide +kernel
theorem dX7_keyAt_8 : decode cX7_keyAt 8 = .ok (.aload_n 0, 1) := by decide +kernel
theorem dX7_keyAt_9 : decode cX7_keyAt 9 = .ok (.getfield 9, 3) := by decide +kernel
theorem dX7_keyAt_12 : decode cX7_keyAt 12 = .ok (.iload_n 1, 1) := by decide +kernel
theorem dX7_keyAt_13 : decode cX7_keyAt 13 = .ok (.iaload, 1) := by decide +kernel
theorem dX7_keyAt_14 : decode cX7_keyAt 14 = .ok (.goto 4, 3) := by decide +kernel
theorem dX7_keyAt_17 : decode cX7_keyAt 17 = .ok (.iconst 0, 1) := by decide +kernel
theorem dX7_keyAt_18 : decode cX7_keyAt 18 = .ok (.ireturn, 1) := by decide +kernel
theorem dX7_polynomialAt_0 : decode cX7_polynomialAt 0 = .ok (.aload_n 0, 1) := by decide +kernel
theorem dX7_polynomialAt_1 : decode cX7_polynomialAt 1 = .ok (.iload_n 1, 1) := by decide +kernel
theorem dX7_polynomialAt_2 : decode cX7_polynomialAt 2 = .ok (.invokevirtual 29, 3) := by decide +kernel
theorem dX7_polynomialAt_5 : decode cX7_polynomialAt 5 = .ok (.ifCond .eq 12, 3) := by decide +kernel
theorem dX7_polynomialAt_8 : decode cX7_polynomialAt 8 = .ok (.aload_n 0, 1) := by decide +kernel
theorem dX7_polynomialAt_9 : decode cX7_polynomialAt 9 = .ok (.getfield 17, 3) := by decide +kernel
theorem dX7_polynomialAt_12 : decode cX7_polynomialAt 12 = .ok (.iload_n 1, 1) := by decide +kernel
theorem dX7_polynomialAt_13 : decode cX7_polynomialAt 13 = .ok (.aaload, 1) := by decide +kernel
theorem dX7_polynomialAt_14 : decode cX7_polynomialAt 14 = .ok (.goto 4, 3) := by decide +kernel
theorem dX7_polynomialAt_17 : decode cX7_polynomialAt 17 = .ok (.aconst_null, 1) := by decide +kernel
theorem dX7_polynomialAt_18 : decode cX7_polynomialAt 18 = .ok (.areturn, 1) := by decide +kernel
theorem dX7_countPresent_0 : decode cX7_countPresent 0 = .ok (.iload_n 1, 1) := by decide +kernel
theorem dX7_countPresent_1 : decode cX7_countPresent 1 = .ok (.invokestatic 33, 3) := by decide +kernel
theorem dX7_countPresent_4 : decode cX7_countPresent 4 = .ok (.lstore_n 2, 1) := by decide +kernel
theorem dX7_countPresent_5 : decode cX7_countPresent 5 = .ok (.iconst 0, 1) := by decide +kernel
theorem dX7_countPresent_6 : decode cX7_countPresent 6 = .ok (.istore 4, 2) := by decide +kernel
theorem dX7_countPresent_8 : decode cX7_countPresent 8 = .ok (.iconst 0, 1) := by decide +kernel
theorem dX7_countPresent_9 : decode cX7_countPresent 9 = .ok (.istore 5, 2) := by decide +kernel
theorem dX7_countPresent_11 : decode cX7_countPresent 11 = .ok (.iload 5, 2) := by decide +kernel
theorem dX7_countPresent_13 : decode cX7_countPresent 13 = .ok (.aload_n 0, 1) := by decide +kernel
theorem dX7_countPresent_14 : decode cX7_countPresent 14 = .ok (.getfield 26, 3) := by decide +kernel
theorem dX7_countPresent_17 : decode cX7_countPresent 17 = .ok (.if_icmp .ge 34, 3) := by decide +kernel
theorem dX7_countPresent_20 : decode cX7_countPresent 20 = .ok (.aload_n 0, 1) := by decide +kernel
theorem dX7_countPresent_21 : decode cX7_countPresent 21 = .ok (.iload 5, 2) := by decide +kernel
theorem dX7_countPresent_23 : decode cX7_countPresent 23 = .ok (.invokevirtual 39, 3) := by decide +kernel
theorem dX7_countPresent_26 : decode cX7_countPresent 26 = .ok (.astore 6, 2) := by decide +kernel
theorem dX7_countPresent_28 : decode cX7_countPresent 28 = .ok (.aload 6, 2) := by decide +kernel
theorem dX7_countPresent_30 : decode cX7_countPresent 30 = .ok (.ifnull 15, 3) := by decide +kernel
theorem dX7_countPresent_33 : decode cX7_countPresent 33 = .ok (.aload 6, 2) := by decide +kernel
theorem dX7_countPresent_35 : decode cX7_countPresent 35 = .ok (.lload_n 2, 1) := by decide +kernel
theorem dX7_countPresent_36 : decode cX7_countPresent 36 = .ok (.invokevirtual 43, 3) := by decide +kernel
theorem dX7_countPresent_39 : decode cX7_countPresent 39 = .ok (.ifCond .eq 6, 3) := by decide +kernel
theorem dX7_countPresent_42 : decode cX7_countPresent 42 = .ok (.iinc 4 1, 3) := by decide +kernel
theorem dX7_countPresent_45 : decode cX7_countPresent 45 = .ok (.iinc 5 1, 3) := by decide +kernel
theorem dX7_countPresent_48 : decode cX7_countPresent 48 = .ok (.goto (-37), 3) := by decide +kernel
theorem dX7_countPresent_51 : decode cX7_countPresent 51 = .ok (.iload 4, 2) := by decide +kernel
theorem dX7_countPresent_53 : decode cX7_countPresent 53 = .ok (.ireturn, 1) := by decide +kernel
theorem dX7_rowWith_0 : decode cX7_rowWith 0 = .ok (.iconst 0, 1) := by decide +kernel
theorem dX7_rowWith_1 : decode cX7_rowWith 1 = .ok (.istore_n 2, 1) := by decide +kernel
theorem dX7_rowWith_2 : decode cX7_rowWith 2 = .ok (.iload_n 2, 1) := by decide +kernel
theorem dX7_rowWith_3 : decode cX7_rowWith 3 = .ok (.aload_n 0, 1) := by decide +kernel
theorem dX7_rowWith_4 : decode cX7_rowWith 4 = .ok (.getfield 26, 3) := by decide +kernel
theorem dX7_rowWith_7 : decode cX7_rowWith 7 = .ok (.if_icmp .ge 25, 3) := by decide +kernel
theorem dX7_rowWith_10 : decode cX7_rowWith 10 = .ok (.iload_n 2, 1) := by decide +kernel
theorem dX7_rowWith_11 : decode cX7_rowWith 11 = .ok (.bipush 32, 2) := by decide +kernel
theorem dX7_rowWith_13 : decode cX7_rowWith 13 = .ok (.if_icmp .ge 19, 3) := by decide +kernel
theorem dX7_rowWith_16 : decode cX7_rowWith 16 = .ok (.aload_n 0, 1) := by decide +kernel
theorem dX7_rowWith_17 : decode cX7_rowWith 17 = .ok (.getfield 9, 3) := by decide +kernel
theorem dX7_rowWith_20 : decode cX7_rowWith 20 = .ok (.iload_n 2, 1) := by decide +kernel
theorem dX7_rowWith_21 : decode cX7_rowWith 21 = .ok (.iaload, 1) := by decide +kernel
theorem dX7_rowWith_22 : decode cX7_rowWith 22 = .ok (.iload_n 1, 1) := by decide +kernel
theorem dX7_rowWith_23 : decode cX7_rowWith 23 = .ok (.if_icmp .ge 9, 3) := by decide +kernel
theorem dX7_rowWith_26 : decode cX7_rowWith 26 = .ok (.iinc 2 1, 3) := by decide +kernel
theorem dX7_rowWith_29 : decode cX7_rowWith 29 = .ok (.goto (-27), 3) := by decide +kernel
theorem dX7_rowWith_32 : decode cX7_rowWith 32 = .ok (.iload_n 2, 1) := by decide +kernel
theorem dX7_rowWith_33 : decode cX7_rowWith 33 = .ok (.aload_n 0, 1) := by decide +kernel
theorem dX7_rowWith_34 : decode cX7_rowWith 34 = .ok (.getfield 26, 3) := by decide +kernel
theorem dX7_rowWith_37 : decode cX7_rowWith 37 = .ok (.if_icmp .ge 26, 3) := by decide +kernel
theorem dX7_rowWith_40 : decode cX7_rowWith 40 = .ok (.iload_n 2, 1) := by decide +kernel
theorem dX7_rowWith_41 : decode cX7_rowWith 41 = .ok (.bipush 32, 2) := by decide +kernel
theorem dX7_rowWith_43 : decode cX7_rowWith 43 = .ok (.if_icmp .ge 20, 3) := by decide +kernel
theorem dX7_rowWith_46 : decode cX7_rowWith 46 = .ok (.aload_n 0, 1) := by decide +kernel
theorem dX7_rowWith_47 : decode cX7_rowWith 47 = .ok (.getfield 9, 3) := by decide +kernel
theorem dX7_rowWith_50 : decode cX7_rowWith 50 = .ok (.iload_n 2, 1) := by decide +kernel
theorem dX7_rowWith_51 : decode cX7_rowWith 51 = .ok (.iaload, 1) := by decide +kernel
theorem dX7_rowWith_52 : decode cX7_rowWith 52 = .ok (.iload_n 1, 1) := by decide +kernel
theorem dX7_rowWith_53 : decode cX7_rowWith 53 = .ok (.if_icmp .ne 10, 3) := by decide +kernel
theorem dX7_rowWith_56 : decode cX7_rowWith 56 = .ok (.aload_n 0, 1) := by decide +kernel
theorem dX7_rowWith_57 : decode cX7_rowWith 57 = .ok (.getfield 17, 3) := by decide +kernel
theorem dX7_rowWith_60 : decode cX7_rowWith 60 = .ok (.iload_n 2, 1) := by decide +kernel
theorem dX7_rowWith_61 : decode cX7_rowWith 61 = .ok (.aaload, 1) := by decide +kernel
theorem dX7_rowWith_62 : decode cX7_rowWith 62 = .ok (.areturn, 1) := by decide +kernel
theorem dX7_rowWith_63 : decode cX7_rowWith 63 = .ok (.aload_n 0, 1) := by decide +kernel
theorem dX7_rowWith_64 : decode cX7_rowWith 64 = .ok (.getfield 26, 3) := by decide +kernel
theorem dX7_rowWith_67 : decode cX7_rowWith 67 = .ok (.bipush 32, 2) := by decide +kernel
theorem dX7_rowWith_69 : decode cX7_rowWith 69 = .ok (.if_icmp .lt 5, 3) := by decide +kernel
theorem dX7_rowWith_72 : decode cX7_rowWith 72 = .ok (.aconst_null, 1) := by decide +kernel
theorem dX7_rowWith_73 : decode cX7_rowWith 73 = .ok (.areturn, 1) := by decide +kernel
theorem dX7_rowWith_74 : decode cX7_rowWith 74 = .ok (.aload_n 0, 1) := by decide +kernel
theorem dX7_rowWith_75 : decode cX7_rowWith 75 = .ok (.getfield 17, 3) := by decide +kernel
theorem dX7_rowWith_78 : decode cX7_rowWith 78 = .ok (.aload_n 0, 1) := by decide +kernel
theorem dX7_rowWith_79 : decode cX7_rowWith 79 = .ok (.getfield 26, 3) := by decide +kernel
theorem dX7_rowWith_82 : decode cX7_rowWith 82 = .ok (.aaload, 1) := by decide +kernel
theorem dX7_rowWith_83 : decode cX7_rowWith 83 = .ok (.astore_n 3, 1) := by decide +kernel
theorem dX7_rowWith_84 : decode cX7_rowWith 84 = .ok (.aload_n 3, 1) := by decide +kernel
theorem dX7_rowWith_85 : decode cX7_rowWith 85 = .ok (.ifnonnull 5, 3) := by decide +kernel
theorem dX7_rowWith_88 : decode cX7_rowWith 88 = .ok (.aconst_null, 1) := by decide +kernel
theorem dX7_rowWith_89 : decode cX7_rowWith 89 = .ok (.areturn, 1) := by decide +kernel
theorem dX7_rowWith_90 : decode cX7_rowWith 90 = .ok (.aload_n 0, 1) := by decide +kernel
theorem dX7_rowWith_91 : decode cX7_rowWith 91 = .ok (.getfield 26, 3) := by decide +kernel
theorem dX7_rowWith_94 : decode cX7_rowWith 94 = .ok (.istore 4, 2) := by decide +kernel
theorem dX7_rowWith_96 : decode cX7_rowWith 96 = .ok (.iload 4, 2) := by decide +kernel
theorem dX7_rowWith_98 : decode cX7_rowWith 98 = .ok (.iload_n 2, 1) := by decide +kernel
theorem dX7_rowWith_99 : decode cX7_rowWith 99 = .ok (.if_icmp .le 41, 3) := by decide +kernel
theorem dX7_rowWith_102 : decode cX7_rowWith 102 = .ok (.aload_n 0, 1) := by decide +kernel
theorem dX7_rowWith_103 : decode cX7_rowWith 103 = .ok (.getfield 9, 3) := by decide +kernel
theorem dX7_rowWith_106 : decode cX7_rowWith 106 = .ok (.iload 4, 2) := by decide +kernel
theorem dX7_rowWith_108 : decode cX7_rowWith 108 = .ok (.aload_n 0, 1) := by decide +kernel
theorem dX7_rowWith_109 : decode cX7_rowWith 109 = .ok (.getfield 9, 3) := by decide +kernel
theorem dX7_rowWith_112 : decode cX7_rowWith 112 = .ok (.iload 4, 2) := by decide +kernel
theorem dX7_rowWith_114 : decode cX7_rowWith 114 = .ok (.iconst 1, 1) := by decide +kernel
theorem dX7_rowWith_115 : decode cX7_rowWith 115 = .ok (.isub, 1) := by decide +kernel
theorem dX7_rowWith_116 : decode cX7_rowWith 116 = .ok (.iaload, 1) := by decide +kernel
theorem dX7_rowWith_117 : decode cX7_rowWith 117 = .ok (.iastore, 1) := by decide +kernel
theorem dX7_rowWith_118 : decode cX7_rowWith 118 = .ok (.aload_n 0, 1) := by decide +kernel
theorem dX7_rowWith_119 : decode cX7_rowWith 119 = .ok (.getfield 17, 3) := by decide +kernel
theorem dX7_rowWith_122 : decode cX7_rowWith 122 = .ok (.iload 4, 2) := by decide +kernel
theorem dX7_rowWith_124 : decode cX7_rowWith 124 = .ok (.aload_n 0, 1) := by decide +kernel
theorem dX7_rowWith_125 : decode cX7_rowWith 125 = .ok (.getfield 17, 3) := by decide +kernel
theorem dX7_rowWith_128 : decode cX7_rowWith 128 = .ok (.iload 4, 2) := by decide +kernel
theorem dX7_rowWith_130 : decode cX7_rowWith 130 = .ok (.iconst 1, 1) := by decide +kernel
theorem dX7_rowWith_131 : decode cX7_rowWith 131 = .ok (.isub, 1) := by decide +kernel
theorem dX7_rowWith_132 : decode cX7_rowWith 132 = .ok (.aaload, 1) := by decide +kernel
theorem dX7_rowWith_133 : decode cX7_rowWith 133 = .ok (.aastore, 1) := by decide +kernel
theorem dX7_rowWith_134 : decode cX7_rowWith 134 = .ok (.iinc 4 (-1), 3) := by decide +kernel
theorem dX7_rowWith_137 : decode cX7_rowWith 137 = .ok (.goto (-41), 3) := by decide +kernel
theorem dX7_rowWith_140 : decode cX7_rowWith 140 = .ok (.aload_n 3, 1) := by decide +kernel
theorem dX7_rowWith_141 : decode cX7_rowWith 141 = .ok (.invokevirtual 47, 3) := by decide +kernel
theorem dX7_rowWith_144 : decode cX7_rowWith 144 = .ok (.aload_n 0, 1) := by decide +kernel
theorem dX7_rowWith_145 : decode cX7_rowWith 145 = .ok (.getfield 9, 3) := by decide +kernel
theorem dX7_rowWith_148 : decode cX7_rowWith 148 = .ok (.iload_n 2, 1) := by decide +kernel
theorem dX7_rowWith_149 : decode cX7_rowWith 149 = .ok (.iload_n 1, 1) := by decide +kernel
theorem dX7_rowWith_150 : decode cX7_rowWith 150 = .ok (.iastore, 1) := by decide +kernel
theorem dX7_rowWith_151 : decode cX7_rowWith 151 = .ok (.aload_n 0, 1) := by decide +kernel
theorem dX7_rowWith_152 : decode cX7_rowWith 152 = .ok (.getfield 17, 3) := by decide +kernel
theorem dX7_rowWith_155 : decode cX7_rowWith 155 = .ok (.iload_n 2, 1) := by decide +kernel
theorem dX7_rowWith_156 : decode cX7_rowWith 156 = .ok (.aload_n 3, 1) := by decide +kernel
theorem dX7_rowWith_157 : decode cX7_rowWith 157 = .ok (.aastore, 1) := by decide +kernel
theorem dX7_rowWith_158 : decode cX7_rowWith 158 = .ok (.aload_n 0, 1) := by decide +kernel
theorem dX7_rowWith_159 : decode cX7_rowWith 159 = .ok (.dup, 1) := by decide +kernel
theorem dX7_rowWith_160 : decode cX7_rowWith 160 = .ok (.getfield 26, 3) := by decide +kernel
theorem dX7_rowWith_163 : decode cX7_rowWith 163 = .ok (.iconst 1, 1) := by decide +kernel
theorem dX7_rowWith_164 : decode cX7_rowWith 164 = .ok (.iadd, 1) := by decide +kernel
theorem dX7_rowWith_165 : decode cX7_rowWith 165 = .ok (.putfield 26, 3) := by decide +kernel
theorem dX7_rowWith_168 : decode cX7_rowWith 168 = .ok (.aload_n 3, 1) := by decide +kernel
theorem dX7_rowWith_169 : decode cX7_rowWith 169 = .ok (.areturn, 1) := by decide +kernel
theorem dX8_init_0 : decode cX8_init 0 = .ok (.aload_n 0, 1) := by decide +kernel
theorem dX8_init_1 : decode cX8_init 1 = .ok (.invokespecial 3, 3) := by decide +kernel
theorem dX8_init_4 : decode cX8_init 4 = .ok (.aload_n 0, 1) := by decide +kernel
theorem dX8_init_5 : decode cX8_init 5 = .ok (.iconst 4, 1) := by decide +kernel
theorem dX8_init_6 : decode cX8_init 6 = .ok (.newarray .int, 2) := by decide +kernel
theorem dX8_init_8 : decode cX8_init 8 = .ok (.putfield 9, 3) := by decide +kernel
theorem dX8_init_11 : decode cX8_init 11 = .ok (.aload_n 0, 1) := by decide +kernel
theorem dX8_init_12 : decode cX8_init 12 = .ok (.bipush 16, 2) := by decide +kernel
theorem dX8_init_14 : decode cX8_init 14 = .ok (.newarray .int, 2) := by decide +kernel
theorem dX8_init_16 : decode cX8_init 16 = .ok (.putfield 15, 3) := by decide +kernel
theorem dX8_init_19 : decode cX8_init 19 = .ok (.aload_n 0, 1) := by decide +kernel
theorem dX8_init_20 : decode cX8_init 20 = .ok (.bipush 16, 2) := by decide +kernel
theorem dX8_init_22 : decode cX8_init 22 = .ok (.newarray .int, 2) := by decide +kernel
theorem dX8_init_24 : decode cX8_init 24 = .ok (.putfield 18, 3) := by decide +kernel
theorem dX8_init_27 : decode cX8_init 27 = .ok (.aload_n 0, 1) := by decide +kernel
theorem dX8_init_28 : decode cX8_init 28 = .ok (.bipush 16, 2) := by decide +kernel
theorem dX8_init_30 : decode cX8_init 30 = .ok (.newarray .int, 2) := by decide +kernel
theorem dX8_init_32 : decode cX8_init 32 = .ok (.putfield 21, 3) := by decide +kernel
theorem dX8_init_35 : decode cX8_init 35 = .ok (.aload_n 0, 1) := by decide +kernel
theorem dX8_init_36 : decode cX8_init 36 = .ok (.bipush 16, 2) := by decide +kernel
theorem dX8_init_38 : decode cX8_init 38 = .ok (.newarray .int, 2) := by decide +kernel
theorem dX8_init_40 : decode cX8_init 40 = .ok (.putfield 24, 3) := by decide +kernel
theorem dX8_init_43 : decode cX8_init 43 = .ok (.aload_n 0, 1) := by decide +kernel
theorem dX8_init_44 : decode cX8_init 44 = .ok (.new 27, 3) := by decide +kernel
theorem dX8_init_47 : decode cX8_init 47 = .ok (.dup, 1) := by decide +kernel
theorem dX8_init_48 : decode cX8_init 48 = .ok (.bipush 60, 2) := by decide +kernel
theorem dX8_init_50 : decode cX8_init 50 = .ok (.invokespecial 29, 3) := by decide +kernel
theorem dX8_init_53 : decode cX8_init 53 = .ok (.putfield 32, 3) := by decide +kernel
theorem dX8_init_56 : decode cX8_init 56 = .ok (.iconst 0, 1) := by decide +kernel
theorem dX8_init_57 : decode cX8_init 57 = .ok (.istore_n 1, 1) := by decide +kernel
theorem dX8_init_58 : decode cX8_init 58 = .ok (.iload_n 1, 1) := by decide +kernel
theorem dX8_init_59 : decode cX8_init 59 = .ok (.iconst 4, 1) := by decide +kernel
theorem dX8_init_60 : decode cX8_init 60 = .ok (.if_icmp .ge 16, 3) := by decide +kernel
theorem dX8_init_63 : decode cX8_init 63 = .ok (.aload_n 0, 1) := by decide +kernel
theorem dX8_init_64 : decode cX8_init 64 = .ok (.getfield 9, 3) := by decide +kernel
theorem dX8_init_67 : decode cX8_init 67 = .ok (.iload_n 1, 1) := by decide +kernel
theorem dX8_init_68 : decode cX8_init 68 = .ok (.iconst 2, 1) := by decide +kernel
theorem dX8_init_69 : decode cX8_init 69 = .ok (.iastore, 1) := by decide +kernel
theorem dX8_init_70 : decode cX8_init 70 = .ok (.iinc 1 1, 3) := by decide +kernel
theorem dX8_init_73 : decode cX8_init 73 = .ok (.goto (-15), 3) := by decide +kernel
theorem dX8_init_76 : decode cX8_init 76 = .ok (.return_, 1) := by decide +kernel
theorem dX8_copy_0 : decode cX8_copy 0 = .ok (.aload_n 1, 1) := by decide +kernel
theorem dX8_copy_1 : decode cX8_copy 1 = .ok (.getfield 9, 3) := by decide +kernel
theorem dX8_copy_4 : decode cX8_copy 4 = .ok (.aload_n 0, 1) := by decide +kernel
theorem dX8_copy_5 : decode cX8_copy 5 = .ok (.getfield 9, 3) := by decide +kernel
theorem dX8_copy_8 : decode cX8_copy 8 = .ok (.invokestatic 36, 3) := by decide +kernel
theorem dX8_copy_11 : decode cX8_copy 11 = .ok (.aload_n 1, 1) := by decide +kernel
theorem dX8_copy_12 : decode cX8_copy 12 = .ok (.getfield 15, 3) := by decide +kernel
theorem dX8_copy_15 : decode cX8_copy 15 = .ok (.aload_n 0, 1) := by decide +kernel
theorem dX8_copy_16 : decode cX8_copy 16 = .ok (.getfield 15, 3) := by decide +kernel
theorem dX8_copy_19 : decode cX8_copy 19 = .ok (.invokestatic 36, 3) := by decide +kernel
theorem dX8_copy_22 : decode cX8_copy 22 = .ok (.aload_n 1, 1) := by decide +kernel
theorem dX8_copy_23 : decode cX8_copy 23 = .ok (.getfield 18, 3) := by decide +kernel
theorem dX8_copy_26 : decode cX8_copy 26 = .ok (.aload_n 0, 1) := by decide +kernel
theorem dX8_copy_27 : decode cX8_copy 27 = .ok (.getfield 18, 3) := by decide +kernel
theorem dX8_copy_30 : decode cX8_copy 30 = .ok (.invokestatic 36, 3) := by decide +kernel
theorem dX8_copy_33 : decode cX8_copy 33 = .ok (.aload_n 1, 1) := by decide +kernel
theorem dX8_copy_34 : decode cX8_copy 34 = .ok (.getfield 21, 3) := by decide +kernel
theorem dX8_copy_37 : decode cX8_copy 37 = .ok (.aload_n 0, 1) := by decide +kernel
theorem dX8_copy_38 : decode cX8_copy 38 = .ok (.getfield 21, 3) := by decide +kernel
theorem dX8_copy_41 : decode cX8_copy 41 = .ok (.invokestatic 36, 3) := by decide +kernel
theorem dX8_copy_44 : decode cX8_copy 44 = .ok (.aload_n 1, 1) := by decide +kernel
theorem dX8_copy_45 : decode cX8_copy 45 = .ok (.getfield 24, 3) := by decide +kernel
theorem dX8_copy_48 : decode cX8_copy 48 = .ok (.aload_n 0, 1) := by decide +kernel
theorem dX8_copy_49 : decode cX8_copy 49 = .ok (.getfield 24, 3) := by decide +kernel
theorem dX8_copy_52 : decode cX8_copy 52 = .ok (.invokestatic 36, 3) := by decide +kernel
theorem dX8_copy_55 : decode cX8_copy 55 = .ok (.aload_n 0, 1) := by decide +kernel
theorem dX8_copy_56 : decode cX8_copy 56 = .ok (.getfield 32, 3) := by decide +kernel
theorem dX8_copy_59 : decode cX8_copy 59 = .ok (.aload_n 1, 1) := by decide +kernel
theorem dX8_copy_60 : decode cX8_copy 60 = .ok (.getfield 32, 3) := by decide +kernel
theorem dX8_copy_63 : decode cX8_copy 63 = .ok (.invokevirtual 40, 3) := by decide +kernel
theorem dX8_copy_66 : decode cX8_copy 66 = .ok (.aload_n 0, 1) := by decide +kernel
theorem dX8_copy_67 : decode cX8_copy 67 = .ok (.aload_n 1, 1) := by decide +kernel
theorem dX8_copy_68 : decode cX8_copy 68 = .ok (.getfield 44, 3) := by decide +kernel
theorem dX8_copy_71 : decode cX8_copy 71 = .ok (.putfield 44, 3) := by decide +kernel
theorem dX8_copy_74 : decode cX8_copy 74 = .ok (.aload_n 0, 1) := by decide +kernel
theorem dX8_copy_75 : decode cX8_copy 75 = .ok (.aload_n 1, 1) := by decide +kernel
theorem dX8_copy_76 : decode cX8_copy 76 = .ok (.getfield 48, 3) := by decide +kernel
theorem dX8_copy_79 : decode cX8_copy 79 = .ok (.putfield 48, 3) := by decide +kernel
theorem dX8_copy_82 : decode cX8_copy 82 = .ok (.return_, 1) := by decide +kernel
theorem dX8_queryLine_0 : decode cX8_queryLine 0 = .ok (.aload_n 0, 1) := by decide +kernel
theorem dX8_queryLine_1 : decode cX8_queryLine 1 = .ok (.getfield 32, 3) := by decide +kernel
theorem dX8_queryLine_4 : decode cX8_queryLine 4 = .ok (.areturn, 1) := by decide +kernel
theorem dX8_tagMask_0 : decode cX8_tagMask 0 = .ok (.aload_n 0, 1) := by decide +kernel
theorem dX8_tagMask_1 : decode cX8_tagMask 1 = .ok (.getfield 44, 3) := by decide +kernel
theorem dX8_tagMask_4 : decode cX8_tagMask 4 = .ok (.ireturn, 1) := by decide +kernel
theorem dX8_withdrawnMask_0 : decode cX8_withdrawnMask 0 = .ok (.aload_n 0, 1) := by decide +kernel
theorem dX8_withdrawnMask_1 : decode cX8_withdrawnMask 1 = .ok (.getfield 48, 3) := by decide +kernel
theorem dX8_withdrawnMask_4 : decode cX8_withdrawnMask 4 = .ok (.ireturn, 1) := by decide +kernel
theorem dX8_hasTag_0 : decode cX8_hasTag 0 = .ok (.iload_n 1, 1) := by decide +kernel
theorem dX8_hasTag_1 : decode cX8_hasTag 1 = .ok (.ifCond .lt 24, 3) := by decide +kernel
theorem dX8_hasTag_4 : decode cX8_hasTag 4 = .ok (.iload_n 1, 1) := by decide +kernel
theorem dX8_hasTag_5 : decode cX8_hasTag 5 = .ok (.bipush 16, 2) := by decide +kernel
theorem dX8_hasTag_7 : decode cX8_hasTag 7 = .ok (.if_icmp .ge 18, 3) := by decide +kernel
theorem dX8_hasTag_10 : decode cX8_hasTag 10 = .ok (.aload_n 0, 1) := by decide +kernel
theorem dX8_hasTag_11 : decode cX8_hasTag 11 = .ok (.getfield 44, 3) := by decide +kernel
theorem dX8_hasTag_14 : decode cX8_hasTag 14 = .ok (.iload_n 1, 1) := by decide +kernel
theorem dX8_hasTag_15 : decode cX8_hasTag 15 = .ok (.ishr, 1) := by decide +kernel
theorem dX8_hasTag_16 : decode cX8_hasTag 16 = .ok (.iconst 1, 1) := by decide +kernel
theorem dX8_hasTag_17 : decode cX8_hasTag 17 = .ok (.iand, 1) := by decide +kernel
theorem dX8_hasTag_18 : decode cX8_hasTag 18 = .ok (.ifCond .eq 7, 3) := by decide +kernel
theorem dX8_hasTag_21 : decode cX8_hasTag 21 = .ok (.iconst 1, 1) := by decide +kernel
theorem dX8_hasTag_22 : decode cX8_hasTag 22 = .ok (.goto 4, 3) := by decide +kernel
theorem dX8_hasTag_25 : decode cX8_hasTag 25 = .ok (.iconst 0, 1) := by decide +kernel
theorem dX8_hasTag_26 : decode cX8_hasTag 26 = .ok (.ireturn, 1) := by decide +kernel
theorem dX8_freeTag_0 : decode cX8_freeTag 0 = .ok (.iconst 0, 1) := by decide +kernel
theorem dX8_freeTag_1 : decode cX8_freeTag 1 = .ok (.istore_n 1, 1) := by decide +kernel
theorem dX8_freeTag_2 : decode cX8_freeTag 2 = .ok (.iload_n 1, 1) := by decide +kernel
theorem dX8_freeTag_3 : decode cX8_freeTag 3 = .ok (.bipush 16, 2) := by decide +kernel
theorem dX8_freeTag_5 : decode cX8_freeTag 5 = .ok (.if_icmp .ge 19, 3) := by decide +kernel
theorem dX8_freeTag_8 : decode cX8_freeTag 8 = .ok (.aload_n 0, 1) := by decide +kernel
theorem dX8_freeTag_9 : decode cX8_freeTag 9 = .ok (.iload_n 1, 1) := by decide +kernel
theorem dX8_freeTag_10 : decode cX8_freeTag 10 = .ok (.invokevirtual 51, 3) := by decide +kernel
theorem dX8_freeTag_13 : decode cX8_freeTag 13 = .ok (.ifCond .ne 5, 3) := by decide +kernel
theorem dX8_freeTag_16 : decode cX8_freeTag 16 = .ok (.iload_n 1, 1) := by decide +kernel
theorem dX8_freeTag_17 : decode cX8_freeTag 17 = .ok (.ireturn, 1) := by decide +kernel
theorem dX8_freeTag_18 : decode cX8_freeTag 18 = .ok (.iinc 1 1, 3) := by decide +kernel
theorem dX8_freeTag_21 : decode cX8_freeTag 21 = .ok (.goto (-19), 3) := by decide +kernel
theorem dX8_freeTag_24 : decode cX8_freeTag 24 = .ok (.iconst (-1), 1) := by decide +kernel
theorem dX8_freeTag_25 : decode cX8_freeTag 25 = .ok (.ireturn, 1) := by decide +kernel
theorem dX8_hasRowIn_0 : decode cX8_hasRowIn 0 = .ok (.iconst 0, 1) := by decide +kernel
theorem dX8_hasRowIn_1 : decode cX8_hasRowIn 1 = .ok (.istore_n 2, 1) := by decide +kernel
theorem dX8_hasRowIn_2 : decode cX8_hasRowIn 2 = .ok (.iload_n 2, 1) := by decide +kernel
theorem dX8_hasRowIn_3 : decode cX8_hasRowIn 3 = .ok (.bipush 16, 2) := by decide +kernel
theorem dX8_hasRowIn_5 : decode cX8_hasRowIn 5 = .ok (.if_icmp .ge 29, 3) := by decide +kernel
theorem dX8_hasRowIn_8 : decode cX8_hasRowIn 8 = .ok (.aload_n 0, 1) := by decide +kernel
theorem dX8_hasRowIn_9 : decode cX8_hasRowIn 9 = .ok (.iload_n 2, 1) := by decide +kernel
theorem dX8_hasRowIn_10 : decode cX8_hasRowIn 10 = .ok (.invokevirtual 51, 3) := by decide +kernel
theorem dX8_hasRowIn_13 : decode cX8_hasRowIn 13 = .ok (.ifCond .eq 15, 3) := by decide +kernel
theorem dX8_hasRowIn_16 : decode cX8_hasRowIn 16 = .ok (.aload_n 0, 1) := by decide +kernel
theorem dX8_hasRowIn_17 : decode cX8_hasRowIn 17 = .ok (.getfield 15, 3) := by decide +kernel
theorem dX8_hasRowIn_20 : decode cX8_hasRowIn 20 = .ok (.iload_n 2, 1) := by decide +kernel
theorem dX8_hasRowIn_21 : decode cX8_hasRowIn 21 = .ok (.iaload, 1) := by decide +kernel
theorem dX8_hasRowIn_22 : decode cX8_hasRowIn 22 = .ok (.iload_n 1, 1) := by decide +kernel
theorem dX8_hasRowIn_23 : decode cX8_hasRowIn 23 = .ok (.if_icmp .ne 5, 3) := by decide +kernel
theorem dX8_hasRowIn_26 : decode cX8_hasRowIn 26 = .ok (.iconst 1, 1) := by decide +kernel
theorem dX8_hasRowIn_27 : decode cX8_hasRowIn 27 = .ok (.ireturn, 1) := by decide +kernel
theorem dX8_hasRowIn_28 : decode cX8_hasRowIn 28 = .ok (.iinc 2 1, 3) := by decide +kernel
theorem dX8_hasRowIn_31 : decode cX8_hasRowIn 31 = .ok (.goto (-29), 3) := by decide +kernel
theorem dX8_hasRowIn_34 : decode cX8_hasRowIn 34 = .ok (.iconst 0, 1) := by decide +kernel
theorem dX8_hasRowIn_35 : decode cX8_hasRowIn 35 = .ok (.ireturn, 1) := by decide +kernel
theorem dX8_queryNames_0 : decode cX8_queryNames 0 = .ok (.aload_n 0, 1) := by decide +kernel
theorem dX8_queryNames_1 : decode cX8_queryNames 1 = .ok (.getfield 32, 3) := by decide +kernel
theorem dX8_queryNames_4 : decode cX8_queryNames 4 = .ok (.bipush 65, 2) := by decide +kernel
theorem dX8_queryNames_6 : decode cX8_queryNames 6 = .ok (.iload_n 1, 1) := by decide +kernel
theorem dX8_queryNames_7 : decode cX8_queryNames 7 = .ok (.iadd, 1) := by decide +kernel
theorem dX8_queryNames_8 : decode cX8_queryNames 8 = .ok (.i2c, 1) := by decide +kernel
theorem dX8_queryNames_9 : decode cX8_queryNames 9 = .ok (.invokevirtual 55, 3) := by decide +kernel
theorem dX8_queryNames_12 : decode cX8_queryNames 12 = .ok (.ireturn, 1) := by decide +kernel
theorem dX8_widthOf_0 : decode cX8_widthOf 0 = .ok (.iload_n 1, 1) := by decide +kernel
theorem dX8_widthOf_1 : decode cX8_widthOf 1 = .ok (.invokestatic 59, 3) := by decide +kernel
theorem dX8_widthOf_4 : decode cX8_widthOf 4 = .ok (.ifCond .eq 12, 3) := by decide +kernel
theorem dX8_widthOf_7 : decode cX8_widthOf 7 = .ok (.aload_n 0, 1) := by decide +kernel
theorem dX8_widthOf_8 : decode cX8_widthOf 8 = .ok (.getfield 9, 3) := by decide +kernel
theorem dX8_widthOf_11 : decode cX8_widthOf 11 = .ok (.iload_n 1, 1) := by decide +kernel
theorem dX8_widthOf_12 : decode cX8_widthOf 12 = .ok (.iaload, 1) := by decide +kernel
theorem dX8_widthOf_13 : decode cX8_widthOf 13 = .ok (.goto 4, 3) := by decide +kernel
theorem dX8_widthOf_16 : decode cX8_widthOf 16 = .ok (.iconst 0, 1) := by decide +kernel
theorem dX8_widthOf_17 : decode cX8_widthOf 17 = .ok (.ireturn, 1) := by decide +kernel
theorem dX8_setWidth_0 : decode cX8_setWidth 0 = .ok (.iload_n 1, 1) := by decide +kernel
theorem dX8_setWidth_1 : decode cX8_setWidth 1 = .ok (.invokestatic 59, 3) := by decide +kernel
theorem dX8_setWidth_4 : decode cX8_setWidth 4 = .ok (.ifCond .eq 10, 3) := by decide +kernel
theorem dX8_setWidth_7 : decode cX8_setWidth 7 = .ok (.aload_n 0, 1) := by decide +kernel
theorem dX8_setWidth_8 : decode cX8_setWidth 8 = .ok (.getfield 9, 3) := by decide +kernel
theorem dX8_setWidth_11 : decode cX8_setWidth 11 = .ok (.iload_n 1, 1) := by decide +kernel
theorem dX8_setWidth_12 : decode cX8_setWidth 12 = .ok (.iload_n 2, 1) := by decide +kernel
theorem dX8_setWidth_13 : decode cX8_setWidth 13 = .ok (.iastore, 1) := by decide +kernel
theorem dX8_setWidth_14 : decode cX8_setWidth 14 = .ok (.return_, 1) := by decide +kernel
theorem dX8_place_0 : decode cX8_place 0 = .ok (.iload_n 1, 1) := by decide +kernel
theorem dX8_place_1 : decode cX8_place 1 = .ok (.ifCond .lt 9, 3) := by decide +kernel
theorem dX8_place_4 : decode cX8_place 4 = .ok (.iload_n 1, 1) := by decide +kernel
theorem dX8_place_5 : decode cX8_place 5 = .ok (.bipush 16, 2) := by decide +kernel
theorem dX8_place_7 : decode cX8_place 7 = .ok (.if_icmp .lt 4, 3) := by decide +kernel
theorem dX8_place_10 : decode cX8_place 10 = .ok (.return_, 1) := by decide +kernel
theorem dX8_place_11 : decode cX8_place 11 = .ok (.aload_n 0, 1) := by decide +kernel
theorem dX8_place_12 : decode cX8_place 12 = .ok (.getfield 15, 3) := by decide +kernel
theorem dX8_place_15 : decode cX8_place 15 = .ok (.iload_n 1, 1) := by decide +kernel
theorem dX8_place_16 : decode cX8_place 16 = .ok (.iload_n 2, 1) := by decide +kernel
theorem dX8_place_17 : decode cX8_place 17 = .ok (.iastore, 1) := by decide +kernel
theorem dX8_place_18 : decode cX8_place 18 = .ok (.aload_n 0, 1) := by decide +kernel
theorem dX8_place_19 : decode cX8_place 19 = .ok (.getfield 18, 3) := by decide +kernel
theorem dX8_place_22 : decode cX8_place 22 = .ok (.iload_n 1, 1) := by decide +kernel
theorem dX8_place_23 : decode cX8_place 23 = .ok (.iload_n 3, 1) := by decide +kernel
theorem dX8_place_24 : decode cX8_place 24 = .ok (.iastore, 1) := by decide +kernel
theorem dX8_place_25 : decode cX8_place 25 = .ok (.aload_n 0, 1) := by decide +kernel
theorem dX8_place_26 : decode cX8_place 26 = .ok (.getfield 21, 3) := by decide +kernel
theorem dX8_place_29 : decode cX8_place 29 = .ok (.iload_n 1, 1) := by decide +kernel
theorem dX8_place_30 : decode cX8_place 30 = .ok (.iconst 1, 1) := by decide +kernel
theorem dX8_place_31 : decode cX8_place 31 = .ok (.iastore, 1) := by decide +kernel
theorem dX8_place_32 : decode cX8_place 32 = .ok (.aload_n 0, 1) := by decide +kernel
theorem dX8_place_33 : decode cX8_place 33 = .ok (.getfield 24, 3) := by decide +kernel
theorem dX8_place_36 : decode cX8_place 36 = .ok (.iload_n 1, 1) := by decide +kernel
theorem dX8_place_37 : decode cX8_place 37 = .ok (.bipush 100, 2) := by decide +kernel
theorem dX8_place_39 : decode cX8_place 39 = .ok (.iastore, 1) := by decide +kernel
theorem dX8_place_40 : decode cX8_place 40 = .ok (.aload_n 0, 1) := by decide +kernel
theorem dX8_place_41 : decode cX8_place 41 = .ok (.dup, 1) := by decide +kernel
theorem dX8_place_42 : decode cX8_place 42 = .ok (.getfield 44, 3) := by decide +kernel
theorem dX8_place_45 : decode cX8_place 45 = .ok (.iconst 1, 1) := by decide +kernel
theorem dX8_place_46 : decode cX8_place 46 = .ok (.iload_n 1, 1) := by decide +kernel
theorem dX8_place_47 : decode cX8_place 47 = .ok (.ishl, 1) := by decide +kernel
theorem dX8_place_48 : decode cX8_place 48 = .ok (.ior, 1) := by decide +kernel
theorem dX8_place_49 : decode cX8_place 49 = .ok (.putfield 44, 3) := by decide +kernel
theorem dX8_place_52 : decode cX8_place 52 = .ok (.aload_n 0, 1) := by decide +kernel
theorem dX8_place_53 : decode cX8_place 53 = .ok (.dup, 1) := by decide +kernel
theorem dX8_place_54 : decode cX8_place 54 = .ok (.getfield 48, 3) := by decide +kernel
theorem dX8_place_57 : decode cX8_place 57 = .ok (.iconst 1, 1) := by decide +kernel
theorem dX8_place_58 : decode cX8_place 58 = .ok (.iload_n 1, 1) := by decide +kernel
theorem dX8_place_59 : decode cX8_place 59 = .ok (.ishl, 1) := by decide +kernel
theorem dX8_place_60 : decode cX8_place 60 = .ok (.iconst (-1), 1) := by decide +kernel
theorem dX8_place_61 : decode cX8_place 61 = .ok (.ixor, 1) := by decide +kernel
theorem dX8_place_62 : decode cX8_place 62 = .ok (.iand, 1) := by decide +kernel
theorem dX8_place_63 : decode cX8_place 63 = .ok (.putfield 48, 3) := by decide +kernel
theorem dX8_place_66 : decode cX8_place 66 = .ok (.return_, 1) := by decide +kernel
theorem dX8_remove_0 : decode cX8_remove 0 = .ok (.aload_n 0, 1) := by decide +kernel
theorem dX8_remove_1 : decode cX8_remove 1 = .ok (.dup, 1) := by decide +kernel
theorem dX8_remove_2 : decode cX8_remove 2 = .ok (.getfield 44, 3) := by decide +kernel
theorem dX8_remove_5 : decode cX8_remove 5 = .ok (.iconst 1, 1) := by decide +kernel
theorem dX8_remove_6 : decode cX8_remove 6 = .ok (.iload_n 1, 1) := by decide +kernel
theorem dX8_remove_7 : decode cX8_remove 7 = .ok (.ishl, 1) := by decide +kernel
theorem dX8_remove_8 : decode cX8_remove 8 = .ok (.iconst (-1), 1) := by decide +kernel
theorem dX8_remove_9 : decode cX8_remove 9 = .ok (.ixor, 1) := by decide +kernel
theorem dX8_remove_10 : decode cX8_remove 10 = .ok (.iand, 1) := by decide +kernel
theorem dX8_remove_11 : decode cX8_remove 11 = .ok (.putfield 44, 3) := by decide +kernel
theorem dX8_remove_14 : decode cX8_remove 14 = .ok (.aload_n 0, 1) := by decide +kernel
theorem dX8_remove_15 : decode cX8_remove 15 = .ok (.dup, 1) := by decide +kernel
theorem dX8_remove_16 : decode cX8_remove 16 = .ok (.getfield 48, 3) := by decide +kernel
theorem dX8_remove_19 : decode cX8_remove 19 = .ok (.iconst 1, 1) := by decide +kernel
theorem dX8_remove_20 : decode cX8_remove 20 = .ok (.iload_n 1, 1) := by decide +kernel
theorem dX8_remove_21 : decode cX8_remove 21 = .ok (.ishl, 1) := by decide +kernel
theorem dX8_remove_22 : decode cX8_remove 22 = .ok (.iconst (-1), 1) := by decide +kernel
theorem dX8_remove_23 : decode cX8_remove 23 = .ok (.ixor, 1) := by decide +kernel
theorem dX8_remove_24 : decode cX8_remove 24 = .ok (.iand, 1) := by decide +kernel
theorem dX8_remove_25 : decode cX8_remove 25 = .ok (.putfield 48, 3) := by decide +kernel
theorem dX8_remove_28 : decode cX8_remove 28 = .ok (.return_, 1) := by decide +kernel
theorem dX8_withdraw_0 : decode cX8_withdraw 0 = .ok (.iload_n 2, 1) := by decide +kernel
theorem dX8_withdraw_1 : decode cX8_withdraw 1 = .ok (.ifCond .eq 18, 3) := by decide +kernel
theorem dX8_withdraw_4 : decode cX8_withdraw 4 = .ok (.aload_n 0, 1) := by decide +kernel
theorem dX8_withdraw_5 : decode cX8_withdraw 5 = .ok (.dup, 1) := by decide +kernel
theorem dX8_withdraw_6 : decode cX8_withdraw 6 = .ok (.getfield 48, 3) := by decide +kernel
theorem dX8_withdraw_9 : decode cX8_withdraw 9 = .ok (.iconst 1, 1) := by decide +kernel
theorem dX8_withdraw_10 : decode cX8_withdraw 10 = .ok (.iload_n 1, 1) := by decide +kernel
theorem dX8_withdraw_11 : decode cX8_withdraw 11 = .ok (.ishl, 1) := by decide +kernel
theorem dX8_withdraw_12 : decode cX8_withdraw 12 = .ok (.ior, 1) := by decide +kernel
theorem dX8_withdraw_13 : decode cX8_withdraw 13 = .ok (.putfield 48, 3) := by decide +kernel
theorem dX8_withdraw_16 : decode cX8_withdraw 16 = .ok (.goto 17, 3) := by decide +kernel
theorem dX8_withdraw_19 : decode cX8_withdraw 19 = .ok (.aload_n 0, 1) := by decide +kernel
theorem dX8_withdraw_20 : decode cX8_withdraw 20 = .ok (.dup, 1) := by decide +kernel
theorem dX8_withdraw_21 : decode cX8_withdraw 21 = .ok (.getfield 48, 3) := by decide +kernel
theorem dX8_withdraw_24 : decode cX8_withdraw 24 = .ok (.iconst 1, 1) := by decide +kernel
theorem dX8_withdraw_25 : decode cX8_withdraw 25 = .ok (.iload_n 1, 1) := by decide +kernel
theorem dX8_withdraw_26 : decode cX8_withdraw 26 = .ok (.ishl, 1) := by decide +kernel
theorem dX8_withdraw_27 : decode cX8_withdraw 27 = .ok (.iconst (-1), 1) := by decide +kernel
theorem dX8_withdraw_28 : decode cX8_withdraw 28 = .ok (.ixor, 1) := by decide +kernel
theorem dX8_withdraw_29 : decode cX8_withdraw 29 = .ok (.iand, 1) := by decide +kernel
theorem dX8_withdraw_30 : decode cX8_withdraw 30 = .ok (.putfield 48, 3) := by decide +kernel
theorem dX8_withdraw_33 : decode cX8_withdraw 33 = .ok (.return_, 1) := by decide +kernel
theorem dX8_changeCost_0 : decode cX8_changeCost 0 = .ok (.aload_n 0, 1) := by decide +kernel
theorem dX8_changeCost_1 : decode cX8_changeCost 1 = .ok (.iload_n 1, 1) := by decide +kernel
theorem dX8_changeCost_2 : decode cX8_changeCost 2 = .ok (.invokevirtual 51, 3) := by decide +kernel
theorem dX8_changeCost_5 : decode cX8_changeCost 5 = .ok (.ifCond .eq 10, 3) := by decide +kernel
theorem dX8_changeCost_8 : decode cX8_changeCost 8 = .ok (.aload_n 0, 1) := by decide +kernel
theorem dX8_changeCost_9 : decode cX8_changeCost 9 = .ok (.getfield 21, 3) := by decide +kernel
theorem dX8_changeCost_12 : decode cX8_changeCost 12 = .ok (.iload_n 1, 1) := by decide +kernel
theorem dX8_changeCost_13 : decode cX8_changeCost 13 = .ok (.iload_n 2, 1) := by decide +kernel
theorem dX8_changeCost_14 : decode cX8_changeCost 14 = .ok (.iastore, 1) := by decide +kernel
theorem dX8_changeCost_15 : decode cX8_changeCost 15 = .ok (.return_, 1) := by decide +kernel
theorem dX8_changeTrust_0 : decode cX8_changeTrust 0 = .ok (.aload_n 0, 1) := by decide +kernel
theorem dX8_changeTrust_1 : decode cX8_changeTrust 1 = .ok (.iload_n 1, 1) := by decide +kernel
theorem dX8_changeTrust_2 : decode cX8_changeTrust 2 = .ok (.invokevirtual 51, 3) := by decide +kernel
theorem dX8_changeTrust_5 : decode cX8_changeTrust 5 = .ok (.ifCond .eq 10, 3) := by decide +kernel
theorem dX8_changeTrust_8 : decode cX8_changeTrust 8 = .ok (.aload_n 0, 1) := by decide +kernel
theorem dX8_changeTrust_9 : decode cX8_changeTrust 9 = .ok (.getfield 24, 3) := by decide +kernel
theorem dX8_changeTrust_12 : decode cX8_changeTrust 12 = .ok (.iload_n 1, 1) := by decide +kernel
theorem dX8_changeTrust_13 : decode cX8_changeTrust 13 = .ok (.iload_n 2, 1) := by decide +kernel
theorem dX8_changeTrust_14 : decode cX8_changeTrust 14 = .ok (.iastore, 1) := by decide +kernel
theorem dX8_changeTrust_15 : decode cX8_changeTrust 15 = .ok (.return_, 1) := by decide +kernel
theorem dX8_tableAt_0 : decode cX8_tableAt 0 = .ok (.aload_n 0, 1) := by decide +kernel
theorem dX8_tableAt_1 : decode cX8_tableAt 1 = .ok (.iload_n 1, 1) := by decide +kernel
theorem dX8_tableAt_2 : decode cX8_tableAt 2 = .ok (.invokevirtual 51, 3) := by decide +kernel
theorem dX8_tableAt_5 : decode cX8_tableAt 5 = .ok (.ifCond .eq 12, 3) := by decide +kernel
theorem dX8_tableAt_8 : decode cX8_tableAt 8 = .ok (.aload_n 0, 1) := by decide +kernel
theorem dX8_tableAt_9 : decode cX8_tableAt 9 = .ok (.getfield 15, 3) := by decide +kernel
theorem dX8_tableAt_12 : decode cX8_tableAt 12 = .ok (.iload_n 1, 1) := by decide +kernel
theorem dX8_tableAt_13 : decode cX8_tableAt 13 = .ok (.iaload, 1) := by decide +kernel
theorem dX8_tableAt_14 : decode cX8_tableAt 14 = .ok (.goto 4, 3) := by decide +kernel
theorem dX8_tableAt_17 : decode cX8_tableAt 17 = .ok (.iconst (-1), 1) := by decide +kernel
theorem dX8_tableAt_18 : decode cX8_tableAt 18 = .ok (.ireturn, 1) := by decide +kernel
theorem dX8_keyOf_0 : decode cX8_keyOf 0 = .ok (.aload_n 0, 1) := by decide +kernel
theorem dX8_keyOf_1 : decode cX8_keyOf 1 = .ok (.iload_n 1, 1) := by decide +kernel
theorem dX8_keyOf_2 : decode cX8_keyOf 2 = .ok (.invokevirtual 51, 3) := by decide +kernel
theorem dX8_keyOf_5 : decode cX8_keyOf 5 = .ok (.ifCond .eq 12, 3) := by decide +kernel
theorem dX8_keyOf_8 : decode cX8_keyOf 8 = .ok (.aload_n 0, 1) := by decide +kernel
theorem dX8_keyOf_9 : decode cX8_keyOf 9 = .ok (.getfield 18, 3) := by decide +kernel
theorem dX8_keyOf_12 : decode cX8_keyOf 12 = .ok (.iload_n 1, 1) := by decide +kernel
theorem dX8_keyOf_13 : decode cX8_keyOf 13 = .ok (.iaload, 1) := by decide +kernel
theorem dX8_keyOf_14 : decode cX8_keyOf 14 = .ok (.goto 4, 3) := by decide +kernel
theorem dX8_keyOf_17 : decode cX8_keyOf 17 = .ok (.iconst 0, 1) := by decide +kernel
theorem dX8_keyOf_18 : decode cX8_keyOf 18 = .ok (.ireturn, 1) := by decide +kernel
theorem dX8_costOf_0 : decode cX8_costOf 0 = .ok (.aload_n 0, 1) := by decide +kernel
theorem dX8_costOf_1 : decode cX8_costOf 1 = .ok (.iload_n 1, 1) := by decide +kernel
theorem dX8_costOf_2 : decode cX8_costOf 2 = .ok (.invokevirtual 51, 3) := by decide +kernel
theorem dX8_costOf_5 : decode cX8_costOf 5 = .ok (.ifCond .eq 12, 3) := by decide +kernel
theorem dX8_costOf_8 : decode cX8_costOf 8 = .ok (.aload_n 0, 1) := by decide +kernel
theorem dX8_costOf_9 : decode cX8_costOf 9 = .ok (.getfield 21, 3) := by decide +kernel
theorem dX8_costOf_12 : decode cX8_costOf 12 = .ok (.iload_n 1, 1) := by decide +kernel
theorem dX8_costOf_13 : decode cX8_costOf 13 = .ok (.iaload, 1) := by decide +kernel
theorem dX8_costOf_14 : decode cX8_costOf 14 = .ok (.goto 4, 3) := by decide +kernel
theorem dX8_costOf_17 : decode cX8_costOf 17 = .ok (.iconst 0, 1) := by decide +kernel
theorem dX8_costOf_18 : decode cX8_costOf 18 = .ok (.ireturn, 1) := by decide +kernel
theorem dX8_trustOf_0 : decode cX8_trustOf 0 = .ok (.aload_n 0, 1) := by decide +kernel
theorem dX8_trustOf_1 : decode cX8_trustOf 1 = .ok (.iload_n 1, 1) := by decide +kernel
theorem dX8_trustOf_2 : decode cX8_trustOf 2 = .ok (.invokevirtual 51, 3) := by decide +kernel
theorem dX8_trustOf_5 : decode cX8_trustOf 5 = .ok (.ifCond .eq 12, 3) := by decide +kernel
theorem dX8_trustOf_8 : decode cX8_trustOf 8 = .ok (.aload_n 0, 1) := by decide +kernel
theorem dX8_trustOf_9 : decode cX8_trustOf 9 = .ok (.getfield 24, 3) := by decide +kernel
theorem dX8_trustOf_12 : decode cX8_trustOf 12 = .ok (.iload_n 1, 1) := by decide +kernel
theorem dX8_trustOf_13 : decode cX8_trustOf 13 = .ok (.iaload, 1) := by decide +kernel
theorem dX8_trustOf_14 : decode cX8_trustOf 14 = .ok (.goto 4, 3) := by decide +kernel
theorem dX8_trustOf_17 : decode cX8_trustOf 17 = .ok (.iconst 0, 1) := by decide +kernel
theorem dX8_trustOf_18 : decode cX8_trustOf 18 = .ok (.ireturn, 1) := by decide +kernel
theorem dX8_costOfTerm_0 : decode cX8_costOfTerm 0 = .ok (.iconst 0, 1) := by decide +kernel
theorem dX8_costOfTerm_1 : decode cX8_costOfTerm 1 = .ok (.istore_n 3, 1) := by decide +kernel
theorem dX8_costOfTerm_2 : decode cX8_costOfTerm 2 = .ok (.iconst 0, 1) := by decide +kernel
theorem dX8_costOfTerm_3 : decode cX8_costOfTerm 3 = .ok (.istore 4, 2) := by decide +kernel
theorem dX8_costOfTerm_5 : decode cX8_costOfTerm 5 = .ok (.iload 4, 2) := by decide +kernel
theorem dX8_costOfTerm_7 : decode cX8_costOfTerm 7 = .ok (.bipush 16, 2) := by decide +kernel
theorem dX8_costOfTerm_9 : decode cX8_costOfTerm 9 = .ok (.if_icmp .ge 25, 3) := by decide +kernel
theorem dX8_costOfTerm_12 : decode cX8_costOfTerm 12 = .ok (.iload_n 3, 1) := by decide +kernel
theorem dX8_costOfTerm_13 : decode cX8_costOfTerm 13 = .ok (.lload_n 1, 1) := by decide +kernel
theorem dX8_costOfTerm_14 : decode cX8_costOfTerm 14 = .ok (.iload 4, 2) := by decide +kernel
theorem dX8_costOfTerm_16 : decode cX8_costOfTerm 16 = .ok (.invokestatic 62, 3) := by decide +kernel
theorem dX8_costOfTerm_19 : decode cX8_costOfTerm 19 = .ok (.aload_n 0, 1) := by decide +kernel
theorem dX8_costOfTerm_20 : decode cX8_costOfTerm 20 = .ok (.iload 4, 2) := by decide +kernel
theorem dX8_costOfTerm_22 : decode cX8_costOfTerm 22 = .ok (.invokevirtual 68, 3) := by decide +kernel
theorem dX8_costOfTerm_25 : decode cX8_costOfTerm 25 = .ok (.imul, 1) := by decide +kernel
theorem dX8_costOfTerm_26 : decode cX8_costOfTerm 26 = .ok (.iadd, 1) := by decide +kernel
theorem dX8_costOfTerm_27 : decode cX8_costOfTerm 27 = .ok (.istore_n 3, 1) := by decide +kernel
theorem dX8_costOfTerm_28 : decode cX8_costOfTerm 28 = .ok (.iinc 4 1, 3) := by decide +kernel
theorem dX8_costOfTerm_31 : decode cX8_costOfTerm 31 = .ok (.goto (-26), 3) := by decide +kernel
theorem dX8_costOfTerm_34 : decode cX8_costOfTerm 34 = .ok (.iload_n 3, 1) := by decide +kernel
theorem dX8_costOfTerm_35 : decode cX8_costOfTerm 35 = .ok (.ireturn, 1) := by decide +kernel
theorem dX8_trustOfTerm_0 : decode cX8_trustOfTerm 0 = .ok (.bipush 100, 2) := by decide +kernel
theorem dX8_trustOfTerm_2 : decode cX8_trustOfTerm 2 = .ok (.istore_n 3, 1) := by decide +kernel
theorem dX8_trustOfTerm_3 : decode cX8_trustOfTerm 3 = .ok (.iconst 0, 1) := by decide +kernel
theorem dX8_trustOfTerm_4 : decode cX8_trustOfTerm 4 = .ok (.istore 4, 2) := by decide +kernel
theorem dX8_trustOfTerm_6 : decode cX8_trustOfTerm 6 = .ok (.iload 4, 2) := by decide +kernel
theorem dX8_trustOfTerm_8 : decode cX8_trustOfTerm 8 = .ok (.bipush 16, 2) := by decide +kernel
theorem dX8_trustOfTerm_10 : decode cX8_trustOfTerm 10 = .ok (.if_icmp .ge 29, 3) := by decide +kernel
theorem dX8_trustOfTerm_13 : decode cX8_trustOfTerm 13 = .ok (.lload_n 1, 1) := by decide +kernel
theorem dX8_trustOfTerm_14 : decode cX8_trustOfTerm 14 = .ok (.iload 4, 2) := by decide +kernel
theorem dX8_trustOfTerm_16 : decode cX8_trustOfTerm 16 = .ok (.invokestatic 62, 3) := by decide +kernel
theorem dX8_trustOfTerm_19 : decode cX8_trustOfTerm 19 = .ok (.ifCond .le 14, 3) := by decide +kernel
theorem dX8_trustOfTerm_22 : decode cX8_trustOfTerm 22 = .ok (.iload_n 3, 1) := by decide +kernel
theorem dX8_trustOfTerm_23 : decode cX8_trustOfTerm 23 = .ok (.aload_n 0, 1) := by decide +kernel
theorem dX8_trustOfTerm_24 : decode cX8_trustOfTerm 24 = .ok (.iload 4, 2) := by decide +kernel
theorem dX8_trustOfTerm_26 : decode cX8_trustOfTerm 26 = .ok (.invokevirtual 72, 3) := by decide +kernel
theorem dX8_trustOfTerm_29 : decode cX8_trustOfTerm 29 = .ok (.invokestatic 75, 3) := by decide +kernel
theorem dX8_trustOfTerm_32 : decode cX8_trustOfTerm 32 = .ok (.istore_n 3, 1) := by decide +kernel
theorem dX8_trustOfTerm_33 : decode cX8_trustOfTerm 33 = .ok (.iinc 4 1, 3) := by decide +kernel
theorem dX8_trustOfTerm_36 : decode cX8_trustOfTerm 36 = .ok (.goto (-30), 3) := by decide +kernel
theorem dX8_trustOfTerm_39 : decode cX8_trustOfTerm 39 = .ok (.iload_n 3, 1) := by decide +kernel
theorem dX8_trustOfTerm_40 : decode cX8_trustOfTerm 40 = .ok (.ireturn, 1) := by decide +kernel
theorem dX8_confidenceOfTerm_0 : decode cX8_confidenceOfTerm 0 = .ok (.fconst 1, 1) := by decide +kernel
theorem dX8_confidenceOfTerm_1 : decode cX8_confidenceOfTerm 1 = .ok (.fstore_n 3, 1) := by decide +kernel
theorem dX8_confidenceOfTerm_2 : decode cX8_confidenceOfTerm 2 = .ok (.iconst 0, 1) := by decide +kernel
theorem dX8_confidenceOfTerm_3 : decode cX8_confidenceOfTerm 3 = .ok (.istore 4, 2) := by decide +kernel
theorem dX8_confidenceOfTerm_5 : decode cX8_confidenceOfTerm 5 = .ok (.iload 4, 2) := by decide +kernel
theorem dX8_confidenceOfTerm_7 : decode cX8_confidenceOfTerm 7 = .ok (.bipush 16, 2) := by decide +kernel
theorem dX8_confidenceOfTerm_9 : decode cX8_confidenceOfTerm 9 = .ok (.if_icmp .ge 45, 3) := by decide +kernel
theorem dX8_confidenceOfTerm_12 : decode cX8_confidenceOfTerm 12 = .ok (.aload_n 0, 1) := by decide +kernel
theorem dX8_confidenceOfTerm_13 : decode cX8_confidenceOfTerm 13 = .ok (.iload 4, 2) := by decide +kernel
theorem dX8_confidenceOfTerm_15 : decode cX8_confidenceOfTerm 15 = .ok (.invokevirtual 72, 3) := by decide +kernel
theorem dX8_confidenceOfTerm_18 : decode cX8_confidenceOfTerm 18 = .ok (.i2f, 1) := by decide +kernel
theorem dX8_confidenceOfTerm_19 : decode cX8_confidenceOfTerm 19 = .ok (.ldc 81, 2) := by decide +kernel
theorem dX8_confidenceOfTerm_21 : decode cX8_confidenceOfTerm 21 = .ok (.fdiv, 1) := by decide +kernel
theorem dX8_confidenceOfTerm_22 : decode cX8_confidenceOfTerm 22 = .ok (.fstore 5, 2) := by decide +kernel
theorem dX8_confidenceOfTerm_24 : decode cX8_confidenceOfTerm 24 = .ok (.lload_n 1, 1) := by decide +kernel
theorem dX8_confidenceOfTerm_25 : decode cX8_confidenceOfTerm 25 = .ok (.iload 4, 2) := by decide +kernel
theorem dX8_confidenceOfTerm_27 : decode cX8_confidenceOfTerm 27 = .ok (.invokestatic 62, 3) := by decide +kernel
theorem dX8_confidenceOfTerm_30 : decode cX8_confidenceOfTerm 30 = .ok (.istore 6, 2) := by decide +kernel
theorem dX8_confidenceOfTerm_32 : decode cX8_confidenceOfTerm 32 = .ok (.iload 6, 2) := by decide +kernel
theorem dX8_confidenceOfTerm_34 : decode cX8_confidenceOfTerm 34 = .ok (.ifCond .le 14, 3) := by decide +kernel
theorem dX8_confidenceOfTerm_37 : decode cX8_confidenceOfTerm 37 = .ok (.fload_n 3, 1) := by decide +kernel
theorem dX8_confidenceOfTerm_38 : decode cX8_confidenceOfTerm 38 = .ok (.fload 5, 2) := by decide +kernel
theorem dX8_confidenceOfTerm_40 : decode cX8_confidenceOfTerm 40 = .ok (.fmul, 1) := by decide +kernel
theorem dX8_confidenceOfTerm_41 : decode cX8_confidenceOfTerm 41 = .ok (.fstore_n 3, 1) := by decide +kernel
theorem dX8_confidenceOfTerm_42 : decode cX8_confidenceOfTerm 42 = .ok (.iinc 6 (-1), 3) := by decide +kernel
theorem dX8_confidenceOfTerm_45 : decode cX8_confidenceOfTerm 45 = .ok (.goto (-13), 3) := by decide +kernel
theorem dX8_confidenceOfTerm_48 : decode cX8_confidenceOfTerm 48 = .ok (.iinc 4 1, 3) := by decide +kernel
theorem dX8_confidenceOfTerm_51 : decode cX8_confidenceOfTerm 51 = .ok (.goto (-46), 3) := by decide +kernel
theorem dX8_confidenceOfTerm_54 : decode cX8_confidenceOfTerm 54 = .ok (.fload_n 3, 1) := by decide +kernel
theorem dX8_confidenceOfTerm_55 : decode cX8_confidenceOfTerm 55 = .ok (.freturn, 1) := by decide +kernel
theorem dX8_copyNumbers_0 : decode cX8_copyNumbers 0 = .ok (.iconst 0, 1) := by decide +kernel
theorem dX8_copyNumbers_1 : decode cX8_copyNumbers 1 = .ok (.istore_n 2, 1) := by decide +kernel
theorem dX8_copyNumbers_2 : decode cX8_copyNumbers 2 = .ok (.iload_n 2, 1) := by decide +kernel
theorem dX8_copyNumbers_3 : decode cX8_copyNumbers 3 = .ok (.aload_n 0, 1) := by decide +kernel
theorem dX8_copyNumbers_4 : decode cX8_copyNumbers 4 = .ok (.arraylength, 1) := by decide +kernel
theorem dX8_copyNumbers_5 : decode cX8_copyNumbers 5 = .ok (.if_icmp .ge 21, 3) := by decide +kernel
theorem dX8_copyNumbers_8 : decode cX8_copyNumbers 8 = .ok (.iload_n 2, 1) := by decide +kernel
theorem dX8_copyNumbers_9 : decode cX8_copyNumbers 9 = .ok (.aload_n 1, 1) := by decide +kernel
theorem dX8_copyNumbers_10 : decode cX8_copyNumbers 10 = .ok (.arraylength, 1) := by decide +kernel
theorem dX8_copyNumbers_11 : decode cX8_copyNumbers 11 = .ok (.if_icmp .ge 15, 3) := by decide +kernel
theorem dX8_copyNumbers_14 : decode cX8_copyNumbers 14 = .ok (.aload_n 1, 1) := by decide +kernel
theorem dX8_copyNumbers_15 : decode cX8_copyNumbers 15 = .ok (.iload_n 2, 1) := by decide +kernel
theorem dX8_copyNumbers_16 : decode cX8_copyNumbers 16 = .ok (.aload_n 0, 1) := by decide +kernel
theorem dX8_copyNumbers_17 : decode cX8_copyNumbers 17 = .ok (.iload_n 2, 1) := by decide +kernel
theorem dX8_copyNumbers_18 : decode cX8_copyNumbers 18 = .ok (.iaload, 1) := by decide +kernel
theorem dX8_copyNumbers_19 : decode cX8_copyNumbers 19 = .ok (.iastore, 1) := by decide +kernel
theorem dX8_copyNumbers_20 : decode cX8_copyNumbers 20 = .ok (.iinc 2 1, 3) := by decide +kernel
theorem dX8_copyNumbers_23 : decode cX8_copyNumbers 23 = .ok (.goto (-21), 3) := by decide +kernel
theorem dX8_copyNumbers_26 : decode cX8_copyNumbers 26 = .ok (.return_, 1) := by decide +kernel
theorem dX9_init_0 : decode cX9_init 0 = .ok (.aload_n 0, 1) := by decide +kernel
theorem dX9_init_1 : decode cX9_init 1 = .ok (.invokespecial 3, 3) := by decide +kernel
theorem dX9_init_4 : decode cX9_init 4 = .ok (.aload_n 0, 1) := by decide +kernel
theorem dX9_init_5 : decode cX9_init 5 = .ok (.bipush 32, 2) := by decide +kernel
theorem dX9_init_7 : decode cX9_init 7 = .ok (.newarray .int, 2) := by decide +kernel
theorem dX9_init_9 : decode cX9_init 9 = .ok (.putfield 9, 3) := by decide +kernel
theorem dX9_init_12 : decode cX9_init 12 = .ok (.aload_n 0, 1) := by decide +kernel
theorem dX9_init_13 : decode cX9_init 13 = .ok (.bipush 16, 2) := by decide +kernel
theorem dX9_init_15 : decode cX9_init 15 = .ok (.newarray .int, 2) := by decide +kernel
theorem dX9_init_17 : decode cX9_init 17 = .ok (.putfield 15, 3) := by decide +kernel
theorem dX9_init_20 : decode cX9_init 20 = .ok (.aload_n 0, 1) := by decide +kernel
theorem dX9_init_21 : decode cX9_init 21 = .ok (.bipush 16, 2) := by decide +kernel
theorem dX9_init_23 : decode cX9_init 23 = .ok (.newarray .int, 2) := by decide +kernel
theorem dX9_init_25 : decode cX9_init 25 = .ok (.putfield 18, 3) := by decide +kernel
theorem dX9_init_28 : decode cX9_init 28 = .ok (.return_, 1) := by decide +kernel
theorem dX9_setTo_0 : decode cX9_setTo 0 = .ok (.aload_n 0, 1) := by decide +kernel
theorem dX9_setTo_1 : decode cX9_setTo 1 = .ok (.aload_n 1, 1) := by decide +kernel
theorem dX9_setTo_2 : decode cX9_setTo 2 = .ok (.invokevirtual 21, 3) := by decide +kernel
theorem dX9_setTo_5 : decode cX9_setTo 5 = .ok (.bipush 32, 2) := by decide +kernel
theorem dX9_setTo_7 : decode cX9_setTo 7 = .ok (.invokestatic 27, 3) := by decide +kernel
theorem dX9_setTo_10 : decode cX9_setTo 10 = .ok (.putfield 33, 3) := by decide +kernel
theorem dX9_setTo_13 : decode cX9_setTo 13 = .ok (.iconst 0, 1) := by decide +kernel
theorem dX9_setTo_14 : decode cX9_setTo 14 = .ok (.istore_n 2, 1) := by decide +kernel
theorem dX9_setTo_15 : decode cX9_setTo 15 = .ok (.iload_n 2, 1) := by decide +kernel
theorem dX9_setTo_16 : decode cX9_setTo 16 = .ok (.aload_n 0, 1) := by decide +kernel
theorem dX9_setTo_17 : decode cX9_setTo 17 = .ok (.getfield 33, 3) := by decide +kernel
theorem dX9_setTo_20 : decode cX9_setTo 20 = .ok (.if_icmp .ge 29, 3) := by decide +kernel
theorem dX9_setTo_23 : decode cX9_setTo 23 = .ok (.iload_n 2, 1) := by decide +kernel
theorem dX9_setTo_24 : decode cX9_setTo 24 = .ok (.bipush 32, 2) := by decide +kernel
theorem dX9_setTo_26 : decode cX9_setTo 26 = .ok (.if_icmp .ge 23, 3) := by decide +kernel
theorem dX9_setTo_29 : decode cX9_setTo 29 = .ok (.aload_n 0, 1) := by decide +kernel
theorem dX9_setTo_30 : decode cX9_setTo 30 = .ok (.getfield 9, 3) := by decide +kernel
theorem dX9_setTo_33 : decode cX9_setTo 33 = .ok (.iload_n 2, 1) := by decide +kernel
theorem dX9_setTo_34 : decode cX9_setTo 34 = .ok (.aload_n 1, 1) := by decide +kernel
theorem dX9_setTo_35 : decode cX9_setTo 35 = .ok (.iload_n 2, 1) := by decide +kernel
theorem dX9_setTo_36 : decode cX9_setTo 36 = .ok (.invokevirtual 36, 3) := by decide +kernel
theorem dX9_setTo_39 : decode cX9_setTo 39 = .ok (.invokestatic 40, 3) := by decide +kernel
theorem dX9_setTo_42 : decode cX9_setTo 42 = .ok (.iastore, 1) := by decide +kernel
theorem dX9_setTo_43 : decode cX9_setTo 43 = .ok (.iinc 2 1, 3) := by decide +kernel
theorem dX9_setTo_46 : decode cX9_setTo 46 = .ok (.goto (-31), 3) := by decide +kernel
theorem dX9_setTo_49 : decode cX9_setTo 49 = .ok (.return_, 1) := by decide +kernel
theorem dX9_leastCut_0 : decode cX9_leastCut 0 = .ok (.aload_n 0, 1) := by decide +kernel
theorem dX9_leastCut_1 : decode cX9_leastCut 1 = .ok (.getfield 9, 3) := by decide +kernel
theorem dX9_leastCut_4 : decode cX9_leastCut 4 = .ok (.aload_n 0, 1) := by decide +kernel
theorem dX9_leastCut_5 : decode cX9_leastCut 5 = .ok (.getfield 33, 3) := by decide +kernel
theorem dX9_leastCut_8 : decode cX9_leastCut 8 = .ok (.iconst 0, 1) := by decide +kernel
theorem dX9_leastCut_9 : decode cX9_leastCut 9 = .ok (.aload_n 0, 1) := by decide +kernel
theorem dX9_leastCut_10 : decode cX9_leastCut 10 = .ok (.invokevirtual 46, 3) := by decide +kernel
theorem dX9_leastCut_13 : decode cX9_leastCut 13 = .ok (.iconst 0, 1) := by decide +kernel
theorem dX9_leastCut_14 : decode cX9_leastCut 14 = .ok (.invokestatic 49, 3) := by decide +kernel
theorem dX9_leastCut_17 : decode cX9_leastCut 17 = .ok (.ireturn, 1) := by decide +kernel
theorem dX9_countWorlds_0 : decode cX9_countWorlds 0 = .ok (.iconst 0, 1) := by decide +kernel
theorem dX9_countWorlds_1 : decode cX9_countWorlds 1 = .ok (.istore_n 1, 1) := by decide +kernel
theorem dX9_countWorlds_2 : decode cX9_countWorlds 2 = .ok (.iconst 0, 1) := by decide +kernel
theorem dX9_countWorlds_3 : decode cX9_countWorlds 3 = .ok (.istore_n 2, 1) := by decide +kernel
theorem dX9_countWorlds_4 : decode cX9_countWorlds 4 = .ok (.iload_n 2, 1) := by decide +kernel
theorem dX9_countWorlds_5 : decode cX9_countWorlds 5 = .ok (.aload_n 0, 1) := by decide +kernel
theorem dX9_countWorlds_6 : decode cX9_countWorlds 6 = .ok (.getfield 33, 3) := by decide +kernel
theorem dX9_countWorlds_9 : decode cX9_countWorlds 9 = .ok (.if_icmp .ge 15, 3) := by decide +kernel
theorem dX9_countWorlds_12 : decode cX9_countWorlds 12 = .ok (.iload_n 1, 1) := by decide +kernel
theorem dX9_countWorlds_13 : decode cX9_countWorlds 13 = .ok (.iconst 1, 1) := by decide +kernel
theorem dX9_countWorlds_14 : decode cX9_countWorlds 14 = .ok (.iload_n 2, 1) := by decide +kernel
theorem dX9_countWorlds_15 : decode cX9_countWorlds 15 = .ok (.ishl, 1) := by decide +kernel
theorem dX9_countWorlds_16 : decode cX9_countWorlds 16 = .ok (.ior, 1) := by decide +kernel
theorem dX9_countWorlds_17 : decode cX9_countWorlds 17 = .ok (.istore_n 1, 1) := by decide +kernel
theorem dX9_countWorlds_18 : decode cX9_countWorlds 18 = .ok (.iinc 2 1, 3) := by decide +kernel
theorem dX9_countWorlds_21 : decode cX9_countWorlds 21 = .ok (.goto (-17), 3) := by decide +kernel
theorem dX9_countWorlds_24 : decode cX9_countWorlds 24 = .ok (.iconst 0, 1) := by decide +kernel
theorem dX9_countWorlds_25 : decode cX9_countWorlds 25 = .ok (.istore_n 2, 1) := by decide +kernel
theorem dX9_countWorlds_26 : decode cX9_countWorlds 26 = .ok (.iload_n 2, 1) := by decide +kernel
theorem dX9_countWorlds_27 : decode cX9_countWorlds 27 = .ok (.bipush 16, 2) := by decide +kernel
theorem dX9_countWorlds_29 : decode cX9_countWorlds 29 = .ok (.if_icmp .ge 33, 3) := by decide +kernel
theorem dX9_countWorlds_32 : decode cX9_countWorlds 32 = .ok (.aload_n 0, 1) := by decide +kernel
theorem dX9_countWorlds_33 : decode cX9_countWorlds 33 = .ok (.getfield 15, 3) := by decide +kernel
theorem dX9_countWorlds_36 : decode cX9_countWorlds 36 = .ok (.iload_n 2, 1) := by decide +kernel
theorem dX9_countWorlds_37 : decode cX9_countWorlds 37 = .ok (.aload_n 0, 1) := by decide +kernel
theorem dX9_countWorlds_38 : decode cX9_countWorlds 38 = .ok (.iload_n 2, 1) := by decide +kernel
theorem dX9_countWorlds_39 : decode cX9_countWorlds 39 = .ok (.iconst 0, 1) := by decide +kernel
theorem dX9_countWorlds_40 : decode cX9_countWorlds 40 = .ok (.invokevirtual 53, 3) := by decide +kernel
theorem dX9_countWorlds_43 : decode cX9_countWorlds 43 = .ok (.iastore, 1) := by decide +kernel
theorem dX9_countWorlds_44 : decode cX9_countWorlds 44 = .ok (.aload_n 0, 1) := by decide +kernel
theorem dX9_countWorlds_45 : decode cX9_countWorlds 45 = .ok (.getfield 18, 3) := by decide +kernel
theorem dX9_countWorlds_48 : decode cX9_countWorlds 48 = .ok (.iload_n 2, 1) := by decide +kernel
theorem dX9_countWorlds_49 : decode cX9_countWorlds 49 = .ok (.aload_n 0, 1) := by decide +kernel
theorem dX9_countWorlds_50 : decode cX9_countWorlds 50 = .ok (.iload_n 2, 1) := by decide +kernel
theorem dX9_countWorlds_51 : decode cX9_countWorlds 51 = .ok (.iconst 1, 1) := by decide +kernel
theorem dX9_countWorlds_52 : decode cX9_countWorlds 52 = .ok (.invokevirtual 53, 3) := by decide +kernel
theorem dX9_countWorlds_55 : decode cX9_countWorlds 55 = .ok (.iastore, 1) := by decide +kernel
theorem dX9_countWorlds_56 : decode cX9_countWorlds 56 = .ok (.iinc 2 1, 3) := by decide +kernel
theorem dX9_countWorlds_59 : decode cX9_countWorlds 59 = .ok (.goto (-33), 3) := by decide +kernel
theorem dX9_countWorlds_62 : decode cX9_countWorlds 62 = .ok (.aload_n 0, 1) := by decide +kernel
theorem dX9_countWorlds_63 : decode cX9_countWorlds 63 = .ok (.getfield 15, 3) := by decide +kernel
theorem dX9_countWorlds_66 : decode cX9_countWorlds 66 = .ok (.aload_n 0, 1) := by decide +kernel
theorem dX9_countWorlds_67 : decode cX9_countWorlds 67 = .ok (.getfield 18, 3) := by decide +kernel
theorem dX9_countWorlds_70 : decode cX9_countWorlds 70 = .ok (.aload_n 0, 1) := by decide +kernel
theorem dX9_countWorlds_71 : decode cX9_countWorlds 71 = .ok (.invokevirtual 46, 3) := by decide +kernel
theorem dX9_countWorlds_74 : decode cX9_countWorlds 74 = .ok (.iconst 0, 1) := by decide +kernel
theorem dX9_countWorlds_75 : decode cX9_countWorlds 75 = .ok (.iload_n 1, 1) := by decide +kernel
theorem dX9_countWorlds_76 : decode cX9_countWorlds 76 = .ok (.invokestatic 57, 3) := by decide +kernel
theorem dX9_countWorlds_79 : decode cX9_countWorlds 79 = .ok (.ireturn, 1) := by decide +kernel
theorem dX9_union_0 : decode cX9_union 0 = .ok (.iconst 0, 1) := by decide +kernel
theorem dX9_union_1 : decode cX9_union 1 = .ok (.istore_n 1, 1) := by decide +kernel
theorem dX9_union_2 : decode cX9_union 2 = .ok (.iconst 0, 1) := by decide +kernel
theorem dX9_union_3 : decode cX9_union 3 = .ok (.istore_n 2, 1) := by decide +kernel
theorem dX9_union_4 : decode cX9_union 4 = .ok (.iload_n 2, 1) := by decide +kernel
theorem dX9_union_5 : decode cX9_union 5 = .ok (.aload_n 0, 1) := by decide +kernel
theorem dX9_union_6 : decode cX9_union 6 = .ok (.getfield 33, 3) := by decide +kernel
theorem dX9_union_9 : decode cX9_union 9 = .ok (.if_icmp .ge 24, 3) := by decide +kernel
theorem dX9_union_12 : decode cX9_union 12 = .ok (.iload_n 2, 1) := by decide +kernel
theorem dX9_union_13 : decode cX9_union 13 = .ok (.bipush 32, 2) := by decide +kernel
theorem dX9_union_15 : decode cX9_union 15 = .ok (.if_icmp .ge 18, 3) := by decide +kernel
theorem dX9_union_18 : decode cX9_union 18 = .ok (.iload_n 1, 1) := by decide +kernel
theorem dX9_union_19 : decode cX9_union 19 = .ok (.aload_n 0, 1) := by decide +kernel
theorem dX9_union_20 : decode cX9_union 20 = .ok (.getfield 9, 3) := by decide +kernel
theorem dX9_union_23 : decode cX9_union 23 = .ok (.iload_n 2, 1) := by decide +kernel
theorem dX9_union_24 : decode cX9_union 24 = .ok (.iaload, 1) := by decide +kernel
theorem dX9_union_25 : decode cX9_union 25 = .ok (.ior, 1) := by decide +kernel
theorem dX9_union_26 : decode cX9_union 26 = .ok (.istore_n 1, 1) := by decide +kernel
theorem dX9_union_27 : decode cX9_union 27 = .ok (.iinc 2 1, 3) := by decide +kernel
theorem dX9_union_30 : decode cX9_union 30 = .ok (.goto (-26), 3) := by decide +kernel
theorem dX9_union_33 : decode cX9_union 33 = .ok (.iload_n 1, 1) := by decide +kernel
theorem dX9_union_34 : decode cX9_union 34 = .ok (.ireturn, 1) := by decide +kernel
theorem dX9_termsWith_0 : decode cX9_termsWith 0 = .ok (.iconst 0, 1) := by decide +kernel
theorem dX9_termsWith_1 : decode cX9_termsWith 1 = .ok (.istore_n 3, 1) := by decide +kernel
theorem dX9_termsWith_2 : decode cX9_termsWith 2 = .ok (.iconst 0, 1) := by decide +kernel
theorem dX9_termsWith_3 : decode cX9_termsWith 3 = .ok (.istore 4, 2) := by decide +kernel
theorem dX9_termsWith_5 : decode cX9_termsWith 5 = .ok (.iload 4, 2) := by decide +kernel
theorem dX9_termsWith_7 : decode cX9_termsWith 7 = .ok (.aload_n 0, 1) := by decide +kernel
theorem dX9_termsWith_8 : decode cX9_termsWith 8 = .ok (.getfield 33, 3) := by decide +kernel
theorem dX9_termsWith_11 : decode cX9_termsWith 11 = .ok (.if_icmp .ge 54, 3) := by decide +kernel
theorem dX9_termsWith_14 : decode cX9_termsWith 14 = .ok (.iload 4, 2) := by decide +kernel
theorem dX9_termsWith_16 : decode cX9_termsWith 16 = .ok (.bipush 32, 2) := by decide +kernel
theorem dX9_termsWith_18 : decode cX9_termsWith 18 = .ok (.if_icmp .ge 47, 3) := by decide +kernel
theorem dX9_termsWith_21 : decode cX9_termsWith 21 = .ok (.aload_n 0, 1) := by decide +kernel
theorem dX9_termsWith_22 : decode cX9_termsWith 22 = .ok (.getfield 9, 3) := by decide +kernel
theorem dX9_termsWith_25 : decode cX9_termsWith 25 = .ok (.iload 4, 2) := by decide +kernel
theorem dX9_termsWith_27 : decode cX9_termsWith 27 = .ok (.iaload, 1) := by decide +kernel
theorem dX9_termsWith_28 : decode cX9_termsWith 28 = .ok (.iload_n 1, 1) := by decide +kernel
theorem dX9_termsWith_29 : decode cX9_termsWith 29 = .ok (.ishr, 1) := by decide +kernel
theorem dX9_termsWith_30 : decode cX9_termsWith 30 = .ok (.istore 5, 2) := by decide +kernel
theorem dX9_termsWith_32 : decode cX9_termsWith 32 = .ok (.iload_n 2, 1) := by decide +kernel
theorem dX9_termsWith_33 : decode cX9_termsWith 33 = .ok (.ifCond .eq 12, 3) := by decide +kernel
theorem dX9_termsWith_36 : decode cX9_termsWith 36 = .ok (.iload 5, 2) := by decide +kernel
theorem dX9_termsWith_38 : decode cX9_termsWith 38 = .ok (.iconst 1, 1) := by decide +kernel
theorem dX9_termsWith_39 : decode cX9_termsWith 39 = .ok (.if_icmp .ne 20, 3) := by decide +kernel
theorem dX9_termsWith_42 : decode cX9_termsWith 42 = .ok (.goto 10, 3) := by decide +kernel
theorem dX9_termsWith_45 : decode cX9_termsWith 45 = .ok (.iload 5, 2) := by decide +kernel
theorem dX9_termsWith_47 : decode cX9_termsWith 47 = .ok (.iconst 1, 1) := by decide +kernel
theorem dX9_termsWith_48 : decode cX9_termsWith 48 = .ok (.iand, 1) := by decide +kernel
theorem dX9_termsWith_49 : decode cX9_termsWith 49 = .ok (.ifCond .eq 10, 3) := by decide +kernel
theorem dX9_termsWith_52 : decode cX9_termsWith 52 = .ok (.iload_n 3, 1) := by decide +kernel
theorem dX9_termsWith_53 : decode cX9_termsWith 53 = .ok (.iconst 1, 1) := by decide +kernel
theorem dX9_termsWith_54 : decode cX9_termsWith 54 = .ok (.iload 4, 2) := by decide +kernel
theorem dX9_termsWith_56 : decode cX9_termsWith 56 = .ok (.ishl, 1) := by decide +kernel
theorem dX9_termsWith_57 : decode cX9_termsWith 57 = .ok (.ior, 1) := by decide +kernel
theorem dX9_termsWith_58 : decode cX9_termsWith 58 = .ok (.istore_n 3, 1) := by decide +kernel
theorem dX9_termsWith_59 : decode cX9_termsWith 59 = .ok (.iinc 4 1, 3) := by decide +kernel
theorem dX9_termsWith_62 : decode cX9_termsWith 62 = .ok (.goto (-57), 3) := by decide +kernel
theorem dX9_termsWith_65 : decode cX9_termsWith 65 = .ok (.iload_n 3, 1) := by decide +kernel
theorem dX9_termsWith_66 : decode cX9_termsWith 66 = .ok (.ireturn, 1) := by decide +kernel
theorem dX9_searchCut_0 : decode cX9_searchCut 0 = .ok (.aload_n 0, 1) := by decide +kernel
theorem dX9_searchCut_1 : decode cX9_searchCut 1 = .ok (.iload_n 1, 1) := by decide +kernel
theorem dX9_searchCut_2 : decode cX9_searchCut 2 = .ok (.iload_n 2, 1) := by decide +kernel
theorem dX9_searchCut_3 : decode cX9_searchCut 3 = .ok (.invokestatic 61, 3) := by decide +kernel
theorem dX9_searchCut_6 : decode cX9_searchCut 6 = .ok (.istore 5, 2) := by decide +kernel
theorem dX9_searchCut_8 : decode cX9_searchCut 8 = .ok (.iload 5, 2) := by decide +kernel
theorem dX9_searchCut_10 : decode cX9_searchCut 10 = .ok (.ifCond .ne 17, 3) := by decide +kernel
theorem dX9_searchCut_13 : decode cX9_searchCut 13 = .ok (.iload_n 2, 1) := by decide +kernel
theorem dX9_searchCut_14 : decode cX9_searchCut 14 = .ok (.iload_n 3, 1) := by decide +kernel
theorem dX9_searchCut_15 : decode cX9_searchCut 15 = .ok (.invokestatic 65, 3) := by decide +kernel
theorem dX9_searchCut_18 : decode cX9_searchCut 18 = .ok (.ifCond .eq 7, 3) := by decide +kernel
theorem dX9_searchCut_21 : decode cX9_searchCut 21 = .ok (.iload_n 2, 1) := by decide +kernel
theorem dX9_searchCut_22 : decode cX9_searchCut 22 = .ok (.goto 4, 3) := by decide +kernel
theorem dX9_searchCut_25 : decode cX9_searchCut 25 = .ok (.iload_n 3, 1) := by decide +kernel
theorem dX9_searchCut_26 : decode cX9_searchCut 26 = .ok (.ireturn, 1) := by decide +kernel
theorem dX9_searchCut_27 : decode cX9_searchCut 27 = .ok (.iload 4, 2) := by decide +kernel
theorem dX9_searchCut_29 : decode cX9_searchCut 29 = .ok (.bipush 16, 2) := by decide +kernel
theorem dX9_searchCut_31 : decode cX9_searchCut 31 = .ok (.if_icmp .ge 14, 3) := by decide +kernel
theorem dX9_searchCut_34 : decode cX9_searchCut 34 = .ok (.iload_n 2, 1) := by decide +kernel
theorem dX9_searchCut_35 : decode cX9_searchCut 35 = .ok (.invokestatic 69, 3) := by decide +kernel
theorem dX9_searchCut_38 : decode cX9_searchCut 38 = .ok (.iload_n 3, 1) := by decide +kernel
theorem dX9_searchCut_39 : decode cX9_searchCut 39 = .ok (.invokestatic 69, 3) := by decide +kernel
theorem dX9_searchCut_42 : decode cX9_searchCut 42 = .ok (.if_icmp .lt 5, 3) := by decide +kernel
theorem dX9_searchCut_45 : decode cX9_searchCut 45 = .ok (.iload_n 3, 1) := by decide +kernel
theorem dX9_searchCut_46 : decode cX9_searchCut 46 = .ok (.ireturn, 1) := by decide +kernel
theorem dX9_searchCut_47 : decode cX9_searchCut 47 = .ok (.iload_n 3, 1) := by decide +kernel
theorem dX9_searchCut_48 : decode cX9_searchCut 48 = .ok (.istore 6, 2) := by decide +kernel
theorem dX9_searchCut_50 : decode cX9_searchCut 50 = .ok (.iconst 0, 1) := by decide +kernel
theorem dX9_searchCut_51 : decode cX9_searchCut 51 = .ok (.istore 7, 2) := by decide +kernel
theorem dX9_searchCut_53 : decode cX9_searchCut 53 = .ok (.iload 7, 2) := by decide +kernel
theorem dX9_searchCut_55 : decode cX9_searchCut 55 = .ok (.bipush 16, 2) := by decide +kernel
theorem dX9_searchCut_57 : decode cX9_searchCut 57 = .ok (.if_icmp .ge 38, 3) := by decide +kernel
theorem dX9_searchCut_60 : decode cX9_searchCut 60 = .ok (.iload 5, 2) := by decide +kernel
theorem dX9_searchCut_62 : decode cX9_searchCut 62 = .ok (.iload 7, 2) := by decide +kernel
theorem dX9_searchCut_64 : decode cX9_searchCut 64 = .ok (.ishr, 1) := by decide +kernel
theorem dX9_searchCut_65 : decode cX9_searchCut 65 = .ok (.iconst 1, 1) := by decide +kernel
theorem dX9_searchCut_66 : decode cX9_searchCut 66 = .ok (.iand, 1) := by decide +kernel
theorem dX9_searchCut_67 : decode cX9_searchCut 67 = .ok (.ifCond .eq 22, 3) := by decide +kernel
theorem dX9_searchCut_70 : decode cX9_searchCut 70 = .ok (.aload_n 0, 1) := by decide +kernel
theorem dX9_searchCut_71 : decode cX9_searchCut 71 = .ok (.iload_n 1, 1) := by decide +kernel
theorem dX9_searchCut_72 : decode cX9_searchCut 72 = .ok (.iload_n 2, 1) := by decide +kernel
theorem dX9_searchCut_73 : decode cX9_searchCut 73 = .ok (.iconst 1, 1) := by decide +kernel
theorem dX9_searchCut_74 : decode cX9_searchCut 74 = .ok (.iload 7, 2) := by decide +kernel
theorem dX9_searchCut_76 : decode cX9_searchCut 76 = .ok (.ishl, 1) := by decide +kernel
theorem dX9_searchCut_77 : decode cX9_searchCut 77 = .ok (.ior, 1) := by decide +kernel
theorem dX9_searchCut_78 : decode cX9_searchCut 78 = .ok (.iload 6, 2) := by decide +kernel
theorem dX9_searchCut_80 : decode cX9_searchCut 80 = .ok (.iload 4, 2) := by decide +kernel
theorem dX9_searchCut_82 : decode cX9_searchCut 82 = .ok (.iconst 1, 1) := by decide +kernel
theorem dX9_searchCut_83 : decode cX9_searchCut 83 = .ok (.iadd, 1) := by decide +kernel
theorem dX9_searchCut_84 : decode cX9_searchCut 84 = .ok (.invokestatic 49, 3) := by decide +kernel
theorem dX9_searchCut_87 : decode cX9_searchCut 87 = .ok (.istore 6, 2) := by decide +kernel
theorem dX9_searchCut_89 : decode cX9_searchCut 89 = .ok (.iinc 7 1, 3) := by decide +kernel
theorem dX9_searchCut_92 : decode cX9_searchCut 92 = .ok (.goto (-39), 3) := by decide +kernel
theorem dX9_searchCut_95 : decode cX9_searchCut 95 = .ok (.iload 6, 2) := by decide +kernel
theorem dX9_searchCut_97 : decode cX9_searchCut 97 = .ok (.ireturn, 1) := by decide +kernel
theorem dX9_firstWithout_0 : decode cX9_firstWithout 0 = .ok (.iconst 0, 1) := by decide +kernel
theorem dX9_firstWithout_1 : decode cX9_firstWithout 1 = .ok (.istore_n 3, 1) := by decide +kernel
theorem dX9_firstWithout_2 : decode cX9_firstWithout 2 = .ok (.iload_n 3, 1) := by decide +kernel
theorem dX9_firstWithout_3 : decode cX9_firstWithout 3 = .ok (.iload_n 1, 1) := by decide +kernel
theorem dX9_firstWithout_4 : decode cX9_firstWithout 4 = .ok (.if_icmp .ge 27, 3) := by decide +kernel
theorem dX9_firstWithout_7 : decode cX9_firstWithout 7 = .ok (.iload_n 3, 1) := by decide +kernel
theorem dX9_firstWithout_8 : decode cX9_firstWithout 8 = .ok (.aload_n 0, 1) := by decide +kernel
theorem dX9_firstWithout_9 : decode cX9_firstWithout 9 = .ok (.arraylength, 1) := by decide +kernel
theorem dX9_firstWithout_10 : decode cX9_firstWithout 10 = .ok (.if_icmp .ge 21, 3) := by decide +kernel
theorem dX9_firstWithout_13 : decode cX9_firstWithout 13 = .ok (.aload_n 0, 1) := by decide +kernel
theorem dX9_firstWithout_14 : decode cX9_firstWithout 14 = .ok (.iload_n 3, 1) := by decide +kernel
theorem dX9_firstWithout_15 : decode cX9_firstWithout 15 = .ok (.iaload, 1) := by decide +kernel
theorem dX9_firstWithout_16 : decode cX9_firstWithout 16 = .ok (.iload_n 2, 1) := by decide +kernel
theorem dX9_firstWithout_17 : decode cX9_firstWithout 17 = .ok (.iand, 1) := by decide +kernel
theorem dX9_firstWithout_18 : decode cX9_firstWithout 18 = .ok (.ifCond .ne 7, 3) := by decide +kernel
theorem dX9_firstWithout_21 : decode cX9_firstWithout 21 = .ok (.aload_n 0, 1) := by decide +kernel
theorem dX9_firstWithout_22 : decode cX9_firstWithout 22 = .ok (.iload_n 3, 1) := by decide +kernel
theorem dX9_firstWithout_23 : decode cX9_firstWithout 23 = .ok (.iaload, 1) := by decide +kernel
theorem dX9_firstWithout_24 : decode cX9_firstWithout 24 = .ok (.ireturn, 1) := by decide +kernel
theorem dX9_firstWithout_25 : decode cX9_firstWithout 25 = .ok (.iinc 3 1, 3) := by decide +kernel
theorem dX9_firstWithout_28 : decode cX9_firstWithout 28 = .ok (.goto (-26), 3) := by decide +kernel
theorem dX9_firstWithout_31 : decode cX9_firstWithout 31 = .ok (.iconst 0, 1) := by decide +kernel
theorem dX9_firstWithout_32 : decode cX9_firstWithout 32 = .ok (.ireturn, 1) := by decide +kernel
theorem dX9_isBetterCut_0 : decode cX9_isBetterCut 0 = .ok (.iload_n 0, 1) := by decide +kernel
theorem dX9_isBetterCut_1 : decode cX9_isBetterCut 1 = .ok (.invokestatic 69, 3) := by decide +kernel
theorem dX9_isBetterCut_4 : decode cX9_isBetterCut 4 = .ok (.iload_n 1, 1) := by decide +kernel
theorem dX9_isBetterCut_5 : decode cX9_isBetterCut 5 = .ok (.invokestatic 69, 3) := by decide +kernel
theorem dX9_isBetterCut_8 : decode cX9_isBetterCut 8 = .ok (.isub, 1) := by decide +kernel
theorem dX9_isBetterCut_9 : decode cX9_isBetterCut 9 = .ok (.istore_n 2, 1) := by decide +kernel
theorem dX9_isBetterCut_10 : decode cX9_isBetterCut 10 = .ok (.iload_n 2, 1) := by decide +kernel
theorem dX9_isBetterCut_11 : decode cX9_isBetterCut 11 = .ok (.ifCond .lt 12, 3) := by decide +kernel
theorem dX9_isBetterCut_14 : decode cX9_isBetterCut 14 = .ok (.iload_n 2, 1) := by decide +kernel
theorem dX9_isBetterCut_15 : decode cX9_isBetterCut 15 = .ok (.ifCond .ne 12, 3) := by decide +kernel
theorem dX9_isBetterCut_18 : decode cX9_isBetterCut 18 = .ok (.iload_n 0, 1) := by decide +kernel
theorem dX9_isBetterCut_19 : decode cX9_isBetterCut 19 = .ok (.iload_n 1, 1) := by decide +kernel
theorem dX9_isBetterCut_20 : decode cX9_isBetterCut 20 = .ok (.if_icmp .ge 7, 3) := by decide +kernel
theorem dX9_isBetterCut_23 : decode cX9_isBetterCut 23 = .ok (.iconst 1, 1) := by decide +kernel
theorem dX9_isBetterCut_24 : decode cX9_isBetterCut 24 = .ok (.goto 4, 3) := by decide +kernel
theorem dX9_isBetterCut_27 : decode cX9_isBetterCut 27 = .ok (.iconst 0, 1) := by decide +kernel
theorem dX9_isBetterCut_28 : decode cX9_isBetterCut 28 = .ok (.ireturn, 1) := by decide +kernel
theorem dX9_countFrom_0 : decode cX9_countFrom 0 = .ok (.iload 4, 2) := by decide +kernel
theorem dX9_countFrom_2 : decode cX9_countFrom 2 = .ok (.ifCond .eq 21, 3) := by decide +kernel
theorem dX9_countFrom_5 : decode cX9_countFrom 5 = .ok (.iload_n 3, 1) := by decide +kernel
theorem dX9_countFrom_6 : decode cX9_countFrom 6 = .ok (.bipush 16, 2) := by decide +kernel
theorem dX9_countFrom_8 : decode cX9_countFrom 8 = .ok (.if_icmp .ge 15, 3) := by decide +kernel
theorem dX9_countFrom_11 : decode cX9_countFrom 11 = .ok (.iload_n 3, 1) := by decide +kernel
theorem dX9_countFrom_12 : decode cX9_countFrom 12 = .ok (.aload_n 0, 1) := by decide +kernel
theorem dX9_countFrom_13 : decode cX9_countFrom 13 = .ok (.arraylength, 1) := by decide +kernel
theorem dX9_countFrom_14 : decode cX9_countFrom 14 = .ok (.if_icmp .ge 9, 3) := by decide +kernel
theorem dX9_countFrom_17 : decode cX9_countFrom 17 = .ok (.iload_n 3, 1) := by decide +kernel
theorem dX9_countFrom_18 : decode cX9_countFrom 18 = .ok (.aload_n 1, 1) := by decide +kernel
theorem dX9_countFrom_19 : decode cX9_countFrom 19 = .ok (.arraylength, 1) := by decide +kernel
theorem dX9_countFrom_20 : decode cX9_countFrom 20 = .ok (.if_icmp .lt 5, 3) := by decide +kernel
theorem dX9_countFrom_23 : decode cX9_countFrom 23 = .ok (.iconst 0, 1) := by decide +kernel
theorem dX9_countFrom_24 : decode cX9_countFrom 24 = .ok (.ireturn, 1) := by decide +kernel
theorem dX9_countFrom_25 : decode cX9_countFrom 25 = .ok (.iload_n 2, 1) := by decide +kernel
theorem dX9_countFrom_26 : decode cX9_countFrom 26 = .ok (.iload_n 3, 1) := by decide +kernel
theorem dX9_countFrom_27 : decode cX9_countFrom 27 = .ok (.ishr, 1) := by decide +kernel
theorem dX9_countFrom_28 : decode cX9_countFrom 28 = .ok (.iconst 1, 1) := by decide +kernel
theorem dX9_countFrom_29 : decode cX9_countFrom 29 = .ok (.iand, 1) := by decide +kernel
theorem dX9_countFrom_30 : decode cX9_countFrom 30 = .ok (.ifCond .ne 15, 3) := by decide +kernel
theorem dX9_countFrom_33 : decode cX9_countFrom 33 = .ok (.aload_n 0, 1) := by decide +kernel
theorem dX9_countFrom_34 : decode cX9_countFrom 34 = .ok (.aload_n 1, 1) := by decide +kernel
theorem dX9_countFrom_35 : decode cX9_countFrom 35 = .ok (.iload_n 2, 1) := by decide +kernel
theorem dX9_countFrom_36 : decode cX9_countFrom 36 = .ok (.iload_n 3, 1) := by decide +kernel
theorem dX9_countFrom_37 : decode cX9_countFrom 37 = .ok (.iconst 1, 1) := by decide +kernel
theorem dX9_countFrom_38 : decode cX9_countFrom 38 = .ok (.iadd, 1) := by decide +kernel
theorem dX9_countFrom_39 : decode cX9_countFrom 39 = .ok (.iload 4, 2) := by decide +kernel
theorem dX9_countFrom_41 : decode cX9_countFrom 41 = .ok (.invokestatic 57, 3) := by decide +kernel
theorem dX9_countFrom_44 : decode cX9_countFrom 44 = .ok (.ireturn, 1) := by decide +kernel
theorem dX9_countFrom_45 : decode cX9_countFrom 45 = .ok (.aload_n 0, 1) := by decide +kernel
theorem dX9_countFrom_46 : decode cX9_countFrom 46 = .ok (.aload_n 1, 1) := by decide +kernel
theorem dX9_countFrom_47 : decode cX9_countFrom 47 = .ok (.iload_n 2, 1) := by decide +kernel
theorem dX9_countFrom_48 : decode cX9_countFrom 48 = .ok (.iload_n 3, 1) := by decide +kernel
theorem dX9_countFrom_49 : decode cX9_countFrom 49 = .ok (.iconst 1, 1) := by decide +kernel
theorem dX9_countFrom_50 : decode cX9_countFrom 50 = .ok (.iadd, 1) := by decide +kernel
theorem dX9_countFrom_51 : decode cX9_countFrom 51 = .ok (.iload 4, 2) := by decide +kernel
theorem dX9_countFrom_53 : decode cX9_countFrom 53 = .ok (.aload_n 0, 1) := by decide +kernel
theorem dX9_countFrom_54 : decode cX9_countFrom 54 = .ok (.iload_n 3, 1) := by decide +kernel
theorem dX9_countFrom_55 : decode cX9_countFrom 55 = .ok (.iaload, 1) := by decide +kernel
theorem dX9_countFrom_56 : decode cX9_countFrom 56 = .ok (.iconst (-1), 1) := by decide +kernel
theorem dX9_countFrom_57 : decode cX9_countFrom 57 = .ok (.ixor, 1) := by decide +kernel
theorem dX9_countFrom_58 : decode cX9_countFrom 58 = .ok (.iand, 1) := by decide +kernel
theorem dX9_countFrom_59 : decode cX9_countFrom 59 = .ok (.invokestatic 57, 3) := by decide +kernel
theorem dX9_countFrom_62 : decode cX9_countFrom 62 = .ok (.istore 5, 2) := by decide +kernel
theorem dX9_countFrom_64 : decode cX9_countFrom 64 = .ok (.iload 4, 2) := by decide +kernel
theorem dX9_countFrom_66 : decode cX9_countFrom 66 = .ok (.aload_n 1, 1) := by decide +kernel
theorem dX9_countFrom_67 : decode cX9_countFrom 67 = .ok (.iload_n 3, 1) := by decide +kernel
theorem dX9_countFrom_68 : decode cX9_countFrom 68 = .ok (.iaload, 1) := by decide +kernel
theorem dX9_countFrom_69 : decode cX9_countFrom 69 = .ok (.iand, 1) := by decide +kernel
theorem dX9_countFrom_70 : decode cX9_countFrom 70 = .ok (.ifCond .eq 17, 3) := by decide +kernel
theorem dX9_countFrom_73 : decode cX9_countFrom 73 = .ok (.iload 5, 2) := by decide +kernel
theorem dX9_countFrom_75 : decode cX9_countFrom 75 = .ok (.iconst 1, 1) := by decide +kernel
theorem dX9_countFrom_76 : decode cX9_countFrom 76 = .ok (.iload_n 2, 1) := by decide +kernel
theorem dX9_countFrom_77 : decode cX9_countFrom 77 = .ok (.iload_n 3, 1) := by decide +kernel
theorem dX9_countFrom_78 : decode cX9_countFrom 78 = .ok (.iconst 1, 1) := by decide +kernel
theorem dX9_countFrom_79 : decode cX9_countFrom 79 = .ok (.iadd, 1) := by decide +kernel
theorem dX9_countFrom_80 : decode cX9_countFrom 80 = .ok (.ishr, 1) := by decide +kernel
theorem dX9_countFrom_81 : decode cX9_countFrom 81 = .ok (.invokestatic 69, 3) := by decide +kernel
theorem dX9_countFrom_84 : decode cX9_countFrom 84 = .ok (.ishl, 1) := by decide +kernel
theorem dX9_countFrom_85 : decode cX9_countFrom 85 = .ok (.iadd, 1) := by decide +kernel
theorem dX9_countFrom_86 : decode cX9_countFrom 86 = .ok (.ireturn, 1) := by decide +kernel
theorem dX9_countFrom_87 : decode cX9_countFrom 87 = .ok (.iload 4, 2) := by decide +kernel
theorem dX9_countFrom_89 : decode cX9_countFrom 89 = .ok (.aload_n 0, 1) := by decide +kernel
theorem dX9_countFrom_90 : decode cX9_countFrom 90 = .ok (.iload_n 3, 1) := by decide +kernel
theorem dX9_countFrom_91 : decode cX9_countFrom 91 = .ok (.iaload, 1) := by decide +kernel
theorem dX9_countFrom_92 : decode cX9_countFrom 92 = .ok (.iand, 1) := by decide +kernel
theorem dX9_countFrom_93 : decode cX9_countFrom 93 = .ok (.ifCond .ne 8, 3) := by decide +kernel
theorem dX9_countFrom_96 : decode cX9_countFrom 96 = .ok (.iconst 2, 1) := by decide +kernel
theorem dX9_countFrom_97 : decode cX9_countFrom 97 = .ok (.iload 5, 2) := by decide +kernel
theorem dX9_countFrom_99 : decode cX9_countFrom 99 = .ok (.imul, 1) := by decide +kernel
theorem dX9_countFrom_100 : decode cX9_countFrom 100 = .ok (.ireturn, 1) := by decide +kernel
theorem dX9_countFrom_101 : decode cX9_countFrom 101 = .ok (.iload 5, 2) := by decide +kernel
theorem dX9_countFrom_103 : decode cX9_countFrom 103 = .ok (.aload_n 0, 1) := by decide +kernel
theorem dX9_countFrom_104 : decode cX9_countFrom 104 = .ok (.aload_n 1, 1) := by decide +kernel
theorem dX9_countFrom_105 : decode cX9_countFrom 105 = .ok (.iload_n 2, 1) := by decide +kernel
theorem dX9_countFrom_106 : decode cX9_countFrom 106 = .ok (.iload_n 3, 1) := by decide +kernel
theorem dX9_countFrom_107 : decode cX9_countFrom 107 = .ok (.iconst 1, 1) := by decide +kernel
theorem dX9_countFrom_108 : decode cX9_countFrom 108 = .ok (.iadd, 1) := by decide +kernel
theorem dX9_countFrom_109 : decode cX9_countFrom 109 = .ok (.iload 4, 2) := by decide +kernel
theorem dX9_countFrom_111 : decode cX9_countFrom 111 = .ok (.invokestatic 57, 3) := by decide +kernel
theorem dX9_countFrom_114 : decode cX9_countFrom 114 = .ok (.iadd, 1) := by decide +kernel
theorem dX9_countFrom_115 : decode cX9_countFrom 115 = .ok (.ireturn, 1) := by decide +kernel
theorem dX10_init_0 : decode cX10_init 0 = .ok (.aload_n 0, 1) := by decide +kernel
theorem dX10_init_1 : decode cX10_init 1 = .ok (.invokespecial 1, 3) := by decide +kernel
theorem dX10_init_4 : decode cX10_init 4 = .ok (.aload_n 0, 1) := by decide +kernel
theorem dX10_init_5 : decode cX10_init 5 = .ok (.new 7, 3) := by decide +kernel
theorem dX10_init_8 : decode cX10_init 8 = .ok (.dup, 1) := by decide +kernel
theorem dX10_init_9 : decode cX10_init 9 = .ok (.invokespecial 9, 3) := by decide +kernel
theorem dX10_init_12 : decode cX10_init 12 = .ok (.putfield 10, 3) := by decide +kernel
theorem dX10_init_15 : decode cX10_init 15 = .ok (.aload_n 0, 1) := by decide +kernel
theorem dX10_init_16 : decode cX10_init 16 = .ok (.new 7, 3) := by decide +kernel
theorem dX10_init_19 : decode cX10_init 19 = .ok (.dup, 1) := by decide +kernel
theorem dX10_init_20 : decode cX10_init 20 = .ok (.invokespecial 9, 3) := by decide +kernel
theorem dX10_init_23 : decode cX10_init 23 = .ok (.putfield 16, 3) := by decide +kernel
theorem dX10_init_26 : decode cX10_init 26 = .ok (.aload_n 0, 1) := by decide +kernel
theorem dX10_init_27 : decode cX10_init 27 = .ok (.new 19, 3) := by decide +kernel
theorem dX10_init_30 : decode cX10_init 30 = .ok (.dup, 1) := by decide +kernel
theorem dX10_init_31 : decode cX10_init 31 = .ok (.invokespecial 21, 3) := by decide +kernel
theorem dX10_init_34 : decode cX10_init 34 = .ok (.putfield 22, 3) := by decide +kernel
theorem dX10_init_37 : decode cX10_init 37 = .ok (.aload_n 0, 1) := by decide +kernel
theorem dX10_init_38 : decode cX10_init 38 = .ok (.new 26, 3) := by decide +kernel
theorem dX10_init_41 : decode cX10_init 41 = .ok (.dup, 1) := by decide +kernel
theorem dX10_init_42 : decode cX10_init 42 = .ok (.bipush 60, 2) := by decide +kernel
theorem dX10_init_44 : decode cX10_init 44 = .ok (.invokespecial 28, 3) := by decide +kernel
theorem dX10_init_47 : decode cX10_init 47 = .ok (.putfield 31, 3) := by decide +kernel
theorem dX10_init_50 : decode cX10_init 50 = .ok (.aload_n 0, 1) := by decide +kernel
theorem dX10_init_51 : decode cX10_init 51 = .ok (.new 26, 3) := by decide +kernel
theorem dX10_init_54 : decode cX10_init 54 = .ok (.dup, 1) := by decide +kernel
theorem dX10_init_55 : decode cX10_init 55 = .ok (.sipush 1024, 3) := by decide +kernel
theorem dX10_init_58 : decode cX10_init 58 = .ok (.invokespecial 28, 3) := by decide +kernel
theorem dX10_init_61 : decode cX10_init 61 = .ok (.putfield 35, 3) := by decide +kernel
theorem dX10_init_64 : decode cX10_init 64 = .ok (.aload_n 0, 1) := by decide +kernel
theorem dX10_init_65 : decode cX10_init 65 = .ok (.new 38, 3) := by decide +kernel
theorem dX10_init_68 : decode cX10_init 68 = .ok (.dup, 1) := by decide +kernel
theorem dX10_init_69 : decode cX10_init 69 = .ok (.invokespecial 40, 3) := by decide +kernel
theorem dX10_init_72 : decode cX10_init 72 = .ok (.putfield 41, 3) := by decide +kernel
theorem dX10_init_75 : decode cX10_init 75 = .ok (.aload_n 0, 1) := by decide +kernel
theorem dX10_init_76 : decode cX10_init 76 = .ok (.new 38, 3) := by decide +kernel
theorem dX10_init_79 : decode cX10_init 79 = .ok (.dup, 1) := by decide +kernel
theorem dX10_init_80 : decode cX10_init 80 = .ok (.invokespecial 40, 3) := by decide +kernel
theorem dX10_init_83 : decode cX10_init 83 = .ok (.putfield 45, 3) := by decide +kernel
theorem dX10_init_86 : decode cX10_init 86 = .ok (.aload_n 0, 1) := by decide +kernel
theorem dX10_init_87 : decode cX10_init 87 = .ok (.new 48, 3) := by decide +kernel
theorem dX10_init_90 : decode cX10_init 90 = .ok (.dup, 1) := by decide +kernel
theorem dX10_init_91 : decode cX10_init 91 = .ok (.invokespecial 50, 3) := by decide +kernel
theorem dX10_init_94 : decode cX10_init 94 = .ok (.putfield 51, 3) := by decide +kernel
theorem dX10_init_97 : decode cX10_init 97 = .ok (.aload_n 0, 1) := by decide +kernel
theorem dX10_init_98 : decode cX10_init 98 = .ok (.new 55, 3) := by decide +kernel
theorem dX10_init_101 : decode cX10_init 101 = .ok (.dup, 1) := by decide +kernel
theorem dX10_init_102 : decode cX10_init 102 = .ok (.invokespecial 57, 3) := by decide +kernel
theorem dX10_init_105 : decode cX10_init 105 = .ok (.putfield 58, 3) := by decide +kernel
theorem dX10_init_108 : decode cX10_init 108 = .ok (.aload_n 0, 1) := by decide +kernel
theorem dX10_init_109 : decode cX10_init 109 = .ok (.new 62, 3) := by decide +kernel
theorem dX10_init_112 : decode cX10_init 112 = .ok (.dup, 1) := by decide +kernel
theorem dX10_init_113 : decode cX10_init 113 = .ok (.invokespecial 64, 3) := by decide +kernel
theorem dX10_init_116 : decode cX10_init 116 = .ok (.putfield 65, 3) := by decide +kernel
theorem dX10_init_119 : decode cX10_init 119 = .ok (.return_, 1) := by decide +kernel
theorem dX10_setColumns_0 : decode cX10_setColumns 0 = .ok (.iload_n 1, 1) := by decide +kernel
theorem dX10_setColumns_1 : decode cX10_setColumns 1 = .ok (.invokestatic 69, 3) := by decide +kernel
theorem dX10_setColumns_4 : decode cX10_setColumns 4 = .ok (.ifCond .ne 5, 3) := by decide +kernel
theorem dX10_setColumns_7 : decode cX10_setColumns 7 = .ok (.iconst (-1), 1) := by decide +kernel
theorem dX10_setColumns_8 : decode cX10_setColumns 8 = .ok (.ireturn, 1) := by decide +kernel
theorem dX10_setColumns_9 : decode cX10_setColumns 9 = .ok (.iload_n 2, 1) := by decide +kernel
theorem dX10_setColumns_10 : decode cX10_setColumns 10 = .ok (.iconst 1, 1) := by decide +kernel
theorem dX10_setColumns_11 : decode cX10_setColumns 11 = .ok (.if_icmp .lt 8, 3) := by decide +kernel
theorem dX10_setColumns_14 : decode cX10_setColumns 14 = .ok (.iload_n 2, 1) := by decide +kernel
theorem dX10_setColumns_15 : decode cX10_setColumns 15 = .ok (.iconst 3, 1) := by decide +kernel
theorem dX10_setColumns_16 : decode cX10_setColumns 16 = .ok (.if_icmp .le 6, 3) := by decide +kernel
theorem dX10_setColumns_19 : decode cX10_setColumns 19 = .ok (.bipush (-2), 2) := by decide +kernel
theorem dX10_setColumns_21 : decode cX10_setColumns 21 = .ok (.ireturn, 1) := by decide +kernel
theorem dX10_setColumns_22 : decode cX10_setColumns 22 = .ok (.aload_n 0, 1) := by decide +kernel
theorem dX10_setColumns_23 : decode cX10_setColumns 23 = .ok (.getfield 10, 3) := by decide +kernel
theorem dX10_setColumns_26 : decode cX10_setColumns 26 = .ok (.iload_n 1, 1) := by decide +kernel
theorem dX10_setColumns_27 : decode cX10_setColumns 27 = .ok (.invokevirtual 73, 3) := by decide +kernel
theorem dX10_setColumns_30 : decode cX10_setColumns 30 = .ok (.ifCond .ne 14, 3) := by decide +kernel
theorem dX10_setColumns_33 : decode cX10_setColumns 33 = .ok (.aload_n 0, 1) := by decide +kernel
theorem dX10_setColumns_34 : decode cX10_setColumns 34 = .ok (.getfield 10, 3) := by decide +kernel
theorem dX10_setColumns_37 : decode cX10_setColumns 37 = .ok (.iload_n 1, 1) := by decide +kernel
theorem dX10_setColumns_38 : decode cX10_setColumns 38 = .ok (.invokevirtual 76, 3) := by decide +kernel
theorem dX10_setColumns_41 : decode cX10_setColumns 41 = .ok (.ifCond .eq 6, 3) := by decide +kernel
theorem dX10_setColumns_44 : decode cX10_setColumns 44 = .ok (.bipush (-5), 2) := by decide +kernel
theorem dX10_setColumns_46 : decode cX10_setColumns 46 = .ok (.ireturn, 1) := by decide +kernel
theorem dX10_setColumns_47 : decode cX10_setColumns 47 = .ok (.aload_n 0, 1) := by decide +kernel
theorem dX10_setColumns_48 : decode cX10_setColumns 48 = .ok (.getfield 10, 3) := by decide +kernel
theorem dX10_setColumns_51 : decode cX10_setColumns 51 = .ok (.iload_n 1, 1) := by decide +kernel
theorem dX10_setColumns_52 : decode cX10_setColumns 52 = .ok (.invokevirtual 79, 3) := by decide +kernel
theorem dX10_setColumns_55 : decode cX10_setColumns 55 = .ok (.istore_n 3, 1) := by decide +kernel
theorem dX10_setColumns_56 : decode cX10_setColumns 56 = .ok (.aload_n 0, 1) := by decide +kernel
theorem dX10_setColumns_57 : decode cX10_setColumns 57 = .ok (.getfield 22, 3) := by decide +kernel
theorem dX10_setColumns_60 : decode cX10_setColumns 60 = .ok (.aload_n 0, 1) := by decide +kernel
theorem dX10_setColumns_61 : decode cX10_setColumns 61 = .ok (.getfield 10, 3) := by decide +kernel
theorem dX10_setColumns_64 : decode cX10_setColumns 64 = .ok (.invokevirtual 83, 3) := by decide +kernel
theorem dX10_setColumns_67 : decode cX10_setColumns 67 = .ok (.aload_n 0, 1) := by decide +kernel
theorem dX10_setColumns_68 : decode cX10_setColumns 68 = .ok (.getfield 10, 3) := by decide +kernel
theorem dX10_setColumns_71 : decode cX10_setColumns 71 = .ok (.iload_n 1, 1) := by decide +kernel
theorem dX10_setColumns_72 : decode cX10_setColumns 72 = .ok (.iload_n 2, 1) := by decide +kernel
theorem dX10_setColumns_73 : decode cX10_setColumns 73 = .ok (.invokevirtual 87, 3) := by decide +kernel
theorem dX10_setColumns_76 : decode cX10_setColumns 76 = .ok (.iload_n 3, 1) := by decide +kernel
theorem dX10_setColumns_77 : decode cX10_setColumns 77 = .ok (.ireturn, 1) := by decide +kernel
theorem dX10_addRow_0 : decode cX10_addRow 0 = .ok (.iload_n 1, 1) := by decide +kernel
theorem dX10_addRow_1 : decode cX10_addRow 1 = .ok (.invokestatic 69, 3) := by decide +kernel
theorem dX10_addRow_4 : decode cX10_addRow 4 = .ok (.ifCond .ne 5, 3) := by decide +kernel
theorem dX10_addRow_7 : decode cX10_addRow 7 = .ok (.iconst (-1), 1) := by decide +kernel
theorem dX10_addRow_8 : decode cX10_addRow 8 = .ok (.ireturn, 1) := by decide +kernel
theorem dX10_addRow_9 : decode cX10_addRow 9 = .ok (.aload_n 0, 1) := by decide +kernel
theorem dX10_addRow_10 : decode cX10_addRow 10 = .ok (.getfield 10, 3) := by decide +kernel
theorem dX10_addRow_13 : decode cX10_addRow 13 = .ok (.iload_n 1, 1) := by decide +kernel
theorem dX10_addRow_14 : decode cX10_addRow 14 = .ok (.invokevirtual 79, 3) := by decide +kernel
theorem dX10_addRow_17 : decode cX10_addRow 17 = .ok (.istore_n 3, 1) := by decide +kernel
theorem dX10_addRow_18 : decode cX10_addRow 18 = .ok (.iload_n 2, 1) := by decide +kernel
theorem dX10_addRow_19 : decode cX10_addRow 19 = .ok (.ifCond .lt 11, 3) := by decide +kernel
theorem dX10_addRow_22 : decode cX10_addRow 22 = .ok (.iload_n 2, 1) := by decide +kernel
theorem dX10_addRow_23 : decode cX10_addRow 23 = .ok (.iload_n 3, 1) := by decide +kernel
theorem dX10_addRow_24 : decode cX10_addRow 24 = .ok (.invokestatic 91, 3) := by decide +kernel
theorem dX10_addRow_27 : decode cX10_addRow 27 = .ok (.ifCond .eq 6, 3) := by decide +kernel
theorem dX10_addRow_30 : decode cX10_addRow 30 = .ok (.bipush (-2), 2) := by decide +kernel
theorem dX10_addRow_32 : decode cX10_addRow 32 = .ok (.ireturn, 1) := by decide +kernel
theorem dX10_addRow_33 : decode cX10_addRow 33 = .ok (.aload_n 0, 1) := by decide +kernel
theorem dX10_addRow_34 : decode cX10_addRow 34 = .ok (.getfield 10, 3) := by decide +kernel
theorem dX10_addRow_37 : decode cX10_addRow 37 = .ok (.invokevirtual 97, 3) := by decide +kernel
theorem dX10_addRow_40 : decode cX10_addRow 40 = .ok (.istore 4, 2) := by decide +kernel
theorem dX10_addRow_42 : decode cX10_addRow 42 = .ok (.iload 4, 2) := by decide +kernel
theorem dX10_addRow_44 : decode cX10_addRow 44 = .ok (.ifCond .ge 6, 3) := by decide +kernel
theorem dX10_addRow_47 : decode cX10_addRow 47 = .ok (.bipush (-4), 2) := by decide +kernel
theorem dX10_addRow_49 : decode cX10_addRow 49 = .ok (.ireturn, 1) := by decide +kernel
theorem dX10_addRow_50 : decode cX10_addRow 50 = .ok (.aload_n 0, 1) := by decide +kernel
theorem dX10_addRow_51 : decode cX10_addRow 51 = .ok (.getfield 16, 3) := by decide +kernel
theorem dX10_addRow_54 : decode cX10_addRow 54 = .ok (.aload_n 0, 1) := by decide +kernel
theorem dX10_addRow_55 : decode cX10_addRow 55 = .ok (.getfield 10, 3) := by decide +kernel
theorem dX10_addRow_58 : decode cX10_addRow 58 = .ok (.invokevirtual 101, 3) := by decide +kernel
theorem dX10_addRow_61 : decode cX10_addRow 61 = .ok (.aload_n 0, 1) := by decide +kernel
theorem dX10_addRow_62 : decode cX10_addRow 62 = .ok (.getfield 16, 3) := by decide +kernel
theorem dX10_addRow_65 : decode cX10_addRow 65 = .ok (.iload 4, 2) := by decide +kernel
theorem dX10_addRow_67 : decode cX10_addRow 67 = .ok (.iload_n 1, 1) := by decide +kernel
theorem dX10_addRow_68 : decode cX10_addRow 68 = .ok (.iload_n 2, 1) := by decide +kernel
theorem dX10_addRow_69 : decode cX10_addRow 69 = .ok (.iload_n 3, 1) := by decide +kernel
theorem dX10_addRow_70 : decode cX10_addRow 70 = .ok (.invokestatic 104, 3) := by decide +kernel
theorem dX10_addRow_73 : decode cX10_addRow 73 = .ok (.invokevirtual 108, 3) := by decide +kernel
theorem dX10_addRow_76 : decode cX10_addRow 76 = .ok (.aload_n 0, 1) := by decide +kernel
theorem dX10_addRow_77 : decode cX10_addRow 77 = .ok (.getfield 51, 3) := by decide +kernel
theorem dX10_addRow_80 : decode cX10_addRow 80 = .ok (.aload_n 0, 1) := by decide +kernel
theorem dX10_addRow_81 : decode cX10_addRow 81 = .ok (.getfield 45, 3) := by decide +kernel
theorem dX10_addRow_84 : decode cX10_addRow 84 = .ok (.aload_n 0, 1) := by decide +kernel
theorem dX10_addRow_85 : decode cX10_addRow 85 = .ok (.getfield 16, 3) := by decide +kernel
theorem dX10_addRow_88 : decode cX10_addRow 88 = .ok (.invokevirtual 112, 3) := by decide +kernel
theorem dX10_addRow_91 : decode cX10_addRow 91 = .ok (.ifCond .ne 6, 3) := by decide +kernel
theorem dX10_addRow_94 : decode cX10_addRow 94 = .ok (.bipush (-4), 2) := by decide +kernel
theorem dX10_addRow_96 : decode cX10_addRow 96 = .ok (.ireturn, 1) := by decide +kernel
theorem dX10_addRow_97 : decode cX10_addRow 97 = .ok (.aload_n 0, 1) := by decide +kernel
theorem dX10_addRow_98 : decode cX10_addRow 98 = .ok (.getfield 22, 3) := by decide +kernel
theorem dX10_addRow_101 : decode cX10_addRow 101 = .ok (.aload_n 0, 1) := by decide +kernel
theorem dX10_addRow_102 : decode cX10_addRow 102 = .ok (.getfield 10, 3) := by decide +kernel
theorem dX10_addRow_105 : decode cX10_addRow 105 = .ok (.invokevirtual 83, 3) := by decide +kernel
theorem dX10_addRow_108 : decode cX10_addRow 108 = .ok (.aload_n 0, 1) := by decide +kernel
theorem dX10_addRow_109 : decode cX10_addRow 109 = .ok (.getfield 10, 3) := by decide +kernel
theorem dX10_addRow_112 : decode cX10_addRow 112 = .ok (.aload_n 0, 1) := by decide +kernel
theorem dX10_addRow_113 : decode cX10_addRow 113 = .ok (.getfield 16, 3) := by decide +kernel
theorem dX10_addRow_116 : decode cX10_addRow 116 = .ok (.invokevirtual 101, 3) := by decide +kernel
theorem dX10_addRow_119 : decode cX10_addRow 119 = .ok (.aload_n 0, 1) := by decide +kernel
theorem dX10_addRow_120 : decode cX10_addRow 120 = .ok (.getfield 51, 3) := by decide +kernel
theorem dX10_addRow_123 : decode cX10_addRow 123 = .ok (.invokevirtual 116, 3) := by decide +kernel
theorem dX10_addRow_126 : decode cX10_addRow 126 = .ok (.iload 4, 2) := by decide +kernel
theorem dX10_addRow_128 : decode cX10_addRow 128 = .ok (.ireturn, 1) := by decide +kernel
theorem dX10_dropRow_0 : decode cX10_dropRow 0 = .ok (.aload_n 0, 1) := by decide +kernel
theorem dX10_dropRow_1 : decode cX10_dropRow 1 = .ok (.getfield 10, 3) := by decide +kernel
theorem dX10_dropRow_4 : decode cX10_dropRow 4 = .ok (.iload_n 1, 1) := by decide +kernel
theorem dX10_dropRow_5 : decode cX10_dropRow 5 = .ok (.invokevirtual 119, 3) := by decide +kernel
theorem dX10_dropRow_8 : decode cX10_dropRow 8 = .ok (.ifCond .ne 5, 3) := by decide +kernel
theorem dX10_dropRow_11 : decode cX10_dropRow 11 = .ok (.iconst (-1), 1) := by decide +kernel
theorem dX10_dropRow_12 : decode cX10_dropRow 12 = .ok (.ireturn, 1) := by decide +kernel
theorem dX10_dropRow_13 : decode cX10_dropRow 13 = .ok (.aload_n 0, 1) := by decide +kernel
theorem dX10_dropRow_14 : decode cX10_dropRow 14 = .ok (.getfield 22, 3) := by decide +kernel
theorem dX10_dropRow_17 : decode cX10_dropRow 17 = .ok (.aload_n 0, 1) := by decide +kernel
theorem dX10_dropRow_18 : decode cX10_dropRow 18 = .ok (.getfield 10, 3) := by decide +kernel
theorem dX10_dropRow_21 : decode cX10_dropRow 21 = .ok (.invokevirtual 83, 3) := by decide +kernel
theorem dX10_dropRow_24 : decode cX10_dropRow 24 = .ok (.aload_n 0, 1) := by decide +kernel
theorem dX10_dropRow_25 : decode cX10_dropRow 25 = .ok (.getfield 10, 3) := by decide +kernel
theorem dX10_dropRow_28 : decode cX10_dropRow 28 = .ok (.iload_n 1, 1) := by decide +kernel
theorem dX10_dropRow_29 : decode cX10_dropRow 29 = .ok (.invokevirtual 122, 3) := by decide +kernel
theorem dX10_dropRow_32 : decode cX10_dropRow 32 = .ok (.aload_n 0, 1) := by decide +kernel
theorem dX10_dropRow_33 : decode cX10_dropRow 33 = .ok (.invokevirtual 125, 3) := by decide +kernel
theorem dX10_dropRow_36 : decode cX10_dropRow 36 = .ok (.aload_n 0, 1) := by decide +kernel
theorem dX10_dropRow_37 : decode cX10_dropRow 37 = .ok (.getfield 10, 3) := by decide +kernel
theorem dX10_dropRow_40 : decode cX10_dropRow 40 = .ok (.invokevirtual 128, 3) := by decide +kernel
theorem dX10_dropRow_43 : decode cX10_dropRow 43 = .ok (.invokestatic 131, 3) := by decide +kernel
theorem dX10_dropRow_46 : decode cX10_dropRow 46 = .ok (.ireturn, 1) := by decide +kernel
theorem dX10_setCost_0 : decode cX10_setCost 0 = .ok (.aload_n 0, 1) := by decide +kernel
theorem dX10_setCost_1 : decode cX10_setCost 1 = .ok (.getfield 10, 3) := by decide +kernel
theorem dX10_setCost_4 : decode cX10_setCost 4 = .ok (.iload_n 1, 1) := by decide +kernel
theorem dX10_setCost_5 : decode cX10_setCost 5 = .ok (.invokevirtual 119, 3) := by decide +kernel
theorem dX10_setCost_8 : decode cX10_setCost 8 = .ok (.ifCond .ne 5, 3) := by decide +kernel
theorem dX10_setCost_11 : decode cX10_setCost 11 = .ok (.iconst (-1), 1) := by decide +kernel
theorem dX10_setCost_12 : decode cX10_setCost 12 = .ok (.ireturn, 1) := by decide +kernel
theorem dX10_setCost_13 : decode cX10_setCost 13 = .ok (.iload_n 2, 1) := by decide +kernel
theorem dX10_setCost_14 : decode cX10_setCost 14 = .ok (.ifCond .lt 10, 3) := by decide +kernel
theorem dX10_setCost_17 : decode cX10_setCost 17 = .ok (.iload_n 2, 1) := by decide +kernel
theorem dX10_setCost_18 : decode cX10_setCost 18 = .ok (.sipush 999, 3) := by decide +kernel
theorem dX10_setCost_21 : decode cX10_setCost 21 = .ok (.if_icmp .le 6, 3) := by decide +kernel
theorem dX10_setCost_24 : decode cX10_setCost 24 = .ok (.bipush (-2), 2) := by decide +kernel
theorem dX10_setCost_26 : decode cX10_setCost 26 = .ok (.ireturn, 1) := by decide +kernel
theorem dX10_setCost_27 : decode cX10_setCost 27 = .ok (.aload_n 0, 1) := by decide +kernel
theorem dX10_setCost_28 : decode cX10_setCost 28 = .ok (.getfield 10, 3) := by decide +kernel
theorem dX10_setCost_31 : decode cX10_setCost 31 = .ok (.iload_n 1, 1) := by decide +kernel
theorem dX10_setCost_32 : decode cX10_setCost 32 = .ok (.invokevirtual 136, 3) := by decide +kernel
theorem dX10_setCost_35 : decode cX10_setCost 35 = .ok (.istore_n 3, 1) := by decide +kernel
theorem dX10_setCost_36 : decode cX10_setCost 36 = .ok (.aload_n 0, 1) := by decide +kernel
theorem dX10_setCost_37 : decode cX10_setCost 37 = .ok (.getfield 22, 3) := by decide +kernel
theorem dX10_setCost_40 : decode cX10_setCost 40 = .ok (.aload_n 0, 1) := by decide +kernel
theorem dX10_setCost_41 : decode cX10_setCost 41 = .ok (.getfield 10, 3) := by decide +kernel
theorem dX10_setCost_44 : decode cX10_setCost 44 = .ok (.invokevirtual 83, 3) := by decide +kernel
theorem dX10_setCost_47 : decode cX10_setCost 47 = .ok (.aload_n 0, 1) := by decide +kernel
theorem dX10_setCost_48 : decode cX10_setCost 48 = .ok (.getfield 10, 3) := by decide +kernel
theorem dX10_setCost_51 : decode cX10_setCost 51 = .ok (.iload_n 1, 1) := by decide +kernel
theorem dX10_setCost_52 : decode cX10_setCost 52 = .ok (.iload_n 2, 1) := by decide +kernel
theorem dX10_setCost_53 : decode cX10_setCost 53 = .ok (.invokevirtual 139, 3) := by decide +kernel
theorem dX10_setCost_56 : decode cX10_setCost 56 = .ok (.iload_n 3, 1) := by decide +kernel
theorem dX10_setCost_57 : decode cX10_setCost 57 = .ok (.ireturn, 1) := by decide +kernel
theorem dX10_setTrust_0 : decode cX10_setTrust 0 = .ok (.aload_n 0, 1) := by decide +kernel
theorem dX10_setTrust_1 : decode cX10_setTrust 1 = .ok (.getfield 10, 3) := by decide +kernel
theorem dX10_setTrust_4 : decode cX10_setTrust 4 = .ok (.iload_n 1, 1) := by decide +kernel
theorem dX10_setTrust_5 : decode cX10_setTrust 5 = .ok (.invokevirtual 119, 3) := by decide +kernel
theorem dX10_setTrust_8 : decode cX10_setTrust 8 = .ok (.ifCond .ne 5, 3) := by decide +kernel
theorem dX10_setTrust_11 : decode cX10_setTrust 11 = .ok (.iconst (-1), 1) := by decide +kernel
theorem dX10_setTrust_12 : decode cX10_setTrust 12 = .ok (.ireturn, 1) := by decide +kernel
theorem dX10_setTrust_13 : decode cX10_setTrust 13 = .ok (.iload_n 2, 1) := by decide +kernel
theorem dX10_setTrust_14 : decode cX10_setTrust 14 = .ok (.ifCond .lt 9, 3) := by decide +kernel
theorem dX10_setTrust_17 : decode cX10_setTrust 17 = .ok (.iload_n 2, 1) := by decide +kernel
theorem dX10_setTrust_18 : decode cX10_setTrust 18 = .ok (.bipush 100, 2) := by decide +kernel
theorem dX10_setTrust_20 : decode cX10_setTrust 20 = .ok (.if_icmp .le 6, 3) := by decide +kernel
theorem dX10_setTrust_23 : decode cX10_setTrust 23 = .ok (.bipush (-2), 2) := by decide +kernel
theorem dX10_setTrust_25 : decode cX10_setTrust 25 = .ok (.ireturn, 1) := by decide +kernel
theorem dX10_setTrust_26 : decode cX10_setTrust 26 = .ok (.aload_n 0, 1) := by decide +kernel
theorem dX10_setTrust_27 : decode cX10_setTrust 27 = .ok (.getfield 10, 3) := by decide +kernel
theorem dX10_setTrust_30 : decode cX10_setTrust 30 = .ok (.iload_n 1, 1) := by decide +kernel
theorem dX10_setTrust_31 : decode cX10_setTrust 31 = .ok (.invokevirtual 142, 3) := by decide +kernel
theorem dX10_setTrust_34 : decode cX10_setTrust 34 = .ok (.istore_n 3, 1) := by decide +kernel
theorem dX10_setTrust_35 : decode cX10_setTrust 35 = .ok (.aload_n 0, 1) := by decide +kernel
theorem dX10_setTrust_36 : decode cX10_setTrust 36 = .ok (.getfield 22, 3) := by decide +kernel
theorem dX10_setTrust_39 : decode cX10_setTrust 39 = .ok (.aload_n 0, 1) := by decide +kernel
theorem dX10_setTrust_40 : decode cX10_setTrust 40 = .ok (.getfield 10, 3) := by decide +kernel
theorem dX10_setTrust_43 : decode cX10_setTrust 43 = .ok (.invokevirtual 83, 3) := by decide +kernel
theorem dX10_setTrust_46 : decode cX10_setTrust 46 = .ok (.aload_n 0, 1) := by decide +kernel
theorem dX10_setTrust_47 : decode cX10_setTrust 47 = .ok (.getfield 10, 3) := by decide +kernel
theorem dX10_setTrust_50 : decode cX10_setTrust 50 = .ok (.iload_n 1, 1) := by decide +kernel
theorem dX10_setTrust_51 : decode cX10_setTrust 51 = .ok (.iload_n 2, 1) := by decide +kernel
theorem dX10_setTrust_52 : decode cX10_setTrust 52 = .ok (.invokevirtual 145, 3) := by decide +kernel
theorem dX10_setTrust_55 : decode cX10_setTrust 55 = .ok (.iload_n 3, 1) := by decide +kernel
theorem dX10_setTrust_56 : decode cX10_setTrust 56 = .ok (.ireturn, 1) := by decide +kernel
theorem dX10_setWithdrawn_0 : decode cX10_setWithdrawn 0 = .ok (.aload_n 0, 1) := by decide +kernel
theorem dX10_setWithdrawn_1 : decode cX10_setWithdrawn 1 = .ok (.getfield 10, 3) := by decide +kernel
theorem dX10_setWithdrawn_4 : decode cX10_setWithdrawn 4 = .ok (.iload_n 1, 1) := by decide +kernel
theorem dX10_setWithdrawn_5 : decode cX10_setWithdrawn 5 = .ok (.invokevirtual 119, 3) := by decide +kernel
theorem dX10_setWithdrawn_8 : decode cX10_setWithdrawn 8 = .ok (.ifCond .ne 5, 3) := by decide +kernel
theorem dX10_setWithdrawn_11 : decode cX10_setWithdrawn 11 = .ok (.iconst (-1), 1) := by decide +kernel
theorem dX10_setWithdrawn_12 : decode cX10_setWithdrawn 12 = .ok (.ireturn, 1) := by decide +kernel
theorem dX10_setWithdrawn_13 : decode cX10_setWithdrawn 13 = .ok (.aload_n 0, 1) := by decide +kernel
theorem dX10_setWithdrawn_14 : decode cX10_setWithdrawn 14 = .ok (.getfield 22, 3) := by decide +kernel
theorem dX10_setWithdrawn_17 : decode cX10_setWithdrawn 17 = .ok (.aload_n 0, 1) := by decide +kernel
theorem dX10_setWithdrawn_18 : decode cX10_setWithdrawn 18 = .ok (.getfield 10, 3) := by decide +kernel
theorem dX10_setWithdrawn_21 : decode cX10_setWithdrawn 21 = .ok (.invokevirtual 83, 3) := by decide +kernel
theorem dX10_setWithdrawn_24 : decode cX10_setWithdrawn 24 = .ok (.aload_n 0, 1) := by decide +kernel
theorem dX10_setWithdrawn_25 : decode cX10_setWithdrawn 25 = .ok (.getfield 10, 3) := by decide +kernel
theorem dX10_setWithdrawn_28 : decode cX10_setWithdrawn 28 = .ok (.iload_n 1, 1) := by decide +kernel
theorem dX10_setWithdrawn_29 : decode cX10_setWithdrawn 29 = .ok (.iload_n 2, 1) := by decide +kernel
theorem dX10_setWithdrawn_30 : decode cX10_setWithdrawn 30 = .ok (.invokevirtual 148, 3) := by decide +kernel
theorem dX10_setWithdrawn_33 : decode cX10_setWithdrawn 33 = .ok (.aload_n 0, 1) := by decide +kernel
theorem dX10_setWithdrawn_34 : decode cX10_setWithdrawn 34 = .ok (.invokevirtual 152, 3) := by decide +kernel
theorem dX10_setWithdrawn_37 : decode cX10_setWithdrawn 37 = .ok (.ireturn, 1) := by decide +kernel
theorem dX10_setQuery_0 : decode cX10_setQuery 0 = .ok (.aload_n 0, 1) := by decide +kernel
theorem dX10_setQuery_1 : decode cX10_setQuery 1 = .ok (.getfield 41, 3) := by decide +kernel
theorem dX10_setQuery_4 : decode cX10_setQuery 4 = .ok (.aload_n 0, 1) := by decide +kernel
theorem dX10_setQuery_5 : decode cX10_setQuery 5 = .ok (.getfield 31, 3) := by decide +kernel
theorem dX10_setQuery_8 : decode cX10_setQuery 8 = .ok (.invokevirtual 155, 3) := by decide +kernel
theorem dX10_setQuery_11 : decode cX10_setQuery 11 = .ok (.ifCond .ne 6, 3) := by decide +kernel
theorem dX10_setQuery_14 : decode cX10_setQuery 14 = .ok (.bipush (-3), 2) := by decide +kernel
theorem dX10_setQuery_16 : decode cX10_setQuery 16 = .ok (.ireturn, 1) := by decide +kernel
theorem dX10_setQuery_17 : decode cX10_setQuery 17 = .ok (.aload_n 0, 1) := by decide +kernel
theorem dX10_setQuery_18 : decode cX10_setQuery 18 = .ok (.getfield 41, 3) := by decide +kernel
theorem dX10_setQuery_21 : decode cX10_setQuery 21 = .ok (.aload_n 0, 1) := by decide +kernel
theorem dX10_setQuery_22 : decode cX10_setQuery 22 = .ok (.getfield 10, 3) := by decide +kernel
theorem dX10_setQuery_25 : decode cX10_setQuery 25 = .ok (.invokevirtual 159, 3) := by decide +kernel
theorem dX10_setQuery_28 : decode cX10_setQuery 28 = .ok (.ifCond .ne 6, 3) := by decide +kernel
theorem dX10_setQuery_31 : decode cX10_setQuery 31 = .ok (.bipush (-5), 2) := by decide +kernel
theorem dX10_setQuery_33 : decode cX10_setQuery 33 = .ok (.ireturn, 1) := by decide +kernel
theorem dX10_setQuery_34 : decode cX10_setQuery 34 = .ok (.aload_n 0, 1) := by decide +kernel
theorem dX10_setQuery_35 : decode cX10_setQuery 35 = .ok (.getfield 51, 3) := by decide +kernel
theorem dX10_setQuery_38 : decode cX10_setQuery 38 = .ok (.aload_n 0, 1) := by decide +kernel
theorem dX10_setQuery_39 : decode cX10_setQuery 39 = .ok (.getfield 41, 3) := by decide +kernel
theorem dX10_setQuery_42 : decode cX10_setQuery 42 = .ok (.aload_n 0, 1) := by decide +kernel
theorem dX10_setQuery_43 : decode cX10_setQuery 43 = .ok (.getfield 10, 3) := by decide +kernel
theorem dX10_setQuery_46 : decode cX10_setQuery 46 = .ok (.invokevirtual 112, 3) := by decide +kernel
theorem dX10_setQuery_49 : decode cX10_setQuery 49 = .ok (.ifCond .ne 6, 3) := by decide +kernel
theorem dX10_setQuery_52 : decode cX10_setQuery 52 = .ok (.bipush (-4), 2) := by decide +kernel
theorem dX10_setQuery_54 : decode cX10_setQuery 54 = .ok (.ireturn, 1) := by decide +kernel
theorem dX10_setQuery_55 : decode cX10_setQuery 55 = .ok (.aload_n 0, 1) := by decide +kernel
theorem dX10_setQuery_56 : decode cX10_setQuery 56 = .ok (.getfield 22, 3) := by decide +kernel
theorem dX10_setQuery_59 : decode cX10_setQuery 59 = .ok (.aload_n 0, 1) := by decide +kernel
theorem dX10_setQuery_60 : decode cX10_setQuery 60 = .ok (.getfield 10, 3) := by decide +kernel
theorem dX10_setQuery_63 : decode cX10_setQuery 63 = .ok (.invokevirtual 83, 3) := by decide +kernel
theorem dX10_setQuery_66 : decode cX10_setQuery 66 = .ok (.aload_n 0, 1) := by decide +kernel
theorem dX10_setQuery_67 : decode cX10_setQuery 67 = .ok (.getfield 10, 3) := by decide +kernel
theorem dX10_setQuery_70 : decode cX10_setQuery 70 = .ok (.invokevirtual 163, 3) := by decide +kernel
theorem dX10_setQuery_73 : decode cX10_setQuery 73 = .ok (.aload_n 0, 1) := by decide +kernel
theorem dX10_setQuery_74 : decode cX10_setQuery 74 = .ok (.getfield 31, 3) := by decide +kernel
theorem dX10_setQuery_77 : decode cX10_setQuery 77 = .ok (.invokevirtual 167, 3) := by decide +kernel
theorem dX10_setQuery_80 : decode cX10_setQuery 80 = .ok (.aload_n 0, 1) := by decide +kernel
theorem dX10_setQuery_81 : decode cX10_setQuery 81 = .ok (.getfield 45, 3) := by decide +kernel
theorem dX10_setQuery_84 : decode cX10_setQuery 84 = .ok (.aload_n 0, 1) := by decide +kernel
theorem dX10_setQuery_85 : decode cX10_setQuery 85 = .ok (.getfield 10, 3) := by decide +kernel
theorem dX10_setQuery_88 : decode cX10_setQuery 88 = .ok (.invokevirtual 163, 3) := by decide +kernel
theorem dX10_setQuery_91 : decode cX10_setQuery 91 = .ok (.invokevirtual 155, 3) := by decide +kernel
theorem dX10_setQuery_94 : decode cX10_setQuery 94 = .ok (.pop, 1) := by decide +kernel
theorem dX10_setQuery_95 : decode cX10_setQuery 95 = .ok (.aload_n 0, 1) := by decide +kernel
theorem dX10_setQuery_96 : decode cX10_setQuery 96 = .ok (.getfield 51, 3) := by decide +kernel
theorem dX10_setQuery_99 : decode cX10_setQuery 99 = .ok (.invokevirtual 116, 3) := by decide +kernel
theorem dX10_setQuery_102 : decode cX10_setQuery 102 = .ok (.aload_n 0, 1) := by decide +kernel
theorem dX10_setQuery_103 : decode cX10_setQuery 103 = .ok (.invokevirtual 170, 3) := by decide +kernel
theorem dX10_setQuery_106 : decode cX10_setQuery 106 = .ok (.ireturn, 1) := by decide +kernel
theorem dX10_dropQuery_0 : decode cX10_dropQuery 0 = .ok (.aload_n 0, 1) := by decide +kernel
theorem dX10_dropQuery_1 : decode cX10_dropQuery 1 = .ok (.getfield 10, 3) := by decide +kernel
theorem dX10_dropQuery_4 : decode cX10_dropQuery 4 = .ok (.invokevirtual 163, 3) := by decide +kernel
theorem dX10_dropQuery_7 : decode cX10_dropQuery 7 = .ok (.invokevirtual 173, 3) := by decide +kernel
theorem dX10_dropQuery_10 : decode cX10_dropQuery 10 = .ok (.ifCond .ne 6, 3) := by decide +kernel
theorem dX10_dropQuery_13 : decode cX10_dropQuery 13 = .ok (.bipush (-5), 2) := by decide +kernel
theorem dX10_dropQuery_15 : decode cX10_dropQuery 15 = .ok (.ireturn, 1) := by decide +kernel
theorem dX10_dropQuery_16 : decode cX10_dropQuery 16 = .ok (.aload_n 0, 1) := by decide +kernel
theorem dX10_dropQuery_17 : decode cX10_dropQuery 17 = .ok (.invokevirtual 170, 3) := by decide +kernel
theorem dX10_dropQuery_20 : decode cX10_dropQuery 20 = .ok (.istore_n 1, 1) := by decide +kernel
theorem dX10_dropQuery_21 : decode cX10_dropQuery 21 = .ok (.aload_n 0, 1) := by decide +kernel
theorem dX10_dropQuery_22 : decode cX10_dropQuery 22 = .ok (.getfield 22, 3) := by decide +kernel
theorem dX10_dropQuery_25 : decode cX10_dropQuery 25 = .ok (.aload_n 0, 1) := by decide +kernel
theorem dX10_dropQuery_26 : decode cX10_dropQuery 26 = .ok (.getfield 10, 3) := by decide +kernel
theorem dX10_dropQuery_29 : decode cX10_dropQuery 29 = .ok (.invokevirtual 83, 3) := by decide +kernel
theorem dX10_dropQuery_32 : decode cX10_dropQuery 32 = .ok (.aload_n 0, 1) := by decide +kernel
theorem dX10_dropQuery_33 : decode cX10_dropQuery 33 = .ok (.getfield 10, 3) := by decide +kernel
theorem dX10_dropQuery_36 : decode cX10_dropQuery 36 = .ok (.invokevirtual 163, 3) := by decide +kernel
theorem dX10_dropQuery_39 : decode cX10_dropQuery 39 = .ok (.invokevirtual 176, 3) := by decide +kernel
theorem dX10_dropQuery_42 : decode cX10_dropQuery 42 = .ok (.aload_n 0, 1) := by decide +kernel
theorem dX10_dropQuery_43 : decode cX10_dropQuery 43 = .ok (.getfield 45, 3) := by decide +kernel
theorem dX10_dropQuery_46 : decode cX10_dropQuery 46 = .ok (.aload_n 0, 1) := by decide +kernel
theorem dX10_dropQuery_47 : decode cX10_dropQuery 47 = .ok (.getfield 10, 3) := by decide +kernel
theorem dX10_dropQuery_50 : decode cX10_dropQuery 50 = .ok (.invokevirtual 163, 3) := by decide +kernel
theorem dX10_dropQuery_53 : decode cX10_dropQuery 53 = .ok (.invokevirtual 155, 3) := by decide +kernel
theorem dX10_dropQuery_56 : decode cX10_dropQuery 56 = .ok (.pop, 1) := by decide +kernel
theorem dX10_dropQuery_57 : decode cX10_dropQuery 57 = .ok (.aload_n 0, 1) := by decide +kernel
theorem dX10_dropQuery_58 : decode cX10_dropQuery 58 = .ok (.invokevirtual 125, 3) := by decide +kernel
theorem dX10_dropQuery_61 : decode cX10_dropQuery 61 = .ok (.iload_n 1, 1) := by decide +kernel
theorem dX10_dropQuery_62 : decode cX10_dropQuery 62 = .ok (.ireturn, 1) := by decide +kernel
theorem dX10_append_0 : decode cX10_append 0 = .ok (.iload_n 1, 1) := by decide +kernel
theorem dX10_append_1 : decode cX10_append 1 = .ok (.bipush 32, 2) := by decide +kernel
theorem dX10_append_3 : decode cX10_append 3 = .ok (.if_icmp .lt 9, 3) := by decide +kernel
theorem dX10_append_6 : decode cX10_append 6 = .ok (.iload_n 1, 1) := by decide +kernel
theorem dX10_append_7 : decode cX10_append 7 = .ok (.bipush 126, 2) := by decide +kernel
theorem dX10_append_9 : decode cX10_append 9 = .ok (.if_icmp .le 6, 3) := by decide +kernel
theorem dX10_append_12 : decode cX10_append 12 = .ok (.bipush (-2), 2) := by decide +kernel
theorem dX10_append_14 : decode cX10_append 14 = .ok (.ireturn, 1) := by decide +kernel
theorem dX10_append_15 : decode cX10_append 15 = .ok (.aload_n 0, 1) := by decide +kernel
theorem dX10_append_16 : decode cX10_append 16 = .ok (.getfield 31, 3) := by decide +kernel
theorem dX10_append_19 : decode cX10_append 19 = .ok (.iload_n 1, 1) := by decide +kernel
theorem dX10_append_20 : decode cX10_append 20 = .ok (.i2c, 1) := by decide +kernel
theorem dX10_append_21 : decode cX10_append 21 = .ok (.invokevirtual 179, 3) := by decide +kernel
theorem dX10_append_24 : decode cX10_append 24 = .ok (.ifCond .ne 6, 3) := by decide +kernel
theorem dX10_append_27 : decode cX10_append 27 = .ok (.bipush (-4), 2) := by decide +kernel
theorem dX10_append_29 : decode cX10_append 29 = .ok (.ireturn, 1) := by decide +kernel
theorem dX10_append_30 : decode cX10_append 30 = .ok (.aload_n 0, 1) := by decide +kernel
theorem dX10_append_31 : decode cX10_append 31 = .ok (.getfield 31, 3) := by decide +kernel
theorem dX10_append_34 : decode cX10_append 34 = .ok (.invokevirtual 173, 3) := by decide +kernel
theorem dX10_append_37 : decode cX10_append 37 = .ok (.ireturn, 1) := by decide +kernel
theorem dX10_clearText_0 : decode cX10_clearText 0 = .ok (.aload_n 0, 1) := by decide +kernel
theorem dX10_clearText_1 : decode cX10_clearText 1 = .ok (.getfield 31, 3) := by decide +kernel
theorem dX10_clearText_4 : decode cX10_clearText 4 = .ok (.invokevirtual 173, 3) := by decide +kernel
theorem dX10_clearText_7 : decode cX10_clearText 7 = .ok (.istore_n 1, 1) := by decide +kernel
theorem dX10_clearText_8 : decode cX10_clearText 8 = .ok (.aload_n 0, 1) := by decide +kernel
theorem dX10_clearText_9 : decode cX10_clearText 9 = .ok (.getfield 31, 3) := by decide +kernel
theorem dX10_clearText_12 : decode cX10_clearText 12 = .ok (.invokevirtual 176, 3) := by decide +kernel
theorem dX10_clearText_15 : decode cX10_clearText 15 = .ok (.iload_n 1, 1) := by decide +kernel
theorem dX10_clearText_16 : decode cX10_clearText 16 = .ok (.ireturn, 1) := by decide +kernel
theorem dX10_fault_0 : decode cX10_fault 0 = .ok (.aload_n 0, 1) := by decide +kernel
theorem dX10_fault_1 : decode cX10_fault 1 = .ok (.getfield 41, 3) := by decide +kernel
theorem dX10_fault_4 : decode cX10_fault 4 = .ok (.aload_n 0, 1) := by decide +kernel
theorem dX10_fault_5 : decode cX10_fault 5 = .ok (.getfield 31, 3) := by decide +kernel
theorem dX10_fault_8 : decode cX10_fault 8 = .ok (.invokevirtual 155, 3) := by decide +kernel
theorem dX10_fault_11 : decode cX10_fault 11 = .ok (.ifCond .eq 8, 3) := by decide +kernel
theorem dX10_fault_14 : decode cX10_fault 14 = .ok (.bipush (-6), 2) := by decide +kernel
theorem dX10_fault_16 : decode cX10_fault 16 = .ok (.goto 10, 3) := by decide +kernel
theorem dX10_fault_19 : decode cX10_fault 19 = .ok (.aload_n 0, 1) := by decide +kernel
theorem dX10_fault_20 : decode cX10_fault 20 = .ok (.getfield 41, 3) := by decide +kernel
theorem dX10_fault_23 : decode cX10_fault 23 = .ok (.invokevirtual 183, 3) := by decide +kernel
theorem dX10_fault_26 : decode cX10_fault 26 = .ok (.ireturn, 1) := by decide +kernel
theorem dX10_undo_0 : decode cX10_undo 0 = .ok (.aload_n 0, 1) := by decide +kernel
theorem dX10_undo_1 : decode cX10_undo 1 = .ok (.getfield 22, 3) := by decide +kernel
theorem dX10_undo_4 : decode cX10_undo 4 = .ok (.invokevirtual 186, 3) := by decide +kernel
theorem dX10_undo_7 : decode cX10_undo 7 = .ok (.astore_n 1, 1) := by decide +kernel
theorem dX10_undo_8 : decode cX10_undo 8 = .ok (.aload_n 1, 1) := by decide +kernel
theorem dX10_undo_9 : decode cX10_undo 9 = .ok (.ifnonnull 6, 3) := by decide +kernel
theorem dX10_undo_12 : decode cX10_undo 12 = .ok (.bipush (-6), 2) := by decide +kernel
theorem dX10_undo_14 : decode cX10_undo 14 = .ok (.ireturn, 1) := by decide +kernel
theorem dX10_undo_15 : decode cX10_undo 15 = .ok (.aload_n 0, 1) := by decide +kernel
theorem dX10_undo_16 : decode cX10_undo 16 = .ok (.getfield 10, 3) := by decide +kernel
theorem dX10_undo_19 : decode cX10_undo 19 = .ok (.aload_n 1, 1) := by decide +kernel
theorem dX10_undo_20 : decode cX10_undo 20 = .ok (.invokevirtual 101, 3) := by decide +kernel
theorem dX10_undo_23 : decode cX10_undo 23 = .ok (.aload_n 0, 1) := by decide +kernel
theorem dX10_undo_24 : decode cX10_undo 24 = .ok (.getfield 45, 3) := by decide +kernel
theorem dX10_undo_27 : decode cX10_undo 27 = .ok (.aload_n 0, 1) := by decide +kernel
theorem dX10_undo_28 : decode cX10_undo 28 = .ok (.getfield 10, 3) := by decide +kernel
theorem dX10_undo_31 : decode cX10_undo 31 = .ok (.invokevirtual 163, 3) := by decide +kernel
theorem dX10_undo_34 : decode cX10_undo 34 = .ok (.invokevirtual 155, 3) := by decide +kernel
theorem dX10_undo_37 : decode cX10_undo 37 = .ok (.pop, 1) := by decide +kernel
theorem dX10_undo_38 : decode cX10_undo 38 = .ok (.aload_n 0, 1) := by decide +kernel
theorem dX10_undo_39 : decode cX10_undo 39 = .ok (.invokevirtual 125, 3) := by decide +kernel
theorem dX10_undo_42 : decode cX10_undo 42 = .ok (.aload_n 0, 1) := by decide +kernel
theorem dX10_undo_43 : decode cX10_undo 43 = .ok (.getfield 22, 3) := by decide +kernel
theorem dX10_undo_46 : decode cX10_undo 46 = .ok (.invokevirtual 190, 3) := by decide +kernel
theorem dX10_undo_49 : decode cX10_undo 49 = .ok (.ireturn, 1) := by decide +kernel
theorem dX10_columns_0 : decode cX10_columns 0 = .ok (.iload_n 1, 1) := by decide +kernel
theorem dX10_columns_1 : decode cX10_columns 1 = .ok (.invokestatic 69, 3) := by decide +kernel
theorem dX10_columns_4 : decode cX10_columns 4 = .ok (.ifCond .eq 14, 3) := by decide +kernel
theorem dX10_columns_7 : decode cX10_columns 7 = .ok (.aload_n 0, 1) := by decide +kernel
theorem dX10_columns_8 : decode cX10_columns 8 = .ok (.getfield 10, 3) := by decide +kernel
theorem dX10_columns_11 : decode cX10_columns 11 = .ok (.iload_n 1, 1) := by decide +kernel
theorem dX10_columns_12 : decode cX10_columns 12 = .ok (.invokevirtual 79, 3) := by decide +kernel
theorem dX10_columns_15 : decode cX10_columns 15 = .ok (.goto 4, 3) := by decide +kernel
theorem dX10_columns_18 : decode cX10_columns 18 = .ok (.iconst (-1), 1) := by decide +kernel
theorem dX10_columns_19 : decode cX10_columns 19 = .ok (.ireturn, 1) := by decide +kernel
theorem dX10_tags_0 : decode cX10_tags 0 = .ok (.aload_n 0, 1) := by decide +kernel
theorem dX10_tags_1 : decode cX10_tags 1 = .ok (.getfield 10, 3) := by decide +kernel
theorem dX10_tags_4 : decode cX10_tags 4 = .ok (.invokevirtual 128, 3) := by decide +kernel
theorem dX10_tags_7 : decode cX10_tags 7 = .ok (.ireturn, 1) := by decide +kernel
theorem dX10_withdrawn_0 : decode cX10_withdrawn 0 = .ok (.aload_n 0, 1) := by decide +kernel
theorem dX10_withdrawn_1 : decode cX10_withdrawn 1 = .ok (.getfield 10, 3) := by decide +kernel
theorem dX10_withdrawn_4 : decode cX10_withdrawn 4 = .ok (.invokevirtual 193, 3) := by decide +kernel
theorem dX10_withdrawn_7 : decode cX10_withdrawn 7 = .ok (.ireturn, 1) := by decide +kernel
theorem dX10_tableOf_0 : decode cX10_tableOf 0 = .ok (.aload_n 0, 1) := by decide +kernel
theorem dX10_tableOf_1 : decode cX10_tableOf 1 = .ok (.getfield 10, 3) := by decide +kernel
theorem dX10_tableOf_4 : decode cX10_tableOf 4 = .ok (.iload_n 1, 1) := by decide +kernel
theorem dX10_tableOf_5 : decode cX10_tableOf 5 = .ok (.invokevirtual 119, 3) := by decide +kernel
theorem dX10_tableOf_8 : decode cX10_tableOf 8 = .ok (.ifCond .eq 14, 3) := by decide +kernel
theorem dX10_tableOf_11 : decode cX10_tableOf 11 = .ok (.aload_n 0, 1) := by decide +kernel
theorem dX10_tableOf_12 : decode cX10_tableOf 12 = .ok (.getfield 10, 3) := by decide +kernel
theorem dX10_tableOf_15 : decode cX10_tableOf 15 = .ok (.iload_n 1, 1) := by decide +kernel
theorem dX10_tableOf_16 : decode cX10_tableOf 16 = .ok (.invokevirtual 196, 3) := by decide +kernel
theorem dX10_tableOf_19 : decode cX10_tableOf 19 = .ok (.goto 4, 3) := by decide +kernel
theorem dX10_tableOf_22 : decode cX10_tableOf 22 = .ok (.iconst (-1), 1) := by decide +kernel
theorem dX10_tableOf_23 : decode cX10_tableOf 23 = .ok (.ireturn, 1) := by decide +kernel
theorem dX10_value_0 : decode cX10_value 0 = .ok (.aload_n 0, 1) := by decide +kernel
theorem dX10_value_1 : decode cX10_value 1 = .ok (.getfield 10, 3) := by decide +kernel
theorem dX10_value_4 : decode cX10_value 4 = .ok (.iload_n 1, 1) := by decide +kernel
theorem dX10_value_5 : decode cX10_value 5 = .ok (.invokevirtual 119, 3) := by decide +kernel
theorem dX10_value_8 : decode cX10_value 8 = .ok (.ifCond .ne 5, 3) := by decide +kernel
theorem dX10_value_11 : decode cX10_value 11 = .ok (.iconst (-1), 1) := by decide +kernel
theorem dX10_value_12 : decode cX10_value 12 = .ok (.ireturn, 1) := by decide +kernel
theorem dX10_value_13 : decode cX10_value 13 = .ok (.aload_n 0, 1) := by decide +kernel
theorem dX10_value_14 : decode cX10_value 14 = .ok (.getfield 10, 3) := by decide +kernel
theorem dX10_value_17 : decode cX10_value 17 = .ok (.aload_n 0, 1) := by decide +kernel
theorem dX10_value_18 : decode cX10_value 18 = .ok (.getfield 10, 3) := by decide +kernel
theorem dX10_value_21 : decode cX10_value 21 = .ok (.iload_n 1, 1) := by decide +kernel
theorem dX10_value_22 : decode cX10_value 22 = .ok (.invokevirtual 196, 3) := by decide +kernel
theorem dX10_value_25 : decode cX10_value 25 = .ok (.invokevirtual 79, 3) := by decide +kernel
theorem dX10_value_28 : decode cX10_value 28 = .ok (.istore_n 3, 1) := by decide +kernel
theorem dX10_value_29 : decode cX10_value 29 = .ok (.iload_n 2, 1) := by decide +kernel
theorem dX10_value_30 : decode cX10_value 30 = .ok (.ifCond .lt 8, 3) := by decide +kernel
theorem dX10_value_33 : decode cX10_value 33 = .ok (.iload_n 2, 1) := by decide +kernel
theorem dX10_value_34 : decode cX10_value 34 = .ok (.iload_n 3, 1) := by decide +kernel
theorem dX10_value_35 : decode cX10_value 35 = .ok (.if_icmp .lt 5, 3) := by decide +kernel
theorem dX10_value_38 : decode cX10_value 38 = .ok (.iconst (-1), 1) := by decide +kernel
theorem dX10_value_39 : decode cX10_value 39 = .ok (.ireturn, 1) := by decide +kernel
theorem dX10_value_40 : decode cX10_value 40 = .ok (.aload_n 0, 1) := by decide +kernel
theorem dX10_value_41 : decode cX10_value 41 = .ok (.getfield 10, 3) := by decide +kernel
theorem dX10_value_44 : decode cX10_value 44 = .ok (.iload_n 1, 1) := by decide +kernel
theorem dX10_value_45 : decode cX10_value 45 = .ok (.invokevirtual 199, 3) := by decide +kernel
theorem dX10_value_48 : decode cX10_value 48 = .ok (.iload_n 3, 1) := by decide +kernel
theorem dX10_value_49 : decode cX10_value 49 = .ok (.iload_n 2, 1) := by decide +kernel
theorem dX10_value_50 : decode cX10_value 50 = .ok (.invokestatic 202, 3) := by decide +kernel
theorem dX10_value_53 : decode cX10_value 53 = .ok (.ireturn, 1) := by decide +kernel
theorem dX10_cost_0 : decode cX10_cost 0 = .ok (.aload_n 0, 1) := by decide +kernel
theorem dX10_cost_1 : decode cX10_cost 1 = .ok (.getfield 10, 3) := by decide +kernel
theorem dX10_cost_4 : decode cX10_cost 4 = .ok (.iload_n 1, 1) := by decide +kernel
theorem dX10_cost_5 : decode cX10_cost 5 = .ok (.invokevirtual 119, 3) := by decide +kernel
theorem dX10_cost_8 : decode cX10_cost 8 = .ok (.ifCond .eq 14, 3) := by decide +kernel
theorem dX10_cost_11 : decode cX10_cost 11 = .ok (.aload_n 0, 1) := by decide +kernel
theorem dX10_cost_12 : decode cX10_cost 12 = .ok (.getfield 10, 3) := by decide +kernel
theorem dX10_cost_15 : decode cX10_cost 15 = .ok (.iload_n 1, 1) := by decide +kernel
theorem dX10_cost_16 : decode cX10_cost 16 = .ok (.invokevirtual 136, 3) := by decide +kernel
theorem dX10_cost_19 : decode cX10_cost 19 = .ok (.goto 4, 3) := by decide +kernel
theorem dX10_cost_22 : decode cX10_cost 22 = .ok (.iconst (-1), 1) := by decide +kernel
theorem dX10_cost_23 : decode cX10_cost 23 = .ok (.ireturn, 1) := by decide +kernel
theorem dX10_trust_0 : decode cX10_trust 0 = .ok (.aload_n 0, 1) := by decide +kernel
theorem dX10_trust_1 : decode cX10_trust 1 = .ok (.getfield 10, 3) := by decide +kernel
theorem dX10_trust_4 : decode cX10_trust 4 = .ok (.iload_n 1, 1) := by decide +kernel
theorem dX10_trust_5 : decode cX10_trust 5 = .ok (.invokevirtual 119, 3) := by decide +kernel
theorem dX10_trust_8 : decode cX10_trust 8 = .ok (.ifCond .eq 14, 3) := by decide +kernel
theorem dX10_trust_11 : decode cX10_trust 11 = .ok (.aload_n 0, 1) := by decide +kernel
theorem dX10_trust_12 : decode cX10_trust 12 = .ok (.getfield 10, 3) := by decide +kernel
theorem dX10_trust_15 : decode cX10_trust 15 = .ok (.iload_n 1, 1) := by decide +kernel
theorem dX10_trust_16 : decode cX10_trust 16 = .ok (.invokevirtual 142, 3) := by decide +kernel
theorem dX10_trust_19 : decode cX10_trust 19 = .ok (.goto 4, 3) := by decide +kernel
theorem dX10_trust_22 : decode cX10_trust 22 = .ok (.iconst (-1), 1) := by decide +kernel
theorem dX10_trust_23 : decode cX10_trust 23 = .ok (.ireturn, 1) := by decide +kernel
theorem dX10_queryLength_0 : decode cX10_queryLength 0 = .ok (.aload_n 0, 1) := by decide +kernel
theorem dX10_queryLength_1 : decode cX10_queryLength 1 = .ok (.getfield 10, 3) := by decide +kernel
theorem dX10_queryLength_4 : decode cX10_queryLength 4 = .ok (.invokevirtual 163, 3) := by decide +kernel
theorem dX10_queryLength_7 : decode cX10_queryLength 7 = .ok (.invokevirtual 173, 3) := by decide +kernel
theorem dX10_queryLength_10 : decode cX10_queryLength 10 = .ok (.ireturn, 1) := by decide +kernel
theorem dX10_queryAt_0 : decode cX10_queryAt 0 = .ok (.aload_n 0, 1) := by decide +kernel
theorem dX10_queryAt_1 : decode cX10_queryAt 1 = .ok (.getfield 10, 3) := by decide +kernel
theorem dX10_queryAt_4 : decode cX10_queryAt 4 = .ok (.invokevirtual 163, 3) := by decide +kernel
theorem dX10_queryAt_7 : decode cX10_queryAt 7 = .ok (.iload_n 1, 1) := by decide +kernel
theorem dX10_queryAt_8 : decode cX10_queryAt 8 = .ok (.invokevirtual 206, 3) := by decide +kernel
theorem dX10_queryAt_11 : decode cX10_queryAt 11 = .ok (.ireturn, 1) := by decide +kernel
theorem dX10_answerRows_0 : decode cX10_answerRows 0 = .ok (.aload_n 0, 1) := by decide +kernel
theorem dX10_answerRows_1 : decode cX10_answerRows 1 = .ok (.getfield 51, 3) := by decide +kernel
theorem dX10_answerRows_4 : decode cX10_answerRows 4 = .ok (.invokevirtual 209, 3) := by decide +kernel
theorem dX10_answerRows_7 : decode cX10_answerRows 7 = .ok (.invokevirtual 213, 3) := by decide +kernel
theorem dX10_answerRows_10 : decode cX10_answerRows 10 = .ok (.ireturn, 1) := by decide +kernel
theorem dX10_answerColumns_0 : decode cX10_answerColumns 0 = .ok (.aload_n 0, 1) := by decide +kernel
theorem dX10_answerColumns_1 : decode cX10_answerColumns 1 = .ok (.getfield 51, 3) := by decide +kernel
theorem dX10_answerColumns_4 : decode cX10_answerColumns 4 = .ok (.invokevirtual 209, 3) := by decide +kernel
theorem dX10_answerColumns_7 : decode cX10_answerColumns 7 = .ok (.invokevirtual 216, 3) := by decide +kernel
theorem dX10_answerColumns_10 : decode cX10_answerColumns 10 = .ok (.ireturn, 1) := by decide +kernel
theorem dX10_answerValue_0 : decode cX10_answerValue 0 = .ok (.aload_n 0, 1) := by decide +kernel
theorem dX10_answerValue_1 : decode cX10_answerValue 1 = .ok (.getfield 51, 3) := by decide +kernel
theorem dX10_answerValue_4 : decode cX10_answerValue 4 = .ok (.invokevirtual 209, 3) := by decide +kernel
theorem dX10_answerValue_7 : decode cX10_answerValue 7 = .ok (.astore_n 3, 1) := by decide +kernel
theorem dX10_answerValue_8 : decode cX10_answerValue 8 = .ok (.aload_n 3, 1) := by decide +kernel
theorem dX10_answerValue_9 : decode cX10_answerValue 9 = .ok (.iload_n 1, 1) := by decide +kernel
theorem dX10_answerValue_10 : decode cX10_answerValue 10 = .ok (.invokevirtual 219, 3) := by decide +kernel
theorem dX10_answerValue_13 : decode cX10_answerValue 13 = .ok (.ifCond .eq 15, 3) := by decide +kernel
theorem dX10_answerValue_16 : decode cX10_answerValue 16 = .ok (.iload_n 2, 1) := by decide +kernel
theorem dX10_answerValue_17 : decode cX10_answerValue 17 = .ok (.ifCond .lt 11, 3) := by decide +kernel
theorem dX10_answerValue_20 : decode cX10_answerValue 20 = .ok (.iload_n 2, 1) := by decide +kernel
theorem dX10_answerValue_21 : decode cX10_answerValue 21 = .ok (.aload_n 3, 1) := by decide +kernel
theorem dX10_answerValue_22 : decode cX10_answerValue 22 = .ok (.invokevirtual 216, 3) := by decide +kernel
theorem dX10_answerValue_25 : decode cX10_answerValue 25 = .ok (.if_icmp .lt 5, 3) := by decide +kernel
theorem dX10_answerValue_28 : decode cX10_answerValue 28 = .ok (.iconst (-1), 1) := by decide +kernel
theorem dX10_answerValue_29 : decode cX10_answerValue 29 = .ok (.ireturn, 1) := by decide +kernel
theorem dX10_answerValue_30 : decode cX10_answerValue 30 = .ok (.aload_n 3, 1) := by decide +kernel
theorem dX10_answerValue_31 : decode cX10_answerValue 31 = .ok (.iload_n 1, 1) := by decide +kernel
theorem dX10_answerValue_32 : decode cX10_answerValue 32 = .ok (.invokevirtual 222, 3) := by decide +kernel
theorem dX10_answerValue_35 : decode cX10_answerValue 35 = .ok (.aload_n 3, 1) := by decide +kernel
theorem dX10_answerValue_36 : decode cX10_answerValue 36 = .ok (.invokevirtual 216, 3) := by decide +kernel
theorem dX10_answerValue_39 : decode cX10_answerValue 39 = .ok (.iload_n 2, 1) := by decide +kernel
theorem dX10_answerValue_40 : decode cX10_answerValue 40 = .ok (.invokestatic 202, 3) := by decide +kernel
theorem dX10_answerValue_43 : decode cX10_answerValue 43 = .ok (.ireturn, 1) := by decide +kernel
theorem dX10_terms_0 : decode cX10_terms 0 = .ok (.aload_n 0, 1) := by decide +kernel
theorem dX10_terms_1 : decode cX10_terms 1 = .ok (.getfield 51, 3) := by decide +kernel
theorem dX10_terms_4 : decode cX10_terms 4 = .ok (.invokevirtual 209, 3) := by decide +kernel
theorem dX10_terms_7 : decode cX10_terms 7 = .ok (.iload_n 1, 1) := by decide +kernel
theorem dX10_terms_8 : decode cX10_terms 8 = .ok (.invokevirtual 225, 3) := by decide +kernel
theorem dX10_terms_11 : decode cX10_terms 11 = .ok (.astore_n 3, 1) := by decide +kernel
theorem dX10_terms_12 : decode cX10_terms 12 = .ok (.aload_n 3, 1) := by decide +kernel
theorem dX10_terms_13 : decode cX10_terms 13 = .ok (.ifnonnull 5, 3) := by decide +kernel
theorem dX10_terms_16 : decode cX10_terms 16 = .ok (.iconst (-1), 1) := by decide +kernel
theorem dX10_terms_17 : decode cX10_terms 17 = .ok (.ireturn, 1) := by decide +kernel
theorem dX10_terms_18 : decode cX10_terms 18 = .ok (.iload_n 2, 1) := by decide +kernel
theorem dX10_terms_19 : decode cX10_terms 19 = .ok (.invokestatic 229, 3) := by decide +kernel
theorem dX10_terms_22 : decode cX10_terms 22 = .ok (.ifCond .ne 6, 3) := by decide +kernel
theorem dX10_terms_25 : decode cX10_terms 25 = .ok (.bipush (-2), 2) := by decide +kernel
theorem dX10_terms_27 : decode cX10_terms 27 = .ok (.ireturn, 1) := by decide +kernel
theorem dX10_terms_28 : decode cX10_terms 28 = .ok (.aload_n 0, 1) := by decide +kernel
theorem dX10_terms_29 : decode cX10_terms 29 = .ok (.getfield 58, 3) := by decide +kernel
theorem dX10_terms_32 : decode cX10_terms 32 = .ok (.aload_n 3, 1) := by decide +kernel
theorem dX10_terms_33 : decode cX10_terms 33 = .ok (.iload_n 2, 1) := by decide +kernel
theorem dX10_terms_34 : decode cX10_terms 34 = .ok (.invokevirtual 232, 3) := by decide +kernel
theorem dX10_terms_37 : decode cX10_terms 37 = .ok (.aload_n 0, 1) := by decide +kernel
theorem dX10_terms_38 : decode cX10_terms 38 = .ok (.getfield 58, 3) := by decide +kernel
theorem dX10_terms_41 : decode cX10_terms 41 = .ok (.invokevirtual 236, 3) := by decide +kernel
theorem dX10_terms_44 : decode cX10_terms 44 = .ok (.ireturn, 1) := by decide +kernel
theorem dX10_coefficient_0 : decode cX10_coefficient 0 = .ok (.aload_n 0, 1) := by decide +kernel
theorem dX10_coefficient_1 : decode cX10_coefficient 1 = .ok (.getfield 51, 3) := by decide +kernel
theorem dX10_coefficient_4 : decode cX10_coefficient 4 = .ok (.invokevirtual 209, 3) := by decide +kernel
theorem dX10_coefficient_7 : decode cX10_coefficient 7 = .ok (.iload_n 1, 1) := by decide +kernel
theorem dX10_coefficient_8 : decode cX10_coefficient 8 = .ok (.invokevirtual 225, 3) := by decide +kernel
theorem dX10_coefficient_11 : decode cX10_coefficient 11 = .ok (.astore 4, 2) := by decide +kernel
theorem dX10_coefficient_13 : decode cX10_coefficient 13 = .ok (.aload 4, 2) := by decide +kernel
theorem dX10_coefficient_15 : decode cX10_coefficient 15 = .ok (.ifnonnull 7, 3) := by decide +kernel
theorem dX10_coefficient_18 : decode cX10_coefficient 18 = .ok (.ldc2_w 237, 3) := by decide +kernel
theorem dX10_coefficient_21 : decode cX10_coefficient 21 = .ok (.lreturn, 1) := by decide +kernel
theorem dX10_coefficient_22 : decode cX10_coefficient 22 = .ok (.iload_n 2, 1) := by decide +kernel
theorem dX10_coefficient_23 : decode cX10_coefficient 23 = .ok (.invokestatic 229, 3) := by decide +kernel
theorem dX10_coefficient_26 : decode cX10_coefficient 26 = .ok (.ifCond .ne 7, 3) := by decide +kernel
theorem dX10_coefficient_29 : decode cX10_coefficient 29 = .ok (.ldc2_w 239, 3) := by decide +kernel
theorem dX10_coefficient_32 : decode cX10_coefficient 32 = .ok (.lreturn, 1) := by decide +kernel
theorem dX10_coefficient_33 : decode cX10_coefficient 33 = .ok (.aload_n 0, 1) := by decide +kernel
theorem dX10_coefficient_34 : decode cX10_coefficient 34 = .ok (.getfield 58, 3) := by decide +kernel
theorem dX10_coefficient_37 : decode cX10_coefficient 37 = .ok (.aload 4, 2) := by decide +kernel
theorem dX10_coefficient_39 : decode cX10_coefficient 39 = .ok (.iload_n 2, 1) := by decide +kernel
theorem dX10_coefficient_40 : decode cX10_coefficient 40 = .ok (.invokevirtual 232, 3) := by decide +kernel
theorem dX10_coefficient_43 : decode cX10_coefficient 43 = .ok (.aload_n 0, 1) := by decide +kernel
theorem dX10_coefficient_44 : decode cX10_coefficient 44 = .ok (.getfield 58, 3) := by decide +kernel
theorem dX10_coefficient_47 : decode cX10_coefficient 47 = .ok (.iload_n 3, 1) := by decide +kernel
theorem dX10_coefficient_48 : decode cX10_coefficient 48 = .ok (.invokevirtual 241, 3) := by decide +kernel
theorem dX10_coefficient_51 : decode cX10_coefficient 51 = .ok (.ifCond .eq 14, 3) := by decide +kernel
theorem dX10_coefficient_54 : decode cX10_coefficient 54 = .ok (.aload_n 0, 1) := by decide +kernel
theorem dX10_coefficient_55 : decode cX10_coefficient 55 = .ok (.getfield 58, 3) := by decide +kernel
theorem dX10_coefficient_58 : decode cX10_coefficient 58 = .ok (.iload_n 3, 1) := by decide +kernel
theorem dX10_coefficient_59 : decode cX10_coefficient 59 = .ok (.invokevirtual 244, 3) := by decide +kernel
theorem dX10_coefficient_62 : decode cX10_coefficient 62 = .ok (.goto 6, 3) := by decide +kernel
theorem dX10_coefficient_65 : decode cX10_coefficient 65 = .ok (.ldc2_w 237, 3) := by decide +kernel
theorem dX10_coefficient_68 : decode cX10_coefficient 68 = .ok (.lreturn, 1) := by decide +kernel
theorem dX10_exponent_0 : decode cX10_exponent 0 = .ok (.aload_n 0, 1) := by decide +kernel
theorem dX10_exponent_1 : decode cX10_exponent 1 = .ok (.getfield 51, 3) := by decide +kernel
theorem dX10_exponent_4 : decode cX10_exponent 4 = .ok (.invokevirtual 209, 3) := by decide +kernel
theorem dX10_exponent_7 : decode cX10_exponent 7 = .ok (.iload_n 1, 1) := by decide +kernel
theorem dX10_exponent_8 : decode cX10_exponent 8 = .ok (.invokevirtual 225, 3) := by decide +kernel
theorem dX10_exponent_11 : decode cX10_exponent 11 = .ok (.astore 5, 2) := by decide +kernel
theorem dX10_exponent_13 : decode cX10_exponent 13 = .ok (.aload 5, 2) := by decide +kernel
theorem dX10_exponent_15 : decode cX10_exponent 15 = .ok (.ifnonnull 5, 3) := by decide +kernel
theorem dX10_exponent_18 : decode cX10_exponent 18 = .ok (.iconst (-1), 1) := by decide +kernel
theorem dX10_exponent_19 : decode cX10_exponent 19 = .ok (.ireturn, 1) := by decide +kernel
theorem dX10_exponent_20 : decode cX10_exponent 20 = .ok (.iload_n 2, 1) := by decide +kernel
theorem dX10_exponent_21 : decode cX10_exponent 21 = .ok (.invokestatic 229, 3) := by decide +kernel
theorem dX10_exponent_24 : decode cX10_exponent 24 = .ok (.ifCond .eq 15, 3) := by decide +kernel
theorem dX10_exponent_27 : decode cX10_exponent 27 = .ok (.iload 4, 2) := by decide +kernel
theorem dX10_exponent_29 : decode cX10_exponent 29 = .ok (.ifCond .lt 10, 3) := by decide +kernel
theorem dX10_exponent_32 : decode cX10_exponent 32 = .ok (.iload 4, 2) := by decide +kernel
theorem dX10_exponent_34 : decode cX10_exponent 34 = .ok (.bipush 16, 2) := by decide +kernel
theorem dX10_exponent_36 : decode cX10_exponent 36 = .ok (.if_icmp .lt 6, 3) := by decide +kernel
theorem dX10_exponent_39 : decode cX10_exponent 39 = .ok (.bipush (-2), 2) := by decide +kernel
theorem dX10_exponent_41 : decode cX10_exponent 41 = .ok (.ireturn, 1) := by decide +kernel
theorem dX10_exponent_42 : decode cX10_exponent 42 = .ok (.aload_n 0, 1) := by decide +kernel
theorem dX10_exponent_43 : decode cX10_exponent 43 = .ok (.getfield 58, 3) := by decide +kernel
theorem dX10_exponent_46 : decode cX10_exponent 46 = .ok (.aload 5, 2) := by decide +kernel
theorem dX10_exponent_48 : decode cX10_exponent 48 = .ok (.iload_n 2, 1) := by decide +kernel
theorem dX10_exponent_49 : decode cX10_exponent 49 = .ok (.invokevirtual 232, 3) := by decide +kernel
theorem dX10_exponent_52 : decode cX10_exponent 52 = .ok (.aload_n 0, 1) := by decide +kernel
theorem dX10_exponent_53 : decode cX10_exponent 53 = .ok (.getfield 58, 3) := by decide +kernel
theorem dX10_exponent_56 : decode cX10_exponent 56 = .ok (.iload_n 3, 1) := by decide +kernel
theorem dX10_exponent_57 : decode cX10_exponent 57 = .ok (.invokevirtual 241, 3) := by decide +kernel
theorem dX10_exponent_60 : decode cX10_exponent 60 = .ok (.ifCond .eq 19, 3) := by decide +kernel
theorem dX10_exponent_63 : decode cX10_exponent 63 = .ok (.aload_n 0, 1) := by decide +kernel
theorem dX10_exponent_64 : decode cX10_exponent 64 = .ok (.getfield 58, 3) := by decide +kernel
theorem dX10_exponent_67 : decode cX10_exponent 67 = .ok (.iload_n 3, 1) := by decide +kernel
theorem dX10_exponent_68 : decode cX10_exponent 68 = .ok (.invokevirtual 248, 3) := by decide +kernel
theorem dX10_exponent_71 : decode cX10_exponent 71 = .ok (.iload 4, 2) := by decide +kernel
theorem dX10_exponent_73 : decode cX10_exponent 73 = .ok (.invokestatic 251, 3) := by decide +kernel
theorem dX10_exponent_76 : decode cX10_exponent 76 = .ok (.goto 4, 3) := by decide +kernel
theorem dX10_exponent_79 : decode cX10_exponent 79 = .ok (.iconst (-1), 1) := by decide +kernel
theorem dX10_exponent_80 : decode cX10_exponent 80 = .ok (.ireturn, 1) := by decide +kernel
theorem dX10_lineage_0 : decode cX10_lineage 0 = .ok (.aload_n 0, 1) := by decide +kernel
theorem dX10_lineage_1 : decode cX10_lineage 1 = .ok (.getfield 51, 3) := by decide +kernel
theorem dX10_lineage_4 : decode cX10_lineage 4 = .ok (.invokevirtual 209, 3) := by decide +kernel
theorem dX10_lineage_7 : decode cX10_lineage 7 = .ok (.iload_n 1, 1) := by decide +kernel
theorem dX10_lineage_8 : decode cX10_lineage 8 = .ok (.invokevirtual 225, 3) := by decide +kernel
theorem dX10_lineage_11 : decode cX10_lineage 11 = .ok (.astore_n 2, 1) := by decide +kernel
theorem dX10_lineage_12 : decode cX10_lineage 12 = .ok (.aload_n 2, 1) := by decide +kernel
theorem dX10_lineage_13 : decode cX10_lineage 13 = .ok (.ifnonnull 7, 3) := by decide +kernel
theorem dX10_lineage_16 : decode cX10_lineage 16 = .ok (.iconst (-1), 1) := by decide +kernel
theorem dX10_lineage_17 : decode cX10_lineage 17 = .ok (.goto 7, 3) := by decide +kernel
theorem dX10_lineage_20 : decode cX10_lineage 20 = .ok (.aload_n 2, 1) := by decide +kernel
theorem dX10_lineage_21 : decode cX10_lineage 21 = .ok (.invokevirtual 257, 3) := by decide +kernel
theorem dX10_lineage_24 : decode cX10_lineage 24 = .ok (.ireturn, 1) := by decide +kernel
theorem dX10_derivations_0 : decode cX10_derivations 0 = .ok (.aload_n 0, 1) := by decide +kernel
theorem dX10_derivations_1 : decode cX10_derivations 1 = .ok (.iload_n 1, 1) := by decide +kernel
theorem dX10_derivations_2 : decode cX10_derivations 2 = .ok (.invokevirtual 260, 3) := by decide +kernel
theorem dX10_derivations_5 : decode cX10_derivations 5 = .ok (.ifCond .ne 7, 3) := by decide +kernel
theorem dX10_derivations_8 : decode cX10_derivations 8 = .ok (.ldc2_w 237, 3) := by decide +kernel
theorem dX10_derivations_11 : decode cX10_derivations 11 = .ok (.lreturn, 1) := by decide +kernel
theorem dX10_derivations_12 : decode cX10_derivations 12 = .ok (.lconst 0, 1) := by decide +kernel
theorem dX10_derivations_13 : decode cX10_derivations 13 = .ok (.lstore_n 2, 1) := by decide +kernel
theorem dX10_derivations_14 : decode cX10_derivations 14 = .ok (.iconst 0, 1) := by decide +kernel
theorem dX10_derivations_15 : decode cX10_derivations 15 = .ok (.istore 4, 2) := by decide +kernel
theorem dX10_derivations_17 : decode cX10_derivations 17 = .ok (.iload 4, 2) := by decide +kernel
theorem dX10_derivations_19 : decode cX10_derivations 19 = .ok (.aload_n 0, 1) := by decide +kernel
theorem dX10_derivations_20 : decode cX10_derivations 20 = .ok (.getfield 58, 3) := by decide +kernel
theorem dX10_derivations_23 : decode cX10_derivations 23 = .ok (.invokevirtual 236, 3) := by decide +kernel
theorem dX10_derivations_26 : decode cX10_derivations 26 = .ok (.if_icmp .ge 21, 3) := by decide +kernel
theorem dX10_derivations_29 : decode cX10_derivations 29 = .ok (.lload_n 2, 1) := by decide +kernel
theorem dX10_derivations_30 : decode cX10_derivations 30 = .ok (.aload_n 0, 1) := by decide +kernel
theorem dX10_derivations_31 : decode cX10_derivations 31 = .ok (.getfield 58, 3) := by decide +kernel
theorem dX10_derivations_34 : decode cX10_derivations 34 = .ok (.iload 4, 2) := by decide +kernel
theorem dX10_derivations_36 : decode cX10_derivations 36 = .ok (.invokevirtual 244, 3) := by decide +kernel
theorem dX10_derivations_39 : decode cX10_derivations 39 = .ok (.ladd, 1) := by decide +kernel
theorem dX10_derivations_40 : decode cX10_derivations 40 = .ok (.lstore_n 2, 1) := by decide +kernel
theorem dX10_derivations_41 : decode cX10_derivations 41 = .ok (.iinc 4 1, 3) := by decide +kernel
theorem dX10_derivations_44 : decode cX10_derivations 44 = .ok (.goto (-27), 3) := by decide +kernel
theorem dX10_derivations_47 : decode cX10_derivations 47 = .ok (.lload_n 2, 1) := by decide +kernel
theorem dX10_derivations_48 : decode cX10_derivations 48 = .ok (.lreturn, 1) := by decide +kernel
theorem dX10_leastCost_0 : decode cX10_leastCost 0 = .ok (.aload_n 0, 1) := by decide +kernel
theorem dX10_leastCost_1 : decode cX10_leastCost 1 = .ok (.iload_n 1, 1) := by decide +kernel
theorem dX10_leastCost_2 : decode cX10_leastCost 2 = .ok (.invokevirtual 260, 3) := by decide +kernel
theorem dX10_leastCost_5 : decode cX10_leastCost 5 = .ok (.ifCond .ne 5, 3) := by decide +kernel
theorem dX10_leastCost_8 : decode cX10_leastCost 8 = .ok (.iconst (-1), 1) := by decide +kernel
theorem dX10_leastCost_9 : decode cX10_leastCost 9 = .ok (.ireturn, 1) := by decide +kernel
theorem dX10_leastCost_10 : decode cX10_leastCost 10 = .ok (.aload_n 0, 1) := by decide +kernel
theorem dX10_leastCost_11 : decode cX10_leastCost 11 = .ok (.getfield 58, 3) := by decide +kernel
theorem dX10_leastCost_14 : decode cX10_leastCost 14 = .ok (.invokevirtual 236, 3) := by decide +kernel
theorem dX10_leastCost_17 : decode cX10_leastCost 17 = .ok (.ifCond .ne 6, 3) := by decide +kernel
theorem dX10_leastCost_20 : decode cX10_leastCost 20 = .ok (.bipush (-6), 2) := by decide +kernel
theorem dX10_leastCost_22 : decode cX10_leastCost 22 = .ok (.ireturn, 1) := by decide +kernel
theorem dX10_leastCost_23 : decode cX10_leastCost 23 = .ok (.aload_n 0, 1) := by decide +kernel
theorem dX10_leastCost_24 : decode cX10_leastCost 24 = .ok (.getfield 10, 3) := by decide +kernel
theorem dX10_leastCost_27 : decode cX10_leastCost 27 = .ok (.aload_n 0, 1) := by decide +kernel
theorem dX10_leastCost_28 : decode cX10_leastCost 28 = .ok (.getfield 58, 3) := by decide +kernel
theorem dX10_leastCost_31 : decode cX10_leastCost 31 = .ok (.aload_n 0, 1) := by decide +kernel
theorem dX10_leastCost_32 : decode cX10_leastCost 32 = .ok (.invokevirtual 263, 3) := by decide +kernel
theorem dX10_leastCost_35 : decode cX10_leastCost 35 = .ok (.invokevirtual 248, 3) := by decide +kernel
theorem dX10_leastCost_38 : decode cX10_leastCost 38 = .ok (.invokevirtual 266, 3) := by decide +kernel
theorem dX10_leastCost_41 : decode cX10_leastCost 41 = .ok (.ireturn, 1) := by decide +kernel
theorem dX10_cheapestTags_0 : decode cX10_cheapestTags 0 = .ok (.aload_n 0, 1) := by decide +kernel
theorem dX10_cheapestTags_1 : decode cX10_cheapestTags 1 = .ok (.iload_n 1, 1) := by decide +kernel
theorem dX10_cheapestTags_2 : decode cX10_cheapestTags 2 = .ok (.invokevirtual 260, 3) := by decide +kernel
theorem dX10_cheapestTags_5 : decode cX10_cheapestTags 5 = .ok (.ifCond .ne 5, 3) := by decide +kernel
theorem dX10_cheapestTags_8 : decode cX10_cheapestTags 8 = .ok (.iconst (-1), 1) := by decide +kernel
theorem dX10_cheapestTags_9 : decode cX10_cheapestTags 9 = .ok (.ireturn, 1) := by decide +kernel
theorem dX10_cheapestTags_10 : decode cX10_cheapestTags 10 = .ok (.aload_n 0, 1) := by decide +kernel
theorem dX10_cheapestTags_11 : decode cX10_cheapestTags 11 = .ok (.getfield 58, 3) := by decide +kernel
theorem dX10_cheapestTags_14 : decode cX10_cheapestTags 14 = .ok (.invokevirtual 236, 3) := by decide +kernel
theorem dX10_cheapestTags_17 : decode cX10_cheapestTags 17 = .ok (.ifCond .ne 6, 3) := by decide +kernel
theorem dX10_cheapestTags_20 : decode cX10_cheapestTags 20 = .ok (.bipush (-6), 2) := by decide +kernel
theorem dX10_cheapestTags_22 : decode cX10_cheapestTags 22 = .ok (.ireturn, 1) := by decide +kernel
theorem dX10_cheapestTags_23 : decode cX10_cheapestTags 23 = .ok (.aload_n 0, 1) := by decide +kernel
theorem dX10_cheapestTags_24 : decode cX10_cheapestTags 24 = .ok (.getfield 58, 3) := by decide +kernel
theorem dX10_cheapestTags_27 : decode cX10_cheapestTags 27 = .ok (.aload_n 0, 1) := by decide +kernel
theorem dX10_cheapestTags_28 : decode cX10_cheapestTags 28 = .ok (.invokevirtual 263, 3) := by decide +kernel
theorem dX10_cheapestTags_31 : decode cX10_cheapestTags 31 = .ok (.invokevirtual 248, 3) := by decide +kernel
theorem dX10_cheapestTags_34 : decode cX10_cheapestTags 34 = .ok (.invokestatic 270, 3) := by decide +kernel
theorem dX10_cheapestTags_37 : decode cX10_cheapestTags 37 = .ok (.ireturn, 1) := by decide +kernel
theorem dX10_answerTrust_0 : decode cX10_answerTrust 0 = .ok (.aload_n 0, 1) := by decide +kernel
theorem dX10_answerTrust_1 : decode cX10_answerTrust 1 = .ok (.iload_n 1, 1) := by decide +kernel
theorem dX10_answerTrust_2 : decode cX10_answerTrust 2 = .ok (.invokevirtual 260, 3) := by decide +kernel
theorem dX10_answerTrust_5 : decode cX10_answerTrust 5 = .ok (.ifCond .ne 5, 3) := by decide +kernel
theorem dX10_answerTrust_8 : decode cX10_answerTrust 8 = .ok (.iconst (-1), 1) := by decide +kernel
theorem dX10_answerTrust_9 : decode cX10_answerTrust 9 = .ok (.ireturn, 1) := by decide +kernel
theorem dX10_answerTrust_10 : decode cX10_answerTrust 10 = .ok (.aload_n 0, 1) := by decide +kernel
theorem dX10_answerTrust_11 : decode cX10_answerTrust 11 = .ok (.getfield 58, 3) := by decide +kernel
theorem dX10_answerTrust_14 : decode cX10_answerTrust 14 = .ok (.invokevirtual 236, 3) := by decide +kernel
theorem dX10_answerTrust_17 : decode cX10_answerTrust 17 = .ok (.ifCond .ne 6, 3) := by decide +kernel
theorem dX10_answerTrust_20 : decode cX10_answerTrust 20 = .ok (.bipush (-6), 2) := by decide +kernel
theorem dX10_answerTrust_22 : decode cX10_answerTrust 22 = .ok (.ireturn, 1) := by decide +kernel
theorem dX10_answerTrust_23 : decode cX10_answerTrust 23 = .ok (.iconst 0, 1) := by decide +kernel
theorem dX10_answerTrust_24 : decode cX10_answerTrust 24 = .ok (.istore_n 2, 1) := by decide +kernel
theorem dX10_answerTrust_25 : decode cX10_answerTrust 25 = .ok (.iconst 0, 1) := by decide +kernel
theorem dX10_answerTrust_26 : decode cX10_answerTrust 26 = .ok (.istore_n 3, 1) := by decide +kernel
theorem dX10_answerTrust_27 : decode cX10_answerTrust 27 = .ok (.iload_n 3, 1) := by decide +kernel
theorem dX10_answerTrust_28 : decode cX10_answerTrust 28 = .ok (.aload_n 0, 1) := by decide +kernel
theorem dX10_answerTrust_29 : decode cX10_answerTrust 29 = .ok (.getfield 58, 3) := by decide +kernel
theorem dX10_answerTrust_32 : decode cX10_answerTrust 32 = .ok (.invokevirtual 236, 3) := by decide +kernel
theorem dX10_answerTrust_35 : decode cX10_answerTrust 35 = .ok (.if_icmp .ge 29, 3) := by decide +kernel
theorem dX10_answerTrust_38 : decode cX10_answerTrust 38 = .ok (.iload_n 2, 1) := by decide +kernel
theorem dX10_answerTrust_39 : decode cX10_answerTrust 39 = .ok (.aload_n 0, 1) := by decide +kernel
theorem dX10_answerTrust_40 : decode cX10_answerTrust 40 = .ok (.getfield 10, 3) := by decide +kernel
theorem dX10_answerTrust_43 : decode cX10_answerTrust 43 = .ok (.aload_n 0, 1) := by decide +kernel
theorem dX10_answerTrust_44 : decode cX10_answerTrust 44 = .ok (.getfield 58, 3) := by decide +kernel
theorem dX10_answerTrust_47 : decode cX10_answerTrust 47 = .ok (.iload_n 3, 1) := by decide +kernel
theorem dX10_answerTrust_48 : decode cX10_answerTrust 48 = .ok (.invokevirtual 248, 3) := by decide +kernel
theorem dX10_answerTrust_51 : decode cX10_answerTrust 51 = .ok (.invokevirtual 273, 3) := by decide +kernel
theorem dX10_answerTrust_54 : decode cX10_answerTrust 54 = .ok (.invokestatic 276, 3) := by decide +kernel
theorem dX10_answerTrust_57 : decode cX10_answerTrust 57 = .ok (.istore_n 2, 1) := by decide +kernel
theorem dX10_answerTrust_58 : decode cX10_answerTrust 58 = .ok (.iinc 3 1, 3) := by decide +kernel
theorem dX10_answerTrust_61 : decode cX10_answerTrust 61 = .ok (.goto (-34), 3) := by decide +kernel
theorem dX10_answerTrust_64 : decode cX10_answerTrust 64 = .ok (.iload_n 2, 1) := by decide +kernel
theorem dX10_answerTrust_65 : decode cX10_answerTrust 65 = .ok (.ireturn, 1) := by decide +kernel
theorem dX10_confidence_0 : decode cX10_confidence 0 = .ok (.aload_n 0, 1) := by decide +kernel
theorem dX10_confidence_1 : decode cX10_confidence 1 = .ok (.iload_n 1, 1) := by decide +kernel
theorem dX10_confidence_2 : decode cX10_confidence 2 = .ok (.invokevirtual 260, 3) := by decide +kernel
theorem dX10_confidence_5 : decode cX10_confidence 5 = .ok (.ifCond .ne 7, 3) := by decide +kernel
theorem dX10_confidence_8 : decode cX10_confidence 8 = .ok (.ldc_w 281, 3) := by decide +kernel
theorem dX10_confidence_11 : decode cX10_confidence 11 = .ok (.freturn, 1) := by decide +kernel
theorem dX10_confidence_12 : decode cX10_confidence 12 = .ok (.fconst 0, 1) := by decide +kernel
theorem dX10_confidence_13 : decode cX10_confidence 13 = .ok (.fstore_n 2, 1) := by decide +kernel
theorem dX10_confidence_14 : decode cX10_confidence 14 = .ok (.iconst 0, 1) := by decide +kernel
theorem dX10_confidence_15 : decode cX10_confidence 15 = .ok (.istore_n 3, 1) := by decide +kernel
theorem dX10_confidence_16 : decode cX10_confidence 16 = .ok (.iload_n 3, 1) := by decide +kernel
theorem dX10_confidence_17 : decode cX10_confidence 17 = .ok (.aload_n 0, 1) := by decide +kernel
theorem dX10_confidence_18 : decode cX10_confidence 18 = .ok (.getfield 58, 3) := by decide +kernel
theorem dX10_confidence_21 : decode cX10_confidence 21 = .ok (.invokevirtual 236, 3) := by decide +kernel
theorem dX10_confidence_24 : decode cX10_confidence 24 = .ok (.if_icmp .ge 40, 3) := by decide +kernel
theorem dX10_confidence_27 : decode cX10_confidence 27 = .ok (.aload_n 0, 1) := by decide +kernel
theorem dX10_confidence_28 : decode cX10_confidence 28 = .ok (.getfield 10, 3) := by decide +kernel
theorem dX10_confidence_31 : decode cX10_confidence 31 = .ok (.aload_n 0, 1) := by decide +kernel
theorem dX10_confidence_32 : decode cX10_confidence 32 = .ok (.getfield 58, 3) := by decide +kernel
theorem dX10_confidence_35 : decode cX10_confidence 35 = .ok (.iload_n 3, 1) := by decide +kernel
theorem dX10_confidence_36 : decode cX10_confidence 36 = .ok (.invokevirtual 248, 3) := by decide +kernel
theorem dX10_confidence_39 : decode cX10_confidence 39 = .ok (.invokevirtual 282, 3) := by decide +kernel
theorem dX10_confidence_42 : decode cX10_confidence 42 = .ok (.fstore 4, 2) := by decide +kernel
theorem dX10_confidence_44 : decode cX10_confidence 44 = .ok (.fload 4, 2) := by decide +kernel
theorem dX10_confidence_46 : decode cX10_confidence 46 = .ok (.fload_n 2, 1) := by decide +kernel
theorem dX10_confidence_47 : decode cX10_confidence 47 = .ok (.fcmp .l, 1) := by decide +kernel
theorem dX10_confidence_48 : decode cX10_confidence 48 = .ok (.ifCond .le 8, 3) := by decide +kernel
theorem dX10_confidence_51 : decode cX10_confidence 51 = .ok (.fload 4, 2) := by decide +kernel
theorem dX10_confidence_53 : decode cX10_confidence 53 = .ok (.goto 4, 3) := by decide +kernel
theorem dX10_confidence_56 : decode cX10_confidence 56 = .ok (.fload_n 2, 1) := by decide +kernel
theorem dX10_confidence_57 : decode cX10_confidence 57 = .ok (.fstore_n 2, 1) := by decide +kernel
theorem dX10_confidence_58 : decode cX10_confidence 58 = .ok (.iinc 3 1, 3) := by decide +kernel
theorem dX10_confidence_61 : decode cX10_confidence 61 = .ok (.goto (-45), 3) := by decide +kernel
theorem dX10_confidence_64 : decode cX10_confidence 64 = .ok (.fload_n 2, 1) := by decide +kernel
theorem dX10_confidence_65 : decode cX10_confidence 65 = .ok (.freturn, 1) := by decide +kernel
theorem dX10_needed_0 : decode cX10_needed 0 = .ok (.aload_n 0, 1) := by decide +kernel
theorem dX10_needed_1 : decode cX10_needed 1 = .ok (.iload_n 1, 1) := by decide +kernel
theorem dX10_needed_2 : decode cX10_needed 2 = .ok (.invokevirtual 260, 3) := by decide +kernel
theorem dX10_needed_5 : decode cX10_needed 5 = .ok (.ifCond .ne 5, 3) := by decide +kernel
theorem dX10_needed_8 : decode cX10_needed 8 = .ok (.iconst (-1), 1) := by decide +kernel
theorem dX10_needed_9 : decode cX10_needed 9 = .ok (.ireturn, 1) := by decide +kernel
theorem dX10_needed_10 : decode cX10_needed 10 = .ok (.aload_n 0, 1) := by decide +kernel
theorem dX10_needed_11 : decode cX10_needed 11 = .ok (.getfield 58, 3) := by decide +kernel
theorem dX10_needed_14 : decode cX10_needed 14 = .ok (.invokevirtual 236, 3) := by decide +kernel
theorem dX10_needed_17 : decode cX10_needed 17 = .ok (.ifCond .ne 6, 3) := by decide +kernel
theorem dX10_needed_20 : decode cX10_needed 20 = .ok (.bipush (-6), 2) := by decide +kernel
theorem dX10_needed_22 : decode cX10_needed 22 = .ok (.ireturn, 1) := by decide +kernel
theorem dX10_needed_23 : decode cX10_needed 23 = .ok (.aload_n 0, 1) := by decide +kernel
theorem dX10_needed_24 : decode cX10_needed 24 = .ok (.getfield 10, 3) := by decide +kernel
theorem dX10_needed_27 : decode cX10_needed 27 = .ok (.invokevirtual 128, 3) := by decide +kernel
theorem dX10_needed_30 : decode cX10_needed 30 = .ok (.istore_n 2, 1) := by decide +kernel
theorem dX10_needed_31 : decode cX10_needed 31 = .ok (.iconst 0, 1) := by decide +kernel
theorem dX10_needed_32 : decode cX10_needed 32 = .ok (.istore_n 3, 1) := by decide +kernel
theorem dX10_needed_33 : decode cX10_needed 33 = .ok (.iload_n 3, 1) := by decide +kernel
theorem dX10_needed_34 : decode cX10_needed 34 = .ok (.aload_n 0, 1) := by decide +kernel
theorem dX10_needed_35 : decode cX10_needed 35 = .ok (.getfield 58, 3) := by decide +kernel
theorem dX10_needed_38 : decode cX10_needed 38 = .ok (.invokevirtual 236, 3) := by decide +kernel
theorem dX10_needed_41 : decode cX10_needed 41 = .ok (.if_icmp .ge 23, 3) := by decide +kernel
theorem dX10_needed_44 : decode cX10_needed 44 = .ok (.iload_n 2, 1) := by decide +kernel
theorem dX10_needed_45 : decode cX10_needed 45 = .ok (.aload_n 0, 1) := by decide +kernel
theorem dX10_needed_46 : decode cX10_needed 46 = .ok (.getfield 58, 3) := by decide +kernel
theorem dX10_needed_49 : decode cX10_needed 49 = .ok (.iload_n 3, 1) := by decide +kernel
theorem dX10_needed_50 : decode cX10_needed 50 = .ok (.invokevirtual 248, 3) := by decide +kernel
theorem dX10_needed_53 : decode cX10_needed 53 = .ok (.invokestatic 270, 3) := by decide +kernel
theorem dX10_needed_56 : decode cX10_needed 56 = .ok (.iand, 1) := by decide +kernel
theorem dX10_needed_57 : decode cX10_needed 57 = .ok (.istore_n 2, 1) := by decide +kernel
theorem dX10_needed_58 : decode cX10_needed 58 = .ok (.iinc 3 1, 3) := by decide +kernel
theorem dX10_needed_61 : decode cX10_needed 61 = .ok (.goto (-28), 3) := by decide +kernel
theorem dX10_needed_64 : decode cX10_needed 64 = .ok (.iload_n 2, 1) := by decide +kernel
theorem dX10_needed_65 : decode cX10_needed 65 = .ok (.ireturn, 1) := by decide +kernel
theorem dX10_smallestCut_0 : decode cX10_smallestCut 0 = .ok (.aload_n 0, 1) := by decide +kernel
theorem dX10_smallestCut_1 : decode cX10_smallestCut 1 = .ok (.iload_n 1, 1) := by decide +kernel
theorem dX10_smallestCut_2 : decode cX10_smallestCut 2 = .ok (.invokevirtual 260, 3) := by decide +kernel
theorem dX10_smallestCut_5 : decode cX10_smallestCut 5 = .ok (.ifCond .ne 5, 3) := by decide +kernel
theorem dX10_smallestCut_8 : decode cX10_smallestCut 8 = .ok (.iconst (-1), 1) := by decide +kernel
theorem dX10_smallestCut_9 : decode cX10_smallestCut 9 = .ok (.ireturn, 1) := by decide +kernel
theorem dX10_smallestCut_10 : decode cX10_smallestCut 10 = .ok (.aload_n 0, 1) := by decide +kernel
theorem dX10_smallestCut_11 : decode cX10_smallestCut 11 = .ok (.getfield 58, 3) := by decide +kernel
theorem dX10_smallestCut_14 : decode cX10_smallestCut 14 = .ok (.invokevirtual 236, 3) := by decide +kernel
theorem dX10_smallestCut_17 : decode cX10_smallestCut 17 = .ok (.ifCond .ne 6, 3) := by decide +kernel
theorem dX10_smallestCut_20 : decode cX10_smallestCut 20 = .ok (.bipush (-6), 2) := by decide +kernel
theorem dX10_smallestCut_22 : decode cX10_smallestCut 22 = .ok (.ireturn, 1) := by decide +kernel
theorem dX10_smallestCut_23 : decode cX10_smallestCut 23 = .ok (.aload_n 0, 1) := by decide +kernel
theorem dX10_smallestCut_24 : decode cX10_smallestCut 24 = .ok (.getfield 65, 3) := by decide +kernel
theorem dX10_smallestCut_27 : decode cX10_smallestCut 27 = .ok (.aload_n 0, 1) := by decide +kernel
theorem dX10_smallestCut_28 : decode cX10_smallestCut 28 = .ok (.getfield 58, 3) := by decide +kernel
theorem dX10_smallestCut_31 : decode cX10_smallestCut 31 = .ok (.invokevirtual 286, 3) := by decide +kernel
theorem dX10_smallestCut_34 : decode cX10_smallestCut 34 = .ok (.aload_n 0, 1) := by decide +kernel
theorem dX10_smallestCut_35 : decode cX10_smallestCut 35 = .ok (.getfield 65, 3) := by decide +kernel
theorem dX10_smallestCut_38 : decode cX10_smallestCut 38 = .ok (.invokevirtual 290, 3) := by decide +kernel
theorem dX10_smallestCut_41 : decode cX10_smallestCut 41 = .ok (.ireturn, 1) := by decide +kernel
theorem dX10_worlds_0 : decode cX10_worlds 0 = .ok (.aload_n 0, 1) := by decide +kernel
theorem dX10_worlds_1 : decode cX10_worlds 1 = .ok (.getfield 51, 3) := by decide +kernel
theorem dX10_worlds_4 : decode cX10_worlds 4 = .ok (.invokevirtual 209, 3) := by decide +kernel
theorem dX10_worlds_7 : decode cX10_worlds 7 = .ok (.iload_n 1, 1) := by decide +kernel
theorem dX10_worlds_8 : decode cX10_worlds 8 = .ok (.invokevirtual 225, 3) := by decide +kernel
theorem dX10_worlds_11 : decode cX10_worlds 11 = .ok (.astore_n 2, 1) := by decide +kernel
theorem dX10_worlds_12 : decode cX10_worlds 12 = .ok (.aload_n 2, 1) := by decide +kernel
theorem dX10_worlds_13 : decode cX10_worlds 13 = .ok (.ifnonnull 5, 3) := by decide +kernel
theorem dX10_worlds_16 : decode cX10_worlds 16 = .ok (.iconst (-1), 1) := by decide +kernel
theorem dX10_worlds_17 : decode cX10_worlds 17 = .ok (.ireturn, 1) := by decide +kernel
theorem dX10_worlds_18 : decode cX10_worlds 18 = .ok (.aload_n 0, 1) := by decide +kernel
theorem dX10_worlds_19 : decode cX10_worlds 19 = .ok (.getfield 65, 3) := by decide +kernel
theorem dX10_worlds_22 : decode cX10_worlds 22 = .ok (.aload_n 2, 1) := by decide +kernel
theorem dX10_worlds_23 : decode cX10_worlds 23 = .ok (.invokevirtual 286, 3) := by decide +kernel
theorem dX10_worlds_26 : decode cX10_worlds 26 = .ok (.aload_n 0, 1) := by decide +kernel
theorem dX10_worlds_27 : decode cX10_worlds 27 = .ok (.getfield 65, 3) := by decide +kernel
theorem dX10_worlds_30 : decode cX10_worlds 30 = .ok (.invokevirtual 293, 3) := by decide +kernel
theorem dX10_worlds_33 : decode cX10_worlds 33 = .ok (.ireturn, 1) := by decide +kernel
theorem dX10_lostIf_0 : decode cX10_lostIf 0 = .ok (.iload_n 1, 1) := by decide +kernel
theorem dX10_lostIf_1 : decode cX10_lostIf 1 = .ok (.ifCond .lt 17, 3) := by decide +kernel
theorem dX10_lostIf_4 : decode cX10_lostIf 4 = .ok (.iload_n 1, 1) := by decide +kernel
theorem dX10_lostIf_5 : decode cX10_lostIf 5 = .ok (.aload_n 0, 1) := by decide +kernel
theorem dX10_lostIf_6 : decode cX10_lostIf 6 = .ok (.getfield 10, 3) := by decide +kernel
theorem dX10_lostIf_9 : decode cX10_lostIf 9 = .ok (.invokevirtual 128, 3) := by decide +kernel
theorem dX10_lostIf_12 : decode cX10_lostIf 12 = .ok (.iconst (-1), 1) := by decide +kernel
theorem dX10_lostIf_13 : decode cX10_lostIf 13 = .ok (.ixor, 1) := by decide +kernel
theorem dX10_lostIf_14 : decode cX10_lostIf 14 = .ok (.iand, 1) := by decide +kernel
theorem dX10_lostIf_15 : decode cX10_lostIf 15 = .ok (.ifCond .eq 6, 3) := by decide +kernel
theorem dX10_lostIf_18 : decode cX10_lostIf 18 = .ok (.bipush (-2), 2) := by decide +kernel
theorem dX10_lostIf_20 : decode cX10_lostIf 20 = .ok (.ireturn, 1) := by decide +kernel
theorem dX10_lostIf_21 : decode cX10_lostIf 21 = .ok (.aload_n 0, 1) := by decide +kernel
theorem dX10_lostIf_22 : decode cX10_lostIf 22 = .ok (.getfield 51, 3) := by decide +kernel
theorem dX10_lostIf_25 : decode cX10_lostIf 25 = .ok (.invokevirtual 209, 3) := by decide +kernel
theorem dX10_lostIf_28 : decode cX10_lostIf 28 = .ok (.astore_n 2, 1) := by decide +kernel
theorem dX10_lostIf_29 : decode cX10_lostIf 29 = .ok (.aload_n 0, 1) := by decide +kernel
theorem dX10_lostIf_30 : decode cX10_lostIf 30 = .ok (.getfield 10, 3) := by decide +kernel
theorem dX10_lostIf_33 : decode cX10_lostIf 33 = .ok (.invokevirtual 193, 3) := by decide +kernel
theorem dX10_lostIf_36 : decode cX10_lostIf 36 = .ok (.istore_n 3, 1) := by decide +kernel
theorem dX10_lostIf_37 : decode cX10_lostIf 37 = .ok (.aload_n 2, 1) := by decide +kernel
theorem dX10_lostIf_38 : decode cX10_lostIf 38 = .ok (.iload_n 3, 1) := by decide +kernel
theorem dX10_lostIf_39 : decode cX10_lostIf 39 = .ok (.invokevirtual 296, 3) := by decide +kernel
theorem dX10_lostIf_42 : decode cX10_lostIf 42 = .ok (.aload_n 2, 1) := by decide +kernel
theorem dX10_lostIf_43 : decode cX10_lostIf 43 = .ok (.iload_n 3, 1) := by decide +kernel
theorem dX10_lostIf_44 : decode cX10_lostIf 44 = .ok (.iload_n 1, 1) := by decide +kernel
theorem dX10_lostIf_45 : decode cX10_lostIf 45 = .ok (.ior, 1) := by decide +kernel
theorem dX10_lostIf_46 : decode cX10_lostIf 46 = .ok (.invokevirtual 296, 3) := by decide +kernel
theorem dX10_lostIf_49 : decode cX10_lostIf 49 = .ok (.isub, 1) := by decide +kernel
theorem dX10_lostIf_50 : decode cX10_lostIf 50 = .ok (.ireturn, 1) := by decide +kernel
theorem dX10_print_0 : decode cX10_print 0 = .ok (.aload_n 0, 1) := by decide +kernel
theorem dX10_print_1 : decode cX10_print 1 = .ok (.getfield 51, 3) := by decide +kernel
theorem dX10_print_4 : decode cX10_print 4 = .ok (.invokevirtual 209, 3) := by decide +kernel
theorem dX10_print_7 : decode cX10_print 7 = .ok (.iload_n 1, 1) := by decide +kernel
theorem dX10_print_8 : decode cX10_print 8 = .ok (.invokevirtual 225, 3) := by decide +kernel
theorem dX10_print_11 : decode cX10_print 11 = .ok (.astore_n 3, 1) := by decide +kernel
theorem dX10_print_12 : decode cX10_print 12 = .ok (.aload_n 3, 1) := by decide +kernel
theorem dX10_print_13 : decode cX10_print 13 = .ok (.ifnonnull 5, 3) := by decide +kernel
theorem dX10_print_16 : decode cX10_print 16 = .ok (.iconst (-1), 1) := by decide +kernel
theorem dX10_print_17 : decode cX10_print 17 = .ok (.ireturn, 1) := by decide +kernel
theorem dX10_print_18 : decode cX10_print 18 = .ok (.iload_n 2, 1) := by decide +kernel
theorem dX10_print_19 : decode cX10_print 19 = .ok (.invokestatic 229, 3) := by decide +kernel
theorem dX10_print_22 : decode cX10_print 22 = .ok (.ifCond .ne 6, 3) := by decide +kernel
theorem dX10_print_25 : decode cX10_print 25 = .ok (.bipush (-2), 2) := by decide +kernel
theorem dX10_print_27 : decode cX10_print 27 = .ok (.ireturn, 1) := by decide +kernel
theorem dX10_print_28 : decode cX10_print 28 = .ok (.aload_n 0, 1) := by decide +kernel
theorem dX10_print_29 : decode cX10_print 29 = .ok (.getfield 58, 3) := by decide +kernel
theorem dX10_print_32 : decode cX10_print 32 = .ok (.aload_n 3, 1) := by decide +kernel
theorem dX10_print_33 : decode cX10_print 33 = .ok (.iload_n 2, 1) := by decide +kernel
theorem dX10_print_34 : decode cX10_print 34 = .ok (.invokevirtual 232, 3) := by decide +kernel
theorem dX10_print_37 : decode cX10_print 37 = .ok (.aload_n 0, 1) := by decide +kernel
theorem dX10_print_38 : decode cX10_print 38 = .ok (.getfield 35, 3) := by decide +kernel
theorem dX10_print_41 : decode cX10_print 41 = .ok (.invokevirtual 176, 3) := by decide +kernel
theorem dX10_print_44 : decode cX10_print 44 = .ok (.iconst 0, 1) := by decide +kernel
theorem dX10_print_45 : decode cX10_print 45 = .ok (.istore 4, 2) := by decide +kernel
theorem dX10_print_47 : decode cX10_print 47 = .ok (.iload 4, 2) := by decide +kernel
theorem dX10_print_49 : decode cX10_print 49 = .ok (.aload_n 0, 1) := by decide +kernel
theorem dX10_print_50 : decode cX10_print 50 = .ok (.getfield 58, 3) := by decide +kernel
theorem dX10_print_53 : decode cX10_print 53 = .ok (.invokevirtual 236, 3) := by decide +kernel
theorem dX10_print_56 : decode cX10_print 56 = .ok (.if_icmp .ge 46, 3) := by decide +kernel
theorem dX10_print_59 : decode cX10_print 59 = .ok (.iload 4, 2) := by decide +kernel
theorem dX10_print_61 : decode cX10_print 61 = .ok (.ifCond .le 13, 3) := by decide +kernel
theorem dX10_print_64 : decode cX10_print 64 = .ok (.aload_n 0, 1) := by decide +kernel
theorem dX10_print_65 : decode cX10_print 65 = .ok (.getfield 35, 3) := by decide +kernel
theorem dX10_print_68 : decode cX10_print 68 = .ok (.bipush 43, 2) := by decide +kernel
theorem dX10_print_70 : decode cX10_print 70 = .ok (.invokevirtual 179, 3) := by decide +kernel
theorem dX10_print_73 : decode cX10_print 73 = .ok (.pop, 1) := by decide +kernel
theorem dX10_print_74 : decode cX10_print 74 = .ok (.aload_n 0, 1) := by decide +kernel
theorem dX10_print_75 : decode cX10_print 75 = .ok (.aload_n 0, 1) := by decide +kernel
theorem dX10_print_76 : decode cX10_print 76 = .ok (.getfield 58, 3) := by decide +kernel
theorem dX10_print_79 : decode cX10_print 79 = .ok (.iload 4, 2) := by decide +kernel
theorem dX10_print_81 : decode cX10_print 81 = .ok (.invokevirtual 248, 3) := by decide +kernel
theorem dX10_print_84 : decode cX10_print 84 = .ok (.aload_n 0, 1) := by decide +kernel
theorem dX10_print_85 : decode cX10_print 85 = .ok (.getfield 58, 3) := by decide +kernel
theorem dX10_print_88 : decode cX10_print 88 = .ok (.iload 4, 2) := by decide +kernel
theorem dX10_print_90 : decode cX10_print 90 = .ok (.invokevirtual 244, 3) := by decide +kernel
theorem dX10_print_93 : decode cX10_print 93 = .ok (.invokevirtual 299, 3) := by decide +kernel
theorem dX10_print_96 : decode cX10_print 96 = .ok (.iinc 4 1, 3) := by decide +kernel
theorem dX10_print_99 : decode cX10_print 99 = .ok (.goto (-52), 3) := by decide +kernel
theorem dX10_print_102 : decode cX10_print 102 = .ok (.aload_n 0, 1) := by decide +kernel
theorem dX10_print_103 : decode cX10_print 103 = .ok (.getfield 35, 3) := by decide +kernel
theorem dX10_print_106 : decode cX10_print 106 = .ok (.invokevirtual 173, 3) := by decide +kernel
theorem dX10_print_109 : decode cX10_print 109 = .ok (.ireturn, 1) := by decide +kernel
theorem dX10_printed_0 : decode cX10_printed 0 = .ok (.aload_n 0, 1) := by decide +kernel
theorem dX10_printed_1 : decode cX10_printed 1 = .ok (.getfield 35, 3) := by decide +kernel
theorem dX10_printed_4 : decode cX10_printed 4 = .ok (.iload_n 1, 1) := by decide +kernel
theorem dX10_printed_5 : decode cX10_printed 5 = .ok (.invokevirtual 206, 3) := by decide +kernel
theorem dX10_printed_8 : decode cX10_printed 8 = .ok (.ireturn, 1) := by decide +kernel
theorem dX10_isTable_0 : decode cX10_isTable 0 = .ok (.iload_n 0, 1) := by decide +kernel
theorem dX10_isTable_1 : decode cX10_isTable 1 = .ok (.ifCond .lt 12, 3) := by decide +kernel
theorem dX10_isTable_4 : decode cX10_isTable 4 = .ok (.iload_n 0, 1) := by decide +kernel
theorem dX10_isTable_5 : decode cX10_isTable 5 = .ok (.iconst 4, 1) := by decide +kernel
theorem dX10_isTable_6 : decode cX10_isTable 6 = .ok (.if_icmp .ge 7, 3) := by decide +kernel
theorem dX10_isTable_9 : decode cX10_isTable 9 = .ok (.iconst 1, 1) := by decide +kernel
theorem dX10_isTable_10 : decode cX10_isTable 10 = .ok (.goto 4, 3) := by decide +kernel
theorem dX10_isTable_13 : decode cX10_isTable 13 = .ok (.iconst 0, 1) := by decide +kernel
theorem dX10_isTable_14 : decode cX10_isTable 14 = .ok (.ireturn, 1) := by decide +kernel
theorem dX10_isForm_0 : decode cX10_isForm 0 = .ok (.iload_n 0, 1) := by decide +kernel
theorem dX10_isForm_1 : decode cX10_isForm 1 = .ok (.ifCond .lt 12, 3) := by decide +kernel
theorem dX10_isForm_4 : decode cX10_isForm 4 = .ok (.iload_n 0, 1) := by decide +kernel
theorem dX10_isForm_5 : decode cX10_isForm 5 = .ok (.iconst 5, 1) := by decide +kernel
theorem dX10_isForm_6 : decode cX10_isForm 6 = .ok (.if_icmp .ge 7, 3) := by decide +kernel
theorem dX10_isForm_9 : decode cX10_isForm 9 = .ok (.iconst 1, 1) := by decide +kernel
theorem dX10_isForm_10 : decode cX10_isForm 10 = .ok (.goto 4, 3) := by decide +kernel
theorem dX10_isForm_13 : decode cX10_isForm 13 = .ok (.iconst 0, 1) := by decide +kernel
theorem dX10_isForm_14 : decode cX10_isForm 14 = .ok (.ireturn, 1) := by decide +kernel
theorem dX10_refreshAnswer_0 : decode cX10_refreshAnswer 0 = .ok (.aload_n 0, 1) := by decide +kernel
theorem dX10_refreshAnswer_1 : decode cX10_refreshAnswer 1 = .ok (.getfield 51, 3) := by decide +kernel
theorem dX10_refreshAnswer_4 : decode cX10_refreshAnswer 4 = .ok (.aload_n 0, 1) := by decide +kernel
theorem dX10_refreshAnswer_5 : decode cX10_refreshAnswer 5 = .ok (.getfield 45, 3) := by decide +kernel
theorem dX10_refreshAnswer_8 : decode cX10_refreshAnswer 8 = .ok (.aload_n 0, 1) := by decide +kernel
theorem dX10_refreshAnswer_9 : decode cX10_refreshAnswer 9 = .ok (.getfield 10, 3) := by decide +kernel
theorem dX10_refreshAnswer_12 : decode cX10_refreshAnswer 12 = .ok (.invokevirtual 112, 3) := by decide +kernel
theorem dX10_refreshAnswer_15 : decode cX10_refreshAnswer 15 = .ok (.ifCond .eq 10, 3) := by decide +kernel
theorem dX10_refreshAnswer_18 : decode cX10_refreshAnswer 18 = .ok (.aload_n 0, 1) := by decide +kernel
theorem dX10_refreshAnswer_19 : decode cX10_refreshAnswer 19 = .ok (.getfield 51, 3) := by decide +kernel
theorem dX10_refreshAnswer_22 : decode cX10_refreshAnswer 22 = .ok (.invokevirtual 116, 3) := by decide +kernel
theorem dX10_refreshAnswer_25 : decode cX10_refreshAnswer 25 = .ok (.return_, 1) := by decide +kernel
theorem dX10_presentRows_0 : decode cX10_presentRows 0 = .ok (.aload_n 0, 1) := by decide +kernel
theorem dX10_presentRows_1 : decode cX10_presentRows 1 = .ok (.getfield 51, 3) := by decide +kernel
theorem dX10_presentRows_4 : decode cX10_presentRows 4 = .ok (.invokevirtual 209, 3) := by decide +kernel
theorem dX10_presentRows_7 : decode cX10_presentRows 7 = .ok (.aload_n 0, 1) := by decide +kernel
theorem dX10_presentRows_8 : decode cX10_presentRows 8 = .ok (.getfield 10, 3) := by decide +kernel
theorem dX10_presentRows_11 : decode cX10_presentRows 11 = .ok (.invokevirtual 193, 3) := by decide +kernel
theorem dX10_presentRows_14 : decode cX10_presentRows 14 = .ok (.invokevirtual 296, 3) := by decide +kernel
theorem dX10_presentRows_17 : decode cX10_presentRows 17 = .ok (.ireturn, 1) := by decide +kernel
theorem dX10_showAvailable_0 : decode cX10_showAvailable 0 = .ok (.aload_n 0, 1) := by decide +kernel
theorem dX10_showAvailable_1 : decode cX10_showAvailable 1 = .ok (.getfield 51, 3) := by decide +kernel
theorem dX10_showAvailable_4 : decode cX10_showAvailable 4 = .ok (.invokevirtual 209, 3) := by decide +kernel
theorem dX10_showAvailable_7 : decode cX10_showAvailable 7 = .ok (.iload_n 1, 1) := by decide +kernel
theorem dX10_showAvailable_8 : decode cX10_showAvailable 8 = .ok (.invokevirtual 225, 3) := by decide +kernel
theorem dX10_showAvailable_11 : decode cX10_showAvailable 11 = .ok (.astore_n 2, 1) := by decide +kernel
theorem dX10_showAvailable_12 : decode cX10_showAvailable 12 = .ok (.aload_n 2, 1) := by decide +kernel
theorem dX10_showAvailable_13 : decode cX10_showAvailable 13 = .ok (.ifnonnull 5, 3) := by decide +kernel
theorem dX10_showAvailable_16 : decode cX10_showAvailable 16 = .ok (.iconst 0, 1) := by decide +kernel
theorem dX10_showAvailable_17 : decode cX10_showAvailable 17 = .ok (.ireturn, 1) := by decide +kernel
theorem dX10_showAvailable_18 : decode cX10_showAvailable 18 = .ok (.aload_n 0, 1) := by decide +kernel
theorem dX10_showAvailable_19 : decode cX10_showAvailable 19 = .ok (.getfield 58, 3) := by decide +kernel
theorem dX10_showAvailable_22 : decode cX10_showAvailable 22 = .ok (.aload_n 2, 1) := by decide +kernel
theorem dX10_showAvailable_23 : decode cX10_showAvailable 23 = .ok (.aload_n 0, 1) := by decide +kernel
theorem dX10_showAvailable_24 : decode cX10_showAvailable 24 = .ok (.getfield 10, 3) := by decide +kernel
theorem dX10_showAvailable_27 : decode cX10_showAvailable 27 = .ok (.invokevirtual 193, 3) := by decide +kernel
theorem dX10_showAvailable_30 : decode cX10_showAvailable 30 = .ok (.invokevirtual 303, 3) := by decide +kernel
theorem dX10_showAvailable_33 : decode cX10_showAvailable 33 = .ok (.iconst 1, 1) := by decide +kernel
theorem dX10_showAvailable_34 : decode cX10_showAvailable 34 = .ok (.ireturn, 1) := by decide +kernel
theorem dX10_cheapestShown_0 : decode cX10_cheapestShown 0 = .ok (.iconst 0, 1) := by decide +kernel
theorem dX10_cheapestShown_1 : decode cX10_cheapestShown 1 = .ok (.istore_n 1, 1) := by decide +kernel
theorem dX10_cheapestShown_2 : decode cX10_cheapestShown 2 = .ok (.aload_n 0, 1) := by decide +kernel
theorem dX10_cheapestShown_3 : decode cX10_cheapestShown 3 = .ok (.getfield 10, 3) := by decide +kernel
theorem dX10_cheapestShown_6 : decode cX10_cheapestShown 6 = .ok (.aload_n 0, 1) := by decide +kernel
theorem dX10_cheapestShown_7 : decode cX10_cheapestShown 7 = .ok (.getfield 58, 3) := by decide +kernel
theorem dX10_cheapestShown_10 : decode cX10_cheapestShown 10 = .ok (.iconst 0, 1) := by decide +kernel
theorem dX10_cheapestShown_11 : decode cX10_cheapestShown 11 = .ok (.invokevirtual 248, 3) := by decide +kernel
theorem dX10_cheapestShown_14 : decode cX10_cheapestShown 14 = .ok (.invokevirtual 266, 3) := by decide +kernel
theorem dX10_cheapestShown_17 : decode cX10_cheapestShown 17 = .ok (.istore_n 2, 1) := by decide +kernel
theorem dX10_cheapestShown_18 : decode cX10_cheapestShown 18 = .ok (.iconst 1, 1) := by decide +kernel
theorem dX10_cheapestShown_19 : decode cX10_cheapestShown 19 = .ok (.istore_n 3, 1) := by decide +kernel
theorem dX10_cheapestShown_20 : decode cX10_cheapestShown 20 = .ok (.iload_n 3, 1) := by decide +kernel
theorem dX10_cheapestShown_21 : decode cX10_cheapestShown 21 = .ok (.aload_n 0, 1) := by decide +kernel
theorem dX10_cheapestShown_22 : decode cX10_cheapestShown 22 = .ok (.getfield 58, 3) := by decide +kernel
theorem dX10_cheapestShown_25 : decode cX10_cheapestShown 25 = .ok (.invokevirtual 236, 3) := by decide +kernel
theorem dX10_cheapestShown_28 : decode cX10_cheapestShown 28 = .ok (.if_icmp .ge 37, 3) := by decide +kernel
theorem dX10_cheapestShown_31 : decode cX10_cheapestShown 31 = .ok (.aload_n 0, 1) := by decide +kernel
theorem dX10_cheapestShown_32 : decode cX10_cheapestShown 32 = .ok (.getfield 10, 3) := by decide +kernel
theorem dX10_cheapestShown_35 : decode cX10_cheapestShown 35 = .ok (.aload_n 0, 1) := by decide +kernel
theorem dX10_cheapestShown_36 : decode cX10_cheapestShown 36 = .ok (.getfield 58, 3) := by decide +kernel
theorem dX10_cheapestShown_39 : decode cX10_cheapestShown 39 = .ok (.iload_n 3, 1) := by decide +kernel
theorem dX10_cheapestShown_40 : decode cX10_cheapestShown 40 = .ok (.invokevirtual 248, 3) := by decide +kernel
theorem dX10_cheapestShown_43 : decode cX10_cheapestShown 43 = .ok (.invokevirtual 266, 3) := by decide +kernel
theorem dX10_cheapestShown_46 : decode cX10_cheapestShown 46 = .ok (.istore 4, 2) := by decide +kernel
theorem dX10_cheapestShown_48 : decode cX10_cheapestShown 48 = .ok (.iload 4, 2) := by decide +kernel
theorem dX10_cheapestShown_50 : decode cX10_cheapestShown 50 = .ok (.iload_n 2, 1) := by decide +kernel
theorem dX10_cheapestShown_51 : decode cX10_cheapestShown 51 = .ok (.if_icmp .ge 8, 3) := by decide +kernel
theorem dX10_cheapestShown_54 : decode cX10_cheapestShown 54 = .ok (.iload_n 3, 1) := by decide +kernel
theorem dX10_cheapestShown_55 : decode cX10_cheapestShown 55 = .ok (.istore_n 1, 1) := by decide +kernel
theorem dX10_cheapestShown_56 : decode cX10_cheapestShown 56 = .ok (.iload 4, 2) := by decide +kernel
theorem dX10_cheapestShown_58 : decode cX10_cheapestShown 58 = .ok (.istore_n 2, 1) := by decide +kernel
theorem dX10_cheapestShown_59 : decode cX10_cheapestShown 59 = .ok (.iinc 3 1, 3) := by decide +kernel
theorem dX10_cheapestShown_62 : decode cX10_cheapestShown 62 = .ok (.goto (-42), 3) := by decide +kernel
theorem dX10_cheapestShown_65 : decode cX10_cheapestShown 65 = .ok (.iload_n 1, 1) := by decide +kernel
theorem dX10_cheapestShown_66 : decode cX10_cheapestShown 66 = .ok (.ireturn, 1) := by decide +kernel
theorem dX10_printTerm_0 : decode cX10_printTerm 0 = .ok (.lload_n 3, 1) := by decide +kernel
theorem dX10_printTerm_1 : decode cX10_printTerm 1 = .ok (.lconst 1, 1) := by decide +kernel
theorem dX10_printTerm_2 : decode cX10_printTerm 2 = .ok (.lcmp, 1) := by decide +kernel
theorem dX10_printTerm_3 : decode cX10_printTerm 3 = .ok (.ifCond .le 11, 3) := by decide +kernel
theorem dX10_printTerm_6 : decode cX10_printTerm 6 = .ok (.aload_n 0, 1) := by decide +kernel
theorem dX10_printTerm_7 : decode cX10_printTerm 7 = .ok (.getfield 35, 3) := by decide +kernel
theorem dX10_printTerm_10 : decode cX10_printTerm 10 = .ok (.lload_n 3, 1) := by decide +kernel
theorem dX10_printTerm_11 : decode cX10_printTerm 11 = .ok (.invokevirtual 306, 3) := by decide +kernel
theorem dX10_printTerm_14 : decode cX10_printTerm 14 = .ok (.iconst 0, 1) := by decide +kernel
theorem dX10_printTerm_15 : decode cX10_printTerm 15 = .ok (.istore 5, 2) := by decide +kernel
theorem dX10_printTerm_17 : decode cX10_printTerm 17 = .ok (.iload 5, 2) := by decide +kernel
theorem dX10_printTerm_19 : decode cX10_printTerm 19 = .ok (.bipush 16, 2) := by decide +kernel
theorem dX10_printTerm_21 : decode cX10_printTerm 21 = .ok (.if_icmp .ge 62, 3) := by decide +kernel
theorem dX10_printTerm_24 : decode cX10_printTerm 24 = .ok (.lload_n 1, 1) := by decide +kernel
theorem dX10_printTerm_25 : decode cX10_printTerm 25 = .ok (.iload 5, 2) := by decide +kernel
theorem dX10_printTerm_27 : decode cX10_printTerm 27 = .ok (.invokestatic 251, 3) := by decide +kernel
theorem dX10_printTerm_30 : decode cX10_printTerm 30 = .ok (.istore 6, 2) := by decide +kernel
theorem dX10_printTerm_32 : decode cX10_printTerm 32 = .ok (.iload 6, 2) := by decide +kernel
theorem dX10_printTerm_34 : decode cX10_printTerm 34 = .ok (.ifCond .le 17, 3) := by decide +kernel
theorem dX10_printTerm_37 : decode cX10_printTerm 37 = .ok (.aload_n 0, 1) := by decide +kernel
theorem dX10_printTerm_38 : decode cX10_printTerm 38 = .ok (.getfield 35, 3) := by decide +kernel
theorem dX10_printTerm_41 : decode cX10_printTerm 41 = .ok (.bipush 97, 2) := by decide +kernel
theorem dX10_printTerm_43 : decode cX10_printTerm 43 = .ok (.iload 5, 2) := by decide +kernel
theorem dX10_printTerm_45 : decode cX10_printTerm 45 = .ok (.iadd, 1) := by decide +kernel
theorem dX10_printTerm_46 : decode cX10_printTerm 46 = .ok (.i2c, 1) := by decide +kernel
theorem dX10_printTerm_47 : decode cX10_printTerm 47 = .ok (.invokevirtual 179, 3) := by decide +kernel
theorem dX10_printTerm_50 : decode cX10_printTerm 50 = .ok (.pop, 1) := by decide +kernel
theorem dX10_printTerm_51 : decode cX10_printTerm 51 = .ok (.iload 6, 2) := by decide +kernel
theorem dX10_printTerm_53 : decode cX10_printTerm 53 = .ok (.iconst 1, 1) := by decide +kernel
theorem dX10_printTerm_54 : decode cX10_printTerm 54 = .ok (.if_icmp .le 23, 3) := by decide +kernel
theorem dX10_printTerm_57 : decode cX10_printTerm 57 = .ok (.aload_n 0, 1) := by decide +kernel
theorem dX10_printTerm_58 : decode cX10_printTerm 58 = .ok (.getfield 35, 3) := by decide +kernel
theorem dX10_printTerm_61 : decode cX10_printTerm 61 = .ok (.bipush 94, 2) := by decide +kernel
theorem dX10_printTerm_63 : decode cX10_printTerm 63 = .ok (.invokevirtual 179, 3) := by decide +kernel
theorem dX10_printTerm_66 : decode cX10_printTerm 66 = .ok (.pop, 1) := by decide +kernel
theorem dX10_printTerm_67 : decode cX10_printTerm 67 = .ok (.aload_n 0, 1) := by decide +kernel
theorem dX10_printTerm_68 : decode cX10_printTerm 68 = .ok (.getfield 35, 3) := by decide +kernel
theorem dX10_printTerm_71 : decode cX10_printTerm 71 = .ok (.iload 6, 2) := by decide +kernel
theorem dX10_printTerm_73 : decode cX10_printTerm 73 = .ok (.i2l, 1) := by decide +kernel
theorem dX10_printTerm_74 : decode cX10_printTerm 74 = .ok (.invokevirtual 306, 3) := by decide +kernel
theorem dX10_printTerm_77 : decode cX10_printTerm 77 = .ok (.iinc 5 1, 3) := by decide +kernel
theorem dX10_printTerm_80 : decode cX10_printTerm 80 = .ok (.goto (-63), 3) := by decide +kernel
theorem dX10_printTerm_83 : decode cX10_printTerm 83 = .ok (.return_, 1) := by decide +kernel
theorem dX11_init_0 : decode cX11_init 0 = .ok (.aload_n 0, 1) := by decide +kernel
theorem dX11_init_1 : decode cX11_init 1 = .ok (.invokespecial 1, 3) := by decide +kernel
theorem dX11_init_4 : decode cX11_init 4 = .ok (.aload_n 0, 1) := by decide +kernel
theorem dX11_init_5 : decode cX11_init 5 = .ok (.sipush 145, 3) := by decide +kernel
theorem dX11_init_8 : decode cX11_init 8 = .ok (.newarray .int, 2) := by decide +kernel
theorem dX11_init_10 : decode cX11_init 10 = .ok (.putfield 7, 3) := by decide +kernel
theorem dX11_init_13 : decode cX11_init 13 = .ok (.aload_n 0, 1) := by decide +kernel
theorem dX11_init_14 : decode cX11_init 14 = .ok (.sipush 580, 3) := by decide +kernel
theorem dX11_init_17 : decode cX11_init 17 = .ok (.newarray .int, 2) := by decide +kernel
theorem dX11_init_19 : decode cX11_init 19 = .ok (.putfield 13, 3) := by decide +kernel
theorem dX11_init_22 : decode cX11_init 22 = .ok (.aload_n 0, 1) := by decide +kernel
theorem dX11_init_23 : decode cX11_init 23 = .ok (.bipush 60, 2) := by decide +kernel
theorem dX11_init_25 : decode cX11_init 25 = .ok (.newarray .int, 2) := by decide +kernel
theorem dX11_init_27 : decode cX11_init 27 = .ok (.putfield 16, 3) := by decide +kernel
theorem dX11_init_30 : decode cX11_init 30 = .ok (.aload_n 0, 1) := by decide +kernel
theorem dX11_init_31 : decode cX11_init 31 = .ok (.bipush 60, 2) := by decide +kernel
theorem dX11_init_33 : decode cX11_init 33 = .ok (.newarray .int, 2) := by decide +kernel
theorem dX11_init_35 : decode cX11_init 35 = .ok (.putfield 19, 3) := by decide +kernel
theorem dX11_init_38 : decode cX11_init 38 = .ok (.aload_n 0, 1) := by decide +kernel
theorem dX11_init_39 : decode cX11_init 39 = .ok (.bipush 60, 2) := by decide +kernel
theorem dX11_init_41 : decode cX11_init 41 = .ok (.newarray .int, 2) := by decide +kernel
theorem dX11_init_43 : decode cX11_init 43 = .ok (.putfield 22, 3) := by decide +kernel
theorem dX11_init_46 : decode cX11_init 46 = .ok (.aload_n 0, 1) := by decide +kernel
theorem dX11_init_47 : decode cX11_init 47 = .ok (.bipush 60, 2) := by decide +kernel
theorem dX11_init_49 : decode cX11_init 49 = .ok (.newarray .int, 2) := by decide +kernel
theorem dX11_init_51 : decode cX11_init 51 = .ok (.putfield 25, 3) := by decide +kernel
theorem dX11_init_54 : decode cX11_init 54 = .ok (.aload_n 0, 1) := by decide +kernel
theorem dX11_init_55 : decode cX11_init 55 = .ok (.bipush 60, 2) := by decide +kernel
theorem dX11_init_57 : decode cX11_init 57 = .ok (.newarray .int, 2) := by decide +kernel
theorem dX11_init_59 : decode cX11_init 59 = .ok (.putfield 28, 3) := by decide +kernel
theorem dX11_init_62 : decode cX11_init 62 = .ok (.aload_n 0, 1) := by decide +kernel
theorem dX11_init_63 : decode cX11_init 63 = .ok (.bipush 60, 2) := by decide +kernel
theorem dX11_init_65 : decode cX11_init 65 = .ok (.newarray .int, 2) := by decide +kernel
theorem dX11_init_67 : decode cX11_init 67 = .ok (.putfield 31, 3) := by decide +kernel
theorem dX11_init_70 : decode cX11_init 70 = .ok (.aload_n 0, 1) := by decide +kernel
theorem dX11_init_71 : decode cX11_init 71 = .ok (.bipush 60, 2) := by decide +kernel
theorem dX11_init_73 : decode cX11_init 73 = .ok (.newarray .int, 2) := by decide +kernel
theorem dX11_init_75 : decode cX11_init 75 = .ok (.putfield 34, 3) := by decide +kernel
theorem dX11_init_78 : decode cX11_init 78 = .ok (.aload_n 0, 1) := by decide +kernel
theorem dX11_init_79 : decode cX11_init 79 = .ok (.bipush 60, 2) := by decide +kernel
theorem dX11_init_81 : decode cX11_init 81 = .ok (.newarray .int, 2) := by decide +kernel
theorem dX11_init_83 : decode cX11_init 83 = .ok (.putfield 37, 3) := by decide +kernel
theorem dX11_init_86 : decode cX11_init 86 = .ok (.aload_n 0, 1) := by decide +kernel
theorem dX11_init_87 : decode cX11_init 87 = .ok (.bipush 60, 2) := by decide +kernel
theorem dX11_init_89 : decode cX11_init 89 = .ok (.newarray .int, 2) := by decide +kernel
theorem dX11_init_91 : decode cX11_init 91 = .ok (.putfield 40, 3) := by decide +kernel
theorem dX11_init_94 : decode cX11_init 94 = .ok (.aload_n 0, 1) := by decide +kernel
theorem dX11_init_95 : decode cX11_init 95 = .ok (.bipush 14, 2) := by decide +kernel
theorem dX11_init_97 : decode cX11_init 97 = .ok (.newarray .int, 2) := by decide +kernel
theorem dX11_init_99 : decode cX11_init 99 = .ok (.putfield 43, 3) := by decide +kernel
theorem dX11_init_102 : decode cX11_init 102 = .ok (.aload_n 0, 1) := by decide +kernel
theorem dX11_init_103 : decode cX11_init 103 = .ok (.bipush 14, 2) := by decide +kernel
theorem dX11_init_105 : decode cX11_init 105 = .ok (.newarray .int, 2) := by decide +kernel
theorem dX11_init_107 : decode cX11_init 107 = .ok (.putfield 46, 3) := by decide +kernel
theorem dX11_init_110 : decode cX11_init 110 = .ok (.aload_n 0, 1) := by decide +kernel
theorem dX11_init_111 : decode cX11_init 111 = .ok (.sipush 448, 3) := by decide +kernel
theorem dX11_init_114 : decode cX11_init 114 = .ok (.newarray .int, 2) := by decide +kernel
theorem dX11_init_116 : decode cX11_init 116 = .ok (.putfield 49, 3) := by decide +kernel
theorem dX11_init_119 : decode cX11_init 119 = .ok (.aload_n 0, 1) := by decide +kernel
theorem dX11_init_120 : decode cX11_init 120 = .ok (.sipush 448, 3) := by decide +kernel
theorem dX11_init_123 : decode cX11_init 123 = .ok (.newarray .int, 2) := by decide +kernel
theorem dX11_init_125 : decode cX11_init 125 = .ok (.putfield 52, 3) := by decide +kernel
theorem dX11_init_128 : decode cX11_init 128 = .ok (.aload_n 0, 1) := by decide +kernel
theorem dX11_init_129 : decode cX11_init 129 = .ok (.sipush 14336, 3) := by decide +kernel
theorem dX11_init_132 : decode cX11_init 132 = .ok (.newarray .long, 2) := by decide +kernel
theorem dX11_init_134 : decode cX11_init 134 = .ok (.putfield 55, 3) := by decide +kernel
theorem dX11_init_137 : decode cX11_init 137 = .ok (.aload_n 0, 1) := by decide +kernel
theorem dX11_init_138 : decode cX11_init 138 = .ok (.sipush 14336, 3) := by decide +kernel
theorem dX11_init_141 : decode cX11_init 141 = .ok (.newarray .long, 2) := by decide +kernel
theorem dX11_init_143 : decode cX11_init 143 = .ok (.putfield 59, 3) := by decide +kernel
theorem dX11_init_146 : decode cX11_init 146 = .ok (.aload_n 0, 1) := by decide +kernel
theorem dX11_init_147 : decode cX11_init 147 = .ok (.bipush 32, 2) := by decide +kernel
theorem dX11_init_149 : decode cX11_init 149 = .ok (.newarray .boolean, 2) := by decide +kernel
theorem dX11_init_151 : decode cX11_init 151 = .ok (.putfield 62, 3) := by decide +kernel
theorem dX11_init_154 : decode cX11_init 154 = .ok (.aload_n 0, 1) := by decide +kernel
theorem dX11_init_155 : decode cX11_init 155 = .ok (.bipush 32, 2) := by decide +kernel
theorem dX11_init_157 : decode cX11_init 157 = .ok (.newarray .int, 2) := by decide +kernel
theorem dX11_init_159 : decode cX11_init 159 = .ok (.putfield 66, 3) := by decide +kernel
theorem dX11_init_162 : decode cX11_init 162 = .ok (.aload_n 0, 1) := by decide +kernel
theorem dX11_init_163 : decode cX11_init 163 = .ok (.sipush 3000, 3) := by decide +kernel
theorem dX11_init_166 : decode cX11_init 166 = .ok (.newarray .int, 2) := by decide +kernel
theorem dX11_init_168 : decode cX11_init 168 = .ok (.putfield 69, 3) := by decide +kernel
theorem dX11_init_171 : decode cX11_init 171 = .ok (.iconst 0, 1) := by decide +kernel
theorem dX11_init_172 : decode cX11_init 172 = .ok (.istore_n 1, 1) := by decide +kernel
theorem dX11_init_173 : decode cX11_init 173 = .ok (.iload_n 1, 1) := by decide +kernel
theorem dX11_init_174 : decode cX11_init 174 = .ok (.iconst 4, 1) := by decide +kernel
theorem dX11_init_175 : decode cX11_init 175 = .ok (.if_icmp .ge 16, 3) := by decide +kernel
theorem dX11_init_178 : decode cX11_init 178 = .ok (.aload_n 0, 1) := by decide +kernel
theorem dX11_init_179 : decode cX11_init 179 = .ok (.getfield 7, 3) := by decide +kernel
theorem dX11_init_182 : decode cX11_init 182 = .ok (.iload_n 1, 1) := by decide +kernel
theorem dX11_init_183 : decode cX11_init 183 = .ok (.iconst 2, 1) := by decide +kernel
theorem dX11_init_184 : decode cX11_init 184 = .ok (.iastore, 1) := by decide +kernel
theorem dX11_init_185 : decode cX11_init 185 = .ok (.iinc 1 1, 3) := by decide +kernel
theorem dX11_init_188 : decode cX11_init 188 = .ok (.goto (-15), 3) := by decide +kernel
theorem dX11_init_191 : decode cX11_init 191 = .ok (.return_, 1) := by decide +kernel
theorem dX11_in_0 : decode cX11_in 0 = .ok (.iload_n 0, 1) := by decide +kernel
theorem dX11_in_1 : decode cX11_in 1 = .ok (.iload_n 1, 1) := by decide +kernel
theorem dX11_in_2 : decode cX11_in 2 = .ok (.if_icmp .lt 12, 3) := by decide +kernel
theorem dX11_in_5 : decode cX11_in 5 = .ok (.iload_n 0, 1) := by decide +kernel
theorem dX11_in_6 : decode cX11_in 6 = .ok (.iload_n 2, 1) := by decide +kernel
theorem dX11_in_7 : decode cX11_in 7 = .ok (.if_icmp .gt 7, 3) := by decide +kernel
theorem dX11_in_10 : decode cX11_in 10 = .ok (.iconst 1, 1) := by decide +kernel
theorem dX11_in_11 : decode cX11_in 11 = .ok (.goto 4, 3) := by decide +kernel
theorem dX11_in_14 : decode cX11_in 14 = .ok (.iconst 0, 1) := by decide +kernel
theorem dX11_in_15 : decode cX11_in 15 = .ok (.ireturn, 1) := by decide +kernel
theorem dX11_records_0 : decode cX11_records 0 = .ok (.aload_n 0, 1) := by decide +kernel
theorem dX11_records_1 : decode cX11_records 1 = .ok (.getfield 72, 3) := by decide +kernel
theorem dX11_records_4 : decode cX11_records 4 = .ok (.iconst 4, 1) := by decide +kernel
theorem dX11_records_5 : decode cX11_records 5 = .ok (.if_icmp .ne 44, 3) := by decide +kernel
theorem dX11_records_8 : decode cX11_records 8 = .ok (.iconst 0, 1) := by decide +kernel
theorem dX11_records_9 : decode cX11_records 9 = .ok (.istore_n 1, 1) := by decide +kernel
theorem dX11_records_10 : decode cX11_records 10 = .ok (.iload_n 1, 1) := by decide +kernel
theorem dX11_records_11 : decode cX11_records 11 = .ok (.sipush 435, 3) := by decide +kernel
theorem dX11_records_14 : decode cX11_records 14 = .ok (.if_icmp .ge 25, 3) := by decide +kernel
theorem dX11_records_17 : decode cX11_records 17 = .ok (.aload_n 0, 1) := by decide +kernel
theorem dX11_records_18 : decode cX11_records 18 = .ok (.getfield 13, 3) := by decide +kernel
theorem dX11_records_21 : decode cX11_records 21 = .ok (.iload_n 1, 1) := by decide +kernel
theorem dX11_records_22 : decode cX11_records 22 = .ok (.aload_n 0, 1) := by decide +kernel
theorem dX11_records_23 : decode cX11_records 23 = .ok (.getfield 13, 3) := by decide +kernel
theorem dX11_records_26 : decode cX11_records 26 = .ok (.iload_n 1, 1) := by decide +kernel
theorem dX11_records_27 : decode cX11_records 27 = .ok (.sipush 145, 3) := by decide +kernel
theorem dX11_records_30 : decode cX11_records 30 = .ok (.iadd, 1) := by decide +kernel
theorem dX11_records_31 : decode cX11_records 31 = .ok (.iaload, 1) := by decide +kernel
theorem dX11_records_32 : decode cX11_records 32 = .ok (.iastore, 1) := by decide +kernel
theorem dX11_records_33 : decode cX11_records 33 = .ok (.iinc 1 1, 3) := by decide +kernel
theorem dX11_records_36 : decode cX11_records 36 = .ok (.goto (-26), 3) := by decide +kernel
theorem dX11_records_39 : decode cX11_records 39 = .ok (.aload_n 0, 1) := by decide +kernel
theorem dX11_records_40 : decode cX11_records 40 = .ok (.dup, 1) := by decide +kernel
theorem dX11_records_41 : decode cX11_records 41 = .ok (.getfield 72, 3) := by decide +kernel
theorem dX11_records_44 : decode cX11_records 44 = .ok (.iconst 1, 1) := by decide +kernel
theorem dX11_records_45 : decode cX11_records 45 = .ok (.isub, 1) := by decide +kernel
theorem dX11_records_46 : decode cX11_records 46 = .ok (.putfield 72, 3) := by decide +kernel
theorem dX11_records_49 : decode cX11_records 49 = .ok (.iconst 0, 1) := by decide +kernel
theorem dX11_records_50 : decode cX11_records 50 = .ok (.istore_n 1, 1) := by decide +kernel
theorem dX11_records_51 : decode cX11_records 51 = .ok (.iload_n 1, 1) := by decide +kernel
theorem dX11_records_52 : decode cX11_records 52 = .ok (.sipush 145, 3) := by decide +kernel
theorem dX11_records_55 : decode cX11_records 55 = .ok (.if_icmp .ge 30, 3) := by decide +kernel
theorem dX11_records_58 : decode cX11_records 58 = .ok (.aload_n 0, 1) := by decide +kernel
theorem dX11_records_59 : decode cX11_records 59 = .ok (.getfield 13, 3) := by decide +kernel
theorem dX11_records_62 : decode cX11_records 62 = .ok (.sipush 145, 3) := by decide +kernel
theorem dX11_records_65 : decode cX11_records 65 = .ok (.aload_n 0, 1) := by decide +kernel
theorem dX11_records_66 : decode cX11_records 66 = .ok (.getfield 72, 3) := by decide +kernel
theorem dX11_records_69 : decode cX11_records 69 = .ok (.imul, 1) := by decide +kernel
theorem dX11_records_70 : decode cX11_records 70 = .ok (.iload_n 1, 1) := by decide +kernel
theorem dX11_records_71 : decode cX11_records 71 = .ok (.iadd, 1) := by decide +kernel
theorem dX11_records_72 : decode cX11_records 72 = .ok (.aload_n 0, 1) := by decide +kernel
theorem dX11_records_73 : decode cX11_records 73 = .ok (.getfield 7, 3) := by decide +kernel
theorem dX11_records_76 : decode cX11_records 76 = .ok (.iload_n 1, 1) := by decide +kernel
theorem dX11_records_77 : decode cX11_records 77 = .ok (.iaload, 1) := by decide +kernel
theorem dX11_records_78 : decode cX11_records 78 = .ok (.iastore, 1) := by decide +kernel
theorem dX11_records_79 : decode cX11_records 79 = .ok (.iinc 1 1, 3) := by decide +kernel
theorem dX11_records_82 : decode cX11_records 82 = .ok (.goto (-31), 3) := by decide +kernel
theorem dX11_records_85 : decode cX11_records 85 = .ok (.aload_n 0, 1) := by decide +kernel
theorem dX11_records_86 : decode cX11_records 86 = .ok (.dup, 1) := by decide +kernel
theorem dX11_records_87 : decode cX11_records 87 = .ok (.getfield 72, 3) := by decide +kernel
theorem dX11_records_90 : decode cX11_records 90 = .ok (.iconst 1, 1) := by decide +kernel
theorem dX11_records_91 : decode cX11_records 91 = .ok (.iadd, 1) := by decide +kernel
theorem dX11_records_92 : decode cX11_records 92 = .ok (.putfield 72, 3) := by decide +kernel
theorem dX11_records_95 : decode cX11_records 95 = .ok (.aload_n 0, 1) := by decide +kernel
theorem dX11_records_96 : decode cX11_records 96 = .ok (.iconst 0, 1) := by decide +kernel
theorem dX11_records_97 : decode cX11_records 97 = .ok (.putfield 76, 3) := by decide +kernel
theorem dX11_records_100 : decode cX11_records 100 = .ok (.return_, 1) := by decide +kernel
theorem dX11_of_0 : decode cX11_of 0 = .ok (.aload_n 0, 1) := by decide +kernel
theorem dX11_of_1 : decode cX11_of 1 = .ok (.getfield 7, 3) := by decide +kernel
theorem dX11_of_4 : decode cX11_of 4 = .ok (.iconst 4, 1) := by decide +kernel
theorem dX11_of_5 : decode cX11_of 5 = .ok (.iconst 5, 1) := by decide +kernel
theorem dX11_of_6 : decode cX11_of 6 = .ok (.iload_n 1, 1) := by decide +kernel
theorem dX11_of_7 : decode cX11_of 7 = .ok (.imul, 1) := by decide +kernel
theorem dX11_of_8 : decode cX11_of 8 = .ok (.iadd, 1) := by decide +kernel
theorem dX11_of_9 : decode cX11_of 9 = .ok (.iload_n 2, 1) := by decide +kernel
theorem dX11_of_10 : decode cX11_of 10 = .ok (.iadd, 1) := by decide +kernel
theorem dX11_of_11 : decode cX11_of 11 = .ok (.iaload, 1) := by decide +kernel
theorem dX11_of_12 : decode cX11_of 12 = .ok (.ireturn, 1) := by decide +kernel
theorem dX11_lays_0 : decode cX11_lays 0 = .ok (.aload_n 0, 1) := by decide +kernel
theorem dX11_lays_1 : decode cX11_lays 1 = .ok (.getfield 7, 3) := by decide +kernel
theorem dX11_lays_4 : decode cX11_lays 4 = .ok (.iconst 4, 1) := by decide +kernel
theorem dX11_lays_5 : decode cX11_lays 5 = .ok (.iconst 5, 1) := by decide +kernel
theorem dX11_lays_6 : decode cX11_lays 6 = .ok (.iload_n 1, 1) := by decide +kernel
theorem dX11_lays_7 : decode cX11_lays 7 = .ok (.imul, 1) := by decide +kernel
theorem dX11_lays_8 : decode cX11_lays 8 = .ok (.iadd, 1) := by decide +kernel
theorem dX11_lays_9 : decode cX11_lays 9 = .ok (.iload_n 2, 1) := by decide +kernel
theorem dX11_lays_10 : decode cX11_lays 10 = .ok (.iadd, 1) := by decide +kernel
theorem dX11_lays_11 : decode cX11_lays 11 = .ok (.iload_n 3, 1) := by decide +kernel
theorem dX11_lays_12 : decode cX11_lays 12 = .ok (.iastore, 1) := by decide +kernel
theorem dX11_lays_13 : decode cX11_lays 13 = .ok (.return_, 1) := by decide +kernel
theorem dX11_isTag_0 : decode cX11_isTag 0 = .ok (.iload_n 1, 1) := by decide +kernel
theorem dX11_isTag_1 : decode cX11_isTag 1 = .ok (.iconst 0, 1) := by decide +kernel
theorem dX11_isTag_2 : decode cX11_isTag 2 = .ok (.bipush 15, 2) := by decide +kernel
theorem dX11_isTag_4 : decode cX11_isTag 4 = .ok (.invokestatic 80, 3) := by decide +kernel
theorem dX11_isTag_7 : decode cX11_isTag 7 = .ok (.ifCond .eq 16, 3) := by decide +kernel
theorem dX11_isTag_10 : decode cX11_isTag 10 = .ok (.aload_n 0, 1) := by decide +kernel
theorem dX11_isTag_11 : decode cX11_isTag 11 = .ok (.iload_n 1, 1) := by decide +kernel
theorem dX11_isTag_12 : decode cX11_isTag 12 = .ok (.iconst 0, 1) := by decide +kernel
theorem dX11_isTag_13 : decode cX11_isTag 13 = .ok (.invokevirtual 84, 3) := by decide +kernel
theorem dX11_isTag_16 : decode cX11_isTag 16 = .ok (.ifCond .le 7, 3) := by decide +kernel
theorem dX11_isTag_19 : decode cX11_isTag 19 = .ok (.iconst 1, 1) := by decide +kernel
theorem dX11_isTag_20 : decode cX11_isTag 20 = .ok (.goto 4, 3) := by decide +kernel
theorem dX11_isTag_23 : decode cX11_isTag 23 = .ok (.iconst 0, 1) := by decide +kernel
theorem dX11_isTag_24 : decode cX11_isTag 24 = .ok (.ireturn, 1) := by decide +kernel
theorem dX11_isTable_0 : decode cX11_isTable 0 = .ok (.iload_n 0, 1) := by decide +kernel
theorem dX11_isTable_1 : decode cX11_isTable 1 = .ok (.iconst 0, 1) := by decide +kernel
theorem dX11_isTable_2 : decode cX11_isTable 2 = .ok (.iconst 3, 1) := by decide +kernel
theorem dX11_isTable_3 : decode cX11_isTable 3 = .ok (.invokestatic 80, 3) := by decide +kernel
theorem dX11_isTable_6 : decode cX11_isTable 6 = .ok (.ireturn, 1) := by decide +kernel
theorem dX11_power_0 : decode cX11_power 0 = .ok (.iconst 1, 1) := by decide +kernel
theorem dX11_power_1 : decode cX11_power 1 = .ok (.istore_n 1, 1) := by decide +kernel
theorem dX11_power_2 : decode cX11_power 2 = .ok (.iconst 0, 1) := by decide +kernel
theorem dX11_power_3 : decode cX11_power 3 = .ok (.istore_n 2, 1) := by decide +kernel
theorem dX11_power_4 : decode cX11_power 4 = .ok (.iload_n 2, 1) := by decide +kernel
theorem dX11_power_5 : decode cX11_power 5 = .ok (.iload_n 0, 1) := by decide +kernel
theorem dX11_power_6 : decode cX11_power 6 = .ok (.if_icmp .ge 14, 3) := by decide +kernel
theorem dX11_power_9 : decode cX11_power 9 = .ok (.iload_n 1, 1) := by decide +kernel
theorem dX11_power_10 : decode cX11_power 10 = .ok (.bipush 10, 2) := by decide +kernel
theorem dX11_power_12 : decode cX11_power 12 = .ok (.imul, 1) := by decide +kernel
theorem dX11_power_13 : decode cX11_power 13 = .ok (.istore_n 1, 1) := by decide +kernel
theorem dX11_power_14 : decode cX11_power 14 = .ok (.iinc 2 1, 3) := by decide +kernel
theorem dX11_power_17 : decode cX11_power 17 = .ok (.goto (-13), 3) := by decide +kernel
theorem dX11_power_20 : decode cX11_power 20 = .ok (.iload_n 1, 1) := by decide +kernel
theorem dX11_power_21 : decode cX11_power 21 = .ok (.ireturn, 1) := by decide +kernel
theorem dX11_mask_0 : decode cX11_mask 0 = .ok (.iconst 0, 1) := by decide +kernel
theorem dX11_mask_1 : decode cX11_mask 1 = .ok (.istore_n 2, 1) := by decide +kernel
theorem dX11_mask_2 : decode cX11_mask 2 = .ok (.iconst 0, 1) := by decide +kernel
theorem dX11_mask_3 : decode cX11_mask 3 = .ok (.istore_n 3, 1) := by decide +kernel
theorem dX11_mask_4 : decode cX11_mask 4 = .ok (.iload_n 3, 1) := by decide +kernel
theorem dX11_mask_5 : decode cX11_mask 5 = .ok (.bipush 16, 2) := by decide +kernel
theorem dX11_mask_7 : decode cX11_mask 7 = .ok (.if_icmp .ge 42, 3) := by decide +kernel
theorem dX11_mask_10 : decode cX11_mask 10 = .ok (.iload_n 2, 1) := by decide +kernel
theorem dX11_mask_11 : decode cX11_mask 11 = .ok (.aload_n 0, 1) := by decide +kernel
theorem dX11_mask_12 : decode cX11_mask 12 = .ok (.iload_n 3, 1) := by decide +kernel
theorem dX11_mask_13 : decode cX11_mask 13 = .ok (.iconst 0, 1) := by decide +kernel
theorem dX11_mask_14 : decode cX11_mask 14 = .ok (.invokevirtual 84, 3) := by decide +kernel
theorem dX11_mask_17 : decode cX11_mask 17 = .ok (.ifCond .le 23, 3) := by decide +kernel
theorem dX11_mask_20 : decode cX11_mask 20 = .ok (.iload_n 1, 1) := by decide +kernel
theorem dX11_mask_21 : decode cX11_mask 21 = .ok (.ifCond .eq 13, 3) := by decide +kernel
theorem dX11_mask_24 : decode cX11_mask 24 = .ok (.aload_n 0, 1) := by decide +kernel
theorem dX11_mask_25 : decode cX11_mask 25 = .ok (.iload_n 3, 1) := by decide +kernel
theorem dX11_mask_26 : decode cX11_mask 26 = .ok (.iconst 4, 1) := by decide +kernel
theorem dX11_mask_27 : decode cX11_mask 27 = .ok (.invokevirtual 84, 3) := by decide +kernel
theorem dX11_mask_30 : decode cX11_mask 30 = .ok (.iconst 1, 1) := by decide +kernel
theorem dX11_mask_31 : decode cX11_mask 31 = .ok (.if_icmp .ne 9, 3) := by decide +kernel
theorem dX11_mask_34 : decode cX11_mask 34 = .ok (.iconst 1, 1) := by decide +kernel
theorem dX11_mask_35 : decode cX11_mask 35 = .ok (.iload_n 3, 1) := by decide +kernel
theorem dX11_mask_36 : decode cX11_mask 36 = .ok (.ishl, 1) := by decide +kernel
theorem dX11_mask_37 : decode cX11_mask 37 = .ok (.goto 4, 3) := by decide +kernel
theorem dX11_mask_40 : decode cX11_mask 40 = .ok (.iconst 0, 1) := by decide +kernel
theorem dX11_mask_41 : decode cX11_mask 41 = .ok (.ior, 1) := by decide +kernel
theorem dX11_mask_42 : decode cX11_mask 42 = .ok (.istore_n 2, 1) := by decide +kernel
theorem dX11_mask_43 : decode cX11_mask 43 = .ok (.iinc 3 1, 3) := by decide +kernel
theorem dX11_mask_46 : decode cX11_mask 46 = .ok (.goto (-42), 3) := by decide +kernel
theorem dX11_mask_49 : decode cX11_mask 49 = .ok (.iload_n 2, 1) := by decide +kernel
theorem dX11_mask_50 : decode cX11_mask 50 = .ok (.ireturn, 1) := by decide +kernel
theorem dX11_here_0 : decode cX11_here 0 = .ok (.aload_n 0, 1) := by decide +kernel
theorem dX11_here_1 : decode cX11_here 1 = .ok (.getfield 88, 3) := by decide +kernel
theorem dX11_here_4 : decode cX11_here 4 = .ok (.aload_n 0, 1) := by decide +kernel
theorem dX11_here_5 : decode cX11_here 5 = .ok (.getfield 91, 3) := by decide +kernel
theorem dX11_here_8 : decode cX11_here 8 = .ok (.if_icmp .ge 15, 3) := by decide +kernel
theorem dX11_here_11 : decode cX11_here 11 = .ok (.aload_n 0, 1) := by decide +kernel
theorem dX11_here_12 : decode cX11_here 12 = .ok (.getfield 19, 3) := by decide +kernel
theorem dX11_here_15 : decode cX11_here 15 = .ok (.aload_n 0, 1) := by decide +kernel
theorem dX11_here_16 : decode cX11_here 16 = .ok (.getfield 88, 3) := by decide +kernel
theorem dX11_here_19 : decode cX11_here 19 = .ok (.iaload, 1) := by decide +kernel
theorem dX11_here_20 : decode cX11_here 20 = .ok (.goto 5, 3) := by decide +kernel
theorem dX11_here_23 : decode cX11_here 23 = .ok (.bipush (-6), 2) := by decide +kernel
theorem dX11_here_25 : decode cX11_here 25 = .ok (.ireturn, 1) := by decide +kernel
theorem dX11_takes_0 : decode cX11_takes 0 = .ok (.aload_n 0, 1) := by decide +kernel
theorem dX11_takes_1 : decode cX11_takes 1 = .ok (.aload_n 0, 1) := by decide +kernel
theorem dX11_takes_2 : decode cX11_takes 2 = .ok (.getfield 94, 3) := by decide +kernel
theorem dX11_takes_5 : decode cX11_takes 5 = .ok (.ifCond .eq 11, 3) := by decide +kernel
theorem dX11_takes_8 : decode cX11_takes 8 = .ok (.iload_n 1, 1) := by decide +kernel
theorem dX11_takes_9 : decode cX11_takes 9 = .ok (.ifCond .eq 7, 3) := by decide +kernel
theorem dX11_takes_12 : decode cX11_takes 12 = .ok (.iconst 1, 1) := by decide +kernel
theorem dX11_takes_13 : decode cX11_takes 13 = .ok (.goto 4, 3) := by decide +kernel
theorem dX11_takes_16 : decode cX11_takes 16 = .ok (.iconst 0, 1) := by decide +kernel
theorem dX11_takes_17 : decode cX11_takes 17 = .ok (.putfield 94, 3) := by decide +kernel
theorem dX11_takes_20 : decode cX11_takes 20 = .ok (.aload_n 0, 1) := by decide +kernel
theorem dX11_takes_21 : decode cX11_takes 21 = .ok (.dup, 1) := by decide +kernel
theorem dX11_takes_22 : decode cX11_takes 22 = .ok (.getfield 88, 3) := by decide +kernel
theorem dX11_takes_25 : decode cX11_takes 25 = .ok (.aload_n 0, 1) := by decide +kernel
theorem dX11_takes_26 : decode cX11_takes 26 = .ok (.getfield 94, 3) := by decide +kernel
theorem dX11_takes_29 : decode cX11_takes 29 = .ok (.ifCond .eq 7, 3) := by decide +kernel
theorem dX11_takes_32 : decode cX11_takes 32 = .ok (.iconst 1, 1) := by decide +kernel
theorem dX11_takes_33 : decode cX11_takes 33 = .ok (.goto 4, 3) := by decide +kernel
theorem dX11_takes_36 : decode cX11_takes 36 = .ok (.iconst 0, 1) := by decide +kernel
theorem dX11_takes_37 : decode cX11_takes 37 = .ok (.iadd, 1) := by decide +kernel
theorem dX11_takes_38 : decode cX11_takes 38 = .ok (.putfield 88, 3) := by decide +kernel
theorem dX11_takes_41 : decode cX11_takes 41 = .ok (.return_, 1) := by decide +kernel
theorem dX11_takesDigit_0 : decode cX11_takesDigit 0 = .ok (.aload_n 0, 1) := by decide +kernel
theorem dX11_takesDigit_1 : decode cX11_takesDigit 1 = .ok (.invokevirtual 97, 3) := by decide +kernel
theorem dX11_takesDigit_4 : decode cX11_takesDigit 4 = .ok (.bipush 48, 2) := by decide +kernel
theorem dX11_takesDigit_6 : decode cX11_takesDigit 6 = .ok (.isub, 1) := by decide +kernel
theorem dX11_takesDigit_7 : decode cX11_takesDigit 7 = .ok (.istore_n 2, 1) := by decide +kernel
theorem dX11_takesDigit_8 : decode cX11_takesDigit 8 = .ok (.aload_n 0, 1) := by decide +kernel
theorem dX11_takesDigit_9 : decode cX11_takesDigit 9 = .ok (.aload_n 0, 1) := by decide +kernel
theorem dX11_takesDigit_10 : decode cX11_takesDigit 10 = .ok (.invokevirtual 97, 3) := by decide +kernel
theorem dX11_takesDigit_13 : decode cX11_takesDigit 13 = .ok (.bipush 48, 2) := by decide +kernel
theorem dX11_takesDigit_15 : decode cX11_takesDigit 15 = .ok (.bipush 48, 2) := by decide +kernel
theorem dX11_takesDigit_17 : decode cX11_takesDigit 17 = .ok (.iload_n 1, 1) := by decide +kernel
theorem dX11_takesDigit_18 : decode cX11_takesDigit 18 = .ok (.iadd, 1) := by decide +kernel
theorem dX11_takesDigit_19 : decode cX11_takesDigit 19 = .ok (.invokestatic 80, 3) := by decide +kernel
theorem dX11_takesDigit_22 : decode cX11_takesDigit 22 = .ok (.invokevirtual 101, 3) := by decide +kernel
theorem dX11_takesDigit_25 : decode cX11_takesDigit 25 = .ok (.iload_n 2, 1) := by decide +kernel
theorem dX11_takesDigit_26 : decode cX11_takesDigit 26 = .ok (.ireturn, 1) := by decide +kernel
theorem dX11_emits_0 : decode cX11_emits 0 = .ok (.aload_n 0, 1) := by decide +kernel
theorem dX11_emits_1 : decode cX11_emits 1 = .ok (.getfield 22, 3) := by decide +kernel
theorem dX11_emits_4 : decode cX11_emits 4 = .ok (.aload_n 0, 1) := by decide +kernel
theorem dX11_emits_5 : decode cX11_emits 5 = .ok (.getfield 105, 3) := by decide +kernel
theorem dX11_emits_8 : decode cX11_emits 8 = .ok (.iload_n 1, 1) := by decide +kernel
theorem dX11_emits_9 : decode cX11_emits 9 = .ok (.iastore, 1) := by decide +kernel
theorem dX11_emits_10 : decode cX11_emits 10 = .ok (.aload_n 0, 1) := by decide +kernel
theorem dX11_emits_11 : decode cX11_emits 11 = .ok (.getfield 25, 3) := by decide +kernel
theorem dX11_emits_14 : decode cX11_emits 14 = .ok (.aload_n 0, 1) := by decide +kernel
theorem dX11_emits_15 : decode cX11_emits 15 = .ok (.getfield 105, 3) := by decide +kernel
theorem dX11_emits_18 : decode cX11_emits 18 = .ok (.iload_n 2, 1) := by decide +kernel
theorem dX11_emits_19 : decode cX11_emits 19 = .ok (.iastore, 1) := by decide +kernel
theorem dX11_emits_20 : decode cX11_emits 20 = .ok (.aload_n 0, 1) := by decide +kernel
theorem dX11_emits_21 : decode cX11_emits 21 = .ok (.getfield 28, 3) := by decide +kernel
theorem dX11_emits_24 : decode cX11_emits 24 = .ok (.aload_n 0, 1) := by decide +kernel
theorem dX11_emits_25 : decode cX11_emits 25 = .ok (.getfield 105, 3) := by decide +kernel
theorem dX11_emits_28 : decode cX11_emits 28 = .ok (.iload_n 3, 1) := by decide +kernel
theorem dX11_emits_29 : decode cX11_emits 29 = .ok (.iastore, 1) := by decide +kernel
theorem dX11_emits_30 : decode cX11_emits 30 = .ok (.aload_n 0, 1) := by decide +kernel
theorem dX11_emits_31 : decode cX11_emits 31 = .ok (.dup, 1) := by decide +kernel
theorem dX11_emits_32 : decode cX11_emits 32 = .ok (.getfield 105, 3) := by decide +kernel
theorem dX11_emits_35 : decode cX11_emits 35 = .ok (.iconst 1, 1) := by decide +kernel
theorem dX11_emits_36 : decode cX11_emits 36 = .ok (.iadd, 1) := by decide +kernel
theorem dX11_emits_37 : decode cX11_emits 37 = .ok (.putfield 105, 3) := by decide +kernel
theorem dX11_emits_40 : decode cX11_emits 40 = .ok (.return_, 1) := by decide +kernel
theorem dX11_opensOne_0 : decode cX11_opensOne 0 = .ok (.aload_n 0, 1) := by decide +kernel
theorem dX11_opensOne_1 : decode cX11_opensOne 1 = .ok (.aload_n 0, 1) := by decide +kernel
theorem dX11_opensOne_2 : decode cX11_opensOne 2 = .ok (.invokevirtual 97, 3) := by decide +kernel
theorem dX11_opensOne_5 : decode cX11_opensOne 5 = .ok (.bipush 40, 2) := by decide +kernel
theorem dX11_opensOne_7 : decode cX11_opensOne 7 = .ok (.if_icmp .ne 7, 3) := by decide +kernel
theorem dX11_opensOne_10 : decode cX11_opensOne 10 = .ok (.iconst 1, 1) := by decide +kernel
theorem dX11_opensOne_11 : decode cX11_opensOne 11 = .ok (.goto 4, 3) := by decide +kernel
theorem dX11_opensOne_14 : decode cX11_opensOne 14 = .ok (.iconst 0, 1) := by decide +kernel
theorem dX11_opensOne_15 : decode cX11_opensOne 15 = .ok (.invokevirtual 101, 3) := by decide +kernel
theorem dX11_opensOne_18 : decode cX11_opensOne 18 = .ok (.aload_n 0, 1) := by decide +kernel
theorem dX11_opensOne_19 : decode cX11_opensOne 19 = .ok (.getfield 31, 3) := by decide +kernel
theorem dX11_opensOne_22 : decode cX11_opensOne 22 = .ok (.aload_n 0, 1) := by decide +kernel
theorem dX11_opensOne_23 : decode cX11_opensOne 23 = .ok (.getfield 108, 3) := by decide +kernel
theorem dX11_opensOne_26 : decode cX11_opensOne 26 = .ok (.iload_n 1, 1) := by decide +kernel
theorem dX11_opensOne_27 : decode cX11_opensOne 27 = .ok (.iastore, 1) := by decide +kernel
theorem dX11_opensOne_28 : decode cX11_opensOne 28 = .ok (.aload_n 0, 1) := by decide +kernel
theorem dX11_opensOne_29 : decode cX11_opensOne 29 = .ok (.getfield 34, 3) := by decide +kernel
theorem dX11_opensOne_32 : decode cX11_opensOne 32 = .ok (.aload_n 0, 1) := by decide +kernel
theorem dX11_opensOne_33 : decode cX11_opensOne 33 = .ok (.getfield 108, 3) := by decide +kernel
theorem dX11_opensOne_36 : decode cX11_opensOne 36 = .ok (.iload_n 2, 1) := by decide +kernel
theorem dX11_opensOne_37 : decode cX11_opensOne 37 = .ok (.iastore, 1) := by decide +kernel
theorem dX11_opensOne_38 : decode cX11_opensOne 38 = .ok (.aload_n 0, 1) := by decide +kernel
theorem dX11_opensOne_39 : decode cX11_opensOne 39 = .ok (.getfield 37, 3) := by decide +kernel
theorem dX11_opensOne_42 : decode cX11_opensOne 42 = .ok (.aload_n 0, 1) := by decide +kernel
theorem dX11_opensOne_43 : decode cX11_opensOne 43 = .ok (.getfield 108, 3) := by decide +kernel
theorem dX11_opensOne_46 : decode cX11_opensOne 46 = .ok (.iload_n 3, 1) := by decide +kernel
theorem dX11_opensOne_47 : decode cX11_opensOne 47 = .ok (.iastore, 1) := by decide +kernel
theorem dX11_opensOne_48 : decode cX11_opensOne 48 = .ok (.aload_n 0, 1) := by decide +kernel
theorem dX11_opensOne_49 : decode cX11_opensOne 49 = .ok (.getfield 40, 3) := by decide +kernel
theorem dX11_opensOne_52 : decode cX11_opensOne 52 = .ok (.aload_n 0, 1) := by decide +kernel
theorem dX11_opensOne_53 : decode cX11_opensOne 53 = .ok (.getfield 108, 3) := by decide +kernel
theorem dX11_opensOne_56 : decode cX11_opensOne 56 = .ok (.iconst 0, 1) := by decide +kernel
theorem dX11_opensOne_57 : decode cX11_opensOne 57 = .ok (.iastore, 1) := by decide +kernel
theorem dX11_opensOne_58 : decode cX11_opensOne 58 = .ok (.aload_n 0, 1) := by decide +kernel
theorem dX11_opensOne_59 : decode cX11_opensOne 59 = .ok (.dup, 1) := by decide +kernel
theorem dX11_opensOne_60 : decode cX11_opensOne 60 = .ok (.getfield 108, 3) := by decide +kernel
theorem dX11_opensOne_63 : decode cX11_opensOne 63 = .ok (.iconst 1, 1) := by decide +kernel
theorem dX11_opensOne_64 : decode cX11_opensOne 64 = .ok (.iadd, 1) := by decide +kernel
theorem dX11_opensOne_65 : decode cX11_opensOne 65 = .ok (.putfield 108, 3) := by decide +kernel
theorem dX11_opensOne_68 : decode cX11_opensOne 68 = .ok (.return_, 1) := by decide +kernel
theorem dX11_takesSelect_0 : decode cX11_takesSelect 0 = .ok (.aload_n 0, 1) := by decide +kernel
theorem dX11_takesSelect_1 : decode cX11_takesSelect 1 = .ok (.iconst 3, 1) := by decide +kernel
theorem dX11_takesSelect_2 : decode cX11_takesSelect 2 = .ok (.invokevirtual 111, 3) := by decide +kernel
theorem dX11_takesSelect_5 : decode cX11_takesSelect 5 = .ok (.istore_n 1, 1) := by decide +kernel
theorem dX11_takesSelect_6 : decode cX11_takesSelect 6 = .ok (.aload_n 0, 1) := by decide +kernel
theorem dX11_takesSelect_7 : decode cX11_takesSelect 7 = .ok (.invokevirtual 97, 3) := by decide +kernel
theorem dX11_takesSelect_10 : decode cX11_takesSelect 10 = .ok (.istore_n 2, 1) := by decide +kernel
theorem dX11_takesSelect_11 : decode cX11_takesSelect 11 = .ok (.aload_n 0, 1) := by decide +kernel
theorem dX11_takesSelect_12 : decode cX11_takesSelect 12 = .ok (.iload_n 2, 1) := by decide +kernel
theorem dX11_takesSelect_13 : decode cX11_takesSelect 13 = .ok (.bipush 61, 2) := by decide +kernel
theorem dX11_takesSelect_15 : decode cX11_takesSelect 15 = .ok (.if_icmp .eq 9, 3) := by decide +kernel
theorem dX11_takesSelect_18 : decode cX11_takesSelect 18 = .ok (.iload_n 2, 1) := by decide +kernel
theorem dX11_takesSelect_19 : decode cX11_takesSelect 19 = .ok (.bipush 126, 2) := by decide +kernel
theorem dX11_takesSelect_21 : decode cX11_takesSelect 21 = .ok (.if_icmp .ne 7, 3) := by decide +kernel
theorem dX11_takesSelect_24 : decode cX11_takesSelect 24 = .ok (.iconst 1, 1) := by decide +kernel
theorem dX11_takesSelect_25 : decode cX11_takesSelect 25 = .ok (.goto 4, 3) := by decide +kernel
theorem dX11_takesSelect_28 : decode cX11_takesSelect 28 = .ok (.iconst 0, 1) := by decide +kernel
theorem dX11_takesSelect_29 : decode cX11_takesSelect 29 = .ok (.invokevirtual 101, 3) := by decide +kernel
theorem dX11_takesSelect_32 : decode cX11_takesSelect 32 = .ok (.aload_n 0, 1) := by decide +kernel
theorem dX11_takesSelect_33 : decode cX11_takesSelect 33 = .ok (.iload_n 2, 1) := by decide +kernel
theorem dX11_takesSelect_34 : decode cX11_takesSelect 34 = .ok (.bipush 61, 2) := by decide +kernel
theorem dX11_takesSelect_36 : decode cX11_takesSelect 36 = .ok (.if_icmp .ne 8, 3) := by decide +kernel
theorem dX11_takesSelect_39 : decode cX11_takesSelect 39 = .ok (.bipush 9, 2) := by decide +kernel
theorem dX11_takesSelect_41 : decode cX11_takesSelect 41 = .ok (.goto 4, 3) := by decide +kernel
theorem dX11_takesSelect_44 : decode cX11_takesSelect 44 = .ok (.iconst 3, 1) := by decide +kernel
theorem dX11_takesSelect_45 : decode cX11_takesSelect 45 = .ok (.invokevirtual 111, 3) := by decide +kernel
theorem dX11_takesSelect_48 : decode cX11_takesSelect 48 = .ok (.istore_n 3, 1) := by decide +kernel
theorem dX11_takesSelect_49 : decode cX11_takesSelect 49 = .ok (.aload_n 0, 1) := by decide +kernel
theorem dX11_takesSelect_50 : decode cX11_takesSelect 50 = .ok (.iload_n 2, 1) := by decide +kernel
theorem dX11_takesSelect_51 : decode cX11_takesSelect 51 = .ok (.bipush 61, 2) := by decide +kernel
theorem dX11_takesSelect_53 : decode cX11_takesSelect 53 = .ok (.if_icmp .ne 8, 3) := by decide +kernel
theorem dX11_takesSelect_56 : decode cX11_takesSelect 56 = .ok (.bipush 61, 2) := by decide +kernel
theorem dX11_takesSelect_58 : decode cX11_takesSelect 58 = .ok (.goto 5, 3) := by decide +kernel
theorem dX11_takesSelect_61 : decode cX11_takesSelect 61 = .ok (.bipush 126, 2) := by decide +kernel
theorem dX11_takesSelect_63 : decode cX11_takesSelect 63 = .ok (.iload_n 1, 1) := by decide +kernel
theorem dX11_takesSelect_64 : decode cX11_takesSelect 64 = .ok (.iload_n 3, 1) := by decide +kernel
theorem dX11_takesSelect_65 : decode cX11_takesSelect 65 = .ok (.invokevirtual 115, 3) := by decide +kernel
theorem dX11_takesSelect_68 : decode cX11_takesSelect 68 = .ok (.return_, 1) := by decide +kernel
theorem dX11_takesProject_0 : decode cX11_takesProject 0 = .ok (.iconst 0, 1) := by decide +kernel
theorem dX11_takesProject_1 : decode cX11_takesProject 1 = .ok (.istore_n 1, 1) := by decide +kernel
theorem dX11_takesProject_2 : decode cX11_takesProject 2 = .ok (.iconst 0, 1) := by decide +kernel
theorem dX11_takesProject_3 : decode cX11_takesProject 3 = .ok (.istore_n 2, 1) := by decide +kernel
theorem dX11_takesProject_4 : decode cX11_takesProject 4 = .ok (.aload_n 0, 1) := by decide +kernel
theorem dX11_takesProject_5 : decode cX11_takesProject 5 = .ok (.getfield 94, 3) := by decide +kernel
theorem dX11_takesProject_8 : decode cX11_takesProject 8 = .ok (.ifCond .eq 37, 3) := by decide +kernel
theorem dX11_takesProject_11 : decode cX11_takesProject 11 = .ok (.iload_n 1, 1) := by decide +kernel
theorem dX11_takesProject_12 : decode cX11_takesProject 12 = .ok (.iconst 4, 1) := by decide +kernel
theorem dX11_takesProject_13 : decode cX11_takesProject 13 = .ok (.if_icmp .ge 32, 3) := by decide +kernel
theorem dX11_takesProject_16 : decode cX11_takesProject 16 = .ok (.iload_n 1, 1) := by decide +kernel
theorem dX11_takesProject_17 : decode cX11_takesProject 17 = .ok (.ifCond .eq 12, 3) := by decide +kernel
theorem dX11_takesProject_20 : decode cX11_takesProject 20 = .ok (.aload_n 0, 1) := by decide +kernel
theorem dX11_takesProject_21 : decode cX11_takesProject 21 = .ok (.invokevirtual 97, 3) := by decide +kernel
theorem dX11_takesProject_24 : decode cX11_takesProject 24 = .ok (.bipush 40, 2) := by decide +kernel
theorem dX11_takesProject_26 : decode cX11_takesProject 26 = .ok (.if_icmp .eq 19, 3) := by decide +kernel
theorem dX11_takesProject_29 : decode cX11_takesProject 29 = .ok (.iconst 4, 1) := by decide +kernel
theorem dX11_takesProject_30 : decode cX11_takesProject 30 = .ok (.iload_n 2, 1) := by decide +kernel
theorem dX11_takesProject_31 : decode cX11_takesProject 31 = .ok (.imul, 1) := by decide +kernel
theorem dX11_takesProject_32 : decode cX11_takesProject 32 = .ok (.aload_n 0, 1) := by decide +kernel
theorem dX11_takesProject_33 : decode cX11_takesProject 33 = .ok (.iconst 3, 1) := by decide +kernel
theorem dX11_takesProject_34 : decode cX11_takesProject 34 = .ok (.invokevirtual 111, 3) := by decide +kernel
theorem dX11_takesProject_37 : decode cX11_takesProject 37 = .ok (.iadd, 1) := by decide +kernel
theorem dX11_takesProject_38 : decode cX11_takesProject 38 = .ok (.istore_n 2, 1) := by decide +kernel
theorem dX11_takesProject_39 : decode cX11_takesProject 39 = .ok (.iinc 1 1, 3) := by decide +kernel
theorem dX11_takesProject_42 : decode cX11_takesProject 42 = .ok (.goto (-38), 3) := by decide +kernel
theorem dX11_takesProject_45 : decode cX11_takesProject 45 = .ok (.aload_n 0, 1) := by decide +kernel
theorem dX11_takesProject_46 : decode cX11_takesProject 46 = .ok (.bipush 112, 2) := by decide +kernel
theorem dX11_takesProject_48 : decode cX11_takesProject 48 = .ok (.iload_n 1, 1) := by decide +kernel
theorem dX11_takesProject_49 : decode cX11_takesProject 49 = .ok (.iload_n 2, 1) := by decide +kernel
theorem dX11_takesProject_50 : decode cX11_takesProject 50 = .ok (.invokevirtual 115, 3) := by decide +kernel
theorem dX11_takesProject_53 : decode cX11_takesProject 53 = .ok (.return_, 1) := by decide +kernel
theorem dX11_takesBegin_0 : decode cX11_takesBegin 0 = .ok (.aload_n 0, 1) := by decide +kernel
theorem dX11_takesBegin_1 : decode cX11_takesBegin 1 = .ok (.invokevirtual 97, 3) := by decide +kernel
theorem dX11_takesBegin_4 : decode cX11_takesBegin 4 = .ok (.istore_n 1, 1) := by decide +kernel
theorem dX11_takesBegin_5 : decode cX11_takesBegin 5 = .ok (.aload_n 0, 1) := by decide +kernel
theorem dX11_takesBegin_6 : decode cX11_takesBegin 6 = .ok (.iload_n 1, 1) := by decide +kernel
theorem dX11_takesBegin_7 : decode cX11_takesBegin 7 = .ok (.bipush 65, 2) := by decide +kernel
theorem dX11_takesBegin_9 : decode cX11_takesBegin 9 = .ok (.bipush 68, 2) := by decide +kernel
theorem dX11_takesBegin_11 : decode cX11_takesBegin 11 = .ok (.invokestatic 80, 3) := by decide +kernel
theorem dX11_takesBegin_14 : decode cX11_takesBegin 14 = .ok (.ifCond .ne 27, 3) := by decide +kernel
theorem dX11_takesBegin_17 : decode cX11_takesBegin 17 = .ok (.iload_n 1, 1) := by decide +kernel
theorem dX11_takesBegin_18 : decode cX11_takesBegin 18 = .ok (.bipush 115, 2) := by decide +kernel
theorem dX11_takesBegin_20 : decode cX11_takesBegin 20 = .ok (.if_icmp .eq 21, 3) := by decide +kernel
theorem dX11_takesBegin_23 : decode cX11_takesBegin 23 = .ok (.iload_n 1, 1) := by decide +kernel
theorem dX11_takesBegin_24 : decode cX11_takesBegin 24 = .ok (.bipush 112, 2) := by decide +kernel
theorem dX11_takesBegin_26 : decode cX11_takesBegin 26 = .ok (.if_icmp .eq 15, 3) := by decide +kernel
theorem dX11_takesBegin_29 : decode cX11_takesBegin 29 = .ok (.iload_n 1, 1) := by decide +kernel
theorem dX11_takesBegin_30 : decode cX11_takesBegin 30 = .ok (.bipush 106, 2) := by decide +kernel
theorem dX11_takesBegin_32 : decode cX11_takesBegin 32 = .ok (.if_icmp .eq 9, 3) := by decide +kernel
theorem dX11_takesBegin_35 : decode cX11_takesBegin 35 = .ok (.iload_n 1, 1) := by decide +kernel
theorem dX11_takesBegin_36 : decode cX11_takesBegin 36 = .ok (.bipush 117, 2) := by decide +kernel
theorem dX11_takesBegin_38 : decode cX11_takesBegin 38 = .ok (.if_icmp .ne 7, 3) := by decide +kernel
theorem dX11_takesBegin_41 : decode cX11_takesBegin 41 = .ok (.iconst 1, 1) := by decide +kernel
theorem dX11_takesBegin_42 : decode cX11_takesBegin 42 = .ok (.goto 4, 3) := by decide +kernel
theorem dX11_takesBegin_45 : decode cX11_takesBegin 45 = .ok (.iconst 0, 1) := by decide +kernel
theorem dX11_takesBegin_46 : decode cX11_takesBegin 46 = .ok (.invokevirtual 101, 3) := by decide +kernel
theorem dX11_takesBegin_49 : decode cX11_takesBegin 49 = .ok (.aload_n 0, 1) := by decide +kernel
theorem dX11_takesBegin_50 : decode cX11_takesBegin 50 = .ok (.getfield 94, 3) := by decide +kernel
theorem dX11_takesBegin_53 : decode cX11_takesBegin 53 = .ok (.ifCond .ne 5, 3) := by decide +kernel
theorem dX11_takesBegin_56 : decode cX11_takesBegin 56 = .ok (.iconst 0, 1) := by decide +kernel
theorem dX11_takesBegin_57 : decode cX11_takesBegin 57 = .ok (.ireturn, 1) := by decide +kernel
theorem dX11_takesBegin_58 : decode cX11_takesBegin 58 = .ok (.iload_n 1, 1) := by decide +kernel
theorem dX11_takesBegin_59 : decode cX11_takesBegin 59 = .ok (.lookupswitch 83 #[(106, 53), (112, 47), (115, 41), (117, 73)], 41) := by decide +kernel
theorem dX11_takesBegin_100 : decode cX11_takesBegin 100 = .ok (.aload_n 0, 1) := by decide +kernel
theorem dX11_takesBegin_101 : decode cX11_takesBegin 101 = .ok (.invokevirtual 119, 3) := by decide +kernel
theorem dX11_takesBegin_104 : decode cX11_takesBegin 104 = .ok (.iconst 0, 1) := by decide +kernel
theorem dX11_takesBegin_105 : decode cX11_takesBegin 105 = .ok (.ireturn, 1) := by decide +kernel
theorem dX11_takesBegin_106 : decode cX11_takesBegin 106 = .ok (.aload_n 0, 1) := by decide +kernel
theorem dX11_takesBegin_107 : decode cX11_takesBegin 107 = .ok (.invokevirtual 122, 3) := by decide +kernel
theorem dX11_takesBegin_110 : decode cX11_takesBegin 110 = .ok (.iconst 0, 1) := by decide +kernel
theorem dX11_takesBegin_111 : decode cX11_takesBegin 111 = .ok (.ireturn, 1) := by decide +kernel
theorem dX11_takesBegin_112 : decode cX11_takesBegin 112 = .ok (.aload_n 0, 1) := by decide +kernel
theorem dX11_takesBegin_113 : decode cX11_takesBegin 113 = .ok (.iconst 3, 1) := by decide +kernel
theorem dX11_takesBegin_114 : decode cX11_takesBegin 114 = .ok (.invokevirtual 111, 3) := by decide +kernel
theorem dX11_takesBegin_117 : decode cX11_takesBegin 117 = .ok (.istore_n 2, 1) := by decide +kernel
theorem dX11_takesBegin_118 : decode cX11_takesBegin 118 = .ok (.aload_n 0, 1) := by decide +kernel
theorem dX11_takesBegin_119 : decode cX11_takesBegin 119 = .ok (.bipush 106, 2) := by decide +kernel
theorem dX11_takesBegin_121 : decode cX11_takesBegin 121 = .ok (.iload_n 2, 1) := by decide +kernel
theorem dX11_takesBegin_122 : decode cX11_takesBegin 122 = .ok (.aload_n 0, 1) := by decide +kernel
theorem dX11_takesBegin_123 : decode cX11_takesBegin 123 = .ok (.iconst 3, 1) := by decide +kernel
theorem dX11_takesBegin_124 : decode cX11_takesBegin 124 = .ok (.invokevirtual 111, 3) := by decide +kernel
theorem dX11_takesBegin_127 : decode cX11_takesBegin 127 = .ok (.invokevirtual 115, 3) := by decide +kernel
theorem dX11_takesBegin_130 : decode cX11_takesBegin 130 = .ok (.iconst 0, 1) := by decide +kernel
theorem dX11_takesBegin_131 : decode cX11_takesBegin 131 = .ok (.ireturn, 1) := by decide +kernel
theorem dX11_takesBegin_132 : decode cX11_takesBegin 132 = .ok (.aload_n 0, 1) := by decide +kernel
theorem dX11_takesBegin_133 : decode cX11_takesBegin 133 = .ok (.bipush 117, 2) := by decide +kernel
theorem dX11_takesBegin_135 : decode cX11_takesBegin 135 = .ok (.iconst 0, 1) := by decide +kernel
theorem dX11_takesBegin_136 : decode cX11_takesBegin 136 = .ok (.iconst 0, 1) := by decide +kernel
theorem dX11_takesBegin_137 : decode cX11_takesBegin 137 = .ok (.invokevirtual 115, 3) := by decide +kernel
theorem dX11_takesBegin_140 : decode cX11_takesBegin 140 = .ok (.iconst 0, 1) := by decide +kernel
theorem dX11_takesBegin_141 : decode cX11_takesBegin 141 = .ok (.ireturn, 1) := by decide +kernel
theorem dX11_takesBegin_142 : decode cX11_takesBegin 142 = .ok (.aload_n 0, 1) := by decide +kernel
theorem dX11_takesBegin_143 : decode cX11_takesBegin 143 = .ok (.bipush 65, 2) := by decide +kernel
theorem dX11_takesBegin_145 : decode cX11_takesBegin 145 = .ok (.iload_n 1, 1) := by decide +kernel
theorem dX11_takesBegin_146 : decode cX11_takesBegin 146 = .ok (.bipush 65, 2) := by decide +kernel
theorem dX11_takesBegin_148 : decode cX11_takesBegin 148 = .ok (.isub, 1) := by decide +kernel
theorem dX11_takesBegin_149 : decode cX11_takesBegin 149 = .ok (.iconst 0, 1) := by decide +kernel
theorem dX11_takesBegin_150 : decode cX11_takesBegin 150 = .ok (.invokevirtual 125, 3) := by decide +kernel
theorem dX11_takesBegin_153 : decode cX11_takesBegin 153 = .ok (.iconst 1, 1) := by decide +kernel
theorem dX11_takesBegin_154 : decode cX11_takesBegin 154 = .ok (.ireturn, 1) := by decide +kernel
theorem dX11_closes_0 : decode cX11_closes 0 = .ok (.aload_n 0, 1) := by decide +kernel
theorem dX11_closes_1 : decode cX11_closes 1 = .ok (.getfield 108, 3) := by decide +kernel
theorem dX11_closes_4 : decode cX11_closes 4 = .ok (.iconst 1, 1) := by decide +kernel
theorem dX11_closes_5 : decode cX11_closes 5 = .ok (.isub, 1) := by decide +kernel
theorem dX11_closes_6 : decode cX11_closes 6 = .ok (.istore_n 1, 1) := by decide +kernel
theorem dX11_closes_7 : decode cX11_closes 7 = .ok (.aload_n 0, 1) := by decide +kernel
theorem dX11_closes_8 : decode cX11_closes 8 = .ok (.getfield 40, 3) := by decide +kernel
theorem dX11_closes_11 : decode cX11_closes 11 = .ok (.iload_n 1, 1) := by decide +kernel
theorem dX11_closes_12 : decode cX11_closes 12 = .ok (.dup2, 1) := by decide +kernel
theorem dX11_closes_13 : decode cX11_closes 13 = .ok (.iaload, 1) := by decide +kernel
theorem dX11_closes_14 : decode cX11_closes 14 = .ok (.iconst 1, 1) := by decide +kernel
theorem dX11_closes_15 : decode cX11_closes 15 = .ok (.iadd, 1) := by decide +kernel
theorem dX11_closes_16 : decode cX11_closes 16 = .ok (.iastore, 1) := by decide +kernel
theorem dX11_closes_17 : decode cX11_closes 17 = .ok (.aload_n 0, 1) := by decide +kernel
theorem dX11_closes_18 : decode cX11_closes 18 = .ok (.getfield 31, 3) := by decide +kernel
theorem dX11_closes_21 : decode cX11_closes 21 = .ok (.iload_n 1, 1) := by decide +kernel
theorem dX11_closes_22 : decode cX11_closes 22 = .ok (.iaload, 1) := by decide +kernel
theorem dX11_closes_23 : decode cX11_closes 23 = .ok (.bipush 106, 2) := by decide +kernel
theorem dX11_closes_25 : decode cX11_closes 25 = .ok (.if_icmp .eq 14, 3) := by decide +kernel
theorem dX11_closes_28 : decode cX11_closes 28 = .ok (.aload_n 0, 1) := by decide +kernel
theorem dX11_closes_29 : decode cX11_closes 29 = .ok (.getfield 31, 3) := by decide +kernel
theorem dX11_closes_32 : decode cX11_closes 32 = .ok (.iload_n 1, 1) := by decide +kernel
theorem dX11_closes_33 : decode cX11_closes 33 = .ok (.iaload, 1) := by decide +kernel
theorem dX11_closes_34 : decode cX11_closes 34 = .ok (.bipush 117, 2) := by decide +kernel
theorem dX11_closes_36 : decode cX11_closes 36 = .ok (.if_icmp .ne 7, 3) := by decide +kernel
theorem dX11_closes_39 : decode cX11_closes 39 = .ok (.iconst 1, 1) := by decide +kernel
theorem dX11_closes_40 : decode cX11_closes 40 = .ok (.goto 4, 3) := by decide +kernel
theorem dX11_closes_43 : decode cX11_closes 43 = .ok (.iconst 0, 1) := by decide +kernel
theorem dX11_closes_44 : decode cX11_closes 44 = .ok (.istore_n 2, 1) := by decide +kernel
theorem dX11_closes_45 : decode cX11_closes 45 = .ok (.iload_n 2, 1) := by decide +kernel
theorem dX11_closes_46 : decode cX11_closes 46 = .ok (.ifCond .eq 33, 3) := by decide +kernel
theorem dX11_closes_49 : decode cX11_closes 49 = .ok (.aload_n 0, 1) := by decide +kernel
theorem dX11_closes_50 : decode cX11_closes 50 = .ok (.getfield 40, 3) := by decide +kernel
theorem dX11_closes_53 : decode cX11_closes 53 = .ok (.iload_n 1, 1) := by decide +kernel
theorem dX11_closes_54 : decode cX11_closes 54 = .ok (.iaload, 1) := by decide +kernel
theorem dX11_closes_55 : decode cX11_closes 55 = .ok (.iconst 1, 1) := by decide +kernel
theorem dX11_closes_56 : decode cX11_closes 56 = .ok (.if_icmp .ne 23, 3) := by decide +kernel
theorem dX11_closes_59 : decode cX11_closes 59 = .ok (.aload_n 0, 1) := by decide +kernel
theorem dX11_closes_60 : decode cX11_closes 60 = .ok (.aload_n 0, 1) := by decide +kernel
theorem dX11_closes_61 : decode cX11_closes 61 = .ok (.invokevirtual 97, 3) := by decide +kernel
theorem dX11_closes_64 : decode cX11_closes 64 = .ok (.bipush 44, 2) := by decide +kernel
theorem dX11_closes_66 : decode cX11_closes 66 = .ok (.if_icmp .ne 7, 3) := by decide +kernel
theorem dX11_closes_69 : decode cX11_closes 69 = .ok (.iconst 1, 1) := by decide +kernel
theorem dX11_closes_70 : decode cX11_closes 70 = .ok (.goto 4, 3) := by decide +kernel
theorem dX11_closes_73 : decode cX11_closes 73 = .ok (.iconst 0, 1) := by decide +kernel
theorem dX11_closes_74 : decode cX11_closes 74 = .ok (.invokevirtual 101, 3) := by decide +kernel
theorem dX11_closes_77 : decode cX11_closes 77 = .ok (.iconst 0, 1) := by decide +kernel
theorem dX11_closes_78 : decode cX11_closes 78 = .ok (.ireturn, 1) := by decide +kernel
theorem dX11_closes_79 : decode cX11_closes 79 = .ok (.aload_n 0, 1) := by decide +kernel
theorem dX11_closes_80 : decode cX11_closes 80 = .ok (.aload_n 0, 1) := by decide +kernel
theorem dX11_closes_81 : decode cX11_closes 81 = .ok (.invokevirtual 97, 3) := by decide +kernel
theorem dX11_closes_84 : decode cX11_closes 84 = .ok (.bipush 41, 2) := by decide +kernel
theorem dX11_closes_86 : decode cX11_closes 86 = .ok (.if_icmp .ne 7, 3) := by decide +kernel
theorem dX11_closes_89 : decode cX11_closes 89 = .ok (.iconst 1, 1) := by decide +kernel
theorem dX11_closes_90 : decode cX11_closes 90 = .ok (.goto 4, 3) := by decide +kernel
theorem dX11_closes_93 : decode cX11_closes 93 = .ok (.iconst 0, 1) := by decide +kernel
theorem dX11_closes_94 : decode cX11_closes 94 = .ok (.invokevirtual 101, 3) := by decide +kernel
theorem dX11_closes_97 : decode cX11_closes 97 = .ok (.aload_n 0, 1) := by decide +kernel
theorem dX11_closes_98 : decode cX11_closes 98 = .ok (.dup, 1) := by decide +kernel
theorem dX11_closes_99 : decode cX11_closes 99 = .ok (.getfield 108, 3) := by decide +kernel
theorem dX11_closes_102 : decode cX11_closes 102 = .ok (.iconst 1, 1) := by decide +kernel
theorem dX11_closes_103 : decode cX11_closes 103 = .ok (.isub, 1) := by decide +kernel
theorem dX11_closes_104 : decode cX11_closes 104 = .ok (.putfield 108, 3) := by decide +kernel
theorem dX11_closes_107 : decode cX11_closes 107 = .ok (.aload_n 0, 1) := by decide +kernel
theorem dX11_closes_108 : decode cX11_closes 108 = .ok (.aload_n 0, 1) := by decide +kernel
theorem dX11_closes_109 : decode cX11_closes 109 = .ok (.getfield 31, 3) := by decide +kernel
theorem dX11_closes_112 : decode cX11_closes 112 = .ok (.iload_n 1, 1) := by decide +kernel
theorem dX11_closes_113 : decode cX11_closes 113 = .ok (.iaload, 1) := by decide +kernel
theorem dX11_closes_114 : decode cX11_closes 114 = .ok (.aload_n 0, 1) := by decide +kernel
theorem dX11_closes_115 : decode cX11_closes 115 = .ok (.getfield 34, 3) := by decide +kernel
theorem dX11_closes_118 : decode cX11_closes 118 = .ok (.iload_n 1, 1) := by decide +kernel
theorem dX11_closes_119 : decode cX11_closes 119 = .ok (.iaload, 1) := by decide +kernel
theorem dX11_closes_120 : decode cX11_closes 120 = .ok (.aload_n 0, 1) := by decide +kernel
theorem dX11_closes_121 : decode cX11_closes 121 = .ok (.getfield 37, 3) := by decide +kernel
theorem dX11_closes_124 : decode cX11_closes 124 = .ok (.iload_n 1, 1) := by decide +kernel
theorem dX11_closes_125 : decode cX11_closes 125 = .ok (.iaload, 1) := by decide +kernel
theorem dX11_closes_126 : decode cX11_closes 126 = .ok (.invokevirtual 125, 3) := by decide +kernel
theorem dX11_closes_129 : decode cX11_closes 129 = .ok (.iconst 1, 1) := by decide +kernel
theorem dX11_closes_130 : decode cX11_closes 130 = .ok (.ireturn, 1) := by decide +kernel
theorem dX11_reads_0 : decode cX11_reads 0 = .ok (.aload_n 0, 1) := by decide +kernel
theorem dX11_reads_1 : decode cX11_reads 1 = .ok (.iconst 0, 1) := by decide +kernel
theorem dX11_reads_2 : decode cX11_reads 2 = .ok (.putfield 88, 3) := by decide +kernel
theorem dX11_reads_5 : decode cX11_reads 5 = .ok (.aload_n 0, 1) := by decide +kernel
theorem dX11_reads_6 : decode cX11_reads 6 = .ok (.iconst 1, 1) := by decide +kernel
theorem dX11_reads_7 : decode cX11_reads 7 = .ok (.putfield 94, 3) := by decide +kernel
theorem dX11_reads_10 : decode cX11_reads 10 = .ok (.aload_n 0, 1) := by decide +kernel
theorem dX11_reads_11 : decode cX11_reads 11 = .ok (.iconst 0, 1) := by decide +kernel
theorem dX11_reads_12 : decode cX11_reads 12 = .ok (.putfield 105, 3) := by decide +kernel
theorem dX11_reads_15 : decode cX11_reads 15 = .ok (.aload_n 0, 1) := by decide +kernel
theorem dX11_reads_16 : decode cX11_reads 16 = .ok (.iconst 0, 1) := by decide +kernel
theorem dX11_reads_17 : decode cX11_reads 17 = .ok (.putfield 108, 3) := by decide +kernel
theorem dX11_reads_20 : decode cX11_reads 20 = .ok (.iconst 0, 1) := by decide +kernel
theorem dX11_reads_21 : decode cX11_reads 21 = .ok (.istore_n 1, 1) := by decide +kernel
theorem dX11_reads_22 : decode cX11_reads 22 = .ok (.aload_n 0, 1) := by decide +kernel
theorem dX11_reads_23 : decode cX11_reads 23 = .ok (.getfield 94, 3) := by decide +kernel
theorem dX11_reads_26 : decode cX11_reads 26 = .ok (.ifCond .eq 33, 3) := by decide +kernel
theorem dX11_reads_29 : decode cX11_reads 29 = .ok (.iload_n 1, 1) := by decide +kernel
theorem dX11_reads_30 : decode cX11_reads 30 = .ok (.ifCond .eq 10, 3) := by decide +kernel
theorem dX11_reads_33 : decode cX11_reads 33 = .ok (.aload_n 0, 1) := by decide +kernel
theorem dX11_reads_34 : decode cX11_reads 34 = .ok (.getfield 108, 3) := by decide +kernel
theorem dX11_reads_37 : decode cX11_reads 37 = .ok (.ifCond .eq 22, 3) := by decide +kernel
theorem dX11_reads_40 : decode cX11_reads 40 = .ok (.iload_n 1, 1) := by decide +kernel
theorem dX11_reads_41 : decode cX11_reads 41 = .ok (.ifCond .eq 10, 3) := by decide +kernel
theorem dX11_reads_44 : decode cX11_reads 44 = .ok (.aload_n 0, 1) := by decide +kernel
theorem dX11_reads_45 : decode cX11_reads 45 = .ok (.invokevirtual 128, 3) := by decide +kernel
theorem dX11_reads_48 : decode cX11_reads 48 = .ok (.goto 7, 3) := by decide +kernel
theorem dX11_reads_51 : decode cX11_reads 51 = .ok (.aload_n 0, 1) := by decide +kernel
theorem dX11_reads_52 : decode cX11_reads 52 = .ok (.invokevirtual 132, 3) := by decide +kernel
theorem dX11_reads_55 : decode cX11_reads 55 = .ok (.istore_n 1, 1) := by decide +kernel
theorem dX11_reads_56 : decode cX11_reads 56 = .ok (.goto (-34), 3) := by decide +kernel
theorem dX11_reads_59 : decode cX11_reads 59 = .ok (.aload_n 0, 1) := by decide +kernel
theorem dX11_reads_60 : decode cX11_reads 60 = .ok (.getfield 94, 3) := by decide +kernel
theorem dX11_reads_63 : decode cX11_reads 63 = .ok (.ifCond .eq 18, 3) := by decide +kernel
theorem dX11_reads_66 : decode cX11_reads 66 = .ok (.aload_n 0, 1) := by decide +kernel
theorem dX11_reads_67 : decode cX11_reads 67 = .ok (.getfield 88, 3) := by decide +kernel
theorem dX11_reads_70 : decode cX11_reads 70 = .ok (.aload_n 0, 1) := by decide +kernel
theorem dX11_reads_71 : decode cX11_reads 71 = .ok (.getfield 91, 3) := by decide +kernel
theorem dX11_reads_74 : decode cX11_reads 74 = .ok (.if_icmp .ne 7, 3) := by decide +kernel
theorem dX11_reads_77 : decode cX11_reads 77 = .ok (.iconst 1, 1) := by decide +kernel
theorem dX11_reads_78 : decode cX11_reads 78 = .ok (.goto 4, 3) := by decide +kernel
theorem dX11_reads_81 : decode cX11_reads 81 = .ok (.iconst 0, 1) := by decide +kernel
theorem dX11_reads_82 : decode cX11_reads 82 = .ok (.ireturn, 1) := by decide +kernel
theorem dX11_takesText_0 : decode cX11_takesText 0 = .ok (.iconst 0, 1) := by decide +kernel
theorem dX11_takesText_1 : decode cX11_takesText 1 = .ok (.istore_n 1, 1) := by decide +kernel
theorem dX11_takesText_2 : decode cX11_takesText 2 = .ok (.iload_n 1, 1) := by decide +kernel
theorem dX11_takesText_3 : decode cX11_takesText 3 = .ok (.aload_n 0, 1) := by decide +kernel
theorem dX11_takesText_4 : decode cX11_takesText 4 = .ok (.getfield 135, 3) := by decide +kernel
theorem dX11_takesText_7 : decode cX11_takesText 7 = .ok (.if_icmp .ge 21, 3) := by decide +kernel
theorem dX11_takesText_10 : decode cX11_takesText 10 = .ok (.aload_n 0, 1) := by decide +kernel
theorem dX11_takesText_11 : decode cX11_takesText 11 = .ok (.getfield 19, 3) := by decide +kernel
theorem dX11_takesText_14 : decode cX11_takesText 14 = .ok (.iload_n 1, 1) := by decide +kernel
theorem dX11_takesText_15 : decode cX11_takesText 15 = .ok (.aload_n 0, 1) := by decide +kernel
theorem dX11_takesText_16 : decode cX11_takesText 16 = .ok (.getfield 16, 3) := by decide +kernel
theorem dX11_takesText_19 : decode cX11_takesText 19 = .ok (.iload_n 1, 1) := by decide +kernel
theorem dX11_takesText_20 : decode cX11_takesText 20 = .ok (.iaload, 1) := by decide +kernel
theorem dX11_takesText_21 : decode cX11_takesText 21 = .ok (.iastore, 1) := by decide +kernel
theorem dX11_takesText_22 : decode cX11_takesText 22 = .ok (.iinc 1 1, 3) := by decide +kernel
theorem dX11_takesText_25 : decode cX11_takesText 25 = .ok (.goto (-23), 3) := by decide +kernel
theorem dX11_takesText_28 : decode cX11_takesText 28 = .ok (.aload_n 0, 1) := by decide +kernel
theorem dX11_takesText_29 : decode cX11_takesText 29 = .ok (.aload_n 0, 1) := by decide +kernel
theorem dX11_takesText_30 : decode cX11_takesText 30 = .ok (.getfield 135, 3) := by decide +kernel
theorem dX11_takesText_33 : decode cX11_takesText 33 = .ok (.putfield 91, 3) := by decide +kernel
theorem dX11_takesText_36 : decode cX11_takesText 36 = .ok (.return_, 1) := by decide +kernel
theorem dX11_takesQuery_0 : decode cX11_takesQuery 0 = .ok (.iconst 0, 1) := by decide +kernel
theorem dX11_takesQuery_1 : decode cX11_takesQuery 1 = .ok (.istore_n 1, 1) := by decide +kernel
theorem dX11_takesQuery_2 : decode cX11_takesQuery 2 = .ok (.iload_n 1, 1) := by decide +kernel
theorem dX11_takesQuery_3 : decode cX11_takesQuery 3 = .ok (.aload_n 0, 1) := by decide +kernel
theorem dX11_takesQuery_4 : decode cX11_takesQuery 4 = .ok (.getfield 7, 3) := by decide +kernel
theorem dX11_takesQuery_7 : decode cX11_takesQuery 7 = .ok (.bipush 84, 2) := by decide +kernel
theorem dX11_takesQuery_9 : decode cX11_takesQuery 9 = .ok (.iaload, 1) := by decide +kernel
theorem dX11_takesQuery_10 : decode cX11_takesQuery 10 = .ok (.if_icmp .ge 24, 3) := by decide +kernel
theorem dX11_takesQuery_13 : decode cX11_takesQuery 13 = .ok (.aload_n 0, 1) := by decide +kernel
theorem dX11_takesQuery_14 : decode cX11_takesQuery 14 = .ok (.getfield 19, 3) := by decide +kernel
theorem dX11_takesQuery_17 : decode cX11_takesQuery 17 = .ok (.iload_n 1, 1) := by decide +kernel
theorem dX11_takesQuery_18 : decode cX11_takesQuery 18 = .ok (.aload_n 0, 1) := by decide +kernel
theorem dX11_takesQuery_19 : decode cX11_takesQuery 19 = .ok (.getfield 7, 3) := by decide +kernel
theorem dX11_takesQuery_22 : decode cX11_takesQuery 22 = .ok (.bipush 85, 2) := by decide +kernel
theorem dX11_takesQuery_24 : decode cX11_takesQuery 24 = .ok (.iload_n 1, 1) := by decide +kernel
theorem dX11_takesQuery_25 : decode cX11_takesQuery 25 = .ok (.iadd, 1) := by decide +kernel
theorem dX11_takesQuery_26 : decode cX11_takesQuery 26 = .ok (.iaload, 1) := by decide +kernel
theorem dX11_takesQuery_27 : decode cX11_takesQuery 27 = .ok (.iastore, 1) := by decide +kernel
theorem dX11_takesQuery_28 : decode cX11_takesQuery 28 = .ok (.iinc 1 1, 3) := by decide +kernel
theorem dX11_takesQuery_31 : decode cX11_takesQuery 31 = .ok (.goto (-29), 3) := by decide +kernel
theorem dX11_takesQuery_34 : decode cX11_takesQuery 34 = .ok (.aload_n 0, 1) := by decide +kernel
theorem dX11_takesQuery_35 : decode cX11_takesQuery 35 = .ok (.aload_n 0, 1) := by decide +kernel
theorem dX11_takesQuery_36 : decode cX11_takesQuery 36 = .ok (.getfield 7, 3) := by decide +kernel
theorem dX11_takesQuery_39 : decode cX11_takesQuery 39 = .ok (.bipush 84, 2) := by decide +kernel
theorem dX11_takesQuery_41 : decode cX11_takesQuery 41 = .ok (.iaload, 1) := by decide +kernel
theorem dX11_takesQuery_42 : decode cX11_takesQuery 42 = .ok (.putfield 91, 3) := by decide +kernel
theorem dX11_takesQuery_45 : decode cX11_takesQuery 45 = .ok (.return_, 1) := by decide +kernel
theorem dX11_digit_0 : decode cX11_digit 0 = .ok (.iload_n 0, 1) := by decide +kernel
theorem dX11_digit_1 : decode cX11_digit 1 = .ok (.iload_n 1, 1) := by decide +kernel
theorem dX11_digit_2 : decode cX11_digit 2 = .ok (.iconst 1, 1) := by decide +kernel
theorem dX11_digit_3 : decode cX11_digit 3 = .ok (.isub, 1) := by decide +kernel
theorem dX11_digit_4 : decode cX11_digit 4 = .ok (.iload_n 2, 1) := by decide +kernel
theorem dX11_digit_5 : decode cX11_digit 5 = .ok (.isub, 1) := by decide +kernel
theorem dX11_digit_6 : decode cX11_digit 6 = .ok (.invokestatic 138, 3) := by decide +kernel
theorem dX11_digit_9 : decode cX11_digit 9 = .ok (.idiv, 1) := by decide +kernel
theorem dX11_digit_10 : decode cX11_digit 10 = .ok (.bipush 10, 2) := by decide +kernel
theorem dX11_digit_12 : decode cX11_digit 12 = .ok (.irem, 1) := by decide +kernel
theorem dX11_digit_13 : decode cX11_digit 13 = .ok (.ireturn, 1) := by decide +kernel
theorem dX11_fitsStep_0 : decode cX11_fitsStep 0 = .ok (.aload_n 0, 1) := by decide +kernel
theorem dX11_fitsStep_1 : decode cX11_fitsStep 1 = .ok (.getfield 141, 3) := by decide +kernel
theorem dX11_fitsStep_4 : decode cX11_fitsStep 4 = .ok (.ifCond .le 17, 3) := by decide +kernel
theorem dX11_fitsStep_7 : decode cX11_fitsStep 7 = .ok (.aload_n 0, 1) := by decide +kernel
theorem dX11_fitsStep_8 : decode cX11_fitsStep 8 = .ok (.getfield 43, 3) := by decide +kernel
theorem dX11_fitsStep_11 : decode cX11_fitsStep 11 = .ok (.aload_n 0, 1) := by decide +kernel
theorem dX11_fitsStep_12 : decode cX11_fitsStep 12 = .ok (.getfield 141, 3) := by decide +kernel
theorem dX11_fitsStep_15 : decode cX11_fitsStep 15 = .ok (.iconst 1, 1) := by decide +kernel
theorem dX11_fitsStep_16 : decode cX11_fitsStep 16 = .ok (.isub, 1) := by decide +kernel
theorem dX11_fitsStep_17 : decode cX11_fitsStep 17 = .ok (.iaload, 1) := by decide +kernel
theorem dX11_fitsStep_18 : decode cX11_fitsStep 18 = .ok (.goto 4, 3) := by decide +kernel
theorem dX11_fitsStep_21 : decode cX11_fitsStep 21 = .ok (.iconst 0, 1) := by decide +kernel
theorem dX11_fitsStep_22 : decode cX11_fitsStep 22 = .ok (.istore_n 2, 1) := by decide +kernel
theorem dX11_fitsStep_23 : decode cX11_fitsStep 23 = .ok (.aload_n 0, 1) := by decide +kernel
theorem dX11_fitsStep_24 : decode cX11_fitsStep 24 = .ok (.getfield 22, 3) := by decide +kernel
theorem dX11_fitsStep_27 : decode cX11_fitsStep 27 = .ok (.iload_n 1, 1) := by decide +kernel
theorem dX11_fitsStep_28 : decode cX11_fitsStep 28 = .ok (.iaload, 1) := by decide +kernel
theorem dX11_fitsStep_29 : decode cX11_fitsStep 29 = .ok (.lookupswitch 245 #[(61, 83), (65, 51), (106, 167), (112, 125), (126, 99)], 51) := by decide +kernel
theorem dX11_fitsStep_80 : decode cX11_fitsStep 80 = .ok (.aload_n 0, 1) := by decide +kernel
theorem dX11_fitsStep_81 : decode cX11_fitsStep 81 = .ok (.getfield 43, 3) := by decide +kernel
theorem dX11_fitsStep_84 : decode cX11_fitsStep 84 = .ok (.aload_n 0, 1) := by decide +kernel
theorem dX11_fitsStep_85 : decode cX11_fitsStep 85 = .ok (.getfield 141, 3) := by decide +kernel
theorem dX11_fitsStep_88 : decode cX11_fitsStep 88 = .ok (.aload_n 0, 1) := by decide +kernel
theorem dX11_fitsStep_89 : decode cX11_fitsStep 89 = .ok (.getfield 7, 3) := by decide +kernel
theorem dX11_fitsStep_92 : decode cX11_fitsStep 92 = .ok (.aload_n 0, 1) := by decide +kernel
theorem dX11_fitsStep_93 : decode cX11_fitsStep 93 = .ok (.getfield 25, 3) := by decide +kernel
theorem dX11_fitsStep_96 : decode cX11_fitsStep 96 = .ok (.iload_n 1, 1) := by decide +kernel
theorem dX11_fitsStep_97 : decode cX11_fitsStep 97 = .ok (.iaload, 1) := by decide +kernel
theorem dX11_fitsStep_98 : decode cX11_fitsStep 98 = .ok (.iaload, 1) := by decide +kernel
theorem dX11_fitsStep_99 : decode cX11_fitsStep 99 = .ok (.iastore, 1) := by decide +kernel
theorem dX11_fitsStep_100 : decode cX11_fitsStep 100 = .ok (.aload_n 0, 1) := by decide +kernel
theorem dX11_fitsStep_101 : decode cX11_fitsStep 101 = .ok (.dup, 1) := by decide +kernel
theorem dX11_fitsStep_102 : decode cX11_fitsStep 102 = .ok (.getfield 141, 3) := by decide +kernel
theorem dX11_fitsStep_105 : decode cX11_fitsStep 105 = .ok (.iconst 1, 1) := by decide +kernel
theorem dX11_fitsStep_106 : decode cX11_fitsStep 106 = .ok (.iadd, 1) := by decide +kernel
theorem dX11_fitsStep_107 : decode cX11_fitsStep 107 = .ok (.putfield 141, 3) := by decide +kernel
theorem dX11_fitsStep_110 : decode cX11_fitsStep 110 = .ok (.iconst 1, 1) := by decide +kernel
theorem dX11_fitsStep_111 : decode cX11_fitsStep 111 = .ok (.ireturn, 1) := by decide +kernel
theorem dX11_fitsStep_112 : decode cX11_fitsStep 112 = .ok (.aload_n 0, 1) := by decide +kernel
theorem dX11_fitsStep_113 : decode cX11_fitsStep 113 = .ok (.getfield 25, 3) := by decide +kernel
theorem dX11_fitsStep_116 : decode cX11_fitsStep 116 = .ok (.iload_n 1, 1) := by decide +kernel
theorem dX11_fitsStep_117 : decode cX11_fitsStep 117 = .ok (.iaload, 1) := by decide +kernel
theorem dX11_fitsStep_118 : decode cX11_fitsStep 118 = .ok (.iload_n 2, 1) := by decide +kernel
theorem dX11_fitsStep_119 : decode cX11_fitsStep 119 = .ok (.if_icmp .ge 7, 3) := by decide +kernel
theorem dX11_fitsStep_122 : decode cX11_fitsStep 122 = .ok (.iconst 1, 1) := by decide +kernel
theorem dX11_fitsStep_123 : decode cX11_fitsStep 123 = .ok (.goto 4, 3) := by decide +kernel
theorem dX11_fitsStep_126 : decode cX11_fitsStep 126 = .ok (.iconst 0, 1) := by decide +kernel
theorem dX11_fitsStep_127 : decode cX11_fitsStep 127 = .ok (.ireturn, 1) := by decide +kernel
theorem dX11_fitsStep_128 : decode cX11_fitsStep 128 = .ok (.aload_n 0, 1) := by decide +kernel
theorem dX11_fitsStep_129 : decode cX11_fitsStep 129 = .ok (.getfield 25, 3) := by decide +kernel
theorem dX11_fitsStep_132 : decode cX11_fitsStep 132 = .ok (.iload_n 1, 1) := by decide +kernel
theorem dX11_fitsStep_133 : decode cX11_fitsStep 133 = .ok (.iaload, 1) := by decide +kernel
theorem dX11_fitsStep_134 : decode cX11_fitsStep 134 = .ok (.iload_n 2, 1) := by decide +kernel
theorem dX11_fitsStep_135 : decode cX11_fitsStep 135 = .ok (.if_icmp .ge 17, 3) := by decide +kernel
theorem dX11_fitsStep_138 : decode cX11_fitsStep 138 = .ok (.aload_n 0, 1) := by decide +kernel
theorem dX11_fitsStep_139 : decode cX11_fitsStep 139 = .ok (.getfield 28, 3) := by decide +kernel
theorem dX11_fitsStep_142 : decode cX11_fitsStep 142 = .ok (.iload_n 1, 1) := by decide +kernel
theorem dX11_fitsStep_143 : decode cX11_fitsStep 143 = .ok (.iaload, 1) := by decide +kernel
theorem dX11_fitsStep_144 : decode cX11_fitsStep 144 = .ok (.iload_n 2, 1) := by decide +kernel
theorem dX11_fitsStep_145 : decode cX11_fitsStep 145 = .ok (.if_icmp .ge 7, 3) := by decide +kernel
theorem dX11_fitsStep_148 : decode cX11_fitsStep 148 = .ok (.iconst 1, 1) := by decide +kernel
theorem dX11_fitsStep_149 : decode cX11_fitsStep 149 = .ok (.goto 4, 3) := by decide +kernel
theorem dX11_fitsStep_152 : decode cX11_fitsStep 152 = .ok (.iconst 0, 1) := by decide +kernel
theorem dX11_fitsStep_153 : decode cX11_fitsStep 153 = .ok (.ireturn, 1) := by decide +kernel
theorem dX11_fitsStep_154 : decode cX11_fitsStep 154 = .ok (.aload_n 0, 1) := by decide +kernel
theorem dX11_fitsStep_155 : decode cX11_fitsStep 155 = .ok (.getfield 43, 3) := by decide +kernel
theorem dX11_fitsStep_158 : decode cX11_fitsStep 158 = .ok (.aload_n 0, 1) := by decide +kernel
theorem dX11_fitsStep_159 : decode cX11_fitsStep 159 = .ok (.getfield 141, 3) := by decide +kernel
theorem dX11_fitsStep_162 : decode cX11_fitsStep 162 = .ok (.iconst 1, 1) := by decide +kernel
theorem dX11_fitsStep_163 : decode cX11_fitsStep 163 = .ok (.isub, 1) := by decide +kernel
theorem dX11_fitsStep_164 : decode cX11_fitsStep 164 = .ok (.aload_n 0, 1) := by decide +kernel
theorem dX11_fitsStep_165 : decode cX11_fitsStep 165 = .ok (.getfield 25, 3) := by decide +kernel
theorem dX11_fitsStep_168 : decode cX11_fitsStep 168 = .ok (.iload_n 1, 1) := by decide +kernel
theorem dX11_fitsStep_169 : decode cX11_fitsStep 169 = .ok (.iaload, 1) := by decide +kernel
theorem dX11_fitsStep_170 : decode cX11_fitsStep 170 = .ok (.iastore, 1) := by decide +kernel
theorem dX11_fitsStep_171 : decode cX11_fitsStep 171 = .ok (.aload_n 0, 1) := by decide +kernel
theorem dX11_fitsStep_172 : decode cX11_fitsStep 172 = .ok (.getfield 25, 3) := by decide +kernel
theorem dX11_fitsStep_175 : decode cX11_fitsStep 175 = .ok (.iload_n 1, 1) := by decide +kernel
theorem dX11_fitsStep_176 : decode cX11_fitsStep 176 = .ok (.iaload, 1) := by decide +kernel
theorem dX11_fitsStep_177 : decode cX11_fitsStep 177 = .ok (.aload_n 0, 1) := by decide +kernel
theorem dX11_fitsStep_178 : decode cX11_fitsStep 178 = .ok (.getfield 28, 3) := by decide +kernel
theorem dX11_fitsStep_181 : decode cX11_fitsStep 181 = .ok (.iload_n 1, 1) := by decide +kernel
theorem dX11_fitsStep_182 : decode cX11_fitsStep 182 = .ok (.iaload, 1) := by decide +kernel
theorem dX11_fitsStep_183 : decode cX11_fitsStep 183 = .ok (.invokestatic 144, 3) := by decide +kernel
theorem dX11_fitsStep_186 : decode cX11_fitsStep 186 = .ok (.iload_n 2, 1) := by decide +kernel
theorem dX11_fitsStep_187 : decode cX11_fitsStep 187 = .ok (.if_icmp .ge 7, 3) := by decide +kernel
theorem dX11_fitsStep_190 : decode cX11_fitsStep 190 = .ok (.iconst 1, 1) := by decide +kernel
theorem dX11_fitsStep_191 : decode cX11_fitsStep 191 = .ok (.goto 4, 3) := by decide +kernel
theorem dX11_fitsStep_194 : decode cX11_fitsStep 194 = .ok (.iconst 0, 1) := by decide +kernel
theorem dX11_fitsStep_195 : decode cX11_fitsStep 195 = .ok (.ireturn, 1) := by decide +kernel
theorem dX11_fitsStep_196 : decode cX11_fitsStep 196 = .ok (.aload_n 0, 1) := by decide +kernel
theorem dX11_fitsStep_197 : decode cX11_fitsStep 197 = .ok (.dup, 1) := by decide +kernel
theorem dX11_fitsStep_198 : decode cX11_fitsStep 198 = .ok (.getfield 141, 3) := by decide +kernel
theorem dX11_fitsStep_201 : decode cX11_fitsStep 201 = .ok (.iconst 1, 1) := by decide +kernel
theorem dX11_fitsStep_202 : decode cX11_fitsStep 202 = .ok (.isub, 1) := by decide +kernel
theorem dX11_fitsStep_203 : decode cX11_fitsStep 203 = .ok (.putfield 141, 3) := by decide +kernel
theorem dX11_fitsStep_206 : decode cX11_fitsStep 206 = .ok (.aload_n 0, 1) := by decide +kernel
theorem dX11_fitsStep_207 : decode cX11_fitsStep 207 = .ok (.getfield 43, 3) := by decide +kernel
theorem dX11_fitsStep_210 : decode cX11_fitsStep 210 = .ok (.aload_n 0, 1) := by decide +kernel
theorem dX11_fitsStep_211 : decode cX11_fitsStep 211 = .ok (.getfield 141, 3) := by decide +kernel
theorem dX11_fitsStep_214 : decode cX11_fitsStep 214 = .ok (.iconst 1, 1) := by decide +kernel
theorem dX11_fitsStep_215 : decode cX11_fitsStep 215 = .ok (.isub, 1) := by decide +kernel
theorem dX11_fitsStep_216 : decode cX11_fitsStep 216 = .ok (.dup2, 1) := by decide +kernel
theorem dX11_fitsStep_217 : decode cX11_fitsStep 217 = .ok (.iaload, 1) := by decide +kernel
theorem dX11_fitsStep_218 : decode cX11_fitsStep 218 = .ok (.iload_n 2, 1) := by decide +kernel
theorem dX11_fitsStep_219 : decode cX11_fitsStep 219 = .ok (.iadd, 1) := by decide +kernel
theorem dX11_fitsStep_220 : decode cX11_fitsStep 220 = .ok (.iastore, 1) := by decide +kernel
theorem dX11_fitsStep_221 : decode cX11_fitsStep 221 = .ok (.aload_n 0, 1) := by decide +kernel
theorem dX11_fitsStep_222 : decode cX11_fitsStep 222 = .ok (.getfield 25, 3) := by decide +kernel
theorem dX11_fitsStep_225 : decode cX11_fitsStep 225 = .ok (.iload_n 1, 1) := by decide +kernel
theorem dX11_fitsStep_226 : decode cX11_fitsStep 226 = .ok (.iaload, 1) := by decide +kernel
theorem dX11_fitsStep_227 : decode cX11_fitsStep 227 = .ok (.aload_n 0, 1) := by decide +kernel
theorem dX11_fitsStep_228 : decode cX11_fitsStep 228 = .ok (.getfield 43, 3) := by decide +kernel
theorem dX11_fitsStep_231 : decode cX11_fitsStep 231 = .ok (.aload_n 0, 1) := by decide +kernel
theorem dX11_fitsStep_232 : decode cX11_fitsStep 232 = .ok (.getfield 141, 3) := by decide +kernel
theorem dX11_fitsStep_235 : decode cX11_fitsStep 235 = .ok (.iconst 1, 1) := by decide +kernel
theorem dX11_fitsStep_236 : decode cX11_fitsStep 236 = .ok (.isub, 1) := by decide +kernel
theorem dX11_fitsStep_237 : decode cX11_fitsStep 237 = .ok (.iaload, 1) := by decide +kernel
theorem dX11_fitsStep_238 : decode cX11_fitsStep 238 = .ok (.iload_n 2, 1) := by decide +kernel
theorem dX11_fitsStep_239 : decode cX11_fitsStep 239 = .ok (.isub, 1) := by decide +kernel
theorem dX11_fitsStep_240 : decode cX11_fitsStep 240 = .ok (.if_icmp .ge 32, 3) := by decide +kernel
theorem dX11_fitsStep_243 : decode cX11_fitsStep 243 = .ok (.aload_n 0, 1) := by decide +kernel
theorem dX11_fitsStep_244 : decode cX11_fitsStep 244 = .ok (.getfield 28, 3) := by decide +kernel
theorem dX11_fitsStep_247 : decode cX11_fitsStep 247 = .ok (.iload_n 1, 1) := by decide +kernel
theorem dX11_fitsStep_248 : decode cX11_fitsStep 248 = .ok (.iaload, 1) := by decide +kernel
theorem dX11_fitsStep_249 : decode cX11_fitsStep 249 = .ok (.iload_n 2, 1) := by decide +kernel
theorem dX11_fitsStep_250 : decode cX11_fitsStep 250 = .ok (.if_icmp .ge 22, 3) := by decide +kernel
theorem dX11_fitsStep_253 : decode cX11_fitsStep 253 = .ok (.aload_n 0, 1) := by decide +kernel
theorem dX11_fitsStep_254 : decode cX11_fitsStep 254 = .ok (.getfield 43, 3) := by decide +kernel
theorem dX11_fitsStep_257 : decode cX11_fitsStep 257 = .ok (.aload_n 0, 1) := by decide +kernel
theorem dX11_fitsStep_258 : decode cX11_fitsStep 258 = .ok (.getfield 141, 3) := by decide +kernel
theorem dX11_fitsStep_261 : decode cX11_fitsStep 261 = .ok (.iconst 1, 1) := by decide +kernel
theorem dX11_fitsStep_262 : decode cX11_fitsStep 262 = .ok (.isub, 1) := by decide +kernel
theorem dX11_fitsStep_263 : decode cX11_fitsStep 263 = .ok (.iaload, 1) := by decide +kernel
theorem dX11_fitsStep_264 : decode cX11_fitsStep 264 = .ok (.iconst 4, 1) := by decide +kernel
theorem dX11_fitsStep_265 : decode cX11_fitsStep 265 = .ok (.if_icmp .gt 7, 3) := by decide +kernel
theorem dX11_fitsStep_268 : decode cX11_fitsStep 268 = .ok (.iconst 1, 1) := by decide +kernel
theorem dX11_fitsStep_269 : decode cX11_fitsStep 269 = .ok (.goto 4, 3) := by decide +kernel
theorem dX11_fitsStep_272 : decode cX11_fitsStep 272 = .ok (.iconst 0, 1) := by decide +kernel
theorem dX11_fitsStep_273 : decode cX11_fitsStep 273 = .ok (.ireturn, 1) := by decide +kernel
theorem dX11_fitsStep_274 : decode cX11_fitsStep 274 = .ok (.aload_n 0, 1) := by decide +kernel
theorem dX11_fitsStep_275 : decode cX11_fitsStep 275 = .ok (.dup, 1) := by decide +kernel
theorem dX11_fitsStep_276 : decode cX11_fitsStep 276 = .ok (.getfield 141, 3) := by decide +kernel
theorem dX11_fitsStep_279 : decode cX11_fitsStep 279 = .ok (.iconst 1, 1) := by decide +kernel
theorem dX11_fitsStep_280 : decode cX11_fitsStep 280 = .ok (.isub, 1) := by decide +kernel
theorem dX11_fitsStep_281 : decode cX11_fitsStep 281 = .ok (.putfield 141, 3) := by decide +kernel
theorem dX11_fitsStep_284 : decode cX11_fitsStep 284 = .ok (.aload_n 0, 1) := by decide +kernel
theorem dX11_fitsStep_285 : decode cX11_fitsStep 285 = .ok (.getfield 43, 3) := by decide +kernel
theorem dX11_fitsStep_288 : decode cX11_fitsStep 288 = .ok (.aload_n 0, 1) := by decide +kernel
theorem dX11_fitsStep_289 : decode cX11_fitsStep 289 = .ok (.getfield 141, 3) := by decide +kernel
theorem dX11_fitsStep_292 : decode cX11_fitsStep 292 = .ok (.iconst 1, 1) := by decide +kernel
theorem dX11_fitsStep_293 : decode cX11_fitsStep 293 = .ok (.isub, 1) := by decide +kernel
theorem dX11_fitsStep_294 : decode cX11_fitsStep 294 = .ok (.iaload, 1) := by decide +kernel
theorem dX11_fitsStep_295 : decode cX11_fitsStep 295 = .ok (.iload_n 2, 1) := by decide +kernel
theorem dX11_fitsStep_296 : decode cX11_fitsStep 296 = .ok (.if_icmp .ne 7, 3) := by decide +kernel
theorem dX11_fitsStep_299 : decode cX11_fitsStep 299 = .ok (.iconst 1, 1) := by decide +kernel
theorem dX11_fitsStep_300 : decode cX11_fitsStep 300 = .ok (.goto 4, 3) := by decide +kernel
theorem dX11_fitsStep_303 : decode cX11_fitsStep 303 = .ok (.iconst 0, 1) := by decide +kernel
theorem dX11_fitsStep_304 : decode cX11_fitsStep 304 = .ok (.ireturn, 1) := by decide +kernel
theorem dX11_greatest_0 : decode cX11_greatest 0 = .ok (.iconst 0, 1) := by decide +kernel
theorem dX11_greatest_1 : decode cX11_greatest 1 = .ok (.istore_n 2, 1) := by decide +kernel
theorem dX11_greatest_2 : decode cX11_greatest 2 = .ok (.iconst 0, 1) := by decide +kernel
theorem dX11_greatest_3 : decode cX11_greatest 3 = .ok (.istore_n 3, 1) := by decide +kernel
theorem dX11_greatest_4 : decode cX11_greatest 4 = .ok (.iload_n 3, 1) := by decide +kernel
theorem dX11_greatest_5 : decode cX11_greatest 5 = .ok (.iload_n 0, 1) := by decide +kernel
theorem dX11_greatest_6 : decode cX11_greatest 6 = .ok (.if_icmp .ge 31, 3) := by decide +kernel
theorem dX11_greatest_9 : decode cX11_greatest 9 = .ok (.iload_n 1, 1) := by decide +kernel
theorem dX11_greatest_10 : decode cX11_greatest 10 = .ok (.iconst 2, 1) := by decide +kernel
theorem dX11_greatest_11 : decode cX11_greatest 11 = .ok (.iload_n 3, 1) := by decide +kernel
theorem dX11_greatest_12 : decode cX11_greatest 12 = .ok (.imul, 1) := by decide +kernel
theorem dX11_greatest_13 : decode cX11_greatest 13 = .ok (.ishr, 1) := by decide +kernel
theorem dX11_greatest_14 : decode cX11_greatest 14 = .ok (.iconst 3, 1) := by decide +kernel
theorem dX11_greatest_15 : decode cX11_greatest 15 = .ok (.iand, 1) := by decide +kernel
theorem dX11_greatest_16 : decode cX11_greatest 16 = .ok (.istore 4, 2) := by decide +kernel
theorem dX11_greatest_18 : decode cX11_greatest 18 = .ok (.iload 4, 2) := by decide +kernel
theorem dX11_greatest_20 : decode cX11_greatest 20 = .ok (.iload_n 2, 1) := by decide +kernel
theorem dX11_greatest_21 : decode cX11_greatest 21 = .ok (.if_icmp .le 8, 3) := by decide +kernel
theorem dX11_greatest_24 : decode cX11_greatest 24 = .ok (.iload 4, 2) := by decide +kernel
theorem dX11_greatest_26 : decode cX11_greatest 26 = .ok (.goto 4, 3) := by decide +kernel
theorem dX11_greatest_29 : decode cX11_greatest 29 = .ok (.iload_n 2, 1) := by decide +kernel
theorem dX11_greatest_30 : decode cX11_greatest 30 = .ok (.istore_n 2, 1) := by decide +kernel
theorem dX11_greatest_31 : decode cX11_greatest 31 = .ok (.iinc 3 1, 3) := by decide +kernel
theorem dX11_greatest_34 : decode cX11_greatest 34 = .ok (.goto (-30), 3) := by decide +kernel
theorem dX11_greatest_37 : decode cX11_greatest 37 = .ok (.iload_n 2, 1) := by decide +kernel
theorem dX11_greatest_38 : decode cX11_greatest 38 = .ok (.ireturn, 1) := by decide +kernel
theorem dX11_fits_0 : decode cX11_fits 0 = .ok (.aload_n 0, 1) := by decide +kernel
theorem dX11_fits_1 : decode cX11_fits 1 = .ok (.iconst 0, 1) := by decide +kernel
theorem dX11_fits_2 : decode cX11_fits 2 = .ok (.putfield 141, 3) := by decide +kernel
theorem dX11_fits_5 : decode cX11_fits 5 = .ok (.iconst 1, 1) := by decide +kernel
theorem dX11_fits_6 : decode cX11_fits 6 = .ok (.istore_n 1, 1) := by decide +kernel
theorem dX11_fits_7 : decode cX11_fits 7 = .ok (.iconst 0, 1) := by decide +kernel
theorem dX11_fits_8 : decode cX11_fits 8 = .ok (.istore_n 2, 1) := by decide +kernel
theorem dX11_fits_9 : decode cX11_fits 9 = .ok (.iload_n 2, 1) := by decide +kernel
theorem dX11_fits_10 : decode cX11_fits 10 = .ok (.aload_n 0, 1) := by decide +kernel
theorem dX11_fits_11 : decode cX11_fits 11 = .ok (.getfield 105, 3) := by decide +kernel
theorem dX11_fits_14 : decode cX11_fits 14 = .ok (.if_icmp .ge 19, 3) := by decide +kernel
theorem dX11_fits_17 : decode cX11_fits 17 = .ok (.iload_n 1, 1) := by decide +kernel
theorem dX11_fits_18 : decode cX11_fits 18 = .ok (.ifCond .eq 15, 3) := by decide +kernel
theorem dX11_fits_21 : decode cX11_fits 21 = .ok (.aload_n 0, 1) := by decide +kernel
theorem dX11_fits_22 : decode cX11_fits 22 = .ok (.iload_n 2, 1) := by decide +kernel
theorem dX11_fits_23 : decode cX11_fits 23 = .ok (.invokevirtual 147, 3) := by decide +kernel
theorem dX11_fits_26 : decode cX11_fits 26 = .ok (.istore_n 1, 1) := by decide +kernel
theorem dX11_fits_27 : decode cX11_fits 27 = .ok (.iinc 2 1, 3) := by decide +kernel
theorem dX11_fits_30 : decode cX11_fits 30 = .ok (.goto (-21), 3) := by decide +kernel
theorem dX11_fits_33 : decode cX11_fits 33 = .ok (.iload_n 1, 1) := by decide +kernel
theorem dX11_fits_34 : decode cX11_fits 34 = .ok (.ireturn, 1) := by decide +kernel
theorem dX11_rowFor_0 : decode cX11_rowFor 0 = .ok (.bipush 32, 2) := by decide +kernel
theorem dX11_rowFor_2 : decode cX11_rowFor 2 = .ok (.iload_n 1, 1) := by decide +kernel
theorem dX11_rowFor_3 : decode cX11_rowFor 3 = .ok (.imul, 1) := by decide +kernel
theorem dX11_rowFor_4 : decode cX11_rowFor 4 = .ok (.istore_n 3, 1) := by decide +kernel
theorem dX11_rowFor_5 : decode cX11_rowFor 5 = .ok (.iconst 0, 1) := by decide +kernel
theorem dX11_rowFor_6 : decode cX11_rowFor 6 = .ok (.istore 4, 2) := by decide +kernel
theorem dX11_rowFor_8 : decode cX11_rowFor 8 = .ok (.iload 4, 2) := by decide +kernel
theorem dX11_rowFor_10 : decode cX11_rowFor 10 = .ok (.aload_n 0, 1) := by decide +kernel
theorem dX11_rowFor_11 : decode cX11_rowFor 11 = .ok (.getfield 46, 3) := by decide +kernel
theorem dX11_rowFor_14 : decode cX11_rowFor 14 = .ok (.iload_n 1, 1) := by decide +kernel
theorem dX11_rowFor_15 : decode cX11_rowFor 15 = .ok (.iaload, 1) := by decide +kernel
theorem dX11_rowFor_16 : decode cX11_rowFor 16 = .ok (.if_icmp .ge 22, 3) := by decide +kernel
theorem dX11_rowFor_19 : decode cX11_rowFor 19 = .ok (.aload_n 0, 1) := by decide +kernel
theorem dX11_rowFor_20 : decode cX11_rowFor 20 = .ok (.getfield 49, 3) := by decide +kernel
theorem dX11_rowFor_23 : decode cX11_rowFor 23 = .ok (.iload_n 3, 1) := by decide +kernel
theorem dX11_rowFor_24 : decode cX11_rowFor 24 = .ok (.iload 4, 2) := by decide +kernel
theorem dX11_rowFor_26 : decode cX11_rowFor 26 = .ok (.iadd, 1) := by decide +kernel
theorem dX11_rowFor_27 : decode cX11_rowFor 27 = .ok (.iaload, 1) := by decide +kernel
theorem dX11_rowFor_28 : decode cX11_rowFor 28 = .ok (.iload_n 2, 1) := by decide +kernel
theorem dX11_rowFor_29 : decode cX11_rowFor 29 = .ok (.if_icmp .ge 9, 3) := by decide +kernel
theorem dX11_rowFor_32 : decode cX11_rowFor 32 = .ok (.iinc 4 1, 3) := by decide +kernel
theorem dX11_rowFor_35 : decode cX11_rowFor 35 = .ok (.goto (-27), 3) := by decide +kernel
theorem dX11_rowFor_38 : decode cX11_rowFor 38 = .ok (.iload 4, 2) := by decide +kernel
theorem dX11_rowFor_40 : decode cX11_rowFor 40 = .ok (.aload_n 0, 1) := by decide +kernel
theorem dX11_rowFor_41 : decode cX11_rowFor 41 = .ok (.getfield 46, 3) := by decide +kernel
theorem dX11_rowFor_44 : decode cX11_rowFor 44 = .ok (.iload_n 1, 1) := by decide +kernel
theorem dX11_rowFor_45 : decode cX11_rowFor 45 = .ok (.iaload, 1) := by decide +kernel
theorem dX11_rowFor_46 : decode cX11_rowFor 46 = .ok (.if_icmp .ge 19, 3) := by decide +kernel
theorem dX11_rowFor_49 : decode cX11_rowFor 49 = .ok (.aload_n 0, 1) := by decide +kernel
theorem dX11_rowFor_50 : decode cX11_rowFor 50 = .ok (.getfield 49, 3) := by decide +kernel
theorem dX11_rowFor_53 : decode cX11_rowFor 53 = .ok (.iload_n 3, 1) := by decide +kernel
theorem dX11_rowFor_54 : decode cX11_rowFor 54 = .ok (.iload 4, 2) := by decide +kernel
theorem dX11_rowFor_56 : decode cX11_rowFor 56 = .ok (.iadd, 1) := by decide +kernel
theorem dX11_rowFor_57 : decode cX11_rowFor 57 = .ok (.iaload, 1) := by decide +kernel
theorem dX11_rowFor_58 : decode cX11_rowFor 58 = .ok (.iload_n 2, 1) := by decide +kernel
theorem dX11_rowFor_59 : decode cX11_rowFor 59 = .ok (.if_icmp .ne 6, 3) := by decide +kernel
theorem dX11_rowFor_62 : decode cX11_rowFor 62 = .ok (.iload 4, 2) := by decide +kernel
theorem dX11_rowFor_64 : decode cX11_rowFor 64 = .ok (.ireturn, 1) := by decide +kernel
theorem dX11_rowFor_65 : decode cX11_rowFor 65 = .ok (.aload_n 0, 1) := by decide +kernel
theorem dX11_rowFor_66 : decode cX11_rowFor 66 = .ok (.getfield 46, 3) := by decide +kernel
theorem dX11_rowFor_69 : decode cX11_rowFor 69 = .ok (.iload_n 1, 1) := by decide +kernel
theorem dX11_rowFor_70 : decode cX11_rowFor 70 = .ok (.iaload, 1) := by decide +kernel
theorem dX11_rowFor_71 : decode cX11_rowFor 71 = .ok (.bipush 32, 2) := by decide +kernel
theorem dX11_rowFor_73 : decode cX11_rowFor 73 = .ok (.if_icmp .ne 10, 3) := by decide +kernel
theorem dX11_rowFor_76 : decode cX11_rowFor 76 = .ok (.aload_n 0, 1) := by decide +kernel
theorem dX11_rowFor_77 : decode cX11_rowFor 77 = .ok (.iconst 1, 1) := by decide +kernel
theorem dX11_rowFor_78 : decode cX11_rowFor 78 = .ok (.putfield 151, 3) := by decide +kernel
theorem dX11_rowFor_81 : decode cX11_rowFor 81 = .ok (.iconst 0, 1) := by decide +kernel
theorem dX11_rowFor_82 : decode cX11_rowFor 82 = .ok (.ireturn, 1) := by decide +kernel
theorem dX11_rowFor_83 : decode cX11_rowFor 83 = .ok (.aload_n 0, 1) := by decide +kernel
theorem dX11_rowFor_84 : decode cX11_rowFor 84 = .ok (.getfield 46, 3) := by decide +kernel
theorem dX11_rowFor_87 : decode cX11_rowFor 87 = .ok (.iload_n 1, 1) := by decide +kernel
theorem dX11_rowFor_88 : decode cX11_rowFor 88 = .ok (.iaload, 1) := by decide +kernel
theorem dX11_rowFor_89 : decode cX11_rowFor 89 = .ok (.istore 5, 2) := by decide +kernel
theorem dX11_rowFor_91 : decode cX11_rowFor 91 = .ok (.iload 5, 2) := by decide +kernel
theorem dX11_rowFor_93 : decode cX11_rowFor 93 = .ok (.iload 4, 2) := by decide +kernel
theorem dX11_rowFor_95 : decode cX11_rowFor 95 = .ok (.if_icmp .le 21, 3) := by decide +kernel
theorem dX11_rowFor_98 : decode cX11_rowFor 98 = .ok (.aload_n 0, 1) := by decide +kernel
theorem dX11_rowFor_99 : decode cX11_rowFor 99 = .ok (.iload_n 1, 1) := by decide +kernel
theorem dX11_rowFor_100 : decode cX11_rowFor 100 = .ok (.iload 5, 2) := by decide +kernel
theorem dX11_rowFor_102 : decode cX11_rowFor 102 = .ok (.iconst 1, 1) := by decide +kernel
theorem dX11_rowFor_103 : decode cX11_rowFor 103 = .ok (.isub, 1) := by decide +kernel
theorem dX11_rowFor_104 : decode cX11_rowFor 104 = .ok (.iload_n 1, 1) := by decide +kernel
theorem dX11_rowFor_105 : decode cX11_rowFor 105 = .ok (.iload 5, 2) := by decide +kernel
theorem dX11_rowFor_107 : decode cX11_rowFor 107 = .ok (.invokevirtual 154, 3) := by decide +kernel
theorem dX11_rowFor_110 : decode cX11_rowFor 110 = .ok (.iinc 5 (-1), 3) := by decide +kernel
theorem dX11_rowFor_113 : decode cX11_rowFor 113 = .ok (.goto (-22), 3) := by decide +kernel
theorem dX11_rowFor_116 : decode cX11_rowFor 116 = .ok (.aload_n 0, 1) := by decide +kernel
theorem dX11_rowFor_117 : decode cX11_rowFor 117 = .ok (.getfield 49, 3) := by decide +kernel
theorem dX11_rowFor_120 : decode cX11_rowFor 120 = .ok (.iload_n 3, 1) := by decide +kernel
theorem dX11_rowFor_121 : decode cX11_rowFor 121 = .ok (.iload 4, 2) := by decide +kernel
theorem dX11_rowFor_123 : decode cX11_rowFor 123 = .ok (.iadd, 1) := by decide +kernel
theorem dX11_rowFor_124 : decode cX11_rowFor 124 = .ok (.iload_n 2, 1) := by decide +kernel
theorem dX11_rowFor_125 : decode cX11_rowFor 125 = .ok (.iastore, 1) := by decide +kernel
theorem dX11_rowFor_126 : decode cX11_rowFor 126 = .ok (.aload_n 0, 1) := by decide +kernel
theorem dX11_rowFor_127 : decode cX11_rowFor 127 = .ok (.getfield 52, 3) := by decide +kernel
theorem dX11_rowFor_130 : decode cX11_rowFor 130 = .ok (.iload_n 3, 1) := by decide +kernel
theorem dX11_rowFor_131 : decode cX11_rowFor 131 = .ok (.iload 4, 2) := by decide +kernel
theorem dX11_rowFor_133 : decode cX11_rowFor 133 = .ok (.iadd, 1) := by decide +kernel
theorem dX11_rowFor_134 : decode cX11_rowFor 134 = .ok (.iconst 0, 1) := by decide +kernel
theorem dX11_rowFor_135 : decode cX11_rowFor 135 = .ok (.iastore, 1) := by decide +kernel
theorem dX11_rowFor_136 : decode cX11_rowFor 136 = .ok (.aload_n 0, 1) := by decide +kernel
theorem dX11_rowFor_137 : decode cX11_rowFor 137 = .ok (.getfield 46, 3) := by decide +kernel
theorem dX11_rowFor_140 : decode cX11_rowFor 140 = .ok (.iload_n 1, 1) := by decide +kernel
theorem dX11_rowFor_141 : decode cX11_rowFor 141 = .ok (.dup2, 1) := by decide +kernel
theorem dX11_rowFor_142 : decode cX11_rowFor 142 = .ok (.iaload, 1) := by decide +kernel
theorem dX11_rowFor_143 : decode cX11_rowFor 143 = .ok (.iconst 1, 1) := by decide +kernel
theorem dX11_rowFor_144 : decode cX11_rowFor 144 = .ok (.iadd, 1) := by decide +kernel
theorem dX11_rowFor_145 : decode cX11_rowFor 145 = .ok (.iastore, 1) := by decide +kernel
theorem dX11_rowFor_146 : decode cX11_rowFor 146 = .ok (.iload 4, 2) := by decide +kernel
theorem dX11_rowFor_148 : decode cX11_rowFor 148 = .ok (.ireturn, 1) := by decide +kernel
theorem dX11_copiesRow_0 : decode cX11_copiesRow 0 = .ok (.bipush 32, 2) := by decide +kernel
theorem dX11_copiesRow_2 : decode cX11_copiesRow 2 = .ok (.iload_n 1, 1) := by decide +kernel
theorem dX11_copiesRow_3 : decode cX11_copiesRow 3 = .ok (.imul, 1) := by decide +kernel
theorem dX11_copiesRow_4 : decode cX11_copiesRow 4 = .ok (.iload_n 2, 1) := by decide +kernel
theorem dX11_copiesRow_5 : decode cX11_copiesRow 5 = .ok (.iadd, 1) := by decide +kernel
theorem dX11_copiesRow_6 : decode cX11_copiesRow 6 = .ok (.istore 5, 2) := by decide +kernel
theorem dX11_copiesRow_8 : decode cX11_copiesRow 8 = .ok (.bipush 32, 2) := by decide +kernel
theorem dX11_copiesRow_10 : decode cX11_copiesRow 10 = .ok (.iload_n 3, 1) := by decide +kernel
theorem dX11_copiesRow_11 : decode cX11_copiesRow 11 = .ok (.imul, 1) := by decide +kernel
theorem dX11_copiesRow_12 : decode cX11_copiesRow 12 = .ok (.iload 4, 2) := by decide +kernel
theorem dX11_copiesRow_14 : decode cX11_copiesRow 14 = .ok (.iadd, 1) := by decide +kernel
theorem dX11_copiesRow_15 : decode cX11_copiesRow 15 = .ok (.istore 6, 2) := by decide +kernel
theorem dX11_copiesRow_17 : decode cX11_copiesRow 17 = .ok (.aload_n 0, 1) := by decide +kernel
theorem dX11_copiesRow_18 : decode cX11_copiesRow 18 = .ok (.getfield 49, 3) := by decide +kernel
theorem dX11_copiesRow_21 : decode cX11_copiesRow 21 = .ok (.iload 6, 2) := by decide +kernel
theorem dX11_copiesRow_23 : decode cX11_copiesRow 23 = .ok (.aload_n 0, 1) := by decide +kernel
theorem dX11_copiesRow_24 : decode cX11_copiesRow 24 = .ok (.getfield 49, 3) := by decide +kernel
theorem dX11_copiesRow_27 : decode cX11_copiesRow 27 = .ok (.iload 5, 2) := by decide +kernel
theorem dX11_copiesRow_29 : decode cX11_copiesRow 29 = .ok (.iaload, 1) := by decide +kernel
theorem dX11_copiesRow_30 : decode cX11_copiesRow 30 = .ok (.iastore, 1) := by decide +kernel
theorem dX11_copiesRow_31 : decode cX11_copiesRow 31 = .ok (.aload_n 0, 1) := by decide +kernel
theorem dX11_copiesRow_32 : decode cX11_copiesRow 32 = .ok (.getfield 52, 3) := by decide +kernel
theorem dX11_copiesRow_35 : decode cX11_copiesRow 35 = .ok (.iload 6, 2) := by decide +kernel
theorem dX11_copiesRow_37 : decode cX11_copiesRow 37 = .ok (.aload_n 0, 1) := by decide +kernel
theorem dX11_copiesRow_38 : decode cX11_copiesRow 38 = .ok (.getfield 52, 3) := by decide +kernel
theorem dX11_copiesRow_41 : decode cX11_copiesRow 41 = .ok (.iload 5, 2) := by decide +kernel
theorem dX11_copiesRow_43 : decode cX11_copiesRow 43 = .ok (.iaload, 1) := by decide +kernel
theorem dX11_copiesRow_44 : decode cX11_copiesRow 44 = .ok (.iastore, 1) := by decide +kernel
theorem dX11_copiesRow_45 : decode cX11_copiesRow 45 = .ok (.iconst 0, 1) := by decide +kernel
theorem dX11_copiesRow_46 : decode cX11_copiesRow 46 = .ok (.istore 7, 2) := by decide +kernel
theorem dX11_copiesRow_48 : decode cX11_copiesRow 48 = .ok (.iload 7, 2) := by decide +kernel
theorem dX11_copiesRow_50 : decode cX11_copiesRow 50 = .ok (.aload_n 0, 1) := by decide +kernel
theorem dX11_copiesRow_51 : decode cX11_copiesRow 51 = .ok (.getfield 52, 3) := by decide +kernel
theorem dX11_copiesRow_54 : decode cX11_copiesRow 54 = .ok (.iload 5, 2) := by decide +kernel
theorem dX11_copiesRow_56 : decode cX11_copiesRow 56 = .ok (.iaload, 1) := by decide +kernel
theorem dX11_copiesRow_57 : decode cX11_copiesRow 57 = .ok (.if_icmp .ge 61, 3) := by decide +kernel
theorem dX11_copiesRow_60 : decode cX11_copiesRow 60 = .ok (.aload_n 0, 1) := by decide +kernel
theorem dX11_copiesRow_61 : decode cX11_copiesRow 61 = .ok (.getfield 55, 3) := by decide +kernel
theorem dX11_copiesRow_64 : decode cX11_copiesRow 64 = .ok (.bipush 32, 2) := by decide +kernel
theorem dX11_copiesRow_66 : decode cX11_copiesRow 66 = .ok (.iload 6, 2) := by decide +kernel
theorem dX11_copiesRow_68 : decode cX11_copiesRow 68 = .ok (.imul, 1) := by decide +kernel
theorem dX11_copiesRow_69 : decode cX11_copiesRow 69 = .ok (.iload 7, 2) := by decide +kernel
theorem dX11_copiesRow_71 : decode cX11_copiesRow 71 = .ok (.iadd, 1) := by decide +kernel
theorem dX11_copiesRow_72 : decode cX11_copiesRow 72 = .ok (.aload_n 0, 1) := by decide +kernel
theorem dX11_copiesRow_73 : decode cX11_copiesRow 73 = .ok (.getfield 55, 3) := by decide +kernel
theorem dX11_copiesRow_76 : decode cX11_copiesRow 76 = .ok (.bipush 32, 2) := by decide +kernel
theorem dX11_copiesRow_78 : decode cX11_copiesRow 78 = .ok (.iload 5, 2) := by decide +kernel
theorem dX11_copiesRow_80 : decode cX11_copiesRow 80 = .ok (.imul, 1) := by decide +kernel
theorem dX11_copiesRow_81 : decode cX11_copiesRow 81 = .ok (.iload 7, 2) := by decide +kernel
theorem dX11_copiesRow_83 : decode cX11_copiesRow 83 = .ok (.iadd, 1) := by decide +kernel
theorem dX11_copiesRow_84 : decode cX11_copiesRow 84 = .ok (.laload, 1) := by decide +kernel
theorem dX11_copiesRow_85 : decode cX11_copiesRow 85 = .ok (.lastore, 1) := by decide +kernel
theorem dX11_copiesRow_86 : decode cX11_copiesRow 86 = .ok (.aload_n 0, 1) := by decide +kernel
theorem dX11_copiesRow_87 : decode cX11_copiesRow 87 = .ok (.getfield 59, 3) := by decide +kernel
theorem dX11_copiesRow_90 : decode cX11_copiesRow 90 = .ok (.bipush 32, 2) := by decide +kernel
theorem dX11_copiesRow_92 : decode cX11_copiesRow 92 = .ok (.iload 6, 2) := by decide +kernel
theorem dX11_copiesRow_94 : decode cX11_copiesRow 94 = .ok (.imul, 1) := by decide +kernel
theorem dX11_copiesRow_95 : decode cX11_copiesRow 95 = .ok (.iload 7, 2) := by decide +kernel
theorem dX11_copiesRow_97 : decode cX11_copiesRow 97 = .ok (.iadd, 1) := by decide +kernel
theorem dX11_copiesRow_98 : decode cX11_copiesRow 98 = .ok (.aload_n 0, 1) := by decide +kernel
theorem dX11_copiesRow_99 : decode cX11_copiesRow 99 = .ok (.getfield 59, 3) := by decide +kernel
theorem dX11_copiesRow_102 : decode cX11_copiesRow 102 = .ok (.bipush 32, 2) := by decide +kernel
theorem dX11_copiesRow_104 : decode cX11_copiesRow 104 = .ok (.iload 5, 2) := by decide +kernel
theorem dX11_copiesRow_106 : decode cX11_copiesRow 106 = .ok (.imul, 1) := by decide +kernel
theorem dX11_copiesRow_107 : decode cX11_copiesRow 107 = .ok (.iload 7, 2) := by decide +kernel
theorem dX11_copiesRow_109 : decode cX11_copiesRow 109 = .ok (.iadd, 1) := by decide +kernel
theorem dX11_copiesRow_110 : decode cX11_copiesRow 110 = .ok (.laload, 1) := by decide +kernel
theorem dX11_copiesRow_111 : decode cX11_copiesRow 111 = .ok (.lastore, 1) := by decide +kernel
theorem dX11_copiesRow_112 : decode cX11_copiesRow 112 = .ok (.iinc 7 1, 3) := by decide +kernel
theorem dX11_copiesRow_115 : decode cX11_copiesRow 115 = .ok (.goto (-67), 3) := by decide +kernel
theorem dX11_copiesRow_118 : decode cX11_copiesRow 118 = .ok (.return_, 1) := by decide +kernel
theorem dX11_addsTerm_0 : decode cX11_addsTerm 0 = .ok (.bipush 32, 2) := by decide +kernel
theorem dX11_addsTerm_2 : decode cX11_addsTerm 2 = .ok (.iload_n 1, 1) := by decide +kernel
theorem dX11_addsTerm_3 : decode cX11_addsTerm 3 = .ok (.imul, 1) := by decide +kernel
theorem dX11_addsTerm_4 : decode cX11_addsTerm 4 = .ok (.iload_n 2, 1) := by decide +kernel
theorem dX11_addsTerm_5 : decode cX11_addsTerm 5 = .ok (.iadd, 1) := by decide +kernel
theorem dX11_addsTerm_6 : decode cX11_addsTerm 6 = .ok (.istore 7, 2) := by decide +kernel
theorem dX11_addsTerm_8 : decode cX11_addsTerm 8 = .ok (.bipush 32, 2) := by decide +kernel
theorem dX11_addsTerm_10 : decode cX11_addsTerm 10 = .ok (.iload 7, 2) := by decide +kernel
theorem dX11_addsTerm_12 : decode cX11_addsTerm 12 = .ok (.imul, 1) := by decide +kernel
theorem dX11_addsTerm_13 : decode cX11_addsTerm 13 = .ok (.istore 8, 2) := by decide +kernel
theorem dX11_addsTerm_15 : decode cX11_addsTerm 15 = .ok (.iconst 0, 1) := by decide +kernel
theorem dX11_addsTerm_16 : decode cX11_addsTerm 16 = .ok (.istore 9, 2) := by decide +kernel
theorem dX11_addsTerm_18 : decode cX11_addsTerm 18 = .ok (.iload 9, 2) := by decide +kernel
theorem dX11_addsTerm_20 : decode cX11_addsTerm 20 = .ok (.aload_n 0, 1) := by decide +kernel
theorem dX11_addsTerm_21 : decode cX11_addsTerm 21 = .ok (.getfield 52, 3) := by decide +kernel
theorem dX11_addsTerm_24 : decode cX11_addsTerm 24 = .ok (.iload 7, 2) := by decide +kernel
theorem dX11_addsTerm_26 : decode cX11_addsTerm 26 = .ok (.iaload, 1) := by decide +kernel
theorem dX11_addsTerm_27 : decode cX11_addsTerm 27 = .ok (.if_icmp .ge 32, 3) := by decide +kernel
theorem dX11_addsTerm_30 : decode cX11_addsTerm 30 = .ok (.aload_n 0, 1) := by decide +kernel
theorem dX11_addsTerm_31 : decode cX11_addsTerm 31 = .ok (.getfield 55, 3) := by decide +kernel
theorem dX11_addsTerm_34 : decode cX11_addsTerm 34 = .ok (.iload 8, 2) := by decide +kernel
theorem dX11_addsTerm_36 : decode cX11_addsTerm 36 = .ok (.iload 9, 2) := by decide +kernel
theorem dX11_addsTerm_38 : decode cX11_addsTerm 38 = .ok (.iadd, 1) := by decide +kernel
theorem dX11_addsTerm_39 : decode cX11_addsTerm 39 = .ok (.laload, 1) := by decide +kernel
theorem dX11_addsTerm_40 : decode cX11_addsTerm 40 = .ok (.ldc2_w 158, 3) := by decide +kernel
theorem dX11_addsTerm_43 : decode cX11_addsTerm 43 = .ok (.lxor, 1) := by decide +kernel
theorem dX11_addsTerm_44 : decode cX11_addsTerm 44 = .ok (.lload_n 3, 1) := by decide +kernel
theorem dX11_addsTerm_45 : decode cX11_addsTerm 45 = .ok (.ldc2_w 158, 3) := by decide +kernel
theorem dX11_addsTerm_48 : decode cX11_addsTerm 48 = .ok (.lxor, 1) := by decide +kernel
theorem dX11_addsTerm_49 : decode cX11_addsTerm 49 = .ok (.lcmp, 1) := by decide +kernel
theorem dX11_addsTerm_50 : decode cX11_addsTerm 50 = .ok (.ifCond .le 9, 3) := by decide +kernel
theorem dX11_addsTerm_53 : decode cX11_addsTerm 53 = .ok (.iinc 9 1, 3) := by decide +kernel
theorem dX11_addsTerm_56 : decode cX11_addsTerm 56 = .ok (.goto (-38), 3) := by decide +kernel
theorem dX11_addsTerm_59 : decode cX11_addsTerm 59 = .ok (.iload 9, 2) := by decide +kernel
theorem dX11_addsTerm_61 : decode cX11_addsTerm 61 = .ok (.aload_n 0, 1) := by decide +kernel
theorem dX11_addsTerm_62 : decode cX11_addsTerm 62 = .ok (.getfield 52, 3) := by decide +kernel
theorem dX11_addsTerm_65 : decode cX11_addsTerm 65 = .ok (.iload 7, 2) := by decide +kernel
theorem dX11_addsTerm_67 : decode cX11_addsTerm 67 = .ok (.iaload, 1) := by decide +kernel
theorem dX11_addsTerm_68 : decode cX11_addsTerm 68 = .ok (.if_icmp .ge 34, 3) := by decide +kernel
theorem dX11_addsTerm_71 : decode cX11_addsTerm 71 = .ok (.aload_n 0, 1) := by decide +kernel
theorem dX11_addsTerm_72 : decode cX11_addsTerm 72 = .ok (.getfield 55, 3) := by decide +kernel
theorem dX11_addsTerm_75 : decode cX11_addsTerm 75 = .ok (.iload 8, 2) := by decide +kernel
theorem dX11_addsTerm_77 : decode cX11_addsTerm 77 = .ok (.iload 9, 2) := by decide +kernel
theorem dX11_addsTerm_79 : decode cX11_addsTerm 79 = .ok (.iadd, 1) := by decide +kernel
theorem dX11_addsTerm_80 : decode cX11_addsTerm 80 = .ok (.laload, 1) := by decide +kernel
theorem dX11_addsTerm_81 : decode cX11_addsTerm 81 = .ok (.lload_n 3, 1) := by decide +kernel
theorem dX11_addsTerm_82 : decode cX11_addsTerm 82 = .ok (.lcmp, 1) := by decide +kernel
theorem dX11_addsTerm_83 : decode cX11_addsTerm 83 = .ok (.ifCond .ne 19, 3) := by decide +kernel
theorem dX11_addsTerm_86 : decode cX11_addsTerm 86 = .ok (.aload_n 0, 1) := by decide +kernel
theorem dX11_addsTerm_87 : decode cX11_addsTerm 87 = .ok (.getfield 59, 3) := by decide +kernel
theorem dX11_addsTerm_90 : decode cX11_addsTerm 90 = .ok (.iload 8, 2) := by decide +kernel
theorem dX11_addsTerm_92 : decode cX11_addsTerm 92 = .ok (.iload 9, 2) := by decide +kernel
theorem dX11_addsTerm_94 : decode cX11_addsTerm 94 = .ok (.iadd, 1) := by decide +kernel
theorem dX11_addsTerm_95 : decode cX11_addsTerm 95 = .ok (.dup2, 1) := by decide +kernel
theorem dX11_addsTerm_96 : decode cX11_addsTerm 96 = .ok (.laload, 1) := by decide +kernel
theorem dX11_addsTerm_97 : decode cX11_addsTerm 97 = .ok (.lload 5, 2) := by decide +kernel
theorem dX11_addsTerm_99 : decode cX11_addsTerm 99 = .ok (.ladd, 1) := by decide +kernel
theorem dX11_addsTerm_100 : decode cX11_addsTerm 100 = .ok (.lastore, 1) := by decide +kernel
theorem dX11_addsTerm_101 : decode cX11_addsTerm 101 = .ok (.return_, 1) := by decide +kernel
theorem dX11_addsTerm_102 : decode cX11_addsTerm 102 = .ok (.aload_n 0, 1) := by decide +kernel
theorem dX11_addsTerm_103 : decode cX11_addsTerm 103 = .ok (.getfield 52, 3) := by decide +kernel
theorem dX11_addsTerm_106 : decode cX11_addsTerm 106 = .ok (.iload 7, 2) := by decide +kernel
theorem dX11_addsTerm_108 : decode cX11_addsTerm 108 = .ok (.iaload, 1) := by decide +kernel
theorem dX11_addsTerm_109 : decode cX11_addsTerm 109 = .ok (.bipush 32, 2) := by decide +kernel
theorem dX11_addsTerm_111 : decode cX11_addsTerm 111 = .ok (.if_icmp .ne 9, 3) := by decide +kernel
theorem dX11_addsTerm_114 : decode cX11_addsTerm 114 = .ok (.aload_n 0, 1) := by decide +kernel
theorem dX11_addsTerm_115 : decode cX11_addsTerm 115 = .ok (.iconst 1, 1) := by decide +kernel
theorem dX11_addsTerm_116 : decode cX11_addsTerm 116 = .ok (.putfield 151, 3) := by decide +kernel
theorem dX11_addsTerm_119 : decode cX11_addsTerm 119 = .ok (.return_, 1) := by decide +kernel
theorem dX11_addsTerm_120 : decode cX11_addsTerm 120 = .ok (.aload_n 0, 1) := by decide +kernel
theorem dX11_addsTerm_121 : decode cX11_addsTerm 121 = .ok (.getfield 52, 3) := by decide +kernel
theorem dX11_addsTerm_124 : decode cX11_addsTerm 124 = .ok (.iload 7, 2) := by decide +kernel
theorem dX11_addsTerm_126 : decode cX11_addsTerm 126 = .ok (.iaload, 1) := by decide +kernel
theorem dX11_addsTerm_127 : decode cX11_addsTerm 127 = .ok (.istore 10, 2) := by decide +kernel
theorem dX11_addsTerm_129 : decode cX11_addsTerm 129 = .ok (.iload 10, 2) := by decide +kernel
theorem dX11_addsTerm_131 : decode cX11_addsTerm 131 = .ok (.iload 9, 2) := by decide +kernel
theorem dX11_addsTerm_133 : decode cX11_addsTerm 133 = .ok (.if_icmp .le 53, 3) := by decide +kernel
theorem dX11_addsTerm_136 : decode cX11_addsTerm 136 = .ok (.aload_n 0, 1) := by decide +kernel
theorem dX11_addsTerm_137 : decode cX11_addsTerm 137 = .ok (.getfield 55, 3) := by decide +kernel
theorem dX11_addsTerm_140 : decode cX11_addsTerm 140 = .ok (.iload 8, 2) := by decide +kernel
theorem dX11_addsTerm_142 : decode cX11_addsTerm 142 = .ok (.iload 10, 2) := by decide +kernel
theorem dX11_addsTerm_144 : decode cX11_addsTerm 144 = .ok (.iadd, 1) := by decide +kernel
theorem dX11_addsTerm_145 : decode cX11_addsTerm 145 = .ok (.aload_n 0, 1) := by decide +kernel
theorem dX11_addsTerm_146 : decode cX11_addsTerm 146 = .ok (.getfield 55, 3) := by decide +kernel
theorem dX11_addsTerm_149 : decode cX11_addsTerm 149 = .ok (.iload 8, 2) := by decide +kernel
theorem dX11_addsTerm_151 : decode cX11_addsTerm 151 = .ok (.iload 10, 2) := by decide +kernel
theorem dX11_addsTerm_153 : decode cX11_addsTerm 153 = .ok (.iadd, 1) := by decide +kernel
theorem dX11_addsTerm_154 : decode cX11_addsTerm 154 = .ok (.iconst 1, 1) := by decide +kernel
theorem dX11_addsTerm_155 : decode cX11_addsTerm 155 = .ok (.isub, 1) := by decide +kernel
theorem dX11_addsTerm_156 : decode cX11_addsTerm 156 = .ok (.laload, 1) := by decide +kernel
theorem dX11_addsTerm_157 : decode cX11_addsTerm 157 = .ok (.lastore, 1) := by decide +kernel
theorem dX11_addsTerm_158 : decode cX11_addsTerm 158 = .ok (.aload_n 0, 1) := by decide +kernel
theorem dX11_addsTerm_159 : decode cX11_addsTerm 159 = .ok (.getfield 59, 3) := by decide +kernel
theorem dX11_addsTerm_162 : decode cX11_addsTerm 162 = .ok (.iload 8, 2) := by decide +kernel
theorem dX11_addsTerm_164 : decode cX11_addsTerm 164 = .ok (.iload 10, 2) := by decide +kernel
theorem dX11_addsTerm_166 : decode cX11_addsTerm 166 = .ok (.iadd, 1) := by decide +kernel
theorem dX11_addsTerm_167 : decode cX11_addsTerm 167 = .ok (.aload_n 0, 1) := by decide +kernel
theorem dX11_addsTerm_168 : decode cX11_addsTerm 168 = .ok (.getfield 59, 3) := by decide +kernel
theorem dX11_addsTerm_171 : decode cX11_addsTerm 171 = .ok (.iload 8, 2) := by decide +kernel
theorem dX11_addsTerm_173 : decode cX11_addsTerm 173 = .ok (.iload 10, 2) := by decide +kernel
theorem dX11_addsTerm_175 : decode cX11_addsTerm 175 = .ok (.iadd, 1) := by decide +kernel
theorem dX11_addsTerm_176 : decode cX11_addsTerm 176 = .ok (.iconst 1, 1) := by decide +kernel
theorem dX11_addsTerm_177 : decode cX11_addsTerm 177 = .ok (.isub, 1) := by decide +kernel
theorem dX11_addsTerm_178 : decode cX11_addsTerm 178 = .ok (.laload, 1) := by decide +kernel
theorem dX11_addsTerm_179 : decode cX11_addsTerm 179 = .ok (.lastore, 1) := by decide +kernel
theorem dX11_addsTerm_180 : decode cX11_addsTerm 180 = .ok (.iinc 10 (-1), 3) := by decide +kernel
theorem dX11_addsTerm_183 : decode cX11_addsTerm 183 = .ok (.goto (-54), 3) := by decide +kernel
theorem dX11_addsTerm_186 : decode cX11_addsTerm 186 = .ok (.aload_n 0, 1) := by decide +kernel
theorem dX11_addsTerm_187 : decode cX11_addsTerm 187 = .ok (.getfield 55, 3) := by decide +kernel
theorem dX11_addsTerm_190 : decode cX11_addsTerm 190 = .ok (.iload 8, 2) := by decide +kernel
theorem dX11_addsTerm_192 : decode cX11_addsTerm 192 = .ok (.iload 9, 2) := by decide +kernel
theorem dX11_addsTerm_194 : decode cX11_addsTerm 194 = .ok (.iadd, 1) := by decide +kernel
theorem dX11_addsTerm_195 : decode cX11_addsTerm 195 = .ok (.lload_n 3, 1) := by decide +kernel
theorem dX11_addsTerm_196 : decode cX11_addsTerm 196 = .ok (.lastore, 1) := by decide +kernel
theorem dX11_addsTerm_197 : decode cX11_addsTerm 197 = .ok (.aload_n 0, 1) := by decide +kernel
theorem dX11_addsTerm_198 : decode cX11_addsTerm 198 = .ok (.getfield 59, 3) := by decide +kernel
theorem dX11_addsTerm_201 : decode cX11_addsTerm 201 = .ok (.iload 8, 2) := by decide +kernel
theorem dX11_addsTerm_203 : decode cX11_addsTerm 203 = .ok (.iload 9, 2) := by decide +kernel
theorem dX11_addsTerm_205 : decode cX11_addsTerm 205 = .ok (.iadd, 1) := by decide +kernel
theorem dX11_addsTerm_206 : decode cX11_addsTerm 206 = .ok (.lload 5, 2) := by decide +kernel
theorem dX11_addsTerm_208 : decode cX11_addsTerm 208 = .ok (.lastore, 1) := by decide +kernel
theorem dX11_addsTerm_209 : decode cX11_addsTerm 209 = .ok (.aload_n 0, 1) := by decide +kernel
theorem dX11_addsTerm_210 : decode cX11_addsTerm 210 = .ok (.getfield 52, 3) := by decide +kernel
theorem dX11_addsTerm_213 : decode cX11_addsTerm 213 = .ok (.iload 7, 2) := by decide +kernel
theorem dX11_addsTerm_215 : decode cX11_addsTerm 215 = .ok (.dup2, 1) := by decide +kernel
theorem dX11_addsTerm_216 : decode cX11_addsTerm 216 = .ok (.iaload, 1) := by decide +kernel
theorem dX11_addsTerm_217 : decode cX11_addsTerm 217 = .ok (.iconst 1, 1) := by decide +kernel
theorem dX11_addsTerm_218 : decode cX11_addsTerm 218 = .ok (.iadd, 1) := by decide +kernel
theorem dX11_addsTerm_219 : decode cX11_addsTerm 219 = .ok (.iastore, 1) := by decide +kernel
theorem dX11_addsTerm_220 : decode cX11_addsTerm 220 = .ok (.return_, 1) := by decide +kernel
theorem dX11_addsRow_0 : decode cX11_addsRow 0 = .ok (.bipush 32, 2) := by decide +kernel
theorem dX11_addsRow_2 : decode cX11_addsRow 2 = .ok (.iload_n 1, 1) := by decide +kernel
theorem dX11_addsRow_3 : decode cX11_addsRow 3 = .ok (.imul, 1) := by decide +kernel
theorem dX11_addsRow_4 : decode cX11_addsRow 4 = .ok (.iload_n 2, 1) := by decide +kernel
theorem dX11_addsRow_5 : decode cX11_addsRow 5 = .ok (.iadd, 1) := by decide +kernel
theorem dX11_addsRow_6 : decode cX11_addsRow 6 = .ok (.istore 5, 2) := by decide +kernel
theorem dX11_addsRow_8 : decode cX11_addsRow 8 = .ok (.aload_n 0, 1) := by decide +kernel
theorem dX11_addsRow_9 : decode cX11_addsRow 9 = .ok (.iload_n 3, 1) := by decide +kernel
theorem dX11_addsRow_10 : decode cX11_addsRow 10 = .ok (.iload 4, 2) := by decide +kernel
theorem dX11_addsRow_12 : decode cX11_addsRow 12 = .ok (.invokevirtual 160, 3) := by decide +kernel
theorem dX11_addsRow_15 : decode cX11_addsRow 15 = .ok (.istore 6, 2) := by decide +kernel
theorem dX11_addsRow_17 : decode cX11_addsRow 17 = .ok (.iconst 0, 1) := by decide +kernel
theorem dX11_addsRow_18 : decode cX11_addsRow 18 = .ok (.istore 7, 2) := by decide +kernel
theorem dX11_addsRow_20 : decode cX11_addsRow 20 = .ok (.iload 7, 2) := by decide +kernel
theorem dX11_addsRow_22 : decode cX11_addsRow 22 = .ok (.aload_n 0, 1) := by decide +kernel
theorem dX11_addsRow_23 : decode cX11_addsRow 23 = .ok (.getfield 52, 3) := by decide +kernel
theorem dX11_addsRow_26 : decode cX11_addsRow 26 = .ok (.iload 5, 2) := by decide +kernel
theorem dX11_addsRow_28 : decode cX11_addsRow 28 = .ok (.iaload, 1) := by decide +kernel
theorem dX11_addsRow_29 : decode cX11_addsRow 29 = .ok (.if_icmp .ge 49, 3) := by decide +kernel
theorem dX11_addsRow_32 : decode cX11_addsRow 32 = .ok (.aload_n 0, 1) := by decide +kernel
theorem dX11_addsRow_33 : decode cX11_addsRow 33 = .ok (.getfield 151, 3) := by decide +kernel
theorem dX11_addsRow_36 : decode cX11_addsRow 36 = .ok (.ifCond .ne 42, 3) := by decide +kernel
theorem dX11_addsRow_39 : decode cX11_addsRow 39 = .ok (.aload_n 0, 1) := by decide +kernel
theorem dX11_addsRow_40 : decode cX11_addsRow 40 = .ok (.iload_n 3, 1) := by decide +kernel
theorem dX11_addsRow_41 : decode cX11_addsRow 41 = .ok (.iload 6, 2) := by decide +kernel
theorem dX11_addsRow_43 : decode cX11_addsRow 43 = .ok (.aload_n 0, 1) := by decide +kernel
theorem dX11_addsRow_44 : decode cX11_addsRow 44 = .ok (.getfield 55, 3) := by decide +kernel
theorem dX11_addsRow_47 : decode cX11_addsRow 47 = .ok (.bipush 32, 2) := by decide +kernel
theorem dX11_addsRow_49 : decode cX11_addsRow 49 = .ok (.iload 5, 2) := by decide +kernel
theorem dX11_addsRow_51 : decode cX11_addsRow 51 = .ok (.imul, 1) := by decide +kernel
theorem dX11_addsRow_52 : decode cX11_addsRow 52 = .ok (.iload 7, 2) := by decide +kernel
theorem dX11_addsRow_54 : decode cX11_addsRow 54 = .ok (.iadd, 1) := by decide +kernel
theorem dX11_addsRow_55 : decode cX11_addsRow 55 = .ok (.laload, 1) := by decide +kernel
theorem dX11_addsRow_56 : decode cX11_addsRow 56 = .ok (.aload_n 0, 1) := by decide +kernel
theorem dX11_addsRow_57 : decode cX11_addsRow 57 = .ok (.getfield 59, 3) := by decide +kernel
theorem dX11_addsRow_60 : decode cX11_addsRow 60 = .ok (.bipush 32, 2) := by decide +kernel
theorem dX11_addsRow_62 : decode cX11_addsRow 62 = .ok (.iload 5, 2) := by decide +kernel
theorem dX11_addsRow_64 : decode cX11_addsRow 64 = .ok (.imul, 1) := by decide +kernel
theorem dX11_addsRow_65 : decode cX11_addsRow 65 = .ok (.iload 7, 2) := by decide +kernel
theorem dX11_addsRow_67 : decode cX11_addsRow 67 = .ok (.iadd, 1) := by decide +kernel
theorem dX11_addsRow_68 : decode cX11_addsRow 68 = .ok (.laload, 1) := by decide +kernel
theorem dX11_addsRow_69 : decode cX11_addsRow 69 = .ok (.invokevirtual 163, 3) := by decide +kernel
theorem dX11_addsRow_72 : decode cX11_addsRow 72 = .ok (.iinc 7 1, 3) := by decide +kernel
theorem dX11_addsRow_75 : decode cX11_addsRow 75 = .ok (.goto (-55), 3) := by decide +kernel
theorem dX11_addsRow_78 : decode cX11_addsRow 78 = .ok (.return_, 1) := by decide +kernel
theorem dX11_tagAlone_0 : decode cX11_tagAlone 0 = .ok (.lconst 1, 1) := by decide +kernel
theorem dX11_tagAlone_1 : decode cX11_tagAlone 1 = .ok (.iconst 4, 1) := by decide +kernel
theorem dX11_tagAlone_2 : decode cX11_tagAlone 2 = .ok (.bipush 15, 2) := by decide +kernel
theorem dX11_tagAlone_4 : decode cX11_tagAlone 4 = .ok (.iload_n 0, 1) := by decide +kernel
theorem dX11_tagAlone_5 : decode cX11_tagAlone 5 = .ok (.isub, 1) := by decide +kernel
theorem dX11_tagAlone_6 : decode cX11_tagAlone 6 = .ok (.imul, 1) := by decide +kernel
theorem dX11_tagAlone_7 : decode cX11_tagAlone 7 = .ok (.lshl, 1) := by decide +kernel
theorem dX11_tagAlone_8 : decode cX11_tagAlone 8 = .ok (.lreturn, 1) := by decide +kernel
theorem dX11_exponentOf_0 : decode cX11_exponentOf 0 = .ok (.lload_n 0, 1) := by decide +kernel
theorem dX11_exponentOf_1 : decode cX11_exponentOf 1 = .ok (.iconst 4, 1) := by decide +kernel
theorem dX11_exponentOf_2 : decode cX11_exponentOf 2 = .ok (.bipush 15, 2) := by decide +kernel
theorem dX11_exponentOf_4 : decode cX11_exponentOf 4 = .ok (.iload_n 2, 1) := by decide +kernel
theorem dX11_exponentOf_5 : decode cX11_exponentOf 5 = .ok (.isub, 1) := by decide +kernel
theorem dX11_exponentOf_6 : decode cX11_exponentOf 6 = .ok (.imul, 1) := by decide +kernel
theorem dX11_exponentOf_7 : decode cX11_exponentOf 7 = .ok (.lshr, 1) := by decide +kernel
theorem dX11_exponentOf_8 : decode cX11_exponentOf 8 = .ok (.ldc2_w 167, 3) := by decide +kernel
theorem dX11_exponentOf_11 : decode cX11_exponentOf 11 = .ok (.land, 1) := by decide +kernel
theorem dX11_exponentOf_12 : decode cX11_exponentOf 12 = .ok (.l2i, 1) := by decide +kernel
theorem dX11_exponentOf_13 : decode cX11_exponentOf 13 = .ok (.ireturn, 1) := by decide +kernel
theorem dX11_pilesTable_0 : decode cX11_pilesTable 0 = .ok (.aload_n 0, 1) := by decide +kernel
theorem dX11_pilesTable_1 : decode cX11_pilesTable 1 = .ok (.getfield 43, 3) := by decide +kernel
theorem dX11_pilesTable_4 : decode cX11_pilesTable 4 = .ok (.aload_n 0, 1) := by decide +kernel
theorem dX11_pilesTable_5 : decode cX11_pilesTable 5 = .ok (.getfield 141, 3) := by decide +kernel
theorem dX11_pilesTable_8 : decode cX11_pilesTable 8 = .ok (.aload_n 0, 1) := by decide +kernel
theorem dX11_pilesTable_9 : decode cX11_pilesTable 9 = .ok (.getfield 7, 3) := by decide +kernel
theorem dX11_pilesTable_12 : decode cX11_pilesTable 12 = .ok (.iload_n 1, 1) := by decide +kernel
theorem dX11_pilesTable_13 : decode cX11_pilesTable 13 = .ok (.iaload, 1) := by decide +kernel
theorem dX11_pilesTable_14 : decode cX11_pilesTable 14 = .ok (.iastore, 1) := by decide +kernel
theorem dX11_pilesTable_15 : decode cX11_pilesTable 15 = .ok (.aload_n 0, 1) := by decide +kernel
theorem dX11_pilesTable_16 : decode cX11_pilesTable 16 = .ok (.getfield 46, 3) := by decide +kernel
theorem dX11_pilesTable_19 : decode cX11_pilesTable 19 = .ok (.aload_n 0, 1) := by decide +kernel
theorem dX11_pilesTable_20 : decode cX11_pilesTable 20 = .ok (.getfield 141, 3) := by decide +kernel
theorem dX11_pilesTable_23 : decode cX11_pilesTable 23 = .ok (.iconst 0, 1) := by decide +kernel
theorem dX11_pilesTable_24 : decode cX11_pilesTable 24 = .ok (.iastore, 1) := by decide +kernel
theorem dX11_pilesTable_25 : decode cX11_pilesTable 25 = .ok (.iconst 0, 1) := by decide +kernel
theorem dX11_pilesTable_26 : decode cX11_pilesTable 26 = .ok (.istore_n 2, 1) := by decide +kernel
theorem dX11_pilesTable_27 : decode cX11_pilesTable 27 = .ok (.iload_n 2, 1) := by decide +kernel
theorem dX11_pilesTable_28 : decode cX11_pilesTable 28 = .ok (.bipush 16, 2) := by decide +kernel
theorem dX11_pilesTable_30 : decode cX11_pilesTable 30 = .ok (.if_icmp .ge 48, 3) := by decide +kernel
theorem dX11_pilesTable_33 : decode cX11_pilesTable 33 = .ok (.aload_n 0, 1) := by decide +kernel
theorem dX11_pilesTable_34 : decode cX11_pilesTable 34 = .ok (.iload_n 2, 1) := by decide +kernel
theorem dX11_pilesTable_35 : decode cX11_pilesTable 35 = .ok (.iconst 0, 1) := by decide +kernel
theorem dX11_pilesTable_36 : decode cX11_pilesTable 36 = .ok (.invokevirtual 84, 3) := by decide +kernel
theorem dX11_pilesTable_39 : decode cX11_pilesTable 39 = .ok (.iload_n 1, 1) := by decide +kernel
theorem dX11_pilesTable_40 : decode cX11_pilesTable 40 = .ok (.iconst 1, 1) := by decide +kernel
theorem dX11_pilesTable_41 : decode cX11_pilesTable 41 = .ok (.iadd, 1) := by decide +kernel
theorem dX11_pilesTable_42 : decode cX11_pilesTable 42 = .ok (.if_icmp .ne 30, 3) := by decide +kernel
theorem dX11_pilesTable_45 : decode cX11_pilesTable 45 = .ok (.aload_n 0, 1) := by decide +kernel
theorem dX11_pilesTable_46 : decode cX11_pilesTable 46 = .ok (.aload_n 0, 1) := by decide +kernel
theorem dX11_pilesTable_47 : decode cX11_pilesTable 47 = .ok (.getfield 141, 3) := by decide +kernel
theorem dX11_pilesTable_50 : decode cX11_pilesTable 50 = .ok (.aload_n 0, 1) := by decide +kernel
theorem dX11_pilesTable_51 : decode cX11_pilesTable 51 = .ok (.aload_n 0, 1) := by decide +kernel
theorem dX11_pilesTable_52 : decode cX11_pilesTable 52 = .ok (.getfield 141, 3) := by decide +kernel
theorem dX11_pilesTable_55 : decode cX11_pilesTable 55 = .ok (.aload_n 0, 1) := by decide +kernel
theorem dX11_pilesTable_56 : decode cX11_pilesTable 56 = .ok (.iload_n 2, 1) := by decide +kernel
theorem dX11_pilesTable_57 : decode cX11_pilesTable 57 = .ok (.iconst 1, 1) := by decide +kernel
theorem dX11_pilesTable_58 : decode cX11_pilesTable 58 = .ok (.invokevirtual 84, 3) := by decide +kernel
theorem dX11_pilesTable_61 : decode cX11_pilesTable 61 = .ok (.invokevirtual 160, 3) := by decide +kernel
theorem dX11_pilesTable_64 : decode cX11_pilesTable 64 = .ok (.iload_n 2, 1) := by decide +kernel
theorem dX11_pilesTable_65 : decode cX11_pilesTable 65 = .ok (.invokestatic 169, 3) := by decide +kernel
theorem dX11_pilesTable_68 : decode cX11_pilesTable 68 = .ok (.lconst 1, 1) := by decide +kernel
theorem dX11_pilesTable_69 : decode cX11_pilesTable 69 = .ok (.invokevirtual 163, 3) := by decide +kernel
theorem dX11_pilesTable_72 : decode cX11_pilesTable 72 = .ok (.iinc 2 1, 3) := by decide +kernel
theorem dX11_pilesTable_75 : decode cX11_pilesTable 75 = .ok (.goto (-48), 3) := by decide +kernel
theorem dX11_pilesTable_78 : decode cX11_pilesTable 78 = .ok (.aload_n 0, 1) := by decide +kernel
theorem dX11_pilesTable_79 : decode cX11_pilesTable 79 = .ok (.dup, 1) := by decide +kernel
theorem dX11_pilesTable_80 : decode cX11_pilesTable 80 = .ok (.getfield 141, 3) := by decide +kernel
theorem dX11_pilesTable_83 : decode cX11_pilesTable 83 = .ok (.iconst 1, 1) := by decide +kernel
theorem dX11_pilesTable_84 : decode cX11_pilesTable 84 = .ok (.iadd, 1) := by decide +kernel
theorem dX11_pilesTable_85 : decode cX11_pilesTable 85 = .ok (.putfield 141, 3) := by decide +kernel
theorem dX11_pilesTable_88 : decode cX11_pilesTable 88 = .ok (.return_, 1) := by decide +kernel
theorem dX11_replaces_0 : decode cX11_replaces 0 = .ok (.aload_n 0, 1) := by decide +kernel
theorem dX11_replaces_1 : decode cX11_replaces 1 = .ok (.getfield 141, 3) := by decide +kernel
theorem dX11_replaces_4 : decode cX11_replaces 4 = .ok (.iload_n 1, 1) := by decide +kernel
theorem dX11_replaces_5 : decode cX11_replaces 5 = .ok (.isub, 1) := by decide +kernel
theorem dX11_replaces_6 : decode cX11_replaces 6 = .ok (.istore_n 2, 1) := by decide +kernel
theorem dX11_replaces_7 : decode cX11_replaces 7 = .ok (.aload_n 0, 1) := by decide +kernel
theorem dX11_replaces_8 : decode cX11_replaces 8 = .ok (.getfield 43, 3) := by decide +kernel
theorem dX11_replaces_11 : decode cX11_replaces 11 = .ok (.iload_n 2, 1) := by decide +kernel
theorem dX11_replaces_12 : decode cX11_replaces 12 = .ok (.aload_n 0, 1) := by decide +kernel
theorem dX11_replaces_13 : decode cX11_replaces 13 = .ok (.getfield 43, 3) := by decide +kernel
theorem dX11_replaces_16 : decode cX11_replaces 16 = .ok (.aload_n 0, 1) := by decide +kernel
theorem dX11_replaces_17 : decode cX11_replaces 17 = .ok (.getfield 141, 3) := by decide +kernel
theorem dX11_replaces_20 : decode cX11_replaces 20 = .ok (.iaload, 1) := by decide +kernel
theorem dX11_replaces_21 : decode cX11_replaces 21 = .ok (.iastore, 1) := by decide +kernel
theorem dX11_replaces_22 : decode cX11_replaces 22 = .ok (.aload_n 0, 1) := by decide +kernel
theorem dX11_replaces_23 : decode cX11_replaces 23 = .ok (.getfield 46, 3) := by decide +kernel
theorem dX11_replaces_26 : decode cX11_replaces 26 = .ok (.iload_n 2, 1) := by decide +kernel
theorem dX11_replaces_27 : decode cX11_replaces 27 = .ok (.aload_n 0, 1) := by decide +kernel
theorem dX11_replaces_28 : decode cX11_replaces 28 = .ok (.getfield 46, 3) := by decide +kernel
theorem dX11_replaces_31 : decode cX11_replaces 31 = .ok (.aload_n 0, 1) := by decide +kernel
theorem dX11_replaces_32 : decode cX11_replaces 32 = .ok (.getfield 141, 3) := by decide +kernel
theorem dX11_replaces_35 : decode cX11_replaces 35 = .ok (.iaload, 1) := by decide +kernel
theorem dX11_replaces_36 : decode cX11_replaces 36 = .ok (.iastore, 1) := by decide +kernel
theorem dX11_replaces_37 : decode cX11_replaces 37 = .ok (.iconst 0, 1) := by decide +kernel
theorem dX11_replaces_38 : decode cX11_replaces 38 = .ok (.istore_n 3, 1) := by decide +kernel
theorem dX11_replaces_39 : decode cX11_replaces 39 = .ok (.iload_n 3, 1) := by decide +kernel
theorem dX11_replaces_40 : decode cX11_replaces 40 = .ok (.aload_n 0, 1) := by decide +kernel
theorem dX11_replaces_41 : decode cX11_replaces 41 = .ok (.getfield 46, 3) := by decide +kernel
theorem dX11_replaces_44 : decode cX11_replaces 44 = .ok (.aload_n 0, 1) := by decide +kernel
theorem dX11_replaces_45 : decode cX11_replaces 45 = .ok (.getfield 141, 3) := by decide +kernel
theorem dX11_replaces_48 : decode cX11_replaces 48 = .ok (.iaload, 1) := by decide +kernel
theorem dX11_replaces_49 : decode cX11_replaces 49 = .ok (.if_icmp .ge 20, 3) := by decide +kernel
theorem dX11_replaces_52 : decode cX11_replaces 52 = .ok (.aload_n 0, 1) := by decide +kernel
theorem dX11_replaces_53 : decode cX11_replaces 53 = .ok (.aload_n 0, 1) := by decide +kernel
theorem dX11_replaces_54 : decode cX11_replaces 54 = .ok (.getfield 141, 3) := by decide +kernel
theorem dX11_replaces_57 : decode cX11_replaces 57 = .ok (.iload_n 3, 1) := by decide +kernel
theorem dX11_replaces_58 : decode cX11_replaces 58 = .ok (.iload_n 2, 1) := by decide +kernel
theorem dX11_replaces_59 : decode cX11_replaces 59 = .ok (.iload_n 3, 1) := by decide +kernel
theorem dX11_replaces_60 : decode cX11_replaces 60 = .ok (.invokevirtual 154, 3) := by decide +kernel
theorem dX11_replaces_63 : decode cX11_replaces 63 = .ok (.iinc 3 1, 3) := by decide +kernel
theorem dX11_replaces_66 : decode cX11_replaces 66 = .ok (.goto (-27), 3) := by decide +kernel
theorem dX11_replaces_69 : decode cX11_replaces 69 = .ok (.aload_n 0, 1) := by decide +kernel
theorem dX11_replaces_70 : decode cX11_replaces 70 = .ok (.iload_n 2, 1) := by decide +kernel
theorem dX11_replaces_71 : decode cX11_replaces 71 = .ok (.iconst 1, 1) := by decide +kernel
theorem dX11_replaces_72 : decode cX11_replaces 72 = .ok (.iadd, 1) := by decide +kernel
theorem dX11_replaces_73 : decode cX11_replaces 73 = .ok (.putfield 141, 3) := by decide +kernel
theorem dX11_replaces_76 : decode cX11_replaces 76 = .ok (.return_, 1) := by decide +kernel
theorem dX11_selects_0 : decode cX11_selects 0 = .ok (.aload_n 0, 1) := by decide +kernel
theorem dX11_selects_1 : decode cX11_selects 1 = .ok (.getfield 141, 3) := by decide +kernel
theorem dX11_selects_4 : decode cX11_selects 4 = .ok (.iconst 1, 1) := by decide +kernel
theorem dX11_selects_5 : decode cX11_selects 5 = .ok (.isub, 1) := by decide +kernel
theorem dX11_selects_6 : decode cX11_selects 6 = .ok (.istore_n 2, 1) := by decide +kernel
theorem dX11_selects_7 : decode cX11_selects 7 = .ok (.aload_n 0, 1) := by decide +kernel
theorem dX11_selects_8 : decode cX11_selects 8 = .ok (.getfield 43, 3) := by decide +kernel
theorem dX11_selects_11 : decode cX11_selects 11 = .ok (.iload_n 2, 1) := by decide +kernel
theorem dX11_selects_12 : decode cX11_selects 12 = .ok (.iaload, 1) := by decide +kernel
theorem dX11_selects_13 : decode cX11_selects 13 = .ok (.istore_n 3, 1) := by decide +kernel
theorem dX11_selects_14 : decode cX11_selects 14 = .ok (.aload_n 0, 1) := by decide +kernel
theorem dX11_selects_15 : decode cX11_selects 15 = .ok (.getfield 43, 3) := by decide +kernel
theorem dX11_selects_18 : decode cX11_selects 18 = .ok (.aload_n 0, 1) := by decide +kernel
theorem dX11_selects_19 : decode cX11_selects 19 = .ok (.getfield 141, 3) := by decide +kernel
theorem dX11_selects_22 : decode cX11_selects 22 = .ok (.iload_n 3, 1) := by decide +kernel
theorem dX11_selects_23 : decode cX11_selects 23 = .ok (.iastore, 1) := by decide +kernel
theorem dX11_selects_24 : decode cX11_selects 24 = .ok (.aload_n 0, 1) := by decide +kernel
theorem dX11_selects_25 : decode cX11_selects 25 = .ok (.getfield 46, 3) := by decide +kernel
theorem dX11_selects_28 : decode cX11_selects 28 = .ok (.aload_n 0, 1) := by decide +kernel
theorem dX11_selects_29 : decode cX11_selects 29 = .ok (.getfield 141, 3) := by decide +kernel
theorem dX11_selects_32 : decode cX11_selects 32 = .ok (.iconst 0, 1) := by decide +kernel
theorem dX11_selects_33 : decode cX11_selects 33 = .ok (.iastore, 1) := by decide +kernel
theorem dX11_selects_34 : decode cX11_selects 34 = .ok (.iconst 0, 1) := by decide +kernel
theorem dX11_selects_35 : decode cX11_selects 35 = .ok (.istore 4, 2) := by decide +kernel
theorem dX11_selects_37 : decode cX11_selects 37 = .ok (.iload 4, 2) := by decide +kernel
theorem dX11_selects_39 : decode cX11_selects 39 = .ok (.aload_n 0, 1) := by decide +kernel
theorem dX11_selects_40 : decode cX11_selects 40 = .ok (.getfield 46, 3) := by decide +kernel
theorem dX11_selects_43 : decode cX11_selects 43 = .ok (.iload_n 2, 1) := by decide +kernel
theorem dX11_selects_44 : decode cX11_selects 44 = .ok (.iaload, 1) := by decide +kernel
theorem dX11_selects_45 : decode cX11_selects 45 = .ok (.if_icmp .ge 87, 3) := by decide +kernel
theorem dX11_selects_48 : decode cX11_selects 48 = .ok (.aload_n 0, 1) := by decide +kernel
theorem dX11_selects_49 : decode cX11_selects 49 = .ok (.getfield 49, 3) := by decide +kernel
theorem dX11_selects_52 : decode cX11_selects 52 = .ok (.bipush 32, 2) := by decide +kernel
theorem dX11_selects_54 : decode cX11_selects 54 = .ok (.iload_n 2, 1) := by decide +kernel
theorem dX11_selects_55 : decode cX11_selects 55 = .ok (.imul, 1) := by decide +kernel
theorem dX11_selects_56 : decode cX11_selects 56 = .ok (.iload 4, 2) := by decide +kernel
theorem dX11_selects_58 : decode cX11_selects 58 = .ok (.iadd, 1) := by decide +kernel
theorem dX11_selects_59 : decode cX11_selects 59 = .ok (.iaload, 1) := by decide +kernel
theorem dX11_selects_60 : decode cX11_selects 60 = .ok (.istore 5, 2) := by decide +kernel
theorem dX11_selects_62 : decode cX11_selects 62 = .ok (.aload_n 0, 1) := by decide +kernel
theorem dX11_selects_63 : decode cX11_selects 63 = .ok (.getfield 22, 3) := by decide +kernel
theorem dX11_selects_66 : decode cX11_selects 66 = .ok (.iload_n 1, 1) := by decide +kernel
theorem dX11_selects_67 : decode cX11_selects 67 = .ok (.iaload, 1) := by decide +kernel
theorem dX11_selects_68 : decode cX11_selects 68 = .ok (.bipush 61, 2) := by decide +kernel
theorem dX11_selects_70 : decode cX11_selects 70 = .ok (.if_icmp .ne 12, 3) := by decide +kernel
theorem dX11_selects_73 : decode cX11_selects 73 = .ok (.aload_n 0, 1) := by decide +kernel
theorem dX11_selects_74 : decode cX11_selects 74 = .ok (.getfield 28, 3) := by decide +kernel
theorem dX11_selects_77 : decode cX11_selects 77 = .ok (.iload_n 1, 1) := by decide +kernel
theorem dX11_selects_78 : decode cX11_selects 78 = .ok (.iaload, 1) := by decide +kernel
theorem dX11_selects_79 : decode cX11_selects 79 = .ok (.goto 15, 3) := by decide +kernel
theorem dX11_selects_82 : decode cX11_selects 82 = .ok (.iload 5, 2) := by decide +kernel
theorem dX11_selects_84 : decode cX11_selects 84 = .ok (.iload_n 3, 1) := by decide +kernel
theorem dX11_selects_85 : decode cX11_selects 85 = .ok (.aload_n 0, 1) := by decide +kernel
theorem dX11_selects_86 : decode cX11_selects 86 = .ok (.getfield 28, 3) := by decide +kernel
theorem dX11_selects_89 : decode cX11_selects 89 = .ok (.iload_n 1, 1) := by decide +kernel
theorem dX11_selects_90 : decode cX11_selects 90 = .ok (.iaload, 1) := by decide +kernel
theorem dX11_selects_91 : decode cX11_selects 91 = .ok (.invokestatic 173, 3) := by decide +kernel
theorem dX11_selects_94 : decode cX11_selects 94 = .ok (.istore 6, 2) := by decide +kernel
theorem dX11_selects_96 : decode cX11_selects 96 = .ok (.iload 5, 2) := by decide +kernel
theorem dX11_selects_98 : decode cX11_selects 98 = .ok (.iload_n 3, 1) := by decide +kernel
theorem dX11_selects_99 : decode cX11_selects 99 = .ok (.aload_n 0, 1) := by decide +kernel
theorem dX11_selects_100 : decode cX11_selects 100 = .ok (.getfield 25, 3) := by decide +kernel
theorem dX11_selects_103 : decode cX11_selects 103 = .ok (.iload_n 1, 1) := by decide +kernel
theorem dX11_selects_104 : decode cX11_selects 104 = .ok (.iaload, 1) := by decide +kernel
theorem dX11_selects_105 : decode cX11_selects 105 = .ok (.invokestatic 173, 3) := by decide +kernel
theorem dX11_selects_108 : decode cX11_selects 108 = .ok (.iload 6, 2) := by decide +kernel
theorem dX11_selects_110 : decode cX11_selects 110 = .ok (.if_icmp .ne 16, 3) := by decide +kernel
theorem dX11_selects_113 : decode cX11_selects 113 = .ok (.aload_n 0, 1) := by decide +kernel
theorem dX11_selects_114 : decode cX11_selects 114 = .ok (.iload_n 2, 1) := by decide +kernel
theorem dX11_selects_115 : decode cX11_selects 115 = .ok (.iload 4, 2) := by decide +kernel
theorem dX11_selects_117 : decode cX11_selects 117 = .ok (.aload_n 0, 1) := by decide +kernel
theorem dX11_selects_118 : decode cX11_selects 118 = .ok (.getfield 141, 3) := by decide +kernel
theorem dX11_selects_121 : decode cX11_selects 121 = .ok (.iload 5, 2) := by decide +kernel
theorem dX11_selects_123 : decode cX11_selects 123 = .ok (.invokevirtual 177, 3) := by decide +kernel
theorem dX11_selects_126 : decode cX11_selects 126 = .ok (.iinc 4 1, 3) := by decide +kernel
theorem dX11_selects_129 : decode cX11_selects 129 = .ok (.goto (-92), 3) := by decide +kernel
theorem dX11_selects_132 : decode cX11_selects 132 = .ok (.aload_n 0, 1) := by decide +kernel
theorem dX11_selects_133 : decode cX11_selects 133 = .ok (.iconst 1, 1) := by decide +kernel
theorem dX11_selects_134 : decode cX11_selects 134 = .ok (.invokevirtual 180, 3) := by decide +kernel
theorem dX11_selects_137 : decode cX11_selects 137 = .ok (.return_, 1) := by decide +kernel
theorem dX11_projected_0 : decode cX11_projected 0 = .ok (.iconst 0, 1) := by decide +kernel
theorem dX11_projected_1 : decode cX11_projected 1 = .ok (.istore 4, 2) := by decide +kernel
theorem dX11_projected_3 : decode cX11_projected 3 = .ok (.iload_n 2, 1) := by decide +kernel
theorem dX11_projected_4 : decode cX11_projected 4 = .ok (.iconst 1, 1) := by decide +kernel
theorem dX11_projected_5 : decode cX11_projected 5 = .ok (.isub, 1) := by decide +kernel
theorem dX11_projected_6 : decode cX11_projected 6 = .ok (.istore 5, 2) := by decide +kernel
theorem dX11_projected_8 : decode cX11_projected 8 = .ok (.iload 5, 2) := by decide +kernel
theorem dX11_projected_10 : decode cX11_projected 10 = .ok (.ifCond .lt 30, 3) := by decide +kernel
theorem dX11_projected_13 : decode cX11_projected 13 = .ok (.bipush 10, 2) := by decide +kernel
theorem dX11_projected_15 : decode cX11_projected 15 = .ok (.iload 4, 2) := by decide +kernel
theorem dX11_projected_17 : decode cX11_projected 17 = .ok (.imul, 1) := by decide +kernel
theorem dX11_projected_18 : decode cX11_projected 18 = .ok (.iload_n 0, 1) := by decide +kernel
theorem dX11_projected_19 : decode cX11_projected 19 = .ok (.iload_n 1, 1) := by decide +kernel
theorem dX11_projected_20 : decode cX11_projected 20 = .ok (.iload_n 3, 1) := by decide +kernel
theorem dX11_projected_21 : decode cX11_projected 21 = .ok (.iconst 2, 1) := by decide +kernel
theorem dX11_projected_22 : decode cX11_projected 22 = .ok (.iload 5, 2) := by decide +kernel
theorem dX11_projected_24 : decode cX11_projected 24 = .ok (.imul, 1) := by decide +kernel
theorem dX11_projected_25 : decode cX11_projected 25 = .ok (.ishr, 1) := by decide +kernel
theorem dX11_projected_26 : decode cX11_projected 26 = .ok (.iconst 3, 1) := by decide +kernel
theorem dX11_projected_27 : decode cX11_projected 27 = .ok (.iand, 1) := by decide +kernel
theorem dX11_projected_28 : decode cX11_projected 28 = .ok (.invokestatic 173, 3) := by decide +kernel
theorem dX11_projected_31 : decode cX11_projected 31 = .ok (.iadd, 1) := by decide +kernel
theorem dX11_projected_32 : decode cX11_projected 32 = .ok (.istore 4, 2) := by decide +kernel
theorem dX11_projected_34 : decode cX11_projected 34 = .ok (.iinc 5 (-1), 3) := by decide +kernel
theorem dX11_projected_37 : decode cX11_projected 37 = .ok (.goto (-29), 3) := by decide +kernel
theorem dX11_projected_40 : decode cX11_projected 40 = .ok (.iload 4, 2) := by decide +kernel
theorem dX11_projected_42 : decode cX11_projected 42 = .ok (.ireturn, 1) := by decide +kernel
theorem dX11_projects_0 : decode cX11_projects 0 = .ok (.aload_n 0, 1) := by decide +kernel
theorem dX11_projects_1 : decode cX11_projects 1 = .ok (.getfield 141, 3) := by decide +kernel
theorem dX11_projects_4 : decode cX11_projects 4 = .ok (.iconst 1, 1) := by decide +kernel
theorem dX11_projects_5 : decode cX11_projects 5 = .ok (.isub, 1) := by decide +kernel
theorem dX11_projects_6 : decode cX11_projects 6 = .ok (.istore_n 2, 1) := by decide +kernel
theorem dX11_projects_7 : decode cX11_projects 7 = .ok (.aload_n 0, 1) := by decide +kernel
theorem dX11_projects_8 : decode cX11_projects 8 = .ok (.getfield 43, 3) := by decide +kernel
theorem dX11_projects_11 : decode cX11_projects 11 = .ok (.aload_n 0, 1) := by decide +kernel
theorem dX11_projects_12 : decode cX11_projects 12 = .ok (.getfield 141, 3) := by decide +kernel
theorem dX11_projects_15 : decode cX11_projects 15 = .ok (.aload_n 0, 1) := by decide +kernel
theorem dX11_projects_16 : decode cX11_projects 16 = .ok (.getfield 25, 3) := by decide +kernel
theorem dX11_projects_19 : decode cX11_projects 19 = .ok (.iload_n 1, 1) := by decide +kernel
theorem dX11_projects_20 : decode cX11_projects 20 = .ok (.iaload, 1) := by decide +kernel
theorem dX11_projects_21 : decode cX11_projects 21 = .ok (.iastore, 1) := by decide +kernel
theorem dX11_projects_22 : decode cX11_projects 22 = .ok (.aload_n 0, 1) := by decide +kernel
theorem dX11_projects_23 : decode cX11_projects 23 = .ok (.getfield 46, 3) := by decide +kernel
theorem dX11_projects_26 : decode cX11_projects 26 = .ok (.aload_n 0, 1) := by decide +kernel
theorem dX11_projects_27 : decode cX11_projects 27 = .ok (.getfield 141, 3) := by decide +kernel
theorem dX11_projects_30 : decode cX11_projects 30 = .ok (.iconst 0, 1) := by decide +kernel
theorem dX11_projects_31 : decode cX11_projects 31 = .ok (.iastore, 1) := by decide +kernel
theorem dX11_projects_32 : decode cX11_projects 32 = .ok (.iconst 0, 1) := by decide +kernel
theorem dX11_projects_33 : decode cX11_projects 33 = .ok (.istore_n 3, 1) := by decide +kernel
theorem dX11_projects_34 : decode cX11_projects 34 = .ok (.iload_n 3, 1) := by decide +kernel
theorem dX11_projects_35 : decode cX11_projects 35 = .ok (.aload_n 0, 1) := by decide +kernel
theorem dX11_projects_36 : decode cX11_projects 36 = .ok (.getfield 46, 3) := by decide +kernel
theorem dX11_projects_39 : decode cX11_projects 39 = .ok (.iload_n 2, 1) := by decide +kernel
theorem dX11_projects_40 : decode cX11_projects 40 = .ok (.iaload, 1) := by decide +kernel
theorem dX11_projects_41 : decode cX11_projects 41 = .ok (.if_icmp .ge 58, 3) := by decide +kernel
theorem dX11_projects_44 : decode cX11_projects 44 = .ok (.aload_n 0, 1) := by decide +kernel
theorem dX11_projects_45 : decode cX11_projects 45 = .ok (.getfield 151, 3) := by decide +kernel
theorem dX11_projects_48 : decode cX11_projects 48 = .ok (.ifCond .ne 51, 3) := by decide +kernel
theorem dX11_projects_51 : decode cX11_projects 51 = .ok (.aload_n 0, 1) := by decide +kernel
theorem dX11_projects_52 : decode cX11_projects 52 = .ok (.iload_n 2, 1) := by decide +kernel
theorem dX11_projects_53 : decode cX11_projects 53 = .ok (.iload_n 3, 1) := by decide +kernel
theorem dX11_projects_54 : decode cX11_projects 54 = .ok (.aload_n 0, 1) := by decide +kernel
theorem dX11_projects_55 : decode cX11_projects 55 = .ok (.getfield 141, 3) := by decide +kernel
theorem dX11_projects_58 : decode cX11_projects 58 = .ok (.aload_n 0, 1) := by decide +kernel
theorem dX11_projects_59 : decode cX11_projects 59 = .ok (.getfield 49, 3) := by decide +kernel
theorem dX11_projects_62 : decode cX11_projects 62 = .ok (.bipush 32, 2) := by decide +kernel
theorem dX11_projects_64 : decode cX11_projects 64 = .ok (.iload_n 2, 1) := by decide +kernel
theorem dX11_projects_65 : decode cX11_projects 65 = .ok (.imul, 1) := by decide +kernel
theorem dX11_projects_66 : decode cX11_projects 66 = .ok (.iload_n 3, 1) := by decide +kernel
theorem dX11_projects_67 : decode cX11_projects 67 = .ok (.iadd, 1) := by decide +kernel
theorem dX11_projects_68 : decode cX11_projects 68 = .ok (.iaload, 1) := by decide +kernel
theorem dX11_projects_69 : decode cX11_projects 69 = .ok (.aload_n 0, 1) := by decide +kernel
theorem dX11_projects_70 : decode cX11_projects 70 = .ok (.getfield 43, 3) := by decide +kernel
theorem dX11_projects_73 : decode cX11_projects 73 = .ok (.iload_n 2, 1) := by decide +kernel
theorem dX11_projects_74 : decode cX11_projects 74 = .ok (.iaload, 1) := by decide +kernel
theorem dX11_projects_75 : decode cX11_projects 75 = .ok (.aload_n 0, 1) := by decide +kernel
theorem dX11_projects_76 : decode cX11_projects 76 = .ok (.getfield 25, 3) := by decide +kernel
theorem dX11_projects_79 : decode cX11_projects 79 = .ok (.iload_n 1, 1) := by decide +kernel
theorem dX11_projects_80 : decode cX11_projects 80 = .ok (.iaload, 1) := by decide +kernel
theorem dX11_projects_81 : decode cX11_projects 81 = .ok (.aload_n 0, 1) := by decide +kernel
theorem dX11_projects_82 : decode cX11_projects 82 = .ok (.getfield 28, 3) := by decide +kernel
theorem dX11_projects_85 : decode cX11_projects 85 = .ok (.iload_n 1, 1) := by decide +kernel
theorem dX11_projects_86 : decode cX11_projects 86 = .ok (.iaload, 1) := by decide +kernel
theorem dX11_projects_87 : decode cX11_projects 87 = .ok (.invokestatic 184, 3) := by decide +kernel
theorem dX11_projects_90 : decode cX11_projects 90 = .ok (.invokevirtual 177, 3) := by decide +kernel
theorem dX11_projects_93 : decode cX11_projects 93 = .ok (.iinc 3 1, 3) := by decide +kernel
theorem dX11_projects_96 : decode cX11_projects 96 = .ok (.goto (-62), 3) := by decide +kernel
theorem dX11_projects_99 : decode cX11_projects 99 = .ok (.aload_n 0, 1) := by decide +kernel
theorem dX11_projects_100 : decode cX11_projects 100 = .ok (.iconst 1, 1) := by decide +kernel
theorem dX11_projects_101 : decode cX11_projects 101 = .ok (.invokevirtual 180, 3) := by decide +kernel
theorem dX11_projects_104 : decode cX11_projects 104 = .ok (.return_, 1) := by decide +kernel
theorem dX11_multiplies_0 : decode cX11_multiplies 0 = .ok (.aload_n 0, 1) := by decide +kernel
theorem dX11_multiplies_1 : decode cX11_multiplies 1 = .ok (.aload_n 0, 1) := by decide +kernel
theorem dX11_multiplies_2 : decode cX11_multiplies 2 = .ok (.getfield 141, 3) := by decide +kernel
theorem dX11_multiplies_5 : decode cX11_multiplies 5 = .ok (.iload_n 3, 1) := by decide +kernel
theorem dX11_multiplies_6 : decode cX11_multiplies 6 = .ok (.invokevirtual 160, 3) := by decide +kernel
theorem dX11_multiplies_9 : decode cX11_multiplies 9 = .ok (.istore 4, 2) := by decide +kernel
theorem dX11_multiplies_11 : decode cX11_multiplies 11 = .ok (.iconst 0, 1) := by decide +kernel
theorem dX11_multiplies_12 : decode cX11_multiplies 12 = .ok (.istore 5, 2) := by decide +kernel
theorem dX11_multiplies_14 : decode cX11_multiplies 14 = .ok (.iload 5, 2) := by decide +kernel
theorem dX11_multiplies_16 : decode cX11_multiplies 16 = .ok (.aload_n 0, 1) := by decide +kernel
theorem dX11_multiplies_17 : decode cX11_multiplies 17 = .ok (.getfield 52, 3) := by decide +kernel
theorem dX11_multiplies_20 : decode cX11_multiplies 20 = .ok (.iload_n 1, 1) := by decide +kernel
theorem dX11_multiplies_21 : decode cX11_multiplies 21 = .ok (.iaload, 1) := by decide +kernel
theorem dX11_multiplies_22 : decode cX11_multiplies 22 = .ok (.if_icmp .ge 103, 3) := by decide +kernel
theorem dX11_multiplies_25 : decode cX11_multiplies 25 = .ok (.aload_n 0, 1) := by decide +kernel
theorem dX11_multiplies_26 : decode cX11_multiplies 26 = .ok (.getfield 151, 3) := by decide +kernel
theorem dX11_multiplies_29 : decode cX11_multiplies 29 = .ok (.ifCond .ne 96, 3) := by decide +kernel
theorem dX11_multiplies_32 : decode cX11_multiplies 32 = .ok (.iconst 0, 1) := by decide +kernel
theorem dX11_multiplies_33 : decode cX11_multiplies 33 = .ok (.istore 6, 2) := by decide +kernel
theorem dX11_multiplies_35 : decode cX11_multiplies 35 = .ok (.iload 6, 2) := by decide +kernel
theorem dX11_multiplies_37 : decode cX11_multiplies 37 = .ok (.aload_n 0, 1) := by decide +kernel
theorem dX11_multiplies_38 : decode cX11_multiplies 38 = .ok (.getfield 52, 3) := by decide +kernel
theorem dX11_multiplies_41 : decode cX11_multiplies 41 = .ok (.iload_n 2, 1) := by decide +kernel
theorem dX11_multiplies_42 : decode cX11_multiplies 42 = .ok (.iaload, 1) := by decide +kernel
theorem dX11_multiplies_43 : decode cX11_multiplies 43 = .ok (.if_icmp .ge 76, 3) := by decide +kernel
theorem dX11_multiplies_46 : decode cX11_multiplies 46 = .ok (.aload_n 0, 1) := by decide +kernel
theorem dX11_multiplies_47 : decode cX11_multiplies 47 = .ok (.getfield 151, 3) := by decide +kernel
theorem dX11_multiplies_50 : decode cX11_multiplies 50 = .ok (.ifCond .ne 69, 3) := by decide +kernel
theorem dX11_multiplies_53 : decode cX11_multiplies 53 = .ok (.aload_n 0, 1) := by decide +kernel
theorem dX11_multiplies_54 : decode cX11_multiplies 54 = .ok (.aload_n 0, 1) := by decide +kernel
theorem dX11_multiplies_55 : decode cX11_multiplies 55 = .ok (.getfield 141, 3) := by decide +kernel
theorem dX11_multiplies_58 : decode cX11_multiplies 58 = .ok (.iload 4, 2) := by decide +kernel
theorem dX11_multiplies_60 : decode cX11_multiplies 60 = .ok (.aload_n 0, 1) := by decide +kernel
theorem dX11_multiplies_61 : decode cX11_multiplies 61 = .ok (.getfield 55, 3) := by decide +kernel
theorem dX11_multiplies_64 : decode cX11_multiplies 64 = .ok (.bipush 32, 2) := by decide +kernel
theorem dX11_multiplies_66 : decode cX11_multiplies 66 = .ok (.iload_n 1, 1) := by decide +kernel
theorem dX11_multiplies_67 : decode cX11_multiplies 67 = .ok (.imul, 1) := by decide +kernel
theorem dX11_multiplies_68 : decode cX11_multiplies 68 = .ok (.iload 5, 2) := by decide +kernel
theorem dX11_multiplies_70 : decode cX11_multiplies 70 = .ok (.iadd, 1) := by decide +kernel
theorem dX11_multiplies_71 : decode cX11_multiplies 71 = .ok (.laload, 1) := by decide +kernel
theorem dX11_multiplies_72 : decode cX11_multiplies 72 = .ok (.aload_n 0, 1) := by decide +kernel
theorem dX11_multiplies_73 : decode cX11_multiplies 73 = .ok (.getfield 55, 3) := by decide +kernel
theorem dX11_multiplies_76 : decode cX11_multiplies 76 = .ok (.bipush 32, 2) := by decide +kernel
theorem dX11_multiplies_78 : decode cX11_multiplies 78 = .ok (.iload_n 2, 1) := by decide +kernel
theorem dX11_multiplies_79 : decode cX11_multiplies 79 = .ok (.imul, 1) := by decide +kernel
theorem dX11_multiplies_80 : decode cX11_multiplies 80 = .ok (.iload 6, 2) := by decide +kernel
theorem dX11_multiplies_82 : decode cX11_multiplies 82 = .ok (.iadd, 1) := by decide +kernel
theorem dX11_multiplies_83 : decode cX11_multiplies 83 = .ok (.laload, 1) := by decide +kernel
theorem dX11_multiplies_84 : decode cX11_multiplies 84 = .ok (.ladd, 1) := by decide +kernel
theorem dX11_multiplies_85 : decode cX11_multiplies 85 = .ok (.aload_n 0, 1) := by decide +kernel
theorem dX11_multiplies_86 : decode cX11_multiplies 86 = .ok (.getfield 59, 3) := by decide +kernel
theorem dX11_multiplies_89 : decode cX11_multiplies 89 = .ok (.bipush 32, 2) := by decide +kernel
theorem dX11_multiplies_91 : decode cX11_multiplies 91 = .ok (.iload_n 1, 1) := by decide +kernel
theorem dX11_multiplies_92 : decode cX11_multiplies 92 = .ok (.imul, 1) := by decide +kernel
theorem dX11_multiplies_93 : decode cX11_multiplies 93 = .ok (.iload 5, 2) := by decide +kernel
theorem dX11_multiplies_95 : decode cX11_multiplies 95 = .ok (.iadd, 1) := by decide +kernel
theorem dX11_multiplies_96 : decode cX11_multiplies 96 = .ok (.laload, 1) := by decide +kernel
theorem dX11_multiplies_97 : decode cX11_multiplies 97 = .ok (.aload_n 0, 1) := by decide +kernel
theorem dX11_multiplies_98 : decode cX11_multiplies 98 = .ok (.getfield 59, 3) := by decide +kernel
theorem dX11_multiplies_101 : decode cX11_multiplies 101 = .ok (.bipush 32, 2) := by decide +kernel
theorem dX11_multiplies_103 : decode cX11_multiplies 103 = .ok (.iload_n 2, 1) := by decide +kernel
theorem dX11_multiplies_104 : decode cX11_multiplies 104 = .ok (.imul, 1) := by decide +kernel
theorem dX11_multiplies_105 : decode cX11_multiplies 105 = .ok (.iload 6, 2) := by decide +kernel
theorem dX11_multiplies_107 : decode cX11_multiplies 107 = .ok (.iadd, 1) := by decide +kernel
theorem dX11_multiplies_108 : decode cX11_multiplies 108 = .ok (.laload, 1) := by decide +kernel
theorem dX11_multiplies_109 : decode cX11_multiplies 109 = .ok (.lmul, 1) := by decide +kernel
theorem dX11_multiplies_110 : decode cX11_multiplies 110 = .ok (.invokevirtual 163, 3) := by decide +kernel
theorem dX11_multiplies_113 : decode cX11_multiplies 113 = .ok (.iinc 6 1, 3) := by decide +kernel
theorem dX11_multiplies_116 : decode cX11_multiplies 116 = .ok (.goto (-81), 3) := by decide +kernel
theorem dX11_multiplies_119 : decode cX11_multiplies 119 = .ok (.iinc 5 1, 3) := by decide +kernel
theorem dX11_multiplies_122 : decode cX11_multiplies 122 = .ok (.goto (-108), 3) := by decide +kernel
theorem dX11_multiplies_125 : decode cX11_multiplies 125 = .ok (.return_, 1) := by decide +kernel
theorem dX11_joins_0 : decode cX11_joins 0 = .ok (.aload_n 0, 1) := by decide +kernel
theorem dX11_joins_1 : decode cX11_joins 1 = .ok (.getfield 141, 3) := by decide +kernel
theorem dX11_joins_4 : decode cX11_joins 4 = .ok (.iconst 2, 1) := by decide +kernel
theorem dX11_joins_5 : decode cX11_joins 5 = .ok (.isub, 1) := by decide +kernel
theorem dX11_joins_6 : decode cX11_joins 6 = .ok (.istore_n 2, 1) := by decide +kernel
theorem dX11_joins_7 : decode cX11_joins 7 = .ok (.aload_n 0, 1) := by decide +kernel
theorem dX11_joins_8 : decode cX11_joins 8 = .ok (.getfield 141, 3) := by decide +kernel
theorem dX11_joins_11 : decode cX11_joins 11 = .ok (.iconst 1, 1) := by decide +kernel
theorem dX11_joins_12 : decode cX11_joins 12 = .ok (.isub, 1) := by decide +kernel
theorem dX11_joins_13 : decode cX11_joins 13 = .ok (.istore_n 3, 1) := by decide +kernel
theorem dX11_joins_14 : decode cX11_joins 14 = .ok (.aload_n 0, 1) := by decide +kernel
theorem dX11_joins_15 : decode cX11_joins 15 = .ok (.getfield 43, 3) := by decide +kernel
theorem dX11_joins_18 : decode cX11_joins 18 = .ok (.aload_n 0, 1) := by decide +kernel
theorem dX11_joins_19 : decode cX11_joins 19 = .ok (.getfield 141, 3) := by decide +kernel
theorem dX11_joins_22 : decode cX11_joins 22 = .ok (.aload_n 0, 1) := by decide +kernel
theorem dX11_joins_23 : decode cX11_joins 23 = .ok (.getfield 43, 3) := by decide +kernel
theorem dX11_joins_26 : decode cX11_joins 26 = .ok (.iload_n 2, 1) := by decide +kernel
theorem dX11_joins_27 : decode cX11_joins 27 = .ok (.iaload, 1) := by decide +kernel
theorem dX11_joins_28 : decode cX11_joins 28 = .ok (.aload_n 0, 1) := by decide +kernel
theorem dX11_joins_29 : decode cX11_joins 29 = .ok (.getfield 43, 3) := by decide +kernel
theorem dX11_joins_32 : decode cX11_joins 32 = .ok (.iload_n 3, 1) := by decide +kernel
theorem dX11_joins_33 : decode cX11_joins 33 = .ok (.iaload, 1) := by decide +kernel
theorem dX11_joins_34 : decode cX11_joins 34 = .ok (.iadd, 1) := by decide +kernel
theorem dX11_joins_35 : decode cX11_joins 35 = .ok (.iastore, 1) := by decide +kernel
theorem dX11_joins_36 : decode cX11_joins 36 = .ok (.aload_n 0, 1) := by decide +kernel
theorem dX11_joins_37 : decode cX11_joins 37 = .ok (.getfield 46, 3) := by decide +kernel
theorem dX11_joins_40 : decode cX11_joins 40 = .ok (.aload_n 0, 1) := by decide +kernel
theorem dX11_joins_41 : decode cX11_joins 41 = .ok (.getfield 141, 3) := by decide +kernel
theorem dX11_joins_44 : decode cX11_joins 44 = .ok (.iconst 0, 1) := by decide +kernel
theorem dX11_joins_45 : decode cX11_joins 45 = .ok (.iastore, 1) := by decide +kernel
theorem dX11_joins_46 : decode cX11_joins 46 = .ok (.iconst 0, 1) := by decide +kernel
theorem dX11_joins_47 : decode cX11_joins 47 = .ok (.istore 4, 2) := by decide +kernel
theorem dX11_joins_49 : decode cX11_joins 49 = .ok (.iload 4, 2) := by decide +kernel
theorem dX11_joins_51 : decode cX11_joins 51 = .ok (.aload_n 0, 1) := by decide +kernel
theorem dX11_joins_52 : decode cX11_joins 52 = .ok (.getfield 46, 3) := by decide +kernel
theorem dX11_joins_55 : decode cX11_joins 55 = .ok (.iload_n 2, 1) := by decide +kernel
theorem dX11_joins_56 : decode cX11_joins 56 = .ok (.iaload, 1) := by decide +kernel
theorem dX11_joins_57 : decode cX11_joins 57 = .ok (.if_icmp .ge 134, 3) := by decide +kernel
theorem dX11_joins_60 : decode cX11_joins 60 = .ok (.iconst 0, 1) := by decide +kernel
theorem dX11_joins_61 : decode cX11_joins 61 = .ok (.istore 5, 2) := by decide +kernel
theorem dX11_joins_63 : decode cX11_joins 63 = .ok (.iload 5, 2) := by decide +kernel
theorem dX11_joins_65 : decode cX11_joins 65 = .ok (.aload_n 0, 1) := by decide +kernel
theorem dX11_joins_66 : decode cX11_joins 66 = .ok (.getfield 46, 3) := by decide +kernel
theorem dX11_joins_69 : decode cX11_joins 69 = .ok (.iload_n 3, 1) := by decide +kernel
theorem dX11_joins_70 : decode cX11_joins 70 = .ok (.iaload, 1) := by decide +kernel
theorem dX11_joins_71 : decode cX11_joins 71 = .ok (.if_icmp .ge 114, 3) := by decide +kernel
theorem dX11_joins_74 : decode cX11_joins 74 = .ok (.aload_n 0, 1) := by decide +kernel
theorem dX11_joins_75 : decode cX11_joins 75 = .ok (.getfield 151, 3) := by decide +kernel
theorem dX11_joins_78 : decode cX11_joins 78 = .ok (.ifCond .ne 107, 3) := by decide +kernel
theorem dX11_joins_81 : decode cX11_joins 81 = .ok (.bipush 32, 2) := by decide +kernel
theorem dX11_joins_83 : decode cX11_joins 83 = .ok (.iload_n 2, 1) := by decide +kernel
theorem dX11_joins_84 : decode cX11_joins 84 = .ok (.imul, 1) := by decide +kernel
theorem dX11_joins_85 : decode cX11_joins 85 = .ok (.iload 4, 2) := by decide +kernel
theorem dX11_joins_87 : decode cX11_joins 87 = .ok (.iadd, 1) := by decide +kernel
theorem dX11_joins_88 : decode cX11_joins 88 = .ok (.istore 6, 2) := by decide +kernel
theorem dX11_joins_90 : decode cX11_joins 90 = .ok (.bipush 32, 2) := by decide +kernel
theorem dX11_joins_92 : decode cX11_joins 92 = .ok (.iload_n 3, 1) := by decide +kernel
theorem dX11_joins_93 : decode cX11_joins 93 = .ok (.imul, 1) := by decide +kernel
theorem dX11_joins_94 : decode cX11_joins 94 = .ok (.iload 5, 2) := by decide +kernel
theorem dX11_joins_96 : decode cX11_joins 96 = .ok (.iadd, 1) := by decide +kernel
theorem dX11_joins_97 : decode cX11_joins 97 = .ok (.istore 7, 2) := by decide +kernel
theorem dX11_joins_99 : decode cX11_joins 99 = .ok (.aload_n 0, 1) := by decide +kernel
theorem dX11_joins_100 : decode cX11_joins 100 = .ok (.getfield 49, 3) := by decide +kernel
theorem dX11_joins_103 : decode cX11_joins 103 = .ok (.iload 6, 2) := by decide +kernel
theorem dX11_joins_105 : decode cX11_joins 105 = .ok (.iaload, 1) := by decide +kernel
theorem dX11_joins_106 : decode cX11_joins 106 = .ok (.aload_n 0, 1) := by decide +kernel
theorem dX11_joins_107 : decode cX11_joins 107 = .ok (.getfield 43, 3) := by decide +kernel
theorem dX11_joins_110 : decode cX11_joins 110 = .ok (.iload_n 2, 1) := by decide +kernel
theorem dX11_joins_111 : decode cX11_joins 111 = .ok (.iaload, 1) := by decide +kernel
theorem dX11_joins_112 : decode cX11_joins 112 = .ok (.aload_n 0, 1) := by decide +kernel
theorem dX11_joins_113 : decode cX11_joins 113 = .ok (.getfield 25, 3) := by decide +kernel
theorem dX11_joins_116 : decode cX11_joins 116 = .ok (.iload_n 1, 1) := by decide +kernel
theorem dX11_joins_117 : decode cX11_joins 117 = .ok (.iaload, 1) := by decide +kernel
theorem dX11_joins_118 : decode cX11_joins 118 = .ok (.invokestatic 173, 3) := by decide +kernel
theorem dX11_joins_121 : decode cX11_joins 121 = .ok (.aload_n 0, 1) := by decide +kernel
theorem dX11_joins_122 : decode cX11_joins 122 = .ok (.getfield 49, 3) := by decide +kernel
theorem dX11_joins_125 : decode cX11_joins 125 = .ok (.iload 7, 2) := by decide +kernel
theorem dX11_joins_127 : decode cX11_joins 127 = .ok (.iaload, 1) := by decide +kernel
theorem dX11_joins_128 : decode cX11_joins 128 = .ok (.aload_n 0, 1) := by decide +kernel
theorem dX11_joins_129 : decode cX11_joins 129 = .ok (.getfield 43, 3) := by decide +kernel
theorem dX11_joins_132 : decode cX11_joins 132 = .ok (.iload_n 3, 1) := by decide +kernel
theorem dX11_joins_133 : decode cX11_joins 133 = .ok (.iaload, 1) := by decide +kernel
theorem dX11_joins_134 : decode cX11_joins 134 = .ok (.aload_n 0, 1) := by decide +kernel
theorem dX11_joins_135 : decode cX11_joins 135 = .ok (.getfield 28, 3) := by decide +kernel
theorem dX11_joins_138 : decode cX11_joins 138 = .ok (.iload_n 1, 1) := by decide +kernel
theorem dX11_joins_139 : decode cX11_joins 139 = .ok (.iaload, 1) := by decide +kernel
theorem dX11_joins_140 : decode cX11_joins 140 = .ok (.invokestatic 173, 3) := by decide +kernel
theorem dX11_joins_143 : decode cX11_joins 143 = .ok (.if_icmp .ne 36, 3) := by decide +kernel
theorem dX11_joins_146 : decode cX11_joins 146 = .ok (.aload_n 0, 1) := by decide +kernel
theorem dX11_joins_147 : decode cX11_joins 147 = .ok (.iload 6, 2) := by decide +kernel
theorem dX11_joins_149 : decode cX11_joins 149 = .ok (.iload 7, 2) := by decide +kernel
theorem dX11_joins_151 : decode cX11_joins 151 = .ok (.aload_n 0, 1) := by decide +kernel
theorem dX11_joins_152 : decode cX11_joins 152 = .ok (.getfield 49, 3) := by decide +kernel
theorem dX11_joins_155 : decode cX11_joins 155 = .ok (.iload 6, 2) := by decide +kernel
theorem dX11_joins_157 : decode cX11_joins 157 = .ok (.iaload, 1) := by decide +kernel
theorem dX11_joins_158 : decode cX11_joins 158 = .ok (.aload_n 0, 1) := by decide +kernel
theorem dX11_joins_159 : decode cX11_joins 159 = .ok (.getfield 43, 3) := by decide +kernel
theorem dX11_joins_162 : decode cX11_joins 162 = .ok (.iload_n 3, 1) := by decide +kernel
theorem dX11_joins_163 : decode cX11_joins 163 = .ok (.iaload, 1) := by decide +kernel
theorem dX11_joins_164 : decode cX11_joins 164 = .ok (.invokestatic 138, 3) := by decide +kernel
theorem dX11_joins_167 : decode cX11_joins 167 = .ok (.imul, 1) := by decide +kernel
theorem dX11_joins_168 : decode cX11_joins 168 = .ok (.aload_n 0, 1) := by decide +kernel
theorem dX11_joins_169 : decode cX11_joins 169 = .ok (.getfield 49, 3) := by decide +kernel
theorem dX11_joins_172 : decode cX11_joins 172 = .ok (.iload 7, 2) := by decide +kernel
theorem dX11_joins_174 : decode cX11_joins 174 = .ok (.iaload, 1) := by decide +kernel
theorem dX11_joins_175 : decode cX11_joins 175 = .ok (.iadd, 1) := by decide +kernel
theorem dX11_joins_176 : decode cX11_joins 176 = .ok (.invokevirtual 188, 3) := by decide +kernel
theorem dX11_joins_179 : decode cX11_joins 179 = .ok (.iinc 5 1, 3) := by decide +kernel
theorem dX11_joins_182 : decode cX11_joins 182 = .ok (.goto (-119), 3) := by decide +kernel
theorem dX11_joins_185 : decode cX11_joins 185 = .ok (.iinc 4 1, 3) := by decide +kernel
theorem dX11_joins_188 : decode cX11_joins 188 = .ok (.goto (-139), 3) := by decide +kernel
theorem dX11_joins_191 : decode cX11_joins 191 = .ok (.aload_n 0, 1) := by decide +kernel
theorem dX11_joins_192 : decode cX11_joins 192 = .ok (.iconst 2, 1) := by decide +kernel
theorem dX11_joins_193 : decode cX11_joins 193 = .ok (.invokevirtual 180, 3) := by decide +kernel
theorem dX11_joins_196 : decode cX11_joins 196 = .ok (.return_, 1) := by decide +kernel
theorem dX11_unites_0 : decode cX11_unites 0 = .ok (.aload_n 0, 1) := by decide +kernel
theorem dX11_unites_1 : decode cX11_unites 1 = .ok (.getfield 43, 3) := by decide +kernel
theorem dX11_unites_4 : decode cX11_unites 4 = .ok (.aload_n 0, 1) := by decide +kernel
theorem dX11_unites_5 : decode cX11_unites 5 = .ok (.getfield 141, 3) := by decide +kernel
theorem dX11_unites_8 : decode cX11_unites 8 = .ok (.aload_n 0, 1) := by decide +kernel
theorem dX11_unites_9 : decode cX11_unites 9 = .ok (.getfield 43, 3) := by decide +kernel
theorem dX11_unites_12 : decode cX11_unites 12 = .ok (.aload_n 0, 1) := by decide +kernel
theorem dX11_unites_13 : decode cX11_unites 13 = .ok (.getfield 141, 3) := by decide +kernel
theorem dX11_unites_16 : decode cX11_unites 16 = .ok (.iconst 2, 1) := by decide +kernel
theorem dX11_unites_17 : decode cX11_unites 17 = .ok (.isub, 1) := by decide +kernel
theorem dX11_unites_18 : decode cX11_unites 18 = .ok (.iaload, 1) := by decide +kernel
theorem dX11_unites_19 : decode cX11_unites 19 = .ok (.iastore, 1) := by decide +kernel
theorem dX11_unites_20 : decode cX11_unites 20 = .ok (.aload_n 0, 1) := by decide +kernel
theorem dX11_unites_21 : decode cX11_unites 21 = .ok (.getfield 46, 3) := by decide +kernel
theorem dX11_unites_24 : decode cX11_unites 24 = .ok (.aload_n 0, 1) := by decide +kernel
theorem dX11_unites_25 : decode cX11_unites 25 = .ok (.getfield 141, 3) := by decide +kernel
theorem dX11_unites_28 : decode cX11_unites 28 = .ok (.iconst 0, 1) := by decide +kernel
theorem dX11_unites_29 : decode cX11_unites 29 = .ok (.iastore, 1) := by decide +kernel
theorem dX11_unites_30 : decode cX11_unites 30 = .ok (.aload_n 0, 1) := by decide +kernel
theorem dX11_unites_31 : decode cX11_unites 31 = .ok (.getfield 141, 3) := by decide +kernel
theorem dX11_unites_34 : decode cX11_unites 34 = .ok (.iconst 2, 1) := by decide +kernel
theorem dX11_unites_35 : decode cX11_unites 35 = .ok (.isub, 1) := by decide +kernel
theorem dX11_unites_36 : decode cX11_unites 36 = .ok (.istore_n 1, 1) := by decide +kernel
theorem dX11_unites_37 : decode cX11_unites 37 = .ok (.iload_n 1, 1) := by decide +kernel
theorem dX11_unites_38 : decode cX11_unites 38 = .ok (.aload_n 0, 1) := by decide +kernel
theorem dX11_unites_39 : decode cX11_unites 39 = .ok (.getfield 141, 3) := by decide +kernel
theorem dX11_unites_42 : decode cX11_unites 42 = .ok (.if_icmp .ge 55, 3) := by decide +kernel
theorem dX11_unites_45 : decode cX11_unites 45 = .ok (.iconst 0, 1) := by decide +kernel
theorem dX11_unites_46 : decode cX11_unites 46 = .ok (.istore_n 2, 1) := by decide +kernel
theorem dX11_unites_47 : decode cX11_unites 47 = .ok (.iload_n 2, 1) := by decide +kernel
theorem dX11_unites_48 : decode cX11_unites 48 = .ok (.aload_n 0, 1) := by decide +kernel
theorem dX11_unites_49 : decode cX11_unites 49 = .ok (.getfield 46, 3) := by decide +kernel
theorem dX11_unites_52 : decode cX11_unites 52 = .ok (.iload_n 1, 1) := by decide +kernel
theorem dX11_unites_53 : decode cX11_unites 53 = .ok (.iaload, 1) := by decide +kernel
theorem dX11_unites_54 : decode cX11_unites 54 = .ok (.if_icmp .ge 37, 3) := by decide +kernel
theorem dX11_unites_57 : decode cX11_unites 57 = .ok (.aload_n 0, 1) := by decide +kernel
theorem dX11_unites_58 : decode cX11_unites 58 = .ok (.getfield 151, 3) := by decide +kernel
theorem dX11_unites_61 : decode cX11_unites 61 = .ok (.ifCond .ne 30, 3) := by decide +kernel
theorem dX11_unites_64 : decode cX11_unites 64 = .ok (.aload_n 0, 1) := by decide +kernel
theorem dX11_unites_65 : decode cX11_unites 65 = .ok (.iload_n 1, 1) := by decide +kernel
theorem dX11_unites_66 : decode cX11_unites 66 = .ok (.iload_n 2, 1) := by decide +kernel
theorem dX11_unites_67 : decode cX11_unites 67 = .ok (.aload_n 0, 1) := by decide +kernel
theorem dX11_unites_68 : decode cX11_unites 68 = .ok (.getfield 141, 3) := by decide +kernel
theorem dX11_unites_71 : decode cX11_unites 71 = .ok (.aload_n 0, 1) := by decide +kernel
theorem dX11_unites_72 : decode cX11_unites 72 = .ok (.getfield 49, 3) := by decide +kernel
theorem dX11_unites_75 : decode cX11_unites 75 = .ok (.bipush 32, 2) := by decide +kernel
theorem dX11_unites_77 : decode cX11_unites 77 = .ok (.iload_n 1, 1) := by decide +kernel
theorem dX11_unites_78 : decode cX11_unites 78 = .ok (.imul, 1) := by decide +kernel
theorem dX11_unites_79 : decode cX11_unites 79 = .ok (.iload_n 2, 1) := by decide +kernel
theorem dX11_unites_80 : decode cX11_unites 80 = .ok (.iadd, 1) := by decide +kernel
theorem dX11_unites_81 : decode cX11_unites 81 = .ok (.iaload, 1) := by decide +kernel
theorem dX11_unites_82 : decode cX11_unites 82 = .ok (.invokevirtual 177, 3) := by decide +kernel
theorem dX11_unites_85 : decode cX11_unites 85 = .ok (.iinc 2 1, 3) := by decide +kernel
theorem dX11_unites_88 : decode cX11_unites 88 = .ok (.goto (-41), 3) := by decide +kernel
theorem dX11_unites_91 : decode cX11_unites 91 = .ok (.iinc 1 1, 3) := by decide +kernel
theorem dX11_unites_94 : decode cX11_unites 94 = .ok (.goto (-57), 3) := by decide +kernel
theorem dX11_unites_97 : decode cX11_unites 97 = .ok (.aload_n 0, 1) := by decide +kernel
theorem dX11_unites_98 : decode cX11_unites 98 = .ok (.iconst 2, 1) := by decide +kernel
theorem dX11_unites_99 : decode cX11_unites 99 = .ok (.invokevirtual 180, 3) := by decide +kernel
theorem dX11_unites_102 : decode cX11_unites 102 = .ok (.return_, 1) := by decide +kernel
theorem dX11_works_0 : decode cX11_works 0 = .ok (.aload_n 0, 1) := by decide +kernel
theorem dX11_works_1 : decode cX11_works 1 = .ok (.iconst 0, 1) := by decide +kernel
theorem dX11_works_2 : decode cX11_works 2 = .ok (.putfield 141, 3) := by decide +kernel
theorem dX11_works_5 : decode cX11_works 5 = .ok (.aload_n 0, 1) := by decide +kernel
theorem dX11_works_6 : decode cX11_works 6 = .ok (.iconst 0, 1) := by decide +kernel
theorem dX11_works_7 : decode cX11_works 7 = .ok (.putfield 151, 3) := by decide +kernel
theorem dX11_works_10 : decode cX11_works 10 = .ok (.iconst 0, 1) := by decide +kernel
theorem dX11_works_11 : decode cX11_works 11 = .ok (.istore_n 1, 1) := by decide +kernel
theorem dX11_works_12 : decode cX11_works 12 = .ok (.iload_n 1, 1) := by decide +kernel
theorem dX11_works_13 : decode cX11_works 13 = .ok (.aload_n 0, 1) := by decide +kernel
theorem dX11_works_14 : decode cX11_works 14 = .ok (.getfield 105, 3) := by decide +kernel
theorem dX11_works_17 : decode cX11_works 17 = .ok (.if_icmp .ge 114, 3) := by decide +kernel
theorem dX11_works_20 : decode cX11_works 20 = .ok (.aload_n 0, 1) := by decide +kernel
theorem dX11_works_21 : decode cX11_works 21 = .ok (.getfield 151, 3) := by decide +kernel
theorem dX11_works_24 : decode cX11_works 24 = .ok (.ifCond .ne 107, 3) := by decide +kernel
theorem dX11_works_27 : decode cX11_works 27 = .ok (.aload_n 0, 1) := by decide +kernel
theorem dX11_works_28 : decode cX11_works 28 = .ok (.getfield 22, 3) := by decide +kernel
theorem dX11_works_31 : decode cX11_works 31 = .ok (.iload_n 1, 1) := by decide +kernel
theorem dX11_works_32 : decode cX11_works 32 = .ok (.iaload, 1) := by decide +kernel
theorem dX11_works_33 : decode cX11_works 33 = .ok (.lookupswitch 88 #[(61, 64), (65, 51), (106, 80), (112, 72), (126, 64)], 51) := by decide +kernel
theorem dX11_works_84 : decode cX11_works 84 = .ok (.aload_n 0, 1) := by decide +kernel
theorem dX11_works_85 : decode cX11_works 85 = .ok (.aload_n 0, 1) := by decide +kernel
theorem dX11_works_86 : decode cX11_works 86 = .ok (.getfield 25, 3) := by decide +kernel
theorem dX11_works_89 : decode cX11_works 89 = .ok (.iload_n 1, 1) := by decide +kernel
theorem dX11_works_90 : decode cX11_works 90 = .ok (.iaload, 1) := by decide +kernel
theorem dX11_works_91 : decode cX11_works 91 = .ok (.invokevirtual 191, 3) := by decide +kernel
theorem dX11_works_94 : decode cX11_works 94 = .ok (.goto 31, 3) := by decide +kernel
theorem dX11_works_97 : decode cX11_works 97 = .ok (.aload_n 0, 1) := by decide +kernel
theorem dX11_works_98 : decode cX11_works 98 = .ok (.iload_n 1, 1) := by decide +kernel
theorem dX11_works_99 : decode cX11_works 99 = .ok (.invokevirtual 194, 3) := by decide +kernel
theorem dX11_works_102 : decode cX11_works 102 = .ok (.goto 23, 3) := by decide +kernel
theorem dX11_works_105 : decode cX11_works 105 = .ok (.aload_n 0, 1) := by decide +kernel
theorem dX11_works_106 : decode cX11_works 106 = .ok (.iload_n 1, 1) := by decide +kernel
theorem dX11_works_107 : decode cX11_works 107 = .ok (.invokevirtual 197, 3) := by decide +kernel
theorem dX11_works_110 : decode cX11_works 110 = .ok (.goto 15, 3) := by decide +kernel
theorem dX11_works_113 : decode cX11_works 113 = .ok (.aload_n 0, 1) := by decide +kernel
theorem dX11_works_114 : decode cX11_works 114 = .ok (.iload_n 1, 1) := by decide +kernel
theorem dX11_works_115 : decode cX11_works 115 = .ok (.invokevirtual 200, 3) := by decide +kernel
theorem dX11_works_118 : decode cX11_works 118 = .ok (.goto 7, 3) := by decide +kernel
theorem dX11_works_121 : decode cX11_works 121 = .ok (.aload_n 0, 1) := by decide +kernel
theorem dX11_works_122 : decode cX11_works 122 = .ok (.invokevirtual 203, 3) := by decide +kernel
theorem dX11_works_125 : decode cX11_works 125 = .ok (.iinc 1 1, 3) := by decide +kernel
theorem dX11_works_128 : decode cX11_works 128 = .ok (.goto (-116), 3) := by decide +kernel
theorem dX11_works_131 : decode cX11_works 131 = .ok (.aload_n 0, 1) := by decide +kernel
theorem dX11_works_132 : decode cX11_works 132 = .ok (.getfield 151, 3) := by decide +kernel
theorem dX11_works_135 : decode cX11_works 135 = .ok (.ifCond .ne 7, 3) := by decide +kernel
theorem dX11_works_138 : decode cX11_works 138 = .ok (.iconst 1, 1) := by decide +kernel
theorem dX11_works_139 : decode cX11_works 139 = .ok (.goto 4, 3) := by decide +kernel
theorem dX11_works_142 : decode cX11_works 142 = .ok (.iconst 0, 1) := by decide +kernel
theorem dX11_works_143 : decode cX11_works 143 = .ok (.ireturn, 1) := by decide +kernel
theorem dX11_laysAnswer_0 : decode cX11_laysAnswer 0 = .ok (.aload_n 0, 1) := by decide +kernel
theorem dX11_laysAnswer_1 : decode cX11_laysAnswer 1 = .ok (.getfield 76, 3) := by decide +kernel
theorem dX11_laysAnswer_4 : decode cX11_laysAnswer 4 = .ok (.ifCond .eq 4, 3) := by decide +kernel
theorem dX11_laysAnswer_7 : decode cX11_laysAnswer 7 = .ok (.return_, 1) := by decide +kernel
theorem dX11_laysAnswer_8 : decode cX11_laysAnswer 8 = .ok (.aload_n 0, 1) := by decide +kernel
theorem dX11_laysAnswer_9 : decode cX11_laysAnswer 9 = .ok (.iconst 1, 1) := by decide +kernel
theorem dX11_laysAnswer_10 : decode cX11_laysAnswer 10 = .ok (.putfield 76, 3) := by decide +kernel
theorem dX11_laysAnswer_13 : decode cX11_laysAnswer 13 = .ok (.aload_n 0, 1) := by decide +kernel
theorem dX11_laysAnswer_14 : decode cX11_laysAnswer 14 = .ok (.getfield 46, 3) := by decide +kernel
theorem dX11_laysAnswer_17 : decode cX11_laysAnswer 17 = .ok (.iconst 0, 1) := by decide +kernel
theorem dX11_laysAnswer_18 : decode cX11_laysAnswer 18 = .ok (.iconst 0, 1) := by decide +kernel
theorem dX11_laysAnswer_19 : decode cX11_laysAnswer 19 = .ok (.iastore, 1) := by decide +kernel
theorem dX11_laysAnswer_20 : decode cX11_laysAnswer 20 = .ok (.aload_n 0, 1) := by decide +kernel
theorem dX11_laysAnswer_21 : decode cX11_laysAnswer 21 = .ok (.getfield 43, 3) := by decide +kernel
theorem dX11_laysAnswer_24 : decode cX11_laysAnswer 24 = .ok (.iconst 0, 1) := by decide +kernel
theorem dX11_laysAnswer_25 : decode cX11_laysAnswer 25 = .ok (.iconst 0, 1) := by decide +kernel
theorem dX11_laysAnswer_26 : decode cX11_laysAnswer 26 = .ok (.iastore, 1) := by decide +kernel
theorem dX11_laysAnswer_27 : decode cX11_laysAnswer 27 = .ok (.aload_n 0, 1) := by decide +kernel
theorem dX11_laysAnswer_28 : decode cX11_laysAnswer 28 = .ok (.getfield 7, 3) := by decide +kernel
theorem dX11_laysAnswer_31 : decode cX11_laysAnswer 31 = .ok (.bipush 84, 2) := by decide +kernel
theorem dX11_laysAnswer_33 : decode cX11_laysAnswer 33 = .ok (.iaload, 1) := by decide +kernel
theorem dX11_laysAnswer_34 : decode cX11_laysAnswer 34 = .ok (.ifCond .le 27, 3) := by decide +kernel
theorem dX11_laysAnswer_37 : decode cX11_laysAnswer 37 = .ok (.aload_n 0, 1) := by decide +kernel
theorem dX11_laysAnswer_38 : decode cX11_laysAnswer 38 = .ok (.invokevirtual 206, 3) := by decide +kernel
theorem dX11_laysAnswer_41 : decode cX11_laysAnswer 41 = .ok (.aload_n 0, 1) := by decide +kernel
theorem dX11_laysAnswer_42 : decode cX11_laysAnswer 42 = .ok (.invokevirtual 209, 3) := by decide +kernel
theorem dX11_laysAnswer_45 : decode cX11_laysAnswer 45 = .ok (.ifCond .eq 14, 3) := by decide +kernel
theorem dX11_laysAnswer_48 : decode cX11_laysAnswer 48 = .ok (.aload_n 0, 1) := by decide +kernel
theorem dX11_laysAnswer_49 : decode cX11_laysAnswer 49 = .ok (.invokevirtual 212, 3) := by decide +kernel
theorem dX11_laysAnswer_52 : decode cX11_laysAnswer 52 = .ok (.ifCond .eq 7, 3) := by decide +kernel
theorem dX11_laysAnswer_55 : decode cX11_laysAnswer 55 = .ok (.iconst 1, 1) := by decide +kernel
theorem dX11_laysAnswer_56 : decode cX11_laysAnswer 56 = .ok (.goto 4, 3) := by decide +kernel
theorem dX11_laysAnswer_59 : decode cX11_laysAnswer 59 = .ok (.iconst 0, 1) := by decide +kernel
theorem dX11_laysAnswer_60 : decode cX11_laysAnswer 60 = .ok (.istore_n 1, 1) := by decide +kernel
theorem dX11_laysAnswer_61 : decode cX11_laysAnswer 61 = .ok (.return_, 1) := by decide +kernel
theorem dX11_isPossible_0 : decode cX11_isPossible 0 = .ok (.aload_n 0, 1) := by decide +kernel
theorem dX11_isPossible_1 : decode cX11_isPossible 1 = .ok (.getfield 7, 3) := by decide +kernel
theorem dX11_isPossible_4 : decode cX11_isPossible 4 = .ok (.bipush 84, 2) := by decide +kernel
theorem dX11_isPossible_6 : decode cX11_isPossible 6 = .ok (.iaload, 1) := by decide +kernel
theorem dX11_isPossible_7 : decode cX11_isPossible 7 = .ok (.ifCond .ne 5, 3) := by decide +kernel
theorem dX11_isPossible_10 : decode cX11_isPossible 10 = .ok (.iconst 1, 1) := by decide +kernel
theorem dX11_isPossible_11 : decode cX11_isPossible 11 = .ok (.ireturn, 1) := by decide +kernel
theorem dX11_isPossible_12 : decode cX11_isPossible 12 = .ok (.aload_n 0, 1) := by decide +kernel
theorem dX11_isPossible_13 : decode cX11_isPossible 13 = .ok (.invokevirtual 206, 3) := by decide +kernel
theorem dX11_isPossible_16 : decode cX11_isPossible 16 = .ok (.aload_n 0, 1) := by decide +kernel
theorem dX11_isPossible_17 : decode cX11_isPossible 17 = .ok (.iconst 0, 1) := by decide +kernel
theorem dX11_isPossible_18 : decode cX11_isPossible 18 = .ok (.putfield 76, 3) := by decide +kernel
theorem dX11_isPossible_21 : decode cX11_isPossible 21 = .ok (.aload_n 0, 1) := by decide +kernel
theorem dX11_isPossible_22 : decode cX11_isPossible 22 = .ok (.invokevirtual 209, 3) := by decide +kernel
theorem dX11_isPossible_25 : decode cX11_isPossible 25 = .ok (.ifCond .eq 14, 3) := by decide +kernel
theorem dX11_isPossible_28 : decode cX11_isPossible 28 = .ok (.aload_n 0, 1) := by decide +kernel
theorem dX11_isPossible_29 : decode cX11_isPossible 29 = .ok (.invokevirtual 212, 3) := by decide +kernel
theorem dX11_isPossible_32 : decode cX11_isPossible 32 = .ok (.ifCond .eq 7, 3) := by decide +kernel
theorem dX11_isPossible_35 : decode cX11_isPossible 35 = .ok (.iconst 1, 1) := by decide +kernel
theorem dX11_isPossible_36 : decode cX11_isPossible 36 = .ok (.goto 4, 3) := by decide +kernel
theorem dX11_isPossible_39 : decode cX11_isPossible 39 = .ok (.iconst 0, 1) := by decide +kernel
theorem dX11_isPossible_40 : decode cX11_isPossible 40 = .ok (.ireturn, 1) := by decide +kernel
theorem dX11_hasRows_0 : decode cX11_hasRows 0 = .ok (.iconst 0, 1) := by decide +kernel
theorem dX11_hasRows_1 : decode cX11_hasRows 1 = .ok (.istore_n 2, 1) := by decide +kernel
theorem dX11_hasRows_2 : decode cX11_hasRows 2 = .ok (.iconst 0, 1) := by decide +kernel
theorem dX11_hasRows_3 : decode cX11_hasRows 3 = .ok (.istore_n 3, 1) := by decide +kernel
theorem dX11_hasRows_4 : decode cX11_hasRows 4 = .ok (.iload_n 3, 1) := by decide +kernel
theorem dX11_hasRows_5 : decode cX11_hasRows 5 = .ok (.bipush 16, 2) := by decide +kernel
theorem dX11_hasRows_7 : decode cX11_hasRows 7 = .ok (.if_icmp .ge 31, 3) := by decide +kernel
theorem dX11_hasRows_10 : decode cX11_hasRows 10 = .ok (.iload_n 2, 1) := by decide +kernel
theorem dX11_hasRows_11 : decode cX11_hasRows 11 = .ok (.ifCond .ne 15, 3) := by decide +kernel
theorem dX11_hasRows_14 : decode cX11_hasRows 14 = .ok (.aload_n 0, 1) := by decide +kernel
theorem dX11_hasRows_15 : decode cX11_hasRows 15 = .ok (.iload_n 3, 1) := by decide +kernel
theorem dX11_hasRows_16 : decode cX11_hasRows 16 = .ok (.iconst 0, 1) := by decide +kernel
theorem dX11_hasRows_17 : decode cX11_hasRows 17 = .ok (.invokevirtual 84, 3) := by decide +kernel
theorem dX11_hasRows_20 : decode cX11_hasRows 20 = .ok (.iload_n 1, 1) := by decide +kernel
theorem dX11_hasRows_21 : decode cX11_hasRows 21 = .ok (.iconst 1, 1) := by decide +kernel
theorem dX11_hasRows_22 : decode cX11_hasRows 22 = .ok (.iadd, 1) := by decide +kernel
theorem dX11_hasRows_23 : decode cX11_hasRows 23 = .ok (.if_icmp .ne 7, 3) := by decide +kernel
theorem dX11_hasRows_26 : decode cX11_hasRows 26 = .ok (.iconst 1, 1) := by decide +kernel
theorem dX11_hasRows_27 : decode cX11_hasRows 27 = .ok (.goto 4, 3) := by decide +kernel
theorem dX11_hasRows_30 : decode cX11_hasRows 30 = .ok (.iconst 0, 1) := by decide +kernel
theorem dX11_hasRows_31 : decode cX11_hasRows 31 = .ok (.istore_n 2, 1) := by decide +kernel
theorem dX11_hasRows_32 : decode cX11_hasRows 32 = .ok (.iinc 3 1, 3) := by decide +kernel
theorem dX11_hasRows_35 : decode cX11_hasRows 35 = .ok (.goto (-31), 3) := by decide +kernel
theorem dX11_hasRows_38 : decode cX11_hasRows 38 = .ok (.iload_n 2, 1) := by decide +kernel
theorem dX11_hasRows_39 : decode cX11_hasRows 39 = .ok (.ireturn, 1) := by decide +kernel
theorem dX11_occurs_0 : decode cX11_occurs 0 = .ok (.iconst 0, 1) := by decide +kernel
theorem dX11_occurs_1 : decode cX11_occurs 1 = .ok (.istore_n 2, 1) := by decide +kernel
theorem dX11_occurs_2 : decode cX11_occurs 2 = .ok (.iconst 0, 1) := by decide +kernel
theorem dX11_occurs_3 : decode cX11_occurs 3 = .ok (.istore_n 3, 1) := by decide +kernel
theorem dX11_occurs_4 : decode cX11_occurs 4 = .ok (.iload_n 3, 1) := by decide +kernel
theorem dX11_occurs_5 : decode cX11_occurs 5 = .ok (.aload_n 0, 1) := by decide +kernel
theorem dX11_occurs_6 : decode cX11_occurs 6 = .ok (.getfield 7, 3) := by decide +kernel
theorem dX11_occurs_9 : decode cX11_occurs 9 = .ok (.bipush 84, 2) := by decide +kernel
theorem dX11_occurs_11 : decode cX11_occurs 11 = .ok (.iaload, 1) := by decide +kernel
theorem dX11_occurs_12 : decode cX11_occurs 12 = .ok (.if_icmp .ge 35, 3) := by decide +kernel
theorem dX11_occurs_15 : decode cX11_occurs 15 = .ok (.iload_n 2, 1) := by decide +kernel
theorem dX11_occurs_16 : decode cX11_occurs 16 = .ok (.ifCond .ne 19, 3) := by decide +kernel
theorem dX11_occurs_19 : decode cX11_occurs 19 = .ok (.aload_n 0, 1) := by decide +kernel
theorem dX11_occurs_20 : decode cX11_occurs 20 = .ok (.getfield 7, 3) := by decide +kernel
theorem dX11_occurs_23 : decode cX11_occurs 23 = .ok (.bipush 85, 2) := by decide +kernel
theorem dX11_occurs_25 : decode cX11_occurs 25 = .ok (.iload_n 3, 1) := by decide +kernel
theorem dX11_occurs_26 : decode cX11_occurs 26 = .ok (.iadd, 1) := by decide +kernel
theorem dX11_occurs_27 : decode cX11_occurs 27 = .ok (.iaload, 1) := by decide +kernel
theorem dX11_occurs_28 : decode cX11_occurs 28 = .ok (.bipush 65, 2) := by decide +kernel
theorem dX11_occurs_30 : decode cX11_occurs 30 = .ok (.iload_n 1, 1) := by decide +kernel
theorem dX11_occurs_31 : decode cX11_occurs 31 = .ok (.iadd, 1) := by decide +kernel
theorem dX11_occurs_32 : decode cX11_occurs 32 = .ok (.if_icmp .ne 7, 3) := by decide +kernel
theorem dX11_occurs_35 : decode cX11_occurs 35 = .ok (.iconst 1, 1) := by decide +kernel
theorem dX11_occurs_36 : decode cX11_occurs 36 = .ok (.goto 4, 3) := by decide +kernel
theorem dX11_occurs_39 : decode cX11_occurs 39 = .ok (.iconst 0, 1) := by decide +kernel
theorem dX11_occurs_40 : decode cX11_occurs 40 = .ok (.istore_n 2, 1) := by decide +kernel
theorem dX11_occurs_41 : decode cX11_occurs 41 = .ok (.iinc 3 1, 3) := by decide +kernel
theorem dX11_occurs_44 : decode cX11_occurs 44 = .ok (.goto (-40), 3) := by decide +kernel
theorem dX11_occurs_47 : decode cX11_occurs 47 = .ok (.iload_n 2, 1) := by decide +kernel
theorem dX11_occurs_48 : decode cX11_occurs 48 = .ok (.ireturn, 1) := by decide +kernel
theorem dX11_setColumns_0 : decode cX11_setColumns 0 = .ok (.iload_n 1, 1) := by decide +kernel
theorem dX11_setColumns_1 : decode cX11_setColumns 1 = .ok (.invokestatic 215, 3) := by decide +kernel
theorem dX11_setColumns_4 : decode cX11_setColumns 4 = .ok (.ifCond .ne 5, 3) := by decide +kernel
theorem dX11_setColumns_7 : decode cX11_setColumns 7 = .ok (.iconst (-1), 1) := by decide +kernel
theorem dX11_setColumns_8 : decode cX11_setColumns 8 = .ok (.ireturn, 1) := by decide +kernel
theorem dX11_setColumns_9 : decode cX11_setColumns 9 = .ok (.iload_n 2, 1) := by decide +kernel
theorem dX11_setColumns_10 : decode cX11_setColumns 10 = .ok (.iconst 1, 1) := by decide +kernel
theorem dX11_setColumns_11 : decode cX11_setColumns 11 = .ok (.iconst 3, 1) := by decide +kernel
theorem dX11_setColumns_12 : decode cX11_setColumns 12 = .ok (.invokestatic 80, 3) := by decide +kernel
theorem dX11_setColumns_15 : decode cX11_setColumns 15 = .ok (.ifCond .ne 6, 3) := by decide +kernel
theorem dX11_setColumns_18 : decode cX11_setColumns 18 = .ok (.bipush (-2), 2) := by decide +kernel
theorem dX11_setColumns_20 : decode cX11_setColumns 20 = .ok (.ireturn, 1) := by decide +kernel
theorem dX11_setColumns_21 : decode cX11_setColumns 21 = .ok (.aload_n 0, 1) := by decide +kernel
theorem dX11_setColumns_22 : decode cX11_setColumns 22 = .ok (.iload_n 1, 1) := by decide +kernel
theorem dX11_setColumns_23 : decode cX11_setColumns 23 = .ok (.invokevirtual 218, 3) := by decide +kernel
theorem dX11_setColumns_26 : decode cX11_setColumns 26 = .ok (.ifCond .ne 11, 3) := by decide +kernel
theorem dX11_setColumns_29 : decode cX11_setColumns 29 = .ok (.aload_n 0, 1) := by decide +kernel
theorem dX11_setColumns_30 : decode cX11_setColumns 30 = .ok (.iload_n 1, 1) := by decide +kernel
theorem dX11_setColumns_31 : decode cX11_setColumns 31 = .ok (.invokevirtual 221, 3) := by decide +kernel
theorem dX11_setColumns_34 : decode cX11_setColumns 34 = .ok (.ifCond .eq 6, 3) := by decide +kernel
theorem dX11_setColumns_37 : decode cX11_setColumns 37 = .ok (.bipush (-5), 2) := by decide +kernel
theorem dX11_setColumns_39 : decode cX11_setColumns 39 = .ok (.ireturn, 1) := by decide +kernel
theorem dX11_setColumns_40 : decode cX11_setColumns 40 = .ok (.aload_n 0, 1) := by decide +kernel
theorem dX11_setColumns_41 : decode cX11_setColumns 41 = .ok (.invokevirtual 224, 3) := by decide +kernel
theorem dX11_setColumns_44 : decode cX11_setColumns 44 = .ok (.aload_n 0, 1) := by decide +kernel
theorem dX11_setColumns_45 : decode cX11_setColumns 45 = .ok (.getfield 7, 3) := by decide +kernel
theorem dX11_setColumns_48 : decode cX11_setColumns 48 = .ok (.iload_n 1, 1) := by decide +kernel
theorem dX11_setColumns_49 : decode cX11_setColumns 49 = .ok (.iaload, 1) := by decide +kernel
theorem dX11_setColumns_50 : decode cX11_setColumns 50 = .ok (.istore_n 3, 1) := by decide +kernel
theorem dX11_setColumns_51 : decode cX11_setColumns 51 = .ok (.aload_n 0, 1) := by decide +kernel
theorem dX11_setColumns_52 : decode cX11_setColumns 52 = .ok (.getfield 7, 3) := by decide +kernel
theorem dX11_setColumns_55 : decode cX11_setColumns 55 = .ok (.iload_n 1, 1) := by decide +kernel
theorem dX11_setColumns_56 : decode cX11_setColumns 56 = .ok (.iload_n 2, 1) := by decide +kernel
theorem dX11_setColumns_57 : decode cX11_setColumns 57 = .ok (.iastore, 1) := by decide +kernel
theorem dX11_setColumns_58 : decode cX11_setColumns 58 = .ok (.iload_n 3, 1) := by decide +kernel
theorem dX11_setColumns_59 : decode cX11_setColumns 59 = .ok (.ireturn, 1) := by decide +kernel
theorem dX11_freeTag_0 : decode cX11_freeTag 0 = .ok (.bipush (-6), 2) := by decide +kernel
theorem dX11_freeTag_2 : decode cX11_freeTag 2 = .ok (.istore_n 1, 1) := by decide +kernel
theorem dX11_freeTag_3 : decode cX11_freeTag 3 = .ok (.bipush 15, 2) := by decide +kernel
theorem dX11_freeTag_5 : decode cX11_freeTag 5 = .ok (.istore_n 2, 1) := by decide +kernel
theorem dX11_freeTag_6 : decode cX11_freeTag 6 = .ok (.iload_n 2, 1) := by decide +kernel
theorem dX11_freeTag_7 : decode cX11_freeTag 7 = .ok (.ifCond .lt 24, 3) := by decide +kernel
theorem dX11_freeTag_10 : decode cX11_freeTag 10 = .ok (.aload_n 0, 1) := by decide +kernel
theorem dX11_freeTag_11 : decode cX11_freeTag 11 = .ok (.iload_n 2, 1) := by decide +kernel
theorem dX11_freeTag_12 : decode cX11_freeTag 12 = .ok (.iconst 0, 1) := by decide +kernel
theorem dX11_freeTag_13 : decode cX11_freeTag 13 = .ok (.invokevirtual 84, 3) := by decide +kernel
theorem dX11_freeTag_16 : decode cX11_freeTag 16 = .ok (.ifCond .ne 7, 3) := by decide +kernel
theorem dX11_freeTag_19 : decode cX11_freeTag 19 = .ok (.iload_n 2, 1) := by decide +kernel
theorem dX11_freeTag_20 : decode cX11_freeTag 20 = .ok (.goto 4, 3) := by decide +kernel
theorem dX11_freeTag_23 : decode cX11_freeTag 23 = .ok (.iload_n 1, 1) := by decide +kernel
theorem dX11_freeTag_24 : decode cX11_freeTag 24 = .ok (.istore_n 1, 1) := by decide +kernel
theorem dX11_freeTag_25 : decode cX11_freeTag 25 = .ok (.iinc 2 (-1), 3) := by decide +kernel
theorem dX11_freeTag_28 : decode cX11_freeTag 28 = .ok (.goto (-22), 3) := by decide +kernel
theorem dX11_freeTag_31 : decode cX11_freeTag 31 = .ok (.iload_n 1, 1) := by decide +kernel
theorem dX11_freeTag_32 : decode cX11_freeTag 32 = .ok (.ireturn, 1) := by decide +kernel
theorem dX11_laysRow_0 : decode cX11_laysRow 0 = .ok (.aload_n 0, 1) := by decide +kernel
theorem dX11_laysRow_1 : decode cX11_laysRow 1 = .ok (.iload_n 1, 1) := by decide +kernel
theorem dX11_laysRow_2 : decode cX11_laysRow 2 = .ok (.iconst 0, 1) := by decide +kernel
theorem dX11_laysRow_3 : decode cX11_laysRow 3 = .ok (.iload_n 2, 1) := by decide +kernel
theorem dX11_laysRow_4 : decode cX11_laysRow 4 = .ok (.invokevirtual 227, 3) := by decide +kernel
theorem dX11_laysRow_7 : decode cX11_laysRow 7 = .ok (.aload_n 0, 1) := by decide +kernel
theorem dX11_laysRow_8 : decode cX11_laysRow 8 = .ok (.iload_n 1, 1) := by decide +kernel
theorem dX11_laysRow_9 : decode cX11_laysRow 9 = .ok (.iconst 1, 1) := by decide +kernel
theorem dX11_laysRow_10 : decode cX11_laysRow 10 = .ok (.iload_n 3, 1) := by decide +kernel
theorem dX11_laysRow_11 : decode cX11_laysRow 11 = .ok (.invokevirtual 227, 3) := by decide +kernel
theorem dX11_laysRow_14 : decode cX11_laysRow 14 = .ok (.aload_n 0, 1) := by decide +kernel
theorem dX11_laysRow_15 : decode cX11_laysRow 15 = .ok (.iload_n 1, 1) := by decide +kernel
theorem dX11_laysRow_16 : decode cX11_laysRow 16 = .ok (.iconst 2, 1) := by decide +kernel
theorem dX11_laysRow_17 : decode cX11_laysRow 17 = .ok (.iload_n 2, 1) := by decide +kernel
theorem dX11_laysRow_18 : decode cX11_laysRow 18 = .ok (.ifCond .ne 7, 3) := by decide +kernel
theorem dX11_laysRow_21 : decode cX11_laysRow 21 = .ok (.iconst 0, 1) := by decide +kernel
theorem dX11_laysRow_22 : decode cX11_laysRow 22 = .ok (.goto 4, 3) := by decide +kernel
theorem dX11_laysRow_25 : decode cX11_laysRow 25 = .ok (.iconst 1, 1) := by decide +kernel
theorem dX11_laysRow_26 : decode cX11_laysRow 26 = .ok (.invokevirtual 227, 3) := by decide +kernel
theorem dX11_laysRow_29 : decode cX11_laysRow 29 = .ok (.aload_n 0, 1) := by decide +kernel
theorem dX11_laysRow_30 : decode cX11_laysRow 30 = .ok (.iload_n 1, 1) := by decide +kernel
theorem dX11_laysRow_31 : decode cX11_laysRow 31 = .ok (.iconst 3, 1) := by decide +kernel
theorem dX11_laysRow_32 : decode cX11_laysRow 32 = .ok (.iload_n 2, 1) := by decide +kernel
theorem dX11_laysRow_33 : decode cX11_laysRow 33 = .ok (.ifCond .ne 7, 3) := by decide +kernel
theorem dX11_laysRow_36 : decode cX11_laysRow 36 = .ok (.iconst 0, 1) := by decide +kernel
theorem dX11_laysRow_37 : decode cX11_laysRow 37 = .ok (.goto 5, 3) := by decide +kernel
theorem dX11_laysRow_40 : decode cX11_laysRow 40 = .ok (.bipush 100, 2) := by decide +kernel
theorem dX11_laysRow_42 : decode cX11_laysRow 42 = .ok (.invokevirtual 227, 3) := by decide +kernel
theorem dX11_laysRow_45 : decode cX11_laysRow 45 = .ok (.aload_n 0, 1) := by decide +kernel
theorem dX11_laysRow_46 : decode cX11_laysRow 46 = .ok (.iload_n 1, 1) := by decide +kernel
theorem dX11_laysRow_47 : decode cX11_laysRow 47 = .ok (.iconst 4, 1) := by decide +kernel
theorem dX11_laysRow_48 : decode cX11_laysRow 48 = .ok (.iconst 0, 1) := by decide +kernel
theorem dX11_laysRow_49 : decode cX11_laysRow 49 = .ok (.invokevirtual 227, 3) := by decide +kernel
theorem dX11_laysRow_52 : decode cX11_laysRow 52 = .ok (.return_, 1) := by decide +kernel
theorem dX11_addRow_0 : decode cX11_addRow 0 = .ok (.iload_n 1, 1) := by decide +kernel
theorem dX11_addRow_1 : decode cX11_addRow 1 = .ok (.invokestatic 215, 3) := by decide +kernel
theorem dX11_addRow_4 : decode cX11_addRow 4 = .ok (.ifCond .ne 5, 3) := by decide +kernel
theorem dX11_addRow_7 : decode cX11_addRow 7 = .ok (.iconst (-1), 1) := by decide +kernel
theorem dX11_addRow_8 : decode cX11_addRow 8 = .ok (.ireturn, 1) := by decide +kernel
theorem dX11_addRow_9 : decode cX11_addRow 9 = .ok (.iload_n 2, 1) := by decide +kernel
theorem dX11_addRow_10 : decode cX11_addRow 10 = .ok (.iconst 0, 1) := by decide +kernel
theorem dX11_addRow_11 : decode cX11_addRow 11 = .ok (.aload_n 0, 1) := by decide +kernel
theorem dX11_addRow_12 : decode cX11_addRow 12 = .ok (.getfield 7, 3) := by decide +kernel
theorem dX11_addRow_15 : decode cX11_addRow 15 = .ok (.iload_n 1, 1) := by decide +kernel
theorem dX11_addRow_16 : decode cX11_addRow 16 = .ok (.iaload, 1) := by decide +kernel
theorem dX11_addRow_17 : decode cX11_addRow 17 = .ok (.invokestatic 138, 3) := by decide +kernel
theorem dX11_addRow_20 : decode cX11_addRow 20 = .ok (.iconst 1, 1) := by decide +kernel
theorem dX11_addRow_21 : decode cX11_addRow 21 = .ok (.isub, 1) := by decide +kernel
theorem dX11_addRow_22 : decode cX11_addRow 22 = .ok (.invokestatic 80, 3) := by decide +kernel
theorem dX11_addRow_25 : decode cX11_addRow 25 = .ok (.ifCond .ne 6, 3) := by decide +kernel
theorem dX11_addRow_28 : decode cX11_addRow 28 = .ok (.bipush (-2), 2) := by decide +kernel
theorem dX11_addRow_30 : decode cX11_addRow 30 = .ok (.ireturn, 1) := by decide +kernel
theorem dX11_addRow_31 : decode cX11_addRow 31 = .ok (.aload_n 0, 1) := by decide +kernel
theorem dX11_addRow_32 : decode cX11_addRow 32 = .ok (.invokevirtual 230, 3) := by decide +kernel
theorem dX11_addRow_35 : decode cX11_addRow 35 = .ok (.istore_n 3, 1) := by decide +kernel
theorem dX11_addRow_36 : decode cX11_addRow 36 = .ok (.iload_n 3, 1) := by decide +kernel
theorem dX11_addRow_37 : decode cX11_addRow 37 = .ok (.bipush (-6), 2) := by decide +kernel
theorem dX11_addRow_39 : decode cX11_addRow 39 = .ok (.if_icmp .ne 6, 3) := by decide +kernel
theorem dX11_addRow_42 : decode cX11_addRow 42 = .ok (.bipush (-4), 2) := by decide +kernel
theorem dX11_addRow_44 : decode cX11_addRow 44 = .ok (.ireturn, 1) := by decide +kernel
theorem dX11_addRow_45 : decode cX11_addRow 45 = .ok (.aload_n 0, 1) := by decide +kernel
theorem dX11_addRow_46 : decode cX11_addRow 46 = .ok (.iload_n 3, 1) := by decide +kernel
theorem dX11_addRow_47 : decode cX11_addRow 47 = .ok (.iload_n 1, 1) := by decide +kernel
theorem dX11_addRow_48 : decode cX11_addRow 48 = .ok (.iconst 1, 1) := by decide +kernel
theorem dX11_addRow_49 : decode cX11_addRow 49 = .ok (.iadd, 1) := by decide +kernel
theorem dX11_addRow_50 : decode cX11_addRow 50 = .ok (.iload_n 2, 1) := by decide +kernel
theorem dX11_addRow_51 : decode cX11_addRow 51 = .ok (.invokevirtual 233, 3) := by decide +kernel
theorem dX11_addRow_54 : decode cX11_addRow 54 = .ok (.aload_n 0, 1) := by decide +kernel
theorem dX11_addRow_55 : decode cX11_addRow 55 = .ok (.invokevirtual 236, 3) := by decide +kernel
theorem dX11_addRow_58 : decode cX11_addRow 58 = .ok (.istore 4, 2) := by decide +kernel
theorem dX11_addRow_60 : decode cX11_addRow 60 = .ok (.aload_n 0, 1) := by decide +kernel
theorem dX11_addRow_61 : decode cX11_addRow 61 = .ok (.iload_n 3, 1) := by decide +kernel
theorem dX11_addRow_62 : decode cX11_addRow 62 = .ok (.iconst 0, 1) := by decide +kernel
theorem dX11_addRow_63 : decode cX11_addRow 63 = .ok (.iconst 0, 1) := by decide +kernel
theorem dX11_addRow_64 : decode cX11_addRow 64 = .ok (.invokevirtual 233, 3) := by decide +kernel
theorem dX11_addRow_67 : decode cX11_addRow 67 = .ok (.aload_n 0, 1) := by decide +kernel
theorem dX11_addRow_68 : decode cX11_addRow 68 = .ok (.iconst 0, 1) := by decide +kernel
theorem dX11_addRow_69 : decode cX11_addRow 69 = .ok (.putfield 76, 3) := by decide +kernel
theorem dX11_addRow_72 : decode cX11_addRow 72 = .ok (.iload 4, 2) := by decide +kernel
theorem dX11_addRow_74 : decode cX11_addRow 74 = .ok (.ifCond .ne 6, 3) := by decide +kernel
theorem dX11_addRow_77 : decode cX11_addRow 77 = .ok (.bipush (-4), 2) := by decide +kernel
theorem dX11_addRow_79 : decode cX11_addRow 79 = .ok (.ireturn, 1) := by decide +kernel
theorem dX11_addRow_80 : decode cX11_addRow 80 = .ok (.aload_n 0, 1) := by decide +kernel
theorem dX11_addRow_81 : decode cX11_addRow 81 = .ok (.invokevirtual 224, 3) := by decide +kernel
theorem dX11_addRow_84 : decode cX11_addRow 84 = .ok (.aload_n 0, 1) := by decide +kernel
theorem dX11_addRow_85 : decode cX11_addRow 85 = .ok (.iload_n 3, 1) := by decide +kernel
theorem dX11_addRow_86 : decode cX11_addRow 86 = .ok (.iload_n 1, 1) := by decide +kernel
theorem dX11_addRow_87 : decode cX11_addRow 87 = .ok (.iconst 1, 1) := by decide +kernel
theorem dX11_addRow_88 : decode cX11_addRow 88 = .ok (.iadd, 1) := by decide +kernel
theorem dX11_addRow_89 : decode cX11_addRow 89 = .ok (.iload_n 2, 1) := by decide +kernel
theorem dX11_addRow_90 : decode cX11_addRow 90 = .ok (.invokevirtual 233, 3) := by decide +kernel
theorem dX11_addRow_93 : decode cX11_addRow 93 = .ok (.iload_n 3, 1) := by decide +kernel
theorem dX11_addRow_94 : decode cX11_addRow 94 = .ok (.ireturn, 1) := by decide +kernel
theorem dX11_ones_0 : decode cX11_ones 0 = .ok (.iconst 0, 1) := by decide +kernel
theorem dX11_ones_1 : decode cX11_ones 1 = .ok (.istore_n 1, 1) := by decide +kernel
theorem dX11_ones_2 : decode cX11_ones 2 = .ok (.iload_n 0, 1) := by decide +kernel
theorem dX11_ones_3 : decode cX11_ones 3 = .ok (.istore_n 2, 1) := by decide +kernel
theorem dX11_ones_4 : decode cX11_ones 4 = .ok (.iload_n 2, 1) := by decide +kernel
theorem dX11_ones_5 : decode cX11_ones 5 = .ok (.ifCond .eq 15, 3) := by decide +kernel
theorem dX11_ones_8 : decode cX11_ones 8 = .ok (.iinc 1 1, 3) := by decide +kernel
theorem dX11_ones_11 : decode cX11_ones 11 = .ok (.iload_n 2, 1) := by decide +kernel
theorem dX11_ones_12 : decode cX11_ones 12 = .ok (.iload_n 2, 1) := by decide +kernel
theorem dX11_ones_13 : decode cX11_ones 13 = .ok (.iconst 1, 1) := by decide +kernel
theorem dX11_ones_14 : decode cX11_ones 14 = .ok (.isub, 1) := by decide +kernel
theorem dX11_ones_15 : decode cX11_ones 15 = .ok (.iand, 1) := by decide +kernel
theorem dX11_ones_16 : decode cX11_ones 16 = .ok (.istore_n 2, 1) := by decide +kernel
theorem dX11_ones_17 : decode cX11_ones 17 = .ok (.goto (-13), 3) := by decide +kernel
theorem dX11_ones_20 : decode cX11_ones 20 = .ok (.iload_n 1, 1) := by decide +kernel
theorem dX11_ones_21 : decode cX11_ones 21 = .ok (.ireturn, 1) := by decide +kernel
theorem dX11_dropRow_0 : decode cX11_dropRow 0 = .ok (.aload_n 0, 1) := by decide +kernel
theorem dX11_dropRow_1 : decode cX11_dropRow 1 = .ok (.iload_n 1, 1) := by decide +kernel
theorem dX11_dropRow_2 : decode cX11_dropRow 2 = .ok (.invokevirtual 239, 3) := by decide +kernel
theorem dX11_dropRow_5 : decode cX11_dropRow 5 = .ok (.ifCond .ne 5, 3) := by decide +kernel
theorem dX11_dropRow_8 : decode cX11_dropRow 8 = .ok (.iconst (-1), 1) := by decide +kernel
theorem dX11_dropRow_9 : decode cX11_dropRow 9 = .ok (.ireturn, 1) := by decide +kernel
theorem dX11_dropRow_10 : decode cX11_dropRow 10 = .ok (.aload_n 0, 1) := by decide +kernel
theorem dX11_dropRow_11 : decode cX11_dropRow 11 = .ok (.invokevirtual 224, 3) := by decide +kernel
theorem dX11_dropRow_14 : decode cX11_dropRow 14 = .ok (.aload_n 0, 1) := by decide +kernel
theorem dX11_dropRow_15 : decode cX11_dropRow 15 = .ok (.iload_n 1, 1) := by decide +kernel
theorem dX11_dropRow_16 : decode cX11_dropRow 16 = .ok (.iconst 0, 1) := by decide +kernel
theorem dX11_dropRow_17 : decode cX11_dropRow 17 = .ok (.iconst 0, 1) := by decide +kernel
theorem dX11_dropRow_18 : decode cX11_dropRow 18 = .ok (.invokevirtual 233, 3) := by decide +kernel
theorem dX11_dropRow_21 : decode cX11_dropRow 21 = .ok (.aload_n 0, 1) := by decide +kernel
theorem dX11_dropRow_22 : decode cX11_dropRow 22 = .ok (.iconst 0, 1) := by decide +kernel
theorem dX11_dropRow_23 : decode cX11_dropRow 23 = .ok (.invokevirtual 242, 3) := by decide +kernel
theorem dX11_dropRow_26 : decode cX11_dropRow 26 = .ok (.invokestatic 246, 3) := by decide +kernel
theorem dX11_dropRow_29 : decode cX11_dropRow 29 = .ok (.ireturn, 1) := by decide +kernel
theorem dX11_setCost_0 : decode cX11_setCost 0 = .ok (.aload_n 0, 1) := by decide +kernel
theorem dX11_setCost_1 : decode cX11_setCost 1 = .ok (.iload_n 1, 1) := by decide +kernel
theorem dX11_setCost_2 : decode cX11_setCost 2 = .ok (.invokevirtual 239, 3) := by decide +kernel
theorem dX11_setCost_5 : decode cX11_setCost 5 = .ok (.ifCond .ne 5, 3) := by decide +kernel
theorem dX11_setCost_8 : decode cX11_setCost 8 = .ok (.iconst (-1), 1) := by decide +kernel
theorem dX11_setCost_9 : decode cX11_setCost 9 = .ok (.ireturn, 1) := by decide +kernel
theorem dX11_setCost_10 : decode cX11_setCost 10 = .ok (.iload_n 2, 1) := by decide +kernel
theorem dX11_setCost_11 : decode cX11_setCost 11 = .ok (.iconst 0, 1) := by decide +kernel
theorem dX11_setCost_12 : decode cX11_setCost 12 = .ok (.sipush 999, 3) := by decide +kernel
theorem dX11_setCost_15 : decode cX11_setCost 15 = .ok (.invokestatic 80, 3) := by decide +kernel
theorem dX11_setCost_18 : decode cX11_setCost 18 = .ok (.ifCond .ne 6, 3) := by decide +kernel
theorem dX11_setCost_21 : decode cX11_setCost 21 = .ok (.bipush (-2), 2) := by decide +kernel
theorem dX11_setCost_23 : decode cX11_setCost 23 = .ok (.ireturn, 1) := by decide +kernel
theorem dX11_setCost_24 : decode cX11_setCost 24 = .ok (.aload_n 0, 1) := by decide +kernel
theorem dX11_setCost_25 : decode cX11_setCost 25 = .ok (.invokevirtual 224, 3) := by decide +kernel
theorem dX11_setCost_28 : decode cX11_setCost 28 = .ok (.aload_n 0, 1) := by decide +kernel
theorem dX11_setCost_29 : decode cX11_setCost 29 = .ok (.iload_n 1, 1) := by decide +kernel
theorem dX11_setCost_30 : decode cX11_setCost 30 = .ok (.iconst 2, 1) := by decide +kernel
theorem dX11_setCost_31 : decode cX11_setCost 31 = .ok (.invokevirtual 84, 3) := by decide +kernel
theorem dX11_setCost_34 : decode cX11_setCost 34 = .ok (.istore_n 3, 1) := by decide +kernel
theorem dX11_setCost_35 : decode cX11_setCost 35 = .ok (.aload_n 0, 1) := by decide +kernel
theorem dX11_setCost_36 : decode cX11_setCost 36 = .ok (.iload_n 1, 1) := by decide +kernel
theorem dX11_setCost_37 : decode cX11_setCost 37 = .ok (.iconst 2, 1) := by decide +kernel
theorem dX11_setCost_38 : decode cX11_setCost 38 = .ok (.iload_n 2, 1) := by decide +kernel
theorem dX11_setCost_39 : decode cX11_setCost 39 = .ok (.invokevirtual 227, 3) := by decide +kernel
theorem dX11_setCost_42 : decode cX11_setCost 42 = .ok (.iload_n 3, 1) := by decide +kernel
theorem dX11_setCost_43 : decode cX11_setCost 43 = .ok (.ireturn, 1) := by decide +kernel
theorem dX11_setTrust_0 : decode cX11_setTrust 0 = .ok (.aload_n 0, 1) := by decide +kernel
theorem dX11_setTrust_1 : decode cX11_setTrust 1 = .ok (.iload_n 1, 1) := by decide +kernel
theorem dX11_setTrust_2 : decode cX11_setTrust 2 = .ok (.invokevirtual 239, 3) := by decide +kernel
theorem dX11_setTrust_5 : decode cX11_setTrust 5 = .ok (.ifCond .ne 5, 3) := by decide +kernel
theorem dX11_setTrust_8 : decode cX11_setTrust 8 = .ok (.iconst (-1), 1) := by decide +kernel
theorem dX11_setTrust_9 : decode cX11_setTrust 9 = .ok (.ireturn, 1) := by decide +kernel
theorem dX11_setTrust_10 : decode cX11_setTrust 10 = .ok (.iload_n 2, 1) := by decide +kernel
theorem dX11_setTrust_11 : decode cX11_setTrust 11 = .ok (.iconst 0, 1) := by decide +kernel
theorem dX11_setTrust_12 : decode cX11_setTrust 12 = .ok (.bipush 100, 2) := by decide +kernel
theorem dX11_setTrust_14 : decode cX11_setTrust 14 = .ok (.invokestatic 80, 3) := by decide +kernel
theorem dX11_setTrust_17 : decode cX11_setTrust 17 = .ok (.ifCond .ne 6, 3) := by decide +kernel
theorem dX11_setTrust_20 : decode cX11_setTrust 20 = .ok (.bipush (-2), 2) := by decide +kernel
theorem dX11_setTrust_22 : decode cX11_setTrust 22 = .ok (.ireturn, 1) := by decide +kernel
theorem dX11_setTrust_23 : decode cX11_setTrust 23 = .ok (.aload_n 0, 1) := by decide +kernel
theorem dX11_setTrust_24 : decode cX11_setTrust 24 = .ok (.invokevirtual 224, 3) := by decide +kernel
theorem dX11_setTrust_27 : decode cX11_setTrust 27 = .ok (.aload_n 0, 1) := by decide +kernel
theorem dX11_setTrust_28 : decode cX11_setTrust 28 = .ok (.iload_n 1, 1) := by decide +kernel
theorem dX11_setTrust_29 : decode cX11_setTrust 29 = .ok (.iconst 3, 1) := by decide +kernel
theorem dX11_setTrust_30 : decode cX11_setTrust 30 = .ok (.invokevirtual 84, 3) := by decide +kernel
theorem dX11_setTrust_33 : decode cX11_setTrust 33 = .ok (.istore_n 3, 1) := by decide +kernel
theorem dX11_setTrust_34 : decode cX11_setTrust 34 = .ok (.aload_n 0, 1) := by decide +kernel
theorem dX11_setTrust_35 : decode cX11_setTrust 35 = .ok (.iload_n 1, 1) := by decide +kernel
theorem dX11_setTrust_36 : decode cX11_setTrust 36 = .ok (.iconst 3, 1) := by decide +kernel
theorem dX11_setTrust_37 : decode cX11_setTrust 37 = .ok (.iload_n 2, 1) := by decide +kernel
theorem dX11_setTrust_38 : decode cX11_setTrust 38 = .ok (.invokevirtual 227, 3) := by decide +kernel
theorem dX11_setTrust_41 : decode cX11_setTrust 41 = .ok (.iload_n 3, 1) := by decide +kernel
theorem dX11_setTrust_42 : decode cX11_setTrust 42 = .ok (.ireturn, 1) := by decide +kernel
theorem dX11_setWithdrawn_0 : decode cX11_setWithdrawn 0 = .ok (.aload_n 0, 1) := by decide +kernel
theorem dX11_setWithdrawn_1 : decode cX11_setWithdrawn 1 = .ok (.iload_n 1, 1) := by decide +kernel
theorem dX11_setWithdrawn_2 : decode cX11_setWithdrawn 2 = .ok (.invokevirtual 239, 3) := by decide +kernel
theorem dX11_setWithdrawn_5 : decode cX11_setWithdrawn 5 = .ok (.ifCond .ne 5, 3) := by decide +kernel
theorem dX11_setWithdrawn_8 : decode cX11_setWithdrawn 8 = .ok (.iconst (-1), 1) := by decide +kernel
theorem dX11_setWithdrawn_9 : decode cX11_setWithdrawn 9 = .ok (.ireturn, 1) := by decide +kernel
theorem dX11_setWithdrawn_10 : decode cX11_setWithdrawn 10 = .ok (.aload_n 0, 1) := by decide +kernel
theorem dX11_setWithdrawn_11 : decode cX11_setWithdrawn 11 = .ok (.invokevirtual 224, 3) := by decide +kernel
theorem dX11_setWithdrawn_14 : decode cX11_setWithdrawn 14 = .ok (.aload_n 0, 1) := by decide +kernel
theorem dX11_setWithdrawn_15 : decode cX11_setWithdrawn 15 = .ok (.iload_n 1, 1) := by decide +kernel
theorem dX11_setWithdrawn_16 : decode cX11_setWithdrawn 16 = .ok (.iconst 4, 1) := by decide +kernel
theorem dX11_setWithdrawn_17 : decode cX11_setWithdrawn 17 = .ok (.iload_n 2, 1) := by decide +kernel
theorem dX11_setWithdrawn_18 : decode cX11_setWithdrawn 18 = .ok (.ifCond .eq 7, 3) := by decide +kernel
theorem dX11_setWithdrawn_21 : decode cX11_setWithdrawn 21 = .ok (.iconst 1, 1) := by decide +kernel
theorem dX11_setWithdrawn_22 : decode cX11_setWithdrawn 22 = .ok (.goto 4, 3) := by decide +kernel
theorem dX11_setWithdrawn_25 : decode cX11_setWithdrawn 25 = .ok (.iconst 0, 1) := by decide +kernel
theorem dX11_setWithdrawn_26 : decode cX11_setWithdrawn 26 = .ok (.invokevirtual 227, 3) := by decide +kernel
theorem dX11_setWithdrawn_29 : decode cX11_setWithdrawn 29 = .ok (.aload_n 0, 1) := by decide +kernel
theorem dX11_setWithdrawn_30 : decode cX11_setWithdrawn 30 = .ok (.aload_n 0, 1) := by decide +kernel
theorem dX11_setWithdrawn_31 : decode cX11_setWithdrawn 31 = .ok (.iconst 1, 1) := by decide +kernel
theorem dX11_setWithdrawn_32 : decode cX11_setWithdrawn 32 = .ok (.invokevirtual 242, 3) := by decide +kernel
theorem dX11_setWithdrawn_35 : decode cX11_setWithdrawn 35 = .ok (.invokevirtual 249, 3) := by decide +kernel
theorem dX11_setWithdrawn_38 : decode cX11_setWithdrawn 38 = .ok (.ireturn, 1) := by decide +kernel
theorem dX11_setQuery_0 : decode cX11_setQuery 0 = .ok (.aload_n 0, 1) := by decide +kernel
theorem dX11_setQuery_1 : decode cX11_setQuery 1 = .ok (.invokevirtual 252, 3) := by decide +kernel
theorem dX11_setQuery_4 : decode cX11_setQuery 4 = .ok (.aload_n 0, 1) := by decide +kernel
theorem dX11_setQuery_5 : decode cX11_setQuery 5 = .ok (.iconst 0, 1) := by decide +kernel
theorem dX11_setQuery_6 : decode cX11_setQuery 6 = .ok (.putfield 76, 3) := by decide +kernel
theorem dX11_setQuery_9 : decode cX11_setQuery 9 = .ok (.aload_n 0, 1) := by decide +kernel
theorem dX11_setQuery_10 : decode cX11_setQuery 10 = .ok (.invokevirtual 209, 3) := by decide +kernel
theorem dX11_setQuery_13 : decode cX11_setQuery 13 = .ok (.ifCond .ne 6, 3) := by decide +kernel
theorem dX11_setQuery_16 : decode cX11_setQuery 16 = .ok (.bipush (-3), 2) := by decide +kernel
theorem dX11_setQuery_18 : decode cX11_setQuery 18 = .ok (.ireturn, 1) := by decide +kernel
theorem dX11_setQuery_19 : decode cX11_setQuery 19 = .ok (.aload_n 0, 1) := by decide +kernel
theorem dX11_setQuery_20 : decode cX11_setQuery 20 = .ok (.invokevirtual 255, 3) := by decide +kernel
theorem dX11_setQuery_23 : decode cX11_setQuery 23 = .ok (.ifCond .ne 6, 3) := by decide +kernel
theorem dX11_setQuery_26 : decode cX11_setQuery 26 = .ok (.bipush (-5), 2) := by decide +kernel
theorem dX11_setQuery_28 : decode cX11_setQuery 28 = .ok (.ireturn, 1) := by decide +kernel
theorem dX11_setQuery_29 : decode cX11_setQuery 29 = .ok (.aload_n 0, 1) := by decide +kernel
theorem dX11_setQuery_30 : decode cX11_setQuery 30 = .ok (.invokevirtual 212, 3) := by decide +kernel
theorem dX11_setQuery_33 : decode cX11_setQuery 33 = .ok (.ifCond .ne 6, 3) := by decide +kernel
theorem dX11_setQuery_36 : decode cX11_setQuery 36 = .ok (.bipush (-4), 2) := by decide +kernel
theorem dX11_setQuery_38 : decode cX11_setQuery 38 = .ok (.ireturn, 1) := by decide +kernel
theorem dX11_setQuery_39 : decode cX11_setQuery 39 = .ok (.aload_n 0, 1) := by decide +kernel
theorem dX11_setQuery_40 : decode cX11_setQuery 40 = .ok (.invokevirtual 224, 3) := by decide +kernel
theorem dX11_setQuery_43 : decode cX11_setQuery 43 = .ok (.aload_n 0, 1) := by decide +kernel
theorem dX11_setQuery_44 : decode cX11_setQuery 44 = .ok (.getfield 7, 3) := by decide +kernel
theorem dX11_setQuery_47 : decode cX11_setQuery 47 = .ok (.bipush 84, 2) := by decide +kernel
theorem dX11_setQuery_49 : decode cX11_setQuery 49 = .ok (.aload_n 0, 1) := by decide +kernel
theorem dX11_setQuery_50 : decode cX11_setQuery 50 = .ok (.getfield 135, 3) := by decide +kernel
theorem dX11_setQuery_53 : decode cX11_setQuery 53 = .ok (.iastore, 1) := by decide +kernel
theorem dX11_setQuery_54 : decode cX11_setQuery 54 = .ok (.iconst 0, 1) := by decide +kernel
theorem dX11_setQuery_55 : decode cX11_setQuery 55 = .ok (.istore_n 1, 1) := by decide +kernel
theorem dX11_setQuery_56 : decode cX11_setQuery 56 = .ok (.iload_n 1, 1) := by decide +kernel
theorem dX11_setQuery_57 : decode cX11_setQuery 57 = .ok (.bipush 60, 2) := by decide +kernel
theorem dX11_setQuery_59 : decode cX11_setQuery 59 = .ok (.if_icmp .ge 36, 3) := by decide +kernel
theorem dX11_setQuery_62 : decode cX11_setQuery 62 = .ok (.aload_n 0, 1) := by decide +kernel
theorem dX11_setQuery_63 : decode cX11_setQuery 63 = .ok (.getfield 7, 3) := by decide +kernel
theorem dX11_setQuery_66 : decode cX11_setQuery 66 = .ok (.bipush 85, 2) := by decide +kernel
theorem dX11_setQuery_68 : decode cX11_setQuery 68 = .ok (.iload_n 1, 1) := by decide +kernel
theorem dX11_setQuery_69 : decode cX11_setQuery 69 = .ok (.iadd, 1) := by decide +kernel
theorem dX11_setQuery_70 : decode cX11_setQuery 70 = .ok (.iload_n 1, 1) := by decide +kernel
theorem dX11_setQuery_71 : decode cX11_setQuery 71 = .ok (.aload_n 0, 1) := by decide +kernel
theorem dX11_setQuery_72 : decode cX11_setQuery 72 = .ok (.getfield 135, 3) := by decide +kernel
theorem dX11_setQuery_75 : decode cX11_setQuery 75 = .ok (.if_icmp .ge 12, 3) := by decide +kernel
theorem dX11_setQuery_78 : decode cX11_setQuery 78 = .ok (.aload_n 0, 1) := by decide +kernel
theorem dX11_setQuery_79 : decode cX11_setQuery 79 = .ok (.getfield 16, 3) := by decide +kernel
theorem dX11_setQuery_82 : decode cX11_setQuery 82 = .ok (.iload_n 1, 1) := by decide +kernel
theorem dX11_setQuery_83 : decode cX11_setQuery 83 = .ok (.iaload, 1) := by decide +kernel
theorem dX11_setQuery_84 : decode cX11_setQuery 84 = .ok (.goto 4, 3) := by decide +kernel
theorem dX11_setQuery_87 : decode cX11_setQuery 87 = .ok (.iconst 0, 1) := by decide +kernel
theorem dX11_setQuery_88 : decode cX11_setQuery 88 = .ok (.iastore, 1) := by decide +kernel
theorem dX11_setQuery_89 : decode cX11_setQuery 89 = .ok (.iinc 1 1, 3) := by decide +kernel
theorem dX11_setQuery_92 : decode cX11_setQuery 92 = .ok (.goto (-36), 3) := by decide +kernel
theorem dX11_setQuery_95 : decode cX11_setQuery 95 = .ok (.aload_n 0, 1) := by decide +kernel
theorem dX11_setQuery_96 : decode cX11_setQuery 96 = .ok (.invokevirtual 258, 3) := by decide +kernel
theorem dX11_setQuery_99 : decode cX11_setQuery 99 = .ok (.aload_n 0, 1) := by decide +kernel
theorem dX11_setQuery_100 : decode cX11_setQuery 100 = .ok (.getfield 46, 3) := by decide +kernel
theorem dX11_setQuery_103 : decode cX11_setQuery 103 = .ok (.iconst 0, 1) := by decide +kernel
theorem dX11_setQuery_104 : decode cX11_setQuery 104 = .ok (.iaload, 1) := by decide +kernel
theorem dX11_setQuery_105 : decode cX11_setQuery 105 = .ok (.ireturn, 1) := by decide +kernel
theorem dX11_dropQuery_0 : decode cX11_dropQuery 0 = .ok (.aload_n 0, 1) := by decide +kernel
theorem dX11_dropQuery_1 : decode cX11_dropQuery 1 = .ok (.getfield 7, 3) := by decide +kernel
theorem dX11_dropQuery_4 : decode cX11_dropQuery 4 = .ok (.bipush 84, 2) := by decide +kernel
theorem dX11_dropQuery_6 : decode cX11_dropQuery 6 = .ok (.iaload, 1) := by decide +kernel
theorem dX11_dropQuery_7 : decode cX11_dropQuery 7 = .ok (.ifCond .ne 6, 3) := by decide +kernel
theorem dX11_dropQuery_10 : decode cX11_dropQuery 10 = .ok (.bipush (-5), 2) := by decide +kernel
theorem dX11_dropQuery_12 : decode cX11_dropQuery 12 = .ok (.ireturn, 1) := by decide +kernel
theorem dX11_dropQuery_13 : decode cX11_dropQuery 13 = .ok (.aload_n 0, 1) := by decide +kernel
theorem dX11_dropQuery_14 : decode cX11_dropQuery 14 = .ok (.invokevirtual 258, 3) := by decide +kernel
theorem dX11_dropQuery_17 : decode cX11_dropQuery 17 = .ok (.aload_n 0, 1) := by decide +kernel
theorem dX11_dropQuery_18 : decode cX11_dropQuery 18 = .ok (.getfield 46, 3) := by decide +kernel
theorem dX11_dropQuery_21 : decode cX11_dropQuery 21 = .ok (.iconst 0, 1) := by decide +kernel
theorem dX11_dropQuery_22 : decode cX11_dropQuery 22 = .ok (.iaload, 1) := by decide +kernel
theorem dX11_dropQuery_23 : decode cX11_dropQuery 23 = .ok (.istore_n 1, 1) := by decide +kernel
theorem dX11_dropQuery_24 : decode cX11_dropQuery 24 = .ok (.aload_n 0, 1) := by decide +kernel
theorem dX11_dropQuery_25 : decode cX11_dropQuery 25 = .ok (.invokevirtual 224, 3) := by decide +kernel
theorem dX11_dropQuery_28 : decode cX11_dropQuery 28 = .ok (.bipush 84, 2) := by decide +kernel
theorem dX11_dropQuery_30 : decode cX11_dropQuery 30 = .ok (.istore_n 2, 1) := by decide +kernel
theorem dX11_dropQuery_31 : decode cX11_dropQuery 31 = .ok (.iload_n 2, 1) := by decide +kernel
theorem dX11_dropQuery_32 : decode cX11_dropQuery 32 = .ok (.sipush 145, 3) := by decide +kernel
theorem dX11_dropQuery_35 : decode cX11_dropQuery 35 = .ok (.if_icmp .ge 16, 3) := by decide +kernel
theorem dX11_dropQuery_38 : decode cX11_dropQuery 38 = .ok (.aload_n 0, 1) := by decide +kernel
theorem dX11_dropQuery_39 : decode cX11_dropQuery 39 = .ok (.getfield 7, 3) := by decide +kernel
theorem dX11_dropQuery_42 : decode cX11_dropQuery 42 = .ok (.iload_n 2, 1) := by decide +kernel
theorem dX11_dropQuery_43 : decode cX11_dropQuery 43 = .ok (.iconst 0, 1) := by decide +kernel
theorem dX11_dropQuery_44 : decode cX11_dropQuery 44 = .ok (.iastore, 1) := by decide +kernel
theorem dX11_dropQuery_45 : decode cX11_dropQuery 45 = .ok (.iinc 2 1, 3) := by decide +kernel
theorem dX11_dropQuery_48 : decode cX11_dropQuery 48 = .ok (.goto (-17), 3) := by decide +kernel
theorem dX11_dropQuery_51 : decode cX11_dropQuery 51 = .ok (.iload_n 1, 1) := by decide +kernel
theorem dX11_dropQuery_52 : decode cX11_dropQuery 52 = .ok (.ireturn, 1) := by decide +kernel
theorem dX11_append_0 : decode cX11_append 0 = .ok (.iload_n 1, 1) := by decide +kernel
theorem dX11_append_1 : decode cX11_append 1 = .ok (.bipush 32, 2) := by decide +kernel
theorem dX11_append_3 : decode cX11_append 3 = .ok (.bipush 126, 2) := by decide +kernel
theorem dX11_append_5 : decode cX11_append 5 = .ok (.invokestatic 80, 3) := by decide +kernel
theorem dX11_append_8 : decode cX11_append 8 = .ok (.ifCond .ne 6, 3) := by decide +kernel
theorem dX11_append_11 : decode cX11_append 11 = .ok (.bipush (-2), 2) := by decide +kernel
theorem dX11_append_13 : decode cX11_append 13 = .ok (.ireturn, 1) := by decide +kernel
theorem dX11_append_14 : decode cX11_append 14 = .ok (.aload_n 0, 1) := by decide +kernel
theorem dX11_append_15 : decode cX11_append 15 = .ok (.getfield 135, 3) := by decide +kernel
theorem dX11_append_18 : decode cX11_append 18 = .ok (.bipush 60, 2) := by decide +kernel
theorem dX11_append_20 : decode cX11_append 20 = .ok (.if_icmp .ne 6, 3) := by decide +kernel
theorem dX11_append_23 : decode cX11_append 23 = .ok (.bipush (-4), 2) := by decide +kernel
theorem dX11_append_25 : decode cX11_append 25 = .ok (.ireturn, 1) := by decide +kernel
theorem dX11_append_26 : decode cX11_append 26 = .ok (.aload_n 0, 1) := by decide +kernel
theorem dX11_append_27 : decode cX11_append 27 = .ok (.getfield 16, 3) := by decide +kernel
theorem dX11_append_30 : decode cX11_append 30 = .ok (.aload_n 0, 1) := by decide +kernel
theorem dX11_append_31 : decode cX11_append 31 = .ok (.getfield 135, 3) := by decide +kernel
theorem dX11_append_34 : decode cX11_append 34 = .ok (.iload_n 1, 1) := by decide +kernel
theorem dX11_append_35 : decode cX11_append 35 = .ok (.iastore, 1) := by decide +kernel
theorem dX11_append_36 : decode cX11_append 36 = .ok (.aload_n 0, 1) := by decide +kernel
theorem dX11_append_37 : decode cX11_append 37 = .ok (.dup, 1) := by decide +kernel
theorem dX11_append_38 : decode cX11_append 38 = .ok (.getfield 135, 3) := by decide +kernel
theorem dX11_append_41 : decode cX11_append 41 = .ok (.iconst 1, 1) := by decide +kernel
theorem dX11_append_42 : decode cX11_append 42 = .ok (.iadd, 1) := by decide +kernel
theorem dX11_append_43 : decode cX11_append 43 = .ok (.putfield 135, 3) := by decide +kernel
theorem dX11_append_46 : decode cX11_append 46 = .ok (.aload_n 0, 1) := by decide +kernel
theorem dX11_append_47 : decode cX11_append 47 = .ok (.getfield 135, 3) := by decide +kernel
theorem dX11_append_50 : decode cX11_append 50 = .ok (.ireturn, 1) := by decide +kernel
theorem dX11_clearText_0 : decode cX11_clearText 0 = .ok (.aload_n 0, 1) := by decide +kernel
theorem dX11_clearText_1 : decode cX11_clearText 1 = .ok (.getfield 135, 3) := by decide +kernel
theorem dX11_clearText_4 : decode cX11_clearText 4 = .ok (.istore_n 1, 1) := by decide +kernel
theorem dX11_clearText_5 : decode cX11_clearText 5 = .ok (.aload_n 0, 1) := by decide +kernel
theorem dX11_clearText_6 : decode cX11_clearText 6 = .ok (.iconst 0, 1) := by decide +kernel
theorem dX11_clearText_7 : decode cX11_clearText 7 = .ok (.putfield 135, 3) := by decide +kernel
theorem dX11_clearText_10 : decode cX11_clearText 10 = .ok (.iload_n 1, 1) := by decide +kernel
theorem dX11_clearText_11 : decode cX11_clearText 11 = .ok (.ireturn, 1) := by decide +kernel
theorem dX11_fault_0 : decode cX11_fault 0 = .ok (.aload_n 0, 1) := by decide +kernel
theorem dX11_fault_1 : decode cX11_fault 1 = .ok (.invokevirtual 252, 3) := by decide +kernel
theorem dX11_fault_4 : decode cX11_fault 4 = .ok (.aload_n 0, 1) := by decide +kernel
theorem dX11_fault_5 : decode cX11_fault 5 = .ok (.iconst 0, 1) := by decide +kernel
theorem dX11_fault_6 : decode cX11_fault 6 = .ok (.putfield 76, 3) := by decide +kernel
theorem dX11_fault_9 : decode cX11_fault 9 = .ok (.aload_n 0, 1) := by decide +kernel
theorem dX11_fault_10 : decode cX11_fault 10 = .ok (.invokevirtual 209, 3) := by decide +kernel
theorem dX11_fault_13 : decode cX11_fault 13 = .ok (.ifCond .eq 8, 3) := by decide +kernel
theorem dX11_fault_16 : decode cX11_fault 16 = .ok (.bipush (-6), 2) := by decide +kernel
theorem dX11_fault_18 : decode cX11_fault 18 = .ok (.goto 7, 3) := by decide +kernel
theorem dX11_fault_21 : decode cX11_fault 21 = .ok (.aload_n 0, 1) := by decide +kernel
theorem dX11_fault_22 : decode cX11_fault 22 = .ok (.getfield 88, 3) := by decide +kernel
theorem dX11_fault_25 : decode cX11_fault 25 = .ok (.ireturn, 1) := by decide +kernel
theorem dX11_undo_0 : decode cX11_undo 0 = .ok (.aload_n 0, 1) := by decide +kernel
theorem dX11_undo_1 : decode cX11_undo 1 = .ok (.getfield 72, 3) := by decide +kernel
theorem dX11_undo_4 : decode cX11_undo 4 = .ok (.ifCond .ne 6, 3) := by decide +kernel
theorem dX11_undo_7 : decode cX11_undo 7 = .ok (.bipush (-6), 2) := by decide +kernel
theorem dX11_undo_9 : decode cX11_undo 9 = .ok (.ireturn, 1) := by decide +kernel
theorem dX11_undo_10 : decode cX11_undo 10 = .ok (.aload_n 0, 1) := by decide +kernel
theorem dX11_undo_11 : decode cX11_undo 11 = .ok (.dup, 1) := by decide +kernel
theorem dX11_undo_12 : decode cX11_undo 12 = .ok (.getfield 72, 3) := by decide +kernel
theorem dX11_undo_15 : decode cX11_undo 15 = .ok (.iconst 1, 1) := by decide +kernel
theorem dX11_undo_16 : decode cX11_undo 16 = .ok (.isub, 1) := by decide +kernel
theorem dX11_undo_17 : decode cX11_undo 17 = .ok (.putfield 72, 3) := by decide +kernel
theorem dX11_undo_20 : decode cX11_undo 20 = .ok (.iconst 0, 1) := by decide +kernel
theorem dX11_undo_21 : decode cX11_undo 21 = .ok (.istore_n 1, 1) := by decide +kernel
theorem dX11_undo_22 : decode cX11_undo 22 = .ok (.iload_n 1, 1) := by decide +kernel
theorem dX11_undo_23 : decode cX11_undo 23 = .ok (.sipush 145, 3) := by decide +kernel
theorem dX11_undo_26 : decode cX11_undo 26 = .ok (.if_icmp .ge 30, 3) := by decide +kernel
theorem dX11_undo_29 : decode cX11_undo 29 = .ok (.aload_n 0, 1) := by decide +kernel
theorem dX11_undo_30 : decode cX11_undo 30 = .ok (.getfield 7, 3) := by decide +kernel
theorem dX11_undo_33 : decode cX11_undo 33 = .ok (.iload_n 1, 1) := by decide +kernel
theorem dX11_undo_34 : decode cX11_undo 34 = .ok (.aload_n 0, 1) := by decide +kernel
theorem dX11_undo_35 : decode cX11_undo 35 = .ok (.getfield 13, 3) := by decide +kernel
theorem dX11_undo_38 : decode cX11_undo 38 = .ok (.sipush 145, 3) := by decide +kernel
theorem dX11_undo_41 : decode cX11_undo 41 = .ok (.aload_n 0, 1) := by decide +kernel
theorem dX11_undo_42 : decode cX11_undo 42 = .ok (.getfield 72, 3) := by decide +kernel
theorem dX11_undo_45 : decode cX11_undo 45 = .ok (.imul, 1) := by decide +kernel
theorem dX11_undo_46 : decode cX11_undo 46 = .ok (.iload_n 1, 1) := by decide +kernel
theorem dX11_undo_47 : decode cX11_undo 47 = .ok (.iadd, 1) := by decide +kernel
theorem dX11_undo_48 : decode cX11_undo 48 = .ok (.iaload, 1) := by decide +kernel
theorem dX11_undo_49 : decode cX11_undo 49 = .ok (.iastore, 1) := by decide +kernel
theorem dX11_undo_50 : decode cX11_undo 50 = .ok (.iinc 1 1, 3) := by decide +kernel
theorem dX11_undo_53 : decode cX11_undo 53 = .ok (.goto (-31), 3) := by decide +kernel
theorem dX11_undo_56 : decode cX11_undo 56 = .ok (.aload_n 0, 1) := by decide +kernel
theorem dX11_undo_57 : decode cX11_undo 57 = .ok (.iconst 0, 1) := by decide +kernel
theorem dX11_undo_58 : decode cX11_undo 58 = .ok (.putfield 76, 3) := by decide +kernel
theorem dX11_undo_61 : decode cX11_undo 61 = .ok (.aload_n 0, 1) := by decide +kernel
theorem dX11_undo_62 : decode cX11_undo 62 = .ok (.getfield 72, 3) := by decide +kernel
theorem dX11_undo_65 : decode cX11_undo 65 = .ok (.ireturn, 1) := by decide +kernel
theorem dX11_columns_0 : decode cX11_columns 0 = .ok (.iload_n 1, 1) := by decide +kernel
theorem dX11_columns_1 : decode cX11_columns 1 = .ok (.invokestatic 215, 3) := by decide +kernel
theorem dX11_columns_4 : decode cX11_columns 4 = .ok (.ifCond .eq 12, 3) := by decide +kernel
theorem dX11_columns_7 : decode cX11_columns 7 = .ok (.aload_n 0, 1) := by decide +kernel
theorem dX11_columns_8 : decode cX11_columns 8 = .ok (.getfield 7, 3) := by decide +kernel
theorem dX11_columns_11 : decode cX11_columns 11 = .ok (.iload_n 1, 1) := by decide +kernel
theorem dX11_columns_12 : decode cX11_columns 12 = .ok (.iaload, 1) := by decide +kernel
theorem dX11_columns_13 : decode cX11_columns 13 = .ok (.goto 4, 3) := by decide +kernel
theorem dX11_columns_16 : decode cX11_columns 16 = .ok (.iconst (-1), 1) := by decide +kernel
theorem dX11_columns_17 : decode cX11_columns 17 = .ok (.ireturn, 1) := by decide +kernel
theorem dX11_tags_0 : decode cX11_tags 0 = .ok (.aload_n 0, 1) := by decide +kernel
theorem dX11_tags_1 : decode cX11_tags 1 = .ok (.iconst 0, 1) := by decide +kernel
theorem dX11_tags_2 : decode cX11_tags 2 = .ok (.invokevirtual 242, 3) := by decide +kernel
theorem dX11_tags_5 : decode cX11_tags 5 = .ok (.ireturn, 1) := by decide +kernel
theorem dX11_withdrawn_0 : decode cX11_withdrawn 0 = .ok (.aload_n 0, 1) := by decide +kernel
theorem dX11_withdrawn_1 : decode cX11_withdrawn 1 = .ok (.iconst 1, 1) := by decide +kernel
theorem dX11_withdrawn_2 : decode cX11_withdrawn 2 = .ok (.invokevirtual 242, 3) := by decide +kernel
theorem dX11_withdrawn_5 : decode cX11_withdrawn 5 = .ok (.ireturn, 1) := by decide +kernel
theorem dX11_tableOf_0 : decode cX11_tableOf 0 = .ok (.aload_n 0, 1) := by decide +kernel
theorem dX11_tableOf_1 : decode cX11_tableOf 1 = .ok (.iload_n 1, 1) := by decide +kernel
theorem dX11_tableOf_2 : decode cX11_tableOf 2 = .ok (.invokevirtual 239, 3) := by decide +kernel
theorem dX11_tableOf_5 : decode cX11_tableOf 5 = .ok (.ifCond .eq 14, 3) := by decide +kernel
theorem dX11_tableOf_8 : decode cX11_tableOf 8 = .ok (.aload_n 0, 1) := by decide +kernel
theorem dX11_tableOf_9 : decode cX11_tableOf 9 = .ok (.iload_n 1, 1) := by decide +kernel
theorem dX11_tableOf_10 : decode cX11_tableOf 10 = .ok (.iconst 0, 1) := by decide +kernel
theorem dX11_tableOf_11 : decode cX11_tableOf 11 = .ok (.invokevirtual 84, 3) := by decide +kernel
theorem dX11_tableOf_14 : decode cX11_tableOf 14 = .ok (.iconst 1, 1) := by decide +kernel
theorem dX11_tableOf_15 : decode cX11_tableOf 15 = .ok (.isub, 1) := by decide +kernel
theorem dX11_tableOf_16 : decode cX11_tableOf 16 = .ok (.goto 4, 3) := by decide +kernel
theorem dX11_tableOf_19 : decode cX11_tableOf 19 = .ok (.iconst (-1), 1) := by decide +kernel
theorem dX11_tableOf_20 : decode cX11_tableOf 20 = .ok (.ireturn, 1) := by decide +kernel
theorem dX11_value_0 : decode cX11_value 0 = .ok (.aload_n 0, 1) := by decide +kernel
theorem dX11_value_1 : decode cX11_value 1 = .ok (.iload_n 1, 1) := by decide +kernel
theorem dX11_value_2 : decode cX11_value 2 = .ok (.invokevirtual 239, 3) := by decide +kernel
theorem dX11_value_5 : decode cX11_value 5 = .ok (.ifCond .ne 5, 3) := by decide +kernel
theorem dX11_value_8 : decode cX11_value 8 = .ok (.iconst (-1), 1) := by decide +kernel
theorem dX11_value_9 : decode cX11_value 9 = .ok (.ireturn, 1) := by decide +kernel
theorem dX11_value_10 : decode cX11_value 10 = .ok (.aload_n 0, 1) := by decide +kernel
theorem dX11_value_11 : decode cX11_value 11 = .ok (.getfield 7, 3) := by decide +kernel
theorem dX11_value_14 : decode cX11_value 14 = .ok (.aload_n 0, 1) := by decide +kernel
theorem dX11_value_15 : decode cX11_value 15 = .ok (.iload_n 1, 1) := by decide +kernel
theorem dX11_value_16 : decode cX11_value 16 = .ok (.iconst 0, 1) := by decide +kernel
theorem dX11_value_17 : decode cX11_value 17 = .ok (.invokevirtual 84, 3) := by decide +kernel
theorem dX11_value_20 : decode cX11_value 20 = .ok (.iconst 1, 1) := by decide +kernel
theorem dX11_value_21 : decode cX11_value 21 = .ok (.isub, 1) := by decide +kernel
theorem dX11_value_22 : decode cX11_value 22 = .ok (.iaload, 1) := by decide +kernel
theorem dX11_value_23 : decode cX11_value 23 = .ok (.istore_n 3, 1) := by decide +kernel
theorem dX11_value_24 : decode cX11_value 24 = .ok (.iload_n 2, 1) := by decide +kernel
theorem dX11_value_25 : decode cX11_value 25 = .ok (.iconst 0, 1) := by decide +kernel
theorem dX11_value_26 : decode cX11_value 26 = .ok (.iload_n 3, 1) := by decide +kernel
theorem dX11_value_27 : decode cX11_value 27 = .ok (.iconst 1, 1) := by decide +kernel
theorem dX11_value_28 : decode cX11_value 28 = .ok (.isub, 1) := by decide +kernel
theorem dX11_value_29 : decode cX11_value 29 = .ok (.invokestatic 80, 3) := by decide +kernel
theorem dX11_value_32 : decode cX11_value 32 = .ok (.ifCond .eq 17, 3) := by decide +kernel
theorem dX11_value_35 : decode cX11_value 35 = .ok (.aload_n 0, 1) := by decide +kernel
theorem dX11_value_36 : decode cX11_value 36 = .ok (.iload_n 1, 1) := by decide +kernel
theorem dX11_value_37 : decode cX11_value 37 = .ok (.iconst 1, 1) := by decide +kernel
theorem dX11_value_38 : decode cX11_value 38 = .ok (.invokevirtual 84, 3) := by decide +kernel
theorem dX11_value_41 : decode cX11_value 41 = .ok (.iload_n 3, 1) := by decide +kernel
theorem dX11_value_42 : decode cX11_value 42 = .ok (.iload_n 2, 1) := by decide +kernel
theorem dX11_value_43 : decode cX11_value 43 = .ok (.invokestatic 173, 3) := by decide +kernel
theorem dX11_value_46 : decode cX11_value 46 = .ok (.goto 4, 3) := by decide +kernel
theorem dX11_value_49 : decode cX11_value 49 = .ok (.iconst (-1), 1) := by decide +kernel
theorem dX11_value_50 : decode cX11_value 50 = .ok (.ireturn, 1) := by decide +kernel
theorem dX11_cost_0 : decode cX11_cost 0 = .ok (.aload_n 0, 1) := by decide +kernel
theorem dX11_cost_1 : decode cX11_cost 1 = .ok (.iload_n 1, 1) := by decide +kernel
theorem dX11_cost_2 : decode cX11_cost 2 = .ok (.invokevirtual 239, 3) := by decide +kernel
theorem dX11_cost_5 : decode cX11_cost 5 = .ok (.ifCond .eq 12, 3) := by decide +kernel
theorem dX11_cost_8 : decode cX11_cost 8 = .ok (.aload_n 0, 1) := by decide +kernel
theorem dX11_cost_9 : decode cX11_cost 9 = .ok (.iload_n 1, 1) := by decide +kernel
theorem dX11_cost_10 : decode cX11_cost 10 = .ok (.iconst 2, 1) := by decide +kernel
theorem dX11_cost_11 : decode cX11_cost 11 = .ok (.invokevirtual 84, 3) := by decide +kernel
theorem dX11_cost_14 : decode cX11_cost 14 = .ok (.goto 4, 3) := by decide +kernel
theorem dX11_cost_17 : decode cX11_cost 17 = .ok (.iconst (-1), 1) := by decide +kernel
theorem dX11_cost_18 : decode cX11_cost 18 = .ok (.ireturn, 1) := by decide +kernel
theorem dX11_trust_0 : decode cX11_trust 0 = .ok (.aload_n 0, 1) := by decide +kernel
theorem dX11_trust_1 : decode cX11_trust 1 = .ok (.iload_n 1, 1) := by decide +kernel
theorem dX11_trust_2 : decode cX11_trust 2 = .ok (.invokevirtual 239, 3) := by decide +kernel
theorem dX11_trust_5 : decode cX11_trust 5 = .ok (.ifCond .eq 12, 3) := by decide +kernel
theorem dX11_trust_8 : decode cX11_trust 8 = .ok (.aload_n 0, 1) := by decide +kernel
theorem dX11_trust_9 : decode cX11_trust 9 = .ok (.iload_n 1, 1) := by decide +kernel
theorem dX11_trust_10 : decode cX11_trust 10 = .ok (.iconst 3, 1) := by decide +kernel
theorem dX11_trust_11 : decode cX11_trust 11 = .ok (.invokevirtual 84, 3) := by decide +kernel
theorem dX11_trust_14 : decode cX11_trust 14 = .ok (.goto 4, 3) := by decide +kernel
theorem dX11_trust_17 : decode cX11_trust 17 = .ok (.iconst (-1), 1) := by decide +kernel
theorem dX11_trust_18 : decode cX11_trust 18 = .ok (.ireturn, 1) := by decide +kernel
theorem dX11_queryLength_0 : decode cX11_queryLength 0 = .ok (.aload_n 0, 1) := by decide +kernel
theorem dX11_queryLength_1 : decode cX11_queryLength 1 = .ok (.getfield 7, 3) := by decide +kernel
theorem dX11_queryLength_4 : decode cX11_queryLength 4 = .ok (.bipush 84, 2) := by decide +kernel
theorem dX11_queryLength_6 : decode cX11_queryLength 6 = .ok (.iaload, 1) := by decide +kernel
theorem dX11_queryLength_7 : decode cX11_queryLength 7 = .ok (.ireturn, 1) := by decide +kernel
theorem dX11_queryAt_0 : decode cX11_queryAt 0 = .ok (.iload_n 1, 1) := by decide +kernel
theorem dX11_queryAt_1 : decode cX11_queryAt 1 = .ok (.iconst 0, 1) := by decide +kernel
theorem dX11_queryAt_2 : decode cX11_queryAt 2 = .ok (.aload_n 0, 1) := by decide +kernel
theorem dX11_queryAt_3 : decode cX11_queryAt 3 = .ok (.getfield 7, 3) := by decide +kernel
theorem dX11_queryAt_6 : decode cX11_queryAt 6 = .ok (.bipush 84, 2) := by decide +kernel
theorem dX11_queryAt_8 : decode cX11_queryAt 8 = .ok (.iaload, 1) := by decide +kernel
theorem dX11_queryAt_9 : decode cX11_queryAt 9 = .ok (.iconst 1, 1) := by decide +kernel
theorem dX11_queryAt_10 : decode cX11_queryAt 10 = .ok (.isub, 1) := by decide +kernel
theorem dX11_queryAt_11 : decode cX11_queryAt 11 = .ok (.invokestatic 80, 3) := by decide +kernel
theorem dX11_queryAt_14 : decode cX11_queryAt 14 = .ok (.ifCond .eq 15, 3) := by decide +kernel
theorem dX11_queryAt_17 : decode cX11_queryAt 17 = .ok (.aload_n 0, 1) := by decide +kernel
theorem dX11_queryAt_18 : decode cX11_queryAt 18 = .ok (.getfield 7, 3) := by decide +kernel
theorem dX11_queryAt_21 : decode cX11_queryAt 21 = .ok (.bipush 85, 2) := by decide +kernel
theorem dX11_queryAt_23 : decode cX11_queryAt 23 = .ok (.iload_n 1, 1) := by decide +kernel
theorem dX11_queryAt_24 : decode cX11_queryAt 24 = .ok (.iadd, 1) := by decide +kernel
theorem dX11_queryAt_25 : decode cX11_queryAt 25 = .ok (.iaload, 1) := by decide +kernel
theorem dX11_queryAt_26 : decode cX11_queryAt 26 = .ok (.goto 4, 3) := by decide +kernel
theorem dX11_queryAt_29 : decode cX11_queryAt 29 = .ok (.iconst (-1), 1) := by decide +kernel
theorem dX11_queryAt_30 : decode cX11_queryAt 30 = .ok (.ireturn, 1) := by decide +kernel
theorem dX11_isRow_0 : decode cX11_isRow 0 = .ok (.aload_n 0, 1) := by decide +kernel
theorem dX11_isRow_1 : decode cX11_isRow 1 = .ok (.invokevirtual 258, 3) := by decide +kernel
theorem dX11_isRow_4 : decode cX11_isRow 4 = .ok (.iload_n 1, 1) := by decide +kernel
theorem dX11_isRow_5 : decode cX11_isRow 5 = .ok (.iconst 0, 1) := by decide +kernel
theorem dX11_isRow_6 : decode cX11_isRow 6 = .ok (.aload_n 0, 1) := by decide +kernel
theorem dX11_isRow_7 : decode cX11_isRow 7 = .ok (.getfield 46, 3) := by decide +kernel
theorem dX11_isRow_10 : decode cX11_isRow 10 = .ok (.iconst 0, 1) := by decide +kernel
theorem dX11_isRow_11 : decode cX11_isRow 11 = .ok (.iaload, 1) := by decide +kernel
theorem dX11_isRow_12 : decode cX11_isRow 12 = .ok (.iconst 1, 1) := by decide +kernel
theorem dX11_isRow_13 : decode cX11_isRow 13 = .ok (.isub, 1) := by decide +kernel
theorem dX11_isRow_14 : decode cX11_isRow 14 = .ok (.invokestatic 80, 3) := by decide +kernel
theorem dX11_isRow_17 : decode cX11_isRow 17 = .ok (.ireturn, 1) := by decide +kernel
theorem dX11_answerRows_0 : decode cX11_answerRows 0 = .ok (.aload_n 0, 1) := by decide +kernel
theorem dX11_answerRows_1 : decode cX11_answerRows 1 = .ok (.invokevirtual 258, 3) := by decide +kernel
theorem dX11_answerRows_4 : decode cX11_answerRows 4 = .ok (.aload_n 0, 1) := by decide +kernel
theorem dX11_answerRows_5 : decode cX11_answerRows 5 = .ok (.getfield 46, 3) := by decide +kernel
theorem dX11_answerRows_8 : decode cX11_answerRows 8 = .ok (.iconst 0, 1) := by decide +kernel
theorem dX11_answerRows_9 : decode cX11_answerRows 9 = .ok (.iaload, 1) := by decide +kernel
theorem dX11_answerRows_10 : decode cX11_answerRows 10 = .ok (.ireturn, 1) := by decide +kernel
theorem dX11_answerColumns_0 : decode cX11_answerColumns 0 = .ok (.aload_n 0, 1) := by decide +kernel
theorem dX11_answerColumns_1 : decode cX11_answerColumns 1 = .ok (.invokevirtual 258, 3) := by decide +kernel
theorem dX11_answerColumns_4 : decode cX11_answerColumns 4 = .ok (.aload_n 0, 1) := by decide +kernel
theorem dX11_answerColumns_5 : decode cX11_answerColumns 5 = .ok (.getfield 43, 3) := by decide +kernel
theorem dX11_answerColumns_8 : decode cX11_answerColumns 8 = .ok (.iconst 0, 1) := by decide +kernel
theorem dX11_answerColumns_9 : decode cX11_answerColumns 9 = .ok (.iaload, 1) := by decide +kernel
theorem dX11_answerColumns_10 : decode cX11_answerColumns 10 = .ok (.ireturn, 1) := by decide +kernel
theorem dX11_answerValue_0 : decode cX11_answerValue 0 = .ok (.aload_n 0, 1) := by decide +kernel
theorem dX11_answerValue_1 : decode cX11_answerValue 1 = .ok (.iload_n 1, 1) := by decide +kernel
theorem dX11_answerValue_2 : decode cX11_answerValue 2 = .ok (.invokevirtual 261, 3) := by decide +kernel
theorem dX11_answerValue_5 : decode cX11_answerValue 5 = .ok (.ifCond .eq 38, 3) := by decide +kernel
theorem dX11_answerValue_8 : decode cX11_answerValue 8 = .ok (.iload_n 2, 1) := by decide +kernel
theorem dX11_answerValue_9 : decode cX11_answerValue 9 = .ok (.iconst 0, 1) := by decide +kernel
theorem dX11_answerValue_10 : decode cX11_answerValue 10 = .ok (.aload_n 0, 1) := by decide +kernel
theorem dX11_answerValue_11 : decode cX11_answerValue 11 = .ok (.getfield 43, 3) := by decide +kernel
theorem dX11_answerValue_14 : decode cX11_answerValue 14 = .ok (.iconst 0, 1) := by decide +kernel
theorem dX11_answerValue_15 : decode cX11_answerValue 15 = .ok (.iaload, 1) := by decide +kernel
theorem dX11_answerValue_16 : decode cX11_answerValue 16 = .ok (.iconst 1, 1) := by decide +kernel
theorem dX11_answerValue_17 : decode cX11_answerValue 17 = .ok (.isub, 1) := by decide +kernel
theorem dX11_answerValue_18 : decode cX11_answerValue 18 = .ok (.invokestatic 80, 3) := by decide +kernel
theorem dX11_answerValue_21 : decode cX11_answerValue 21 = .ok (.ifCond .eq 22, 3) := by decide +kernel
theorem dX11_answerValue_24 : decode cX11_answerValue 24 = .ok (.aload_n 0, 1) := by decide +kernel
theorem dX11_answerValue_25 : decode cX11_answerValue 25 = .ok (.getfield 49, 3) := by decide +kernel
theorem dX11_answerValue_28 : decode cX11_answerValue 28 = .ok (.iload_n 1, 1) := by decide +kernel
theorem dX11_answerValue_29 : decode cX11_answerValue 29 = .ok (.iaload, 1) := by decide +kernel
theorem dX11_answerValue_30 : decode cX11_answerValue 30 = .ok (.aload_n 0, 1) := by decide +kernel
theorem dX11_answerValue_31 : decode cX11_answerValue 31 = .ok (.getfield 43, 3) := by decide +kernel
theorem dX11_answerValue_34 : decode cX11_answerValue 34 = .ok (.iconst 0, 1) := by decide +kernel
theorem dX11_answerValue_35 : decode cX11_answerValue 35 = .ok (.iaload, 1) := by decide +kernel
theorem dX11_answerValue_36 : decode cX11_answerValue 36 = .ok (.iload_n 2, 1) := by decide +kernel
theorem dX11_answerValue_37 : decode cX11_answerValue 37 = .ok (.invokestatic 173, 3) := by decide +kernel
theorem dX11_answerValue_40 : decode cX11_answerValue 40 = .ok (.goto 4, 3) := by decide +kernel
theorem dX11_answerValue_43 : decode cX11_answerValue 43 = .ok (.iconst (-1), 1) := by decide +kernel
theorem dX11_answerValue_44 : decode cX11_answerValue 44 = .ok (.ireturn, 1) := by decide +kernel
theorem dX11_setOf_0 : decode cX11_setOf 0 = .ok (.iconst 0, 1) := by decide +kernel
theorem dX11_setOf_1 : decode cX11_setOf 1 = .ok (.istore_n 2, 1) := by decide +kernel
theorem dX11_setOf_2 : decode cX11_setOf 2 = .ok (.iconst 0, 1) := by decide +kernel
theorem dX11_setOf_3 : decode cX11_setOf 3 = .ok (.istore_n 3, 1) := by decide +kernel
theorem dX11_setOf_4 : decode cX11_setOf 4 = .ok (.iload_n 3, 1) := by decide +kernel
theorem dX11_setOf_5 : decode cX11_setOf 5 = .ok (.bipush 16, 2) := by decide +kernel
theorem dX11_setOf_7 : decode cX11_setOf 7 = .ok (.if_icmp .ge 27, 3) := by decide +kernel
theorem dX11_setOf_10 : decode cX11_setOf 10 = .ok (.iload_n 2, 1) := by decide +kernel
theorem dX11_setOf_11 : decode cX11_setOf 11 = .ok (.lload_n 0, 1) := by decide +kernel
theorem dX11_setOf_12 : decode cX11_setOf 12 = .ok (.iload_n 3, 1) := by decide +kernel
theorem dX11_setOf_13 : decode cX11_setOf 13 = .ok (.invokestatic 264, 3) := by decide +kernel
theorem dX11_setOf_16 : decode cX11_setOf 16 = .ok (.ifCond .le 9, 3) := by decide +kernel
theorem dX11_setOf_19 : decode cX11_setOf 19 = .ok (.iconst 1, 1) := by decide +kernel
theorem dX11_setOf_20 : decode cX11_setOf 20 = .ok (.iload_n 3, 1) := by decide +kernel
theorem dX11_setOf_21 : decode cX11_setOf 21 = .ok (.ishl, 1) := by decide +kernel
theorem dX11_setOf_22 : decode cX11_setOf 22 = .ok (.goto 4, 3) := by decide +kernel
theorem dX11_setOf_25 : decode cX11_setOf 25 = .ok (.iconst 0, 1) := by decide +kernel
theorem dX11_setOf_26 : decode cX11_setOf 26 = .ok (.ior, 1) := by decide +kernel
theorem dX11_setOf_27 : decode cX11_setOf 27 = .ok (.istore_n 2, 1) := by decide +kernel
theorem dX11_setOf_28 : decode cX11_setOf 28 = .ok (.iinc 3 1, 3) := by decide +kernel
theorem dX11_setOf_31 : decode cX11_setOf 31 = .ok (.goto (-27), 3) := by decide +kernel
theorem dX11_setOf_34 : decode cX11_setOf 34 = .ok (.iload_n 2, 1) := by decide +kernel
theorem dX11_setOf_35 : decode cX11_setOf 35 = .ok (.ireturn, 1) := by decide +kernel
theorem dX11_flat_0 : decode cX11_flat 0 = .ok (.lconst 0, 1) := by decide +kernel
theorem dX11_flat_1 : decode cX11_flat 1 = .ok (.lstore_n 2, 1) := by decide +kernel
theorem dX11_flat_2 : decode cX11_flat 2 = .ok (.iconst 0, 1) := by decide +kernel
theorem dX11_flat_3 : decode cX11_flat 3 = .ok (.istore 4, 2) := by decide +kernel
theorem dX11_flat_5 : decode cX11_flat 5 = .ok (.iload 4, 2) := by decide +kernel
theorem dX11_flat_7 : decode cX11_flat 7 = .ok (.bipush 16, 2) := by decide +kernel
theorem dX11_flat_9 : decode cX11_flat 9 = .ok (.if_icmp .ge 30, 3) := by decide +kernel
theorem dX11_flat_12 : decode cX11_flat 12 = .ok (.lload_n 2, 1) := by decide +kernel
theorem dX11_flat_13 : decode cX11_flat 13 = .ok (.lload_n 0, 1) := by decide +kernel
theorem dX11_flat_14 : decode cX11_flat 14 = .ok (.iload 4, 2) := by decide +kernel
theorem dX11_flat_16 : decode cX11_flat 16 = .ok (.invokestatic 264, 3) := by decide +kernel
theorem dX11_flat_19 : decode cX11_flat 19 = .ok (.ifCond .le 11, 3) := by decide +kernel
theorem dX11_flat_22 : decode cX11_flat 22 = .ok (.iload 4, 2) := by decide +kernel
theorem dX11_flat_24 : decode cX11_flat 24 = .ok (.invokestatic 169, 3) := by decide +kernel
theorem dX11_flat_27 : decode cX11_flat 27 = .ok (.goto 4, 3) := by decide +kernel
theorem dX11_flat_30 : decode cX11_flat 30 = .ok (.lconst 0, 1) := by decide +kernel
theorem dX11_flat_31 : decode cX11_flat 31 = .ok (.ladd, 1) := by decide +kernel
theorem dX11_flat_32 : decode cX11_flat 32 = .ok (.lstore_n 2, 1) := by decide +kernel
theorem dX11_flat_33 : decode cX11_flat 33 = .ok (.iinc 4 1, 3) := by decide +kernel
theorem dX11_flat_36 : decode cX11_flat 36 = .ok (.goto (-31), 3) := by decide +kernel
theorem dX11_flat_39 : decode cX11_flat 39 = .ok (.lload_n 2, 1) := by decide +kernel
theorem dX11_flat_40 : decode cX11_flat 40 = .ok (.lreturn, 1) := by decide +kernel
theorem dX11_laysForm_0 : decode cX11_laysForm 0 = .ok (.aload_n 0, 1) := by decide +kernel
theorem dX11_laysForm_1 : decode cX11_laysForm 1 = .ok (.getfield 46, 3) := by decide +kernel
theorem dX11_laysForm_4 : decode cX11_laysForm 4 = .ok (.bipush 13, 2) := by decide +kernel
theorem dX11_laysForm_6 : decode cX11_laysForm 6 = .ok (.iconst 1, 1) := by decide +kernel
theorem dX11_laysForm_7 : decode cX11_laysForm 7 = .ok (.iastore, 1) := by decide +kernel
theorem dX11_laysForm_8 : decode cX11_laysForm 8 = .ok (.aload_n 0, 1) := by decide +kernel
theorem dX11_laysForm_9 : decode cX11_laysForm 9 = .ok (.getfield 52, 3) := by decide +kernel
theorem dX11_laysForm_12 : decode cX11_laysForm 12 = .ok (.sipush 416, 3) := by decide +kernel
theorem dX11_laysForm_15 : decode cX11_laysForm 15 = .ok (.iconst 0, 1) := by decide +kernel
theorem dX11_laysForm_16 : decode cX11_laysForm 16 = .ok (.iastore, 1) := by decide +kernel
theorem dX11_laysForm_17 : decode cX11_laysForm 17 = .ok (.aload_n 0, 1) := by decide +kernel
theorem dX11_laysForm_18 : decode cX11_laysForm 18 = .ok (.iconst 0, 1) := by decide +kernel
theorem dX11_laysForm_19 : decode cX11_laysForm 19 = .ok (.putfield 151, 3) := by decide +kernel
theorem dX11_laysForm_22 : decode cX11_laysForm 22 = .ok (.iconst 0, 1) := by decide +kernel
theorem dX11_laysForm_23 : decode cX11_laysForm 23 = .ok (.istore_n 3, 1) := by decide +kernel
theorem dX11_laysForm_24 : decode cX11_laysForm 24 = .ok (.iload_n 3, 1) := by decide +kernel
theorem dX11_laysForm_25 : decode cX11_laysForm 25 = .ok (.aload_n 0, 1) := by decide +kernel
theorem dX11_laysForm_26 : decode cX11_laysForm 26 = .ok (.getfield 52, 3) := by decide +kernel
theorem dX11_laysForm_29 : decode cX11_laysForm 29 = .ok (.iload_n 1, 1) := by decide +kernel
theorem dX11_laysForm_30 : decode cX11_laysForm 30 = .ok (.iaload, 1) := by decide +kernel
theorem dX11_laysForm_31 : decode cX11_laysForm 31 = .ok (.if_icmp .ge 55, 3) := by decide +kernel
theorem dX11_laysForm_34 : decode cX11_laysForm 34 = .ok (.aload_n 0, 1) := by decide +kernel
theorem dX11_laysForm_35 : decode cX11_laysForm 35 = .ok (.getfield 55, 3) := by decide +kernel
theorem dX11_laysForm_38 : decode cX11_laysForm 38 = .ok (.bipush 32, 2) := by decide +kernel
theorem dX11_laysForm_40 : decode cX11_laysForm 40 = .ok (.iload_n 1, 1) := by decide +kernel
theorem dX11_laysForm_41 : decode cX11_laysForm 41 = .ok (.imul, 1) := by decide +kernel
theorem dX11_laysForm_42 : decode cX11_laysForm 42 = .ok (.iload_n 3, 1) := by decide +kernel
theorem dX11_laysForm_43 : decode cX11_laysForm 43 = .ok (.iadd, 1) := by decide +kernel
theorem dX11_laysForm_44 : decode cX11_laysForm 44 = .ok (.laload, 1) := by decide +kernel
theorem dX11_laysForm_45 : decode cX11_laysForm 45 = .ok (.lstore 4, 2) := by decide +kernel
theorem dX11_laysForm_47 : decode cX11_laysForm 47 = .ok (.aload_n 0, 1) := by decide +kernel
theorem dX11_laysForm_48 : decode cX11_laysForm 48 = .ok (.bipush 13, 2) := by decide +kernel
theorem dX11_laysForm_50 : decode cX11_laysForm 50 = .ok (.iconst 0, 1) := by decide +kernel
theorem dX11_laysForm_51 : decode cX11_laysForm 51 = .ok (.iload_n 2, 1) := by decide +kernel
theorem dX11_laysForm_52 : decode cX11_laysForm 52 = .ok (.iconst 1, 1) := by decide +kernel
theorem dX11_laysForm_53 : decode cX11_laysForm 53 = .ok (.if_icmp .le 11, 3) := by decide +kernel
theorem dX11_laysForm_56 : decode cX11_laysForm 56 = .ok (.lload 4, 2) := by decide +kernel
theorem dX11_laysForm_58 : decode cX11_laysForm 58 = .ok (.invokestatic 268, 3) := by decide +kernel
theorem dX11_laysForm_61 : decode cX11_laysForm 61 = .ok (.goto 5, 3) := by decide +kernel
theorem dX11_laysForm_64 : decode cX11_laysForm 64 = .ok (.lload 4, 2) := by decide +kernel
theorem dX11_laysForm_66 : decode cX11_laysForm 66 = .ok (.aload_n 0, 1) := by decide +kernel
theorem dX11_laysForm_67 : decode cX11_laysForm 67 = .ok (.getfield 59, 3) := by decide +kernel
theorem dX11_laysForm_70 : decode cX11_laysForm 70 = .ok (.bipush 32, 2) := by decide +kernel
theorem dX11_laysForm_72 : decode cX11_laysForm 72 = .ok (.iload_n 1, 1) := by decide +kernel
theorem dX11_laysForm_73 : decode cX11_laysForm 73 = .ok (.imul, 1) := by decide +kernel
theorem dX11_laysForm_74 : decode cX11_laysForm 74 = .ok (.iload_n 3, 1) := by decide +kernel
theorem dX11_laysForm_75 : decode cX11_laysForm 75 = .ok (.iadd, 1) := by decide +kernel
theorem dX11_laysForm_76 : decode cX11_laysForm 76 = .ok (.laload, 1) := by decide +kernel
theorem dX11_laysForm_77 : decode cX11_laysForm 77 = .ok (.invokevirtual 163, 3) := by decide +kernel
theorem dX11_laysForm_80 : decode cX11_laysForm 80 = .ok (.iinc 3 1, 3) := by decide +kernel
theorem dX11_laysForm_83 : decode cX11_laysForm 83 = .ok (.goto (-59), 3) := by decide +kernel
theorem dX11_laysForm_86 : decode cX11_laysForm 86 = .ok (.iconst 0, 1) := by decide +kernel
theorem dX11_laysForm_87 : decode cX11_laysForm 87 = .ok (.istore_n 3, 1) := by decide +kernel
theorem dX11_laysForm_88 : decode cX11_laysForm 88 = .ok (.iload_n 3, 1) := by decide +kernel
theorem dX11_laysForm_89 : decode cX11_laysForm 89 = .ok (.aload_n 0, 1) := by decide +kernel
theorem dX11_laysForm_90 : decode cX11_laysForm 90 = .ok (.getfield 52, 3) := by decide +kernel
theorem dX11_laysForm_93 : decode cX11_laysForm 93 = .ok (.sipush 416, 3) := by decide +kernel
theorem dX11_laysForm_96 : decode cX11_laysForm 96 = .ok (.iaload, 1) := by decide +kernel
theorem dX11_laysForm_97 : decode cX11_laysForm 97 = .ok (.if_icmp .ge 42, 3) := by decide +kernel
theorem dX11_laysForm_100 : decode cX11_laysForm 100 = .ok (.aload_n 0, 1) := by decide +kernel
theorem dX11_laysForm_101 : decode cX11_laysForm 101 = .ok (.getfield 59, 3) := by decide +kernel
theorem dX11_laysForm_104 : decode cX11_laysForm 104 = .ok (.sipush 13312, 3) := by decide +kernel
theorem dX11_laysForm_107 : decode cX11_laysForm 107 = .ok (.iload_n 3, 1) := by decide +kernel
theorem dX11_laysForm_108 : decode cX11_laysForm 108 = .ok (.iadd, 1) := by decide +kernel
theorem dX11_laysForm_109 : decode cX11_laysForm 109 = .ok (.iload_n 2, 1) := by decide +kernel
theorem dX11_laysForm_110 : decode cX11_laysForm 110 = .ok (.ifCond .eq 8, 3) := by decide +kernel
theorem dX11_laysForm_113 : decode cX11_laysForm 113 = .ok (.iload_n 2, 1) := by decide +kernel
theorem dX11_laysForm_114 : decode cX11_laysForm 114 = .ok (.iconst 2, 1) := by decide +kernel
theorem dX11_laysForm_115 : decode cX11_laysForm 115 = .ok (.if_icmp .ne 16, 3) := by decide +kernel
theorem dX11_laysForm_118 : decode cX11_laysForm 118 = .ok (.aload_n 0, 1) := by decide +kernel
theorem dX11_laysForm_119 : decode cX11_laysForm 119 = .ok (.getfield 59, 3) := by decide +kernel
theorem dX11_laysForm_122 : decode cX11_laysForm 122 = .ok (.sipush 13312, 3) := by decide +kernel
theorem dX11_laysForm_125 : decode cX11_laysForm 125 = .ok (.iload_n 3, 1) := by decide +kernel
theorem dX11_laysForm_126 : decode cX11_laysForm 126 = .ok (.iadd, 1) := by decide +kernel
theorem dX11_laysForm_127 : decode cX11_laysForm 127 = .ok (.laload, 1) := by decide +kernel
theorem dX11_laysForm_128 : decode cX11_laysForm 128 = .ok (.goto 4, 3) := by decide +kernel
theorem dX11_laysForm_131 : decode cX11_laysForm 131 = .ok (.lconst 1, 1) := by decide +kernel
theorem dX11_laysForm_132 : decode cX11_laysForm 132 = .ok (.lastore, 1) := by decide +kernel
theorem dX11_laysForm_133 : decode cX11_laysForm 133 = .ok (.iinc 3 1, 3) := by decide +kernel
theorem dX11_laysForm_136 : decode cX11_laysForm 136 = .ok (.goto (-48), 3) := by decide +kernel
theorem dX11_laysForm_139 : decode cX11_laysForm 139 = .ok (.iload_n 2, 1) := by decide +kernel
theorem dX11_laysForm_140 : decode cX11_laysForm 140 = .ok (.iconst 4, 1) := by decide +kernel
theorem dX11_laysForm_141 : decode cX11_laysForm 141 = .ok (.if_icmp .ne 7, 3) := by decide +kernel
theorem dX11_laysForm_144 : decode cX11_laysForm 144 = .ok (.aload_n 0, 1) := by decide +kernel
theorem dX11_laysForm_145 : decode cX11_laysForm 145 = .ok (.invokevirtual 272, 3) := by decide +kernel
theorem dX11_laysForm_148 : decode cX11_laysForm 148 = .ok (.return_, 1) := by decide +kernel
theorem dX11_isWider_0 : decode cX11_isWider 0 = .ok (.aload_n 0, 1) := by decide +kernel
theorem dX11_isWider_1 : decode cX11_isWider 1 = .ok (.getfield 55, 3) := by decide +kernel
theorem dX11_isWider_4 : decode cX11_isWider 4 = .ok (.sipush 13312, 3) := by decide +kernel
theorem dX11_isWider_7 : decode cX11_isWider 7 = .ok (.iload_n 1, 1) := by decide +kernel
theorem dX11_isWider_8 : decode cX11_isWider 8 = .ok (.iadd, 1) := by decide +kernel
theorem dX11_isWider_9 : decode cX11_isWider 9 = .ok (.laload, 1) := by decide +kernel
theorem dX11_isWider_10 : decode cX11_isWider 10 = .ok (.invokestatic 275, 3) := by decide +kernel
theorem dX11_isWider_13 : decode cX11_isWider 13 = .ok (.istore_n 2, 1) := by decide +kernel
theorem dX11_isWider_14 : decode cX11_isWider 14 = .ok (.iconst 0, 1) := by decide +kernel
theorem dX11_isWider_15 : decode cX11_isWider 15 = .ok (.istore_n 3, 1) := by decide +kernel
theorem dX11_isWider_16 : decode cX11_isWider 16 = .ok (.iconst 0, 1) := by decide +kernel
theorem dX11_isWider_17 : decode cX11_isWider 17 = .ok (.istore 4, 2) := by decide +kernel
theorem dX11_isWider_19 : decode cX11_isWider 19 = .ok (.iload 4, 2) := by decide +kernel
theorem dX11_isWider_21 : decode cX11_isWider 21 = .ok (.aload_n 0, 1) := by decide +kernel
theorem dX11_isWider_22 : decode cX11_isWider 22 = .ok (.getfield 52, 3) := by decide +kernel
theorem dX11_isWider_25 : decode cX11_isWider 25 = .ok (.sipush 416, 3) := by decide +kernel
theorem dX11_isWider_28 : decode cX11_isWider 28 = .ok (.iaload, 1) := by decide +kernel
theorem dX11_isWider_29 : decode cX11_isWider 29 = .ok (.if_icmp .ge 50, 3) := by decide +kernel
theorem dX11_isWider_32 : decode cX11_isWider 32 = .ok (.aload_n 0, 1) := by decide +kernel
theorem dX11_isWider_33 : decode cX11_isWider 33 = .ok (.getfield 55, 3) := by decide +kernel
theorem dX11_isWider_36 : decode cX11_isWider 36 = .ok (.sipush 13312, 3) := by decide +kernel
theorem dX11_isWider_39 : decode cX11_isWider 39 = .ok (.iload 4, 2) := by decide +kernel
theorem dX11_isWider_41 : decode cX11_isWider 41 = .ok (.iadd, 1) := by decide +kernel
theorem dX11_isWider_42 : decode cX11_isWider 42 = .ok (.laload, 1) := by decide +kernel
theorem dX11_isWider_43 : decode cX11_isWider 43 = .ok (.invokestatic 275, 3) := by decide +kernel
theorem dX11_isWider_46 : decode cX11_isWider 46 = .ok (.istore 5, 2) := by decide +kernel
theorem dX11_isWider_48 : decode cX11_isWider 48 = .ok (.iload_n 3, 1) := by decide +kernel
theorem dX11_isWider_49 : decode cX11_isWider 49 = .ok (.ifCond .ne 18, 3) := by decide +kernel
theorem dX11_isWider_52 : decode cX11_isWider 52 = .ok (.iload 4, 2) := by decide +kernel
theorem dX11_isWider_54 : decode cX11_isWider 54 = .ok (.iload_n 1, 1) := by decide +kernel
theorem dX11_isWider_55 : decode cX11_isWider 55 = .ok (.if_icmp .eq 16, 3) := by decide +kernel
theorem dX11_isWider_58 : decode cX11_isWider 58 = .ok (.iload_n 2, 1) := by decide +kernel
theorem dX11_isWider_59 : decode cX11_isWider 59 = .ok (.iload 5, 2) := by decide +kernel
theorem dX11_isWider_61 : decode cX11_isWider 61 = .ok (.iand, 1) := by decide +kernel
theorem dX11_isWider_62 : decode cX11_isWider 62 = .ok (.iload 5, 2) := by decide +kernel
theorem dX11_isWider_64 : decode cX11_isWider 64 = .ok (.if_icmp .ne 7, 3) := by decide +kernel
theorem dX11_isWider_67 : decode cX11_isWider 67 = .ok (.iconst 1, 1) := by decide +kernel
theorem dX11_isWider_68 : decode cX11_isWider 68 = .ok (.goto 4, 3) := by decide +kernel
theorem dX11_isWider_71 : decode cX11_isWider 71 = .ok (.iconst 0, 1) := by decide +kernel
theorem dX11_isWider_72 : decode cX11_isWider 72 = .ok (.istore_n 3, 1) := by decide +kernel
theorem dX11_isWider_73 : decode cX11_isWider 73 = .ok (.iinc 4 1, 3) := by decide +kernel
theorem dX11_isWider_76 : decode cX11_isWider 76 = .ok (.goto (-57), 3) := by decide +kernel
theorem dX11_isWider_79 : decode cX11_isWider 79 = .ok (.iload_n 3, 1) := by decide +kernel
theorem dX11_isWider_80 : decode cX11_isWider 80 = .ok (.ireturn, 1) := by decide +kernel
theorem dX11_dropsWider_0 : decode cX11_dropsWider 0 = .ok (.iconst 0, 1) := by decide +kernel
theorem dX11_dropsWider_1 : decode cX11_dropsWider 1 = .ok (.istore_n 1, 1) := by decide +kernel
theorem dX11_dropsWider_2 : decode cX11_dropsWider 2 = .ok (.iload_n 1, 1) := by decide +kernel
theorem dX11_dropsWider_3 : decode cX11_dropsWider 3 = .ok (.aload_n 0, 1) := by decide +kernel
theorem dX11_dropsWider_4 : decode cX11_dropsWider 4 = .ok (.getfield 52, 3) := by decide +kernel
theorem dX11_dropsWider_7 : decode cX11_dropsWider 7 = .ok (.sipush 416, 3) := by decide +kernel
theorem dX11_dropsWider_10 : decode cX11_dropsWider 10 = .ok (.iaload, 1) := by decide +kernel
theorem dX11_dropsWider_11 : decode cX11_dropsWider 11 = .ok (.if_icmp .ge 20, 3) := by decide +kernel
theorem dX11_dropsWider_14 : decode cX11_dropsWider 14 = .ok (.aload_n 0, 1) := by decide +kernel
theorem dX11_dropsWider_15 : decode cX11_dropsWider 15 = .ok (.getfield 62, 3) := by decide +kernel
theorem dX11_dropsWider_18 : decode cX11_dropsWider 18 = .ok (.iload_n 1, 1) := by decide +kernel
theorem dX11_dropsWider_19 : decode cX11_dropsWider 19 = .ok (.aload_n 0, 1) := by decide +kernel
theorem dX11_dropsWider_20 : decode cX11_dropsWider 20 = .ok (.iload_n 1, 1) := by decide +kernel
theorem dX11_dropsWider_21 : decode cX11_dropsWider 21 = .ok (.invokevirtual 279, 3) := by decide +kernel
theorem dX11_dropsWider_24 : decode cX11_dropsWider 24 = .ok (.bastore, 1) := by decide +kernel
theorem dX11_dropsWider_25 : decode cX11_dropsWider 25 = .ok (.iinc 1 1, 3) := by decide +kernel
theorem dX11_dropsWider_28 : decode cX11_dropsWider 28 = .ok (.goto (-26), 3) := by decide +kernel
theorem dX11_dropsWider_31 : decode cX11_dropsWider 31 = .ok (.iconst 0, 1) := by decide +kernel
theorem dX11_dropsWider_32 : decode cX11_dropsWider 32 = .ok (.istore_n 1, 1) := by decide +kernel
theorem dX11_dropsWider_33 : decode cX11_dropsWider 33 = .ok (.iconst 0, 1) := by decide +kernel
theorem dX11_dropsWider_34 : decode cX11_dropsWider 34 = .ok (.istore_n 2, 1) := by decide +kernel
theorem dX11_dropsWider_35 : decode cX11_dropsWider 35 = .ok (.iload_n 2, 1) := by decide +kernel
theorem dX11_dropsWider_36 : decode cX11_dropsWider 36 = .ok (.aload_n 0, 1) := by decide +kernel
theorem dX11_dropsWider_37 : decode cX11_dropsWider 37 = .ok (.getfield 52, 3) := by decide +kernel
theorem dX11_dropsWider_40 : decode cX11_dropsWider 40 = .ok (.sipush 416, 3) := by decide +kernel
theorem dX11_dropsWider_43 : decode cX11_dropsWider 43 = .ok (.iaload, 1) := by decide +kernel
theorem dX11_dropsWider_44 : decode cX11_dropsWider 44 = .ok (.if_icmp .ge 41, 3) := by decide +kernel
theorem dX11_dropsWider_47 : decode cX11_dropsWider 47 = .ok (.aload_n 0, 1) := by decide +kernel
theorem dX11_dropsWider_48 : decode cX11_dropsWider 48 = .ok (.getfield 62, 3) := by decide +kernel
theorem dX11_dropsWider_51 : decode cX11_dropsWider 51 = .ok (.iload_n 2, 1) := by decide +kernel
theorem dX11_dropsWider_52 : decode cX11_dropsWider 52 = .ok (.baload, 1) := by decide +kernel
theorem dX11_dropsWider_53 : decode cX11_dropsWider 53 = .ok (.ifCond .ne 26, 3) := by decide +kernel
theorem dX11_dropsWider_56 : decode cX11_dropsWider 56 = .ok (.aload_n 0, 1) := by decide +kernel
theorem dX11_dropsWider_57 : decode cX11_dropsWider 57 = .ok (.getfield 55, 3) := by decide +kernel
theorem dX11_dropsWider_60 : decode cX11_dropsWider 60 = .ok (.sipush 13312, 3) := by decide +kernel
theorem dX11_dropsWider_63 : decode cX11_dropsWider 63 = .ok (.iload_n 1, 1) := by decide +kernel
theorem dX11_dropsWider_64 : decode cX11_dropsWider 64 = .ok (.iadd, 1) := by decide +kernel
theorem dX11_dropsWider_65 : decode cX11_dropsWider 65 = .ok (.aload_n 0, 1) := by decide +kernel
theorem dX11_dropsWider_66 : decode cX11_dropsWider 66 = .ok (.getfield 55, 3) := by decide +kernel
theorem dX11_dropsWider_69 : decode cX11_dropsWider 69 = .ok (.sipush 13312, 3) := by decide +kernel
theorem dX11_dropsWider_72 : decode cX11_dropsWider 72 = .ok (.iload_n 2, 1) := by decide +kernel
theorem dX11_dropsWider_73 : decode cX11_dropsWider 73 = .ok (.iadd, 1) := by decide +kernel
theorem dX11_dropsWider_74 : decode cX11_dropsWider 74 = .ok (.laload, 1) := by decide +kernel
theorem dX11_dropsWider_75 : decode cX11_dropsWider 75 = .ok (.lastore, 1) := by decide +kernel
theorem dX11_dropsWider_76 : decode cX11_dropsWider 76 = .ok (.iinc 1 1, 3) := by decide +kernel
theorem dX11_dropsWider_79 : decode cX11_dropsWider 79 = .ok (.iinc 2 1, 3) := by decide +kernel
theorem dX11_dropsWider_82 : decode cX11_dropsWider 82 = .ok (.goto (-47), 3) := by decide +kernel
theorem dX11_dropsWider_85 : decode cX11_dropsWider 85 = .ok (.aload_n 0, 1) := by decide +kernel
theorem dX11_dropsWider_86 : decode cX11_dropsWider 86 = .ok (.getfield 52, 3) := by decide +kernel
theorem dX11_dropsWider_89 : decode cX11_dropsWider 89 = .ok (.sipush 416, 3) := by decide +kernel
theorem dX11_dropsWider_92 : decode cX11_dropsWider 92 = .ok (.iload_n 1, 1) := by decide +kernel
theorem dX11_dropsWider_93 : decode cX11_dropsWider 93 = .ok (.iastore, 1) := by decide +kernel
theorem dX11_dropsWider_94 : decode cX11_dropsWider 94 = .ok (.return_, 1) := by decide +kernel
theorem dX11_isForm_0 : decode cX11_isForm 0 = .ok (.iload_n 0, 1) := by decide +kernel
theorem dX11_isForm_1 : decode cX11_isForm 1 = .ok (.iconst 0, 1) := by decide +kernel
theorem dX11_isForm_2 : decode cX11_isForm 2 = .ok (.iconst 4, 1) := by decide +kernel
theorem dX11_isForm_3 : decode cX11_isForm 3 = .ok (.invokestatic 80, 3) := by decide +kernel
theorem dX11_isForm_6 : decode cX11_isForm 6 = .ok (.ireturn, 1) := by decide +kernel
theorem dX11_terms_0 : decode cX11_terms 0 = .ok (.aload_n 0, 1) := by decide +kernel
theorem dX11_terms_1 : decode cX11_terms 1 = .ok (.iload_n 1, 1) := by decide +kernel
theorem dX11_terms_2 : decode cX11_terms 2 = .ok (.invokevirtual 261, 3) := by decide +kernel
theorem dX11_terms_5 : decode cX11_terms 5 = .ok (.ifCond .ne 5, 3) := by decide +kernel
theorem dX11_terms_8 : decode cX11_terms 8 = .ok (.iconst (-1), 1) := by decide +kernel
theorem dX11_terms_9 : decode cX11_terms 9 = .ok (.ireturn, 1) := by decide +kernel
theorem dX11_terms_10 : decode cX11_terms 10 = .ok (.iload_n 2, 1) := by decide +kernel
theorem dX11_terms_11 : decode cX11_terms 11 = .ok (.invokestatic 282, 3) := by decide +kernel
theorem dX11_terms_14 : decode cX11_terms 14 = .ok (.ifCond .ne 6, 3) := by decide +kernel
theorem dX11_terms_17 : decode cX11_terms 17 = .ok (.bipush (-2), 2) := by decide +kernel
theorem dX11_terms_19 : decode cX11_terms 19 = .ok (.ireturn, 1) := by decide +kernel
theorem dX11_terms_20 : decode cX11_terms 20 = .ok (.aload_n 0, 1) := by decide +kernel
theorem dX11_terms_21 : decode cX11_terms 21 = .ok (.iload_n 1, 1) := by decide +kernel
theorem dX11_terms_22 : decode cX11_terms 22 = .ok (.iload_n 2, 1) := by decide +kernel
theorem dX11_terms_23 : decode cX11_terms 23 = .ok (.invokevirtual 284, 3) := by decide +kernel
theorem dX11_terms_26 : decode cX11_terms 26 = .ok (.aload_n 0, 1) := by decide +kernel
theorem dX11_terms_27 : decode cX11_terms 27 = .ok (.getfield 52, 3) := by decide +kernel
theorem dX11_terms_30 : decode cX11_terms 30 = .ok (.sipush 416, 3) := by decide +kernel
theorem dX11_terms_33 : decode cX11_terms 33 = .ok (.iaload, 1) := by decide +kernel
theorem dX11_terms_34 : decode cX11_terms 34 = .ok (.ireturn, 1) := by decide +kernel
theorem dX11_coefficient_0 : decode cX11_coefficient 0 = .ok (.aload_n 0, 1) := by decide +kernel
theorem dX11_coefficient_1 : decode cX11_coefficient 1 = .ok (.iload_n 1, 1) := by decide +kernel
theorem dX11_coefficient_2 : decode cX11_coefficient 2 = .ok (.invokevirtual 261, 3) := by decide +kernel
theorem dX11_coefficient_5 : decode cX11_coefficient 5 = .ok (.ifCond .ne 7, 3) := by decide +kernel
theorem dX11_coefficient_8 : decode cX11_coefficient 8 = .ok (.ldc2_w 288, 3) := by decide +kernel
theorem dX11_coefficient_11 : decode cX11_coefficient 11 = .ok (.lreturn, 1) := by decide +kernel
theorem dX11_coefficient_12 : decode cX11_coefficient 12 = .ok (.iload_n 2, 1) := by decide +kernel
theorem dX11_coefficient_13 : decode cX11_coefficient 13 = .ok (.invokestatic 282, 3) := by decide +kernel
theorem dX11_coefficient_16 : decode cX11_coefficient 16 = .ok (.ifCond .ne 7, 3) := by decide +kernel
theorem dX11_coefficient_19 : decode cX11_coefficient 19 = .ok (.ldc2_w 290, 3) := by decide +kernel
theorem dX11_coefficient_22 : decode cX11_coefficient 22 = .ok (.lreturn, 1) := by decide +kernel
theorem dX11_coefficient_23 : decode cX11_coefficient 23 = .ok (.aload_n 0, 1) := by decide +kernel
theorem dX11_coefficient_24 : decode cX11_coefficient 24 = .ok (.iload_n 1, 1) := by decide +kernel
theorem dX11_coefficient_25 : decode cX11_coefficient 25 = .ok (.iload_n 2, 1) := by decide +kernel
theorem dX11_coefficient_26 : decode cX11_coefficient 26 = .ok (.invokevirtual 284, 3) := by decide +kernel
theorem dX11_coefficient_29 : decode cX11_coefficient 29 = .ok (.iload_n 3, 1) := by decide +kernel
theorem dX11_coefficient_30 : decode cX11_coefficient 30 = .ok (.iconst 0, 1) := by decide +kernel
theorem dX11_coefficient_31 : decode cX11_coefficient 31 = .ok (.aload_n 0, 1) := by decide +kernel
theorem dX11_coefficient_32 : decode cX11_coefficient 32 = .ok (.getfield 52, 3) := by decide +kernel
theorem dX11_coefficient_35 : decode cX11_coefficient 35 = .ok (.sipush 416, 3) := by decide +kernel
theorem dX11_coefficient_38 : decode cX11_coefficient 38 = .ok (.iaload, 1) := by decide +kernel
theorem dX11_coefficient_39 : decode cX11_coefficient 39 = .ok (.iconst 1, 1) := by decide +kernel
theorem dX11_coefficient_40 : decode cX11_coefficient 40 = .ok (.isub, 1) := by decide +kernel
theorem dX11_coefficient_41 : decode cX11_coefficient 41 = .ok (.invokestatic 80, 3) := by decide +kernel
theorem dX11_coefficient_44 : decode cX11_coefficient 44 = .ok (.ifCond .eq 16, 3) := by decide +kernel
theorem dX11_coefficient_47 : decode cX11_coefficient 47 = .ok (.aload_n 0, 1) := by decide +kernel
theorem dX11_coefficient_48 : decode cX11_coefficient 48 = .ok (.getfield 59, 3) := by decide +kernel
theorem dX11_coefficient_51 : decode cX11_coefficient 51 = .ok (.sipush 13312, 3) := by decide +kernel
theorem dX11_coefficient_54 : decode cX11_coefficient 54 = .ok (.iload_n 3, 1) := by decide +kernel
theorem dX11_coefficient_55 : decode cX11_coefficient 55 = .ok (.iadd, 1) := by decide +kernel
theorem dX11_coefficient_56 : decode cX11_coefficient 56 = .ok (.laload, 1) := by decide +kernel
theorem dX11_coefficient_57 : decode cX11_coefficient 57 = .ok (.goto 6, 3) := by decide +kernel
theorem dX11_coefficient_60 : decode cX11_coefficient 60 = .ok (.ldc2_w 288, 3) := by decide +kernel
theorem dX11_coefficient_63 : decode cX11_coefficient 63 = .ok (.lreturn, 1) := by decide +kernel
theorem dX11_exponent_0 : decode cX11_exponent 0 = .ok (.aload_n 0, 1) := by decide +kernel
theorem dX11_exponent_1 : decode cX11_exponent 1 = .ok (.iload_n 1, 1) := by decide +kernel
theorem dX11_exponent_2 : decode cX11_exponent 2 = .ok (.invokevirtual 261, 3) := by decide +kernel
theorem dX11_exponent_5 : decode cX11_exponent 5 = .ok (.ifCond .ne 5, 3) := by decide +kernel
theorem dX11_exponent_8 : decode cX11_exponent 8 = .ok (.iconst (-1), 1) := by decide +kernel
theorem dX11_exponent_9 : decode cX11_exponent 9 = .ok (.ireturn, 1) := by decide +kernel
theorem dX11_exponent_10 : decode cX11_exponent 10 = .ok (.iload_n 2, 1) := by decide +kernel
theorem dX11_exponent_11 : decode cX11_exponent 11 = .ok (.invokestatic 282, 3) := by decide +kernel
theorem dX11_exponent_14 : decode cX11_exponent 14 = .ok (.ifCond .eq 14, 3) := by decide +kernel
theorem dX11_exponent_17 : decode cX11_exponent 17 = .ok (.iload 4, 2) := by decide +kernel
theorem dX11_exponent_19 : decode cX11_exponent 19 = .ok (.iconst 0, 1) := by decide +kernel
theorem dX11_exponent_20 : decode cX11_exponent 20 = .ok (.bipush 15, 2) := by decide +kernel
theorem dX11_exponent_22 : decode cX11_exponent 22 = .ok (.invokestatic 80, 3) := by decide +kernel
theorem dX11_exponent_25 : decode cX11_exponent 25 = .ok (.ifCond .ne 6, 3) := by decide +kernel
theorem dX11_exponent_28 : decode cX11_exponent 28 = .ok (.bipush (-2), 2) := by decide +kernel
theorem dX11_exponent_30 : decode cX11_exponent 30 = .ok (.ireturn, 1) := by decide +kernel
theorem dX11_exponent_31 : decode cX11_exponent 31 = .ok (.aload_n 0, 1) := by decide +kernel
theorem dX11_exponent_32 : decode cX11_exponent 32 = .ok (.iload_n 1, 1) := by decide +kernel
theorem dX11_exponent_33 : decode cX11_exponent 33 = .ok (.iload_n 2, 1) := by decide +kernel
theorem dX11_exponent_34 : decode cX11_exponent 34 = .ok (.invokevirtual 284, 3) := by decide +kernel
theorem dX11_exponent_37 : decode cX11_exponent 37 = .ok (.iload_n 3, 1) := by decide +kernel
theorem dX11_exponent_38 : decode cX11_exponent 38 = .ok (.iconst 0, 1) := by decide +kernel
theorem dX11_exponent_39 : decode cX11_exponent 39 = .ok (.aload_n 0, 1) := by decide +kernel
theorem dX11_exponent_40 : decode cX11_exponent 40 = .ok (.getfield 52, 3) := by decide +kernel
theorem dX11_exponent_43 : decode cX11_exponent 43 = .ok (.sipush 416, 3) := by decide +kernel
theorem dX11_exponent_46 : decode cX11_exponent 46 = .ok (.iaload, 1) := by decide +kernel
theorem dX11_exponent_47 : decode cX11_exponent 47 = .ok (.iconst 1, 1) := by decide +kernel
theorem dX11_exponent_48 : decode cX11_exponent 48 = .ok (.isub, 1) := by decide +kernel
theorem dX11_exponent_49 : decode cX11_exponent 49 = .ok (.invokestatic 80, 3) := by decide +kernel
theorem dX11_exponent_52 : decode cX11_exponent 52 = .ok (.ifCond .eq 21, 3) := by decide +kernel
theorem dX11_exponent_55 : decode cX11_exponent 55 = .ok (.aload_n 0, 1) := by decide +kernel
theorem dX11_exponent_56 : decode cX11_exponent 56 = .ok (.getfield 55, 3) := by decide +kernel
theorem dX11_exponent_59 : decode cX11_exponent 59 = .ok (.sipush 13312, 3) := by decide +kernel
theorem dX11_exponent_62 : decode cX11_exponent 62 = .ok (.iload_n 3, 1) := by decide +kernel
theorem dX11_exponent_63 : decode cX11_exponent 63 = .ok (.iadd, 1) := by decide +kernel
theorem dX11_exponent_64 : decode cX11_exponent 64 = .ok (.laload, 1) := by decide +kernel
theorem dX11_exponent_65 : decode cX11_exponent 65 = .ok (.iload 4, 2) := by decide +kernel
theorem dX11_exponent_67 : decode cX11_exponent 67 = .ok (.invokestatic 264, 3) := by decide +kernel
theorem dX11_exponent_70 : decode cX11_exponent 70 = .ok (.goto 4, 3) := by decide +kernel
theorem dX11_exponent_73 : decode cX11_exponent 73 = .ok (.iconst (-1), 1) := by decide +kernel
theorem dX11_exponent_74 : decode cX11_exponent 74 = .ok (.ireturn, 1) := by decide +kernel
theorem dX11_tagsOf_0 : decode cX11_tagsOf 0 = .ok (.iconst 0, 1) := by decide +kernel
theorem dX11_tagsOf_1 : decode cX11_tagsOf 1 = .ok (.istore_n 2, 1) := by decide +kernel
theorem dX11_tagsOf_2 : decode cX11_tagsOf 2 = .ok (.iconst 0, 1) := by decide +kernel
theorem dX11_tagsOf_3 : decode cX11_tagsOf 3 = .ok (.istore_n 3, 1) := by decide +kernel
theorem dX11_tagsOf_4 : decode cX11_tagsOf 4 = .ok (.iload_n 3, 1) := by decide +kernel
theorem dX11_tagsOf_5 : decode cX11_tagsOf 5 = .ok (.aload_n 0, 1) := by decide +kernel
theorem dX11_tagsOf_6 : decode cX11_tagsOf 6 = .ok (.getfield 52, 3) := by decide +kernel
theorem dX11_tagsOf_9 : decode cX11_tagsOf 9 = .ok (.iload_n 1, 1) := by decide +kernel
theorem dX11_tagsOf_10 : decode cX11_tagsOf 10 = .ok (.iaload, 1) := by decide +kernel
theorem dX11_tagsOf_11 : decode cX11_tagsOf 11 = .ok (.if_icmp .ge 26, 3) := by decide +kernel
theorem dX11_tagsOf_14 : decode cX11_tagsOf 14 = .ok (.iload_n 2, 1) := by decide +kernel
theorem dX11_tagsOf_15 : decode cX11_tagsOf 15 = .ok (.aload_n 0, 1) := by decide +kernel
theorem dX11_tagsOf_16 : decode cX11_tagsOf 16 = .ok (.getfield 55, 3) := by decide +kernel
theorem dX11_tagsOf_19 : decode cX11_tagsOf 19 = .ok (.bipush 32, 2) := by decide +kernel
theorem dX11_tagsOf_21 : decode cX11_tagsOf 21 = .ok (.iload_n 1, 1) := by decide +kernel
theorem dX11_tagsOf_22 : decode cX11_tagsOf 22 = .ok (.imul, 1) := by decide +kernel
theorem dX11_tagsOf_23 : decode cX11_tagsOf 23 = .ok (.iload_n 3, 1) := by decide +kernel
theorem dX11_tagsOf_24 : decode cX11_tagsOf 24 = .ok (.iadd, 1) := by decide +kernel
theorem dX11_tagsOf_25 : decode cX11_tagsOf 25 = .ok (.laload, 1) := by decide +kernel
theorem dX11_tagsOf_26 : decode cX11_tagsOf 26 = .ok (.invokestatic 275, 3) := by decide +kernel
theorem dX11_tagsOf_29 : decode cX11_tagsOf 29 = .ok (.ior, 1) := by decide +kernel
theorem dX11_tagsOf_30 : decode cX11_tagsOf 30 = .ok (.istore_n 2, 1) := by decide +kernel
theorem dX11_tagsOf_31 : decode cX11_tagsOf 31 = .ok (.iinc 3 1, 3) := by decide +kernel
theorem dX11_tagsOf_34 : decode cX11_tagsOf 34 = .ok (.goto (-30), 3) := by decide +kernel
theorem dX11_tagsOf_37 : decode cX11_tagsOf 37 = .ok (.iload_n 2, 1) := by decide +kernel
theorem dX11_tagsOf_38 : decode cX11_tagsOf 38 = .ok (.ireturn, 1) := by decide +kernel
theorem dX11_lineage_0 : decode cX11_lineage 0 = .ok (.aload_n 0, 1) := by decide +kernel
theorem dX11_lineage_1 : decode cX11_lineage 1 = .ok (.iload_n 1, 1) := by decide +kernel
theorem dX11_lineage_2 : decode cX11_lineage 2 = .ok (.invokevirtual 261, 3) := by decide +kernel
theorem dX11_lineage_5 : decode cX11_lineage 5 = .ok (.ifCond .eq 11, 3) := by decide +kernel
theorem dX11_lineage_8 : decode cX11_lineage 8 = .ok (.aload_n 0, 1) := by decide +kernel
theorem dX11_lineage_9 : decode cX11_lineage 9 = .ok (.iload_n 1, 1) := by decide +kernel
theorem dX11_lineage_10 : decode cX11_lineage 10 = .ok (.invokevirtual 292, 3) := by decide +kernel
theorem dX11_lineage_13 : decode cX11_lineage 13 = .ok (.goto 4, 3) := by decide +kernel
theorem dX11_lineage_16 : decode cX11_lineage 16 = .ok (.iconst (-1), 1) := by decide +kernel
theorem dX11_lineage_17 : decode cX11_lineage 17 = .ok (.ireturn, 1) := by decide +kernel
theorem dX11_isAvailable_0 : decode cX11_isAvailable 0 = .ok (.aload_n 0, 1) := by decide +kernel
theorem dX11_isAvailable_1 : decode cX11_isAvailable 1 = .ok (.getfield 55, 3) := by decide +kernel
theorem dX11_isAvailable_4 : decode cX11_isAvailable 4 = .ok (.bipush 32, 2) := by decide +kernel
theorem dX11_isAvailable_6 : decode cX11_isAvailable 6 = .ok (.iload_n 1, 1) := by decide +kernel
theorem dX11_isAvailable_7 : decode cX11_isAvailable 7 = .ok (.imul, 1) := by decide +kernel
theorem dX11_isAvailable_8 : decode cX11_isAvailable 8 = .ok (.iload_n 2, 1) := by decide +kernel
theorem dX11_isAvailable_9 : decode cX11_isAvailable 9 = .ok (.iadd, 1) := by decide +kernel
theorem dX11_isAvailable_10 : decode cX11_isAvailable 10 = .ok (.laload, 1) := by decide +kernel
theorem dX11_isAvailable_11 : decode cX11_isAvailable 11 = .ok (.invokestatic 275, 3) := by decide +kernel
theorem dX11_isAvailable_14 : decode cX11_isAvailable 14 = .ok (.iload_n 3, 1) := by decide +kernel
theorem dX11_isAvailable_15 : decode cX11_isAvailable 15 = .ok (.iand, 1) := by decide +kernel
theorem dX11_isAvailable_16 : decode cX11_isAvailable 16 = .ok (.ifCond .ne 7, 3) := by decide +kernel
theorem dX11_isAvailable_19 : decode cX11_isAvailable 19 = .ok (.iconst 1, 1) := by decide +kernel
theorem dX11_isAvailable_20 : decode cX11_isAvailable 20 = .ok (.goto 4, 3) := by decide +kernel
theorem dX11_isAvailable_23 : decode cX11_isAvailable 23 = .ok (.iconst 0, 1) := by decide +kernel
theorem dX11_isAvailable_24 : decode cX11_isAvailable 24 = .ok (.ireturn, 1) := by decide +kernel
theorem dX11_isPresent_0 : decode cX11_isPresent 0 = .ok (.iconst 0, 1) := by decide +kernel
theorem dX11_isPresent_1 : decode cX11_isPresent 1 = .ok (.istore_n 3, 1) := by decide +kernel
theorem dX11_isPresent_2 : decode cX11_isPresent 2 = .ok (.iconst 0, 1) := by decide +kernel
theorem dX11_isPresent_3 : decode cX11_isPresent 3 = .ok (.istore 4, 2) := by decide +kernel
theorem dX11_isPresent_5 : decode cX11_isPresent 5 = .ok (.iload 4, 2) := by decide +kernel
theorem dX11_isPresent_7 : decode cX11_isPresent 7 = .ok (.aload_n 0, 1) := by decide +kernel
theorem dX11_isPresent_8 : decode cX11_isPresent 8 = .ok (.getfield 52, 3) := by decide +kernel
theorem dX11_isPresent_11 : decode cX11_isPresent 11 = .ok (.iload_n 1, 1) := by decide +kernel
theorem dX11_isPresent_12 : decode cX11_isPresent 12 = .ok (.iaload, 1) := by decide +kernel
theorem dX11_isPresent_13 : decode cX11_isPresent 13 = .ok (.if_icmp .ge 30, 3) := by decide +kernel
theorem dX11_isPresent_16 : decode cX11_isPresent 16 = .ok (.iload_n 3, 1) := by decide +kernel
theorem dX11_isPresent_17 : decode cX11_isPresent 17 = .ok (.ifCond .ne 14, 3) := by decide +kernel
theorem dX11_isPresent_20 : decode cX11_isPresent 20 = .ok (.aload_n 0, 1) := by decide +kernel
theorem dX11_isPresent_21 : decode cX11_isPresent 21 = .ok (.iload_n 1, 1) := by decide +kernel
theorem dX11_isPresent_22 : decode cX11_isPresent 22 = .ok (.iload 4, 2) := by decide +kernel
theorem dX11_isPresent_24 : decode cX11_isPresent 24 = .ok (.iload_n 2, 1) := by decide +kernel
theorem dX11_isPresent_25 : decode cX11_isPresent 25 = .ok (.invokevirtual 295, 3) := by decide +kernel
theorem dX11_isPresent_28 : decode cX11_isPresent 28 = .ok (.ifCond .eq 7, 3) := by decide +kernel
theorem dX11_isPresent_31 : decode cX11_isPresent 31 = .ok (.iconst 1, 1) := by decide +kernel
theorem dX11_isPresent_32 : decode cX11_isPresent 32 = .ok (.goto 4, 3) := by decide +kernel
theorem dX11_isPresent_35 : decode cX11_isPresent 35 = .ok (.iconst 0, 1) := by decide +kernel
theorem dX11_isPresent_36 : decode cX11_isPresent 36 = .ok (.istore_n 3, 1) := by decide +kernel
theorem dX11_isPresent_37 : decode cX11_isPresent 37 = .ok (.iinc 4 1, 3) := by decide +kernel
theorem dX11_isPresent_40 : decode cX11_isPresent 40 = .ok (.goto (-35), 3) := by decide +kernel
theorem dX11_isPresent_43 : decode cX11_isPresent 43 = .ok (.iload_n 3, 1) := by decide +kernel
theorem dX11_isPresent_44 : decode cX11_isPresent 44 = .ok (.ireturn, 1) := by decide +kernel
theorem dX11_presentRows_0 : decode cX11_presentRows 0 = .ok (.aload_n 0, 1) := by decide +kernel
theorem dX11_presentRows_1 : decode cX11_presentRows 1 = .ok (.invokevirtual 258, 3) := by decide +kernel
theorem dX11_presentRows_4 : decode cX11_presentRows 4 = .ok (.iconst 0, 1) := by decide +kernel
theorem dX11_presentRows_5 : decode cX11_presentRows 5 = .ok (.istore_n 2, 1) := by decide +kernel
theorem dX11_presentRows_6 : decode cX11_presentRows 6 = .ok (.iconst 0, 1) := by decide +kernel
theorem dX11_presentRows_7 : decode cX11_presentRows 7 = .ok (.istore_n 3, 1) := by decide +kernel
theorem dX11_presentRows_8 : decode cX11_presentRows 8 = .ok (.iload_n 3, 1) := by decide +kernel
theorem dX11_presentRows_9 : decode cX11_presentRows 9 = .ok (.aload_n 0, 1) := by decide +kernel
theorem dX11_presentRows_10 : decode cX11_presentRows 10 = .ok (.getfield 46, 3) := by decide +kernel
theorem dX11_presentRows_13 : decode cX11_presentRows 13 = .ok (.iconst 0, 1) := by decide +kernel
theorem dX11_presentRows_14 : decode cX11_presentRows 14 = .ok (.iaload, 1) := by decide +kernel
theorem dX11_presentRows_15 : decode cX11_presentRows 15 = .ok (.if_icmp .ge 26, 3) := by decide +kernel
theorem dX11_presentRows_18 : decode cX11_presentRows 18 = .ok (.iload_n 2, 1) := by decide +kernel
theorem dX11_presentRows_19 : decode cX11_presentRows 19 = .ok (.aload_n 0, 1) := by decide +kernel
theorem dX11_presentRows_20 : decode cX11_presentRows 20 = .ok (.iload_n 3, 1) := by decide +kernel
theorem dX11_presentRows_21 : decode cX11_presentRows 21 = .ok (.iload_n 1, 1) := by decide +kernel
theorem dX11_presentRows_22 : decode cX11_presentRows 22 = .ok (.invokevirtual 298, 3) := by decide +kernel
theorem dX11_presentRows_25 : decode cX11_presentRows 25 = .ok (.ifCond .eq 7, 3) := by decide +kernel
theorem dX11_presentRows_28 : decode cX11_presentRows 28 = .ok (.iconst 1, 1) := by decide +kernel
theorem dX11_presentRows_29 : decode cX11_presentRows 29 = .ok (.goto 4, 3) := by decide +kernel
theorem dX11_presentRows_32 : decode cX11_presentRows 32 = .ok (.iconst 0, 1) := by decide +kernel
theorem dX11_presentRows_33 : decode cX11_presentRows 33 = .ok (.iadd, 1) := by decide +kernel
theorem dX11_presentRows_34 : decode cX11_presentRows 34 = .ok (.istore_n 2, 1) := by decide +kernel
theorem dX11_presentRows_35 : decode cX11_presentRows 35 = .ok (.iinc 3 1, 3) := by decide +kernel
theorem dX11_presentRows_38 : decode cX11_presentRows 38 = .ok (.goto (-30), 3) := by decide +kernel
theorem dX11_presentRows_41 : decode cX11_presentRows 41 = .ok (.iload_n 2, 1) := by decide +kernel
theorem dX11_presentRows_42 : decode cX11_presentRows 42 = .ok (.ireturn, 1) := by decide +kernel
theorem dX11_derivations_0 : decode cX11_derivations 0 = .ok (.aload_n 0, 1) := by decide +kernel
theorem dX11_derivations_1 : decode cX11_derivations 1 = .ok (.iload_n 1, 1) := by decide +kernel
theorem dX11_derivations_2 : decode cX11_derivations 2 = .ok (.invokevirtual 261, 3) := by decide +kernel
theorem dX11_derivations_5 : decode cX11_derivations 5 = .ok (.ifCond .ne 7, 3) := by decide +kernel
theorem dX11_derivations_8 : decode cX11_derivations 8 = .ok (.ldc2_w 288, 3) := by decide +kernel
theorem dX11_derivations_11 : decode cX11_derivations 11 = .ok (.lreturn, 1) := by decide +kernel
theorem dX11_derivations_12 : decode cX11_derivations 12 = .ok (.lconst 0, 1) := by decide +kernel
theorem dX11_derivations_13 : decode cX11_derivations 13 = .ok (.lstore_n 2, 1) := by decide +kernel
theorem dX11_derivations_14 : decode cX11_derivations 14 = .ok (.iconst 0, 1) := by decide +kernel
theorem dX11_derivations_15 : decode cX11_derivations 15 = .ok (.istore 4, 2) := by decide +kernel
theorem dX11_derivations_17 : decode cX11_derivations 17 = .ok (.iload 4, 2) := by decide +kernel
theorem dX11_derivations_19 : decode cX11_derivations 19 = .ok (.aload_n 0, 1) := by decide +kernel
theorem dX11_derivations_20 : decode cX11_derivations 20 = .ok (.getfield 52, 3) := by decide +kernel
theorem dX11_derivations_23 : decode cX11_derivations 23 = .ok (.iload_n 1, 1) := by decide +kernel
theorem dX11_derivations_24 : decode cX11_derivations 24 = .ok (.iaload, 1) := by decide +kernel
theorem dX11_derivations_25 : decode cX11_derivations 25 = .ok (.if_icmp .ge 43, 3) := by decide +kernel
theorem dX11_derivations_28 : decode cX11_derivations 28 = .ok (.lload_n 2, 1) := by decide +kernel
theorem dX11_derivations_29 : decode cX11_derivations 29 = .ok (.aload_n 0, 1) := by decide +kernel
theorem dX11_derivations_30 : decode cX11_derivations 30 = .ok (.iload_n 1, 1) := by decide +kernel
theorem dX11_derivations_31 : decode cX11_derivations 31 = .ok (.iload 4, 2) := by decide +kernel
theorem dX11_derivations_33 : decode cX11_derivations 33 = .ok (.aload_n 0, 1) := by decide +kernel
theorem dX11_derivations_34 : decode cX11_derivations 34 = .ok (.iconst 1, 1) := by decide +kernel
theorem dX11_derivations_35 : decode cX11_derivations 35 = .ok (.invokevirtual 242, 3) := by decide +kernel
theorem dX11_derivations_38 : decode cX11_derivations 38 = .ok (.invokevirtual 295, 3) := by decide +kernel
theorem dX11_derivations_41 : decode cX11_derivations 41 = .ok (.ifCond .eq 18, 3) := by decide +kernel
theorem dX11_derivations_44 : decode cX11_derivations 44 = .ok (.aload_n 0, 1) := by decide +kernel
theorem dX11_derivations_45 : decode cX11_derivations 45 = .ok (.getfield 59, 3) := by decide +kernel
theorem dX11_derivations_48 : decode cX11_derivations 48 = .ok (.bipush 32, 2) := by decide +kernel
theorem dX11_derivations_50 : decode cX11_derivations 50 = .ok (.iload_n 1, 1) := by decide +kernel
theorem dX11_derivations_51 : decode cX11_derivations 51 = .ok (.imul, 1) := by decide +kernel
theorem dX11_derivations_52 : decode cX11_derivations 52 = .ok (.iload 4, 2) := by decide +kernel
theorem dX11_derivations_54 : decode cX11_derivations 54 = .ok (.iadd, 1) := by decide +kernel
theorem dX11_derivations_55 : decode cX11_derivations 55 = .ok (.laload, 1) := by decide +kernel
theorem dX11_derivations_56 : decode cX11_derivations 56 = .ok (.goto 4, 3) := by decide +kernel
theorem dX11_derivations_59 : decode cX11_derivations 59 = .ok (.lconst 0, 1) := by decide +kernel
theorem dX11_derivations_60 : decode cX11_derivations 60 = .ok (.ladd, 1) := by decide +kernel
theorem dX11_derivations_61 : decode cX11_derivations 61 = .ok (.lstore_n 2, 1) := by decide +kernel
theorem dX11_derivations_62 : decode cX11_derivations 62 = .ok (.iinc 4 1, 3) := by decide +kernel
theorem dX11_derivations_65 : decode cX11_derivations 65 = .ok (.goto (-48), 3) := by decide +kernel
theorem dX11_derivations_68 : decode cX11_derivations 68 = .ok (.lload_n 2, 1) := by decide +kernel
theorem dX11_derivations_69 : decode cX11_derivations 69 = .ok (.lreturn, 1) := by decide +kernel
theorem dX11_costOf_0 : decode cX11_costOf 0 = .ok (.iconst 0, 1) := by decide +kernel
theorem dX11_costOf_1 : decode cX11_costOf 1 = .ok (.istore_n 3, 1) := by decide +kernel
theorem dX11_costOf_2 : decode cX11_costOf 2 = .ok (.iconst 0, 1) := by decide +kernel
theorem dX11_costOf_3 : decode cX11_costOf 3 = .ok (.istore 4, 2) := by decide +kernel
theorem dX11_costOf_5 : decode cX11_costOf 5 = .ok (.iload 4, 2) := by decide +kernel
theorem dX11_costOf_7 : decode cX11_costOf 7 = .ok (.bipush 16, 2) := by decide +kernel
theorem dX11_costOf_9 : decode cX11_costOf 9 = .ok (.if_icmp .ge 26, 3) := by decide +kernel
theorem dX11_costOf_12 : decode cX11_costOf 12 = .ok (.iload_n 3, 1) := by decide +kernel
theorem dX11_costOf_13 : decode cX11_costOf 13 = .ok (.lload_n 1, 1) := by decide +kernel
theorem dX11_costOf_14 : decode cX11_costOf 14 = .ok (.iload 4, 2) := by decide +kernel
theorem dX11_costOf_16 : decode cX11_costOf 16 = .ok (.invokestatic 264, 3) := by decide +kernel
theorem dX11_costOf_19 : decode cX11_costOf 19 = .ok (.aload_n 0, 1) := by decide +kernel
theorem dX11_costOf_20 : decode cX11_costOf 20 = .ok (.iload 4, 2) := by decide +kernel
theorem dX11_costOf_22 : decode cX11_costOf 22 = .ok (.iconst 2, 1) := by decide +kernel
theorem dX11_costOf_23 : decode cX11_costOf 23 = .ok (.invokevirtual 84, 3) := by decide +kernel
theorem dX11_costOf_26 : decode cX11_costOf 26 = .ok (.imul, 1) := by decide +kernel
theorem dX11_costOf_27 : decode cX11_costOf 27 = .ok (.iadd, 1) := by decide +kernel
theorem dX11_costOf_28 : decode cX11_costOf 28 = .ok (.istore_n 3, 1) := by decide +kernel
theorem dX11_costOf_29 : decode cX11_costOf 29 = .ok (.iinc 4 1, 3) := by decide +kernel
theorem dX11_costOf_32 : decode cX11_costOf 32 = .ok (.goto (-27), 3) := by decide +kernel
theorem dX11_costOf_35 : decode cX11_costOf 35 = .ok (.iload_n 3, 1) := by decide +kernel
theorem dX11_costOf_36 : decode cX11_costOf 36 = .ok (.ireturn, 1) := by decide +kernel
theorem dX11_trustOf_0 : decode cX11_trustOf 0 = .ok (.bipush 100, 2) := by decide +kernel
theorem dX11_trustOf_2 : decode cX11_trustOf 2 = .ok (.istore_n 3, 1) := by decide +kernel
theorem dX11_trustOf_3 : decode cX11_trustOf 3 = .ok (.iconst 0, 1) := by decide +kernel
theorem dX11_trustOf_4 : decode cX11_trustOf 4 = .ok (.istore 4, 2) := by decide +kernel
theorem dX11_trustOf_6 : decode cX11_trustOf 6 = .ok (.iload 4, 2) := by decide +kernel
theorem dX11_trustOf_8 : decode cX11_trustOf 8 = .ok (.bipush 16, 2) := by decide +kernel
theorem dX11_trustOf_10 : decode cX11_trustOf 10 = .ok (.if_icmp .ge 41, 3) := by decide +kernel
theorem dX11_trustOf_13 : decode cX11_trustOf 13 = .ok (.lload_n 1, 1) := by decide +kernel
theorem dX11_trustOf_14 : decode cX11_trustOf 14 = .ok (.iload 4, 2) := by decide +kernel
theorem dX11_trustOf_16 : decode cX11_trustOf 16 = .ok (.invokestatic 264, 3) := by decide +kernel
theorem dX11_trustOf_19 : decode cX11_trustOf 19 = .ok (.ifCond .le 24, 3) := by decide +kernel
theorem dX11_trustOf_22 : decode cX11_trustOf 22 = .ok (.aload_n 0, 1) := by decide +kernel
theorem dX11_trustOf_23 : decode cX11_trustOf 23 = .ok (.iload 4, 2) := by decide +kernel
theorem dX11_trustOf_25 : decode cX11_trustOf 25 = .ok (.iconst 3, 1) := by decide +kernel
theorem dX11_trustOf_26 : decode cX11_trustOf 26 = .ok (.invokevirtual 84, 3) := by decide +kernel
theorem dX11_trustOf_29 : decode cX11_trustOf 29 = .ok (.iload_n 3, 1) := by decide +kernel
theorem dX11_trustOf_30 : decode cX11_trustOf 30 = .ok (.if_icmp .ge 13, 3) := by decide +kernel
theorem dX11_trustOf_33 : decode cX11_trustOf 33 = .ok (.aload_n 0, 1) := by decide +kernel
theorem dX11_trustOf_34 : decode cX11_trustOf 34 = .ok (.iload 4, 2) := by decide +kernel
theorem dX11_trustOf_36 : decode cX11_trustOf 36 = .ok (.iconst 3, 1) := by decide +kernel
theorem dX11_trustOf_37 : decode cX11_trustOf 37 = .ok (.invokevirtual 84, 3) := by decide +kernel
theorem dX11_trustOf_40 : decode cX11_trustOf 40 = .ok (.goto 4, 3) := by decide +kernel
theorem dX11_trustOf_43 : decode cX11_trustOf 43 = .ok (.iload_n 3, 1) := by decide +kernel
theorem dX11_trustOf_44 : decode cX11_trustOf 44 = .ok (.istore_n 3, 1) := by decide +kernel
theorem dX11_trustOf_45 : decode cX11_trustOf 45 = .ok (.iinc 4 1, 3) := by decide +kernel
theorem dX11_trustOf_48 : decode cX11_trustOf 48 = .ok (.goto (-42), 3) := by decide +kernel
theorem dX11_trustOf_51 : decode cX11_trustOf 51 = .ok (.iload_n 3, 1) := by decide +kernel
theorem dX11_trustOf_52 : decode cX11_trustOf 52 = .ok (.ireturn, 1) := by decide +kernel
theorem dX11_confidenceOf_0 : decode cX11_confidenceOf 0 = .ok (.fconst 1, 1) := by decide +kernel
theorem dX11_confidenceOf_1 : decode cX11_confidenceOf 1 = .ok (.fstore_n 3, 1) := by decide +kernel
theorem dX11_confidenceOf_2 : decode cX11_confidenceOf 2 = .ok (.iconst 0, 1) := by decide +kernel
theorem dX11_confidenceOf_3 : decode cX11_confidenceOf 3 = .ok (.istore 4, 2) := by decide +kernel
theorem dX11_confidenceOf_5 : decode cX11_confidenceOf 5 = .ok (.iload 4, 2) := by decide +kernel
theorem dX11_confidenceOf_7 : decode cX11_confidenceOf 7 = .ok (.bipush 16, 2) := by decide +kernel
theorem dX11_confidenceOf_9 : decode cX11_confidenceOf 9 = .ok (.if_icmp .ge 44, 3) := by decide +kernel
theorem dX11_confidenceOf_12 : decode cX11_confidenceOf 12 = .ok (.iconst 0, 1) := by decide +kernel
theorem dX11_confidenceOf_13 : decode cX11_confidenceOf 13 = .ok (.istore 5, 2) := by decide +kernel
theorem dX11_confidenceOf_15 : decode cX11_confidenceOf 15 = .ok (.iload 5, 2) := by decide +kernel
theorem dX11_confidenceOf_17 : decode cX11_confidenceOf 17 = .ok (.lload_n 1, 1) := by decide +kernel
theorem dX11_confidenceOf_18 : decode cX11_confidenceOf 18 = .ok (.iload 4, 2) := by decide +kernel
theorem dX11_confidenceOf_20 : decode cX11_confidenceOf 20 = .ok (.invokestatic 264, 3) := by decide +kernel
theorem dX11_confidenceOf_23 : decode cX11_confidenceOf 23 = .ok (.if_icmp .ge 24, 3) := by decide +kernel
theorem dX11_confidenceOf_26 : decode cX11_confidenceOf 26 = .ok (.fload_n 3, 1) := by decide +kernel
theorem dX11_confidenceOf_27 : decode cX11_confidenceOf 27 = .ok (.aload_n 0, 1) := by decide +kernel
theorem dX11_confidenceOf_28 : decode cX11_confidenceOf 28 = .ok (.iload 4, 2) := by decide +kernel
theorem dX11_confidenceOf_30 : decode cX11_confidenceOf 30 = .ok (.iconst 3, 1) := by decide +kernel
theorem dX11_confidenceOf_31 : decode cX11_confidenceOf 31 = .ok (.invokevirtual 84, 3) := by decide +kernel
theorem dX11_confidenceOf_34 : decode cX11_confidenceOf 34 = .ok (.i2f, 1) := by decide +kernel
theorem dX11_confidenceOf_35 : decode cX11_confidenceOf 35 = .ok (.ldc_w 302, 3) := by decide +kernel
theorem dX11_confidenceOf_38 : decode cX11_confidenceOf 38 = .ok (.fdiv, 1) := by decide +kernel
theorem dX11_confidenceOf_39 : decode cX11_confidenceOf 39 = .ok (.fmul, 1) := by decide +kernel
theorem dX11_confidenceOf_40 : decode cX11_confidenceOf 40 = .ok (.fstore_n 3, 1) := by decide +kernel
theorem dX11_confidenceOf_41 : decode cX11_confidenceOf 41 = .ok (.iinc 5 1, 3) := by decide +kernel
theorem dX11_confidenceOf_44 : decode cX11_confidenceOf 44 = .ok (.goto (-29), 3) := by decide +kernel
theorem dX11_confidenceOf_47 : decode cX11_confidenceOf 47 = .ok (.iinc 4 1, 3) := by decide +kernel
theorem dX11_confidenceOf_50 : decode cX11_confidenceOf 50 = .ok (.goto (-45), 3) := by decide +kernel
theorem dX11_confidenceOf_53 : decode cX11_confidenceOf 53 = .ok (.fload_n 3, 1) := by decide +kernel
theorem dX11_confidenceOf_54 : decode cX11_confidenceOf 54 = .ok (.freturn, 1) := by decide +kernel
theorem dX11_cheapest_0 : decode cX11_cheapest 0 = .ok (.bipush (-6), 2) := by decide +kernel
theorem dX11_cheapest_2 : decode cX11_cheapest 2 = .ok (.istore_n 2, 1) := by decide +kernel
theorem dX11_cheapest_3 : decode cX11_cheapest 3 = .ok (.iconst 0, 1) := by decide +kernel
theorem dX11_cheapest_4 : decode cX11_cheapest 4 = .ok (.istore_n 3, 1) := by decide +kernel
theorem dX11_cheapest_5 : decode cX11_cheapest 5 = .ok (.iconst 0, 1) := by decide +kernel
theorem dX11_cheapest_6 : decode cX11_cheapest 6 = .ok (.istore 4, 2) := by decide +kernel
theorem dX11_cheapest_8 : decode cX11_cheapest 8 = .ok (.iload 4, 2) := by decide +kernel
theorem dX11_cheapest_10 : decode cX11_cheapest 10 = .ok (.aload_n 0, 1) := by decide +kernel
theorem dX11_cheapest_11 : decode cX11_cheapest 11 = .ok (.getfield 52, 3) := by decide +kernel
theorem dX11_cheapest_14 : decode cX11_cheapest 14 = .ok (.iload_n 1, 1) := by decide +kernel
theorem dX11_cheapest_15 : decode cX11_cheapest 15 = .ok (.iaload, 1) := by decide +kernel
theorem dX11_cheapest_16 : decode cX11_cheapest 16 = .ok (.if_icmp .ge 85, 3) := by decide +kernel
theorem dX11_cheapest_19 : decode cX11_cheapest 19 = .ok (.aload_n 0, 1) := by decide +kernel
theorem dX11_cheapest_20 : decode cX11_cheapest 20 = .ok (.aload_n 0, 1) := by decide +kernel
theorem dX11_cheapest_21 : decode cX11_cheapest 21 = .ok (.getfield 55, 3) := by decide +kernel
theorem dX11_cheapest_24 : decode cX11_cheapest 24 = .ok (.bipush 32, 2) := by decide +kernel
theorem dX11_cheapest_26 : decode cX11_cheapest 26 = .ok (.iload_n 1, 1) := by decide +kernel
theorem dX11_cheapest_27 : decode cX11_cheapest 27 = .ok (.imul, 1) := by decide +kernel
theorem dX11_cheapest_28 : decode cX11_cheapest 28 = .ok (.iload 4, 2) := by decide +kernel
theorem dX11_cheapest_30 : decode cX11_cheapest 30 = .ok (.iadd, 1) := by decide +kernel
theorem dX11_cheapest_31 : decode cX11_cheapest 31 = .ok (.laload, 1) := by decide +kernel
theorem dX11_cheapest_32 : decode cX11_cheapest 32 = .ok (.invokevirtual 303, 3) := by decide +kernel
theorem dX11_cheapest_35 : decode cX11_cheapest 35 = .ok (.istore 5, 2) := by decide +kernel
theorem dX11_cheapest_37 : decode cX11_cheapest 37 = .ok (.aload_n 0, 1) := by decide +kernel
theorem dX11_cheapest_38 : decode cX11_cheapest 38 = .ok (.iload_n 1, 1) := by decide +kernel
theorem dX11_cheapest_39 : decode cX11_cheapest 39 = .ok (.iload 4, 2) := by decide +kernel
theorem dX11_cheapest_41 : decode cX11_cheapest 41 = .ok (.aload_n 0, 1) := by decide +kernel
theorem dX11_cheapest_42 : decode cX11_cheapest 42 = .ok (.iconst 1, 1) := by decide +kernel
theorem dX11_cheapest_43 : decode cX11_cheapest 43 = .ok (.invokevirtual 242, 3) := by decide +kernel
theorem dX11_cheapest_46 : decode cX11_cheapest 46 = .ok (.invokevirtual 295, 3) := by decide +kernel
theorem dX11_cheapest_49 : decode cX11_cheapest 49 = .ok (.ifCond .eq 19, 3) := by decide +kernel
theorem dX11_cheapest_52 : decode cX11_cheapest 52 = .ok (.iload_n 2, 1) := by decide +kernel
theorem dX11_cheapest_53 : decode cX11_cheapest 53 = .ok (.bipush (-6), 2) := by decide +kernel
theorem dX11_cheapest_55 : decode cX11_cheapest 55 = .ok (.if_icmp .eq 9, 3) := by decide +kernel
theorem dX11_cheapest_58 : decode cX11_cheapest 58 = .ok (.iload 5, 2) := by decide +kernel
theorem dX11_cheapest_60 : decode cX11_cheapest 60 = .ok (.iload_n 3, 1) := by decide +kernel
theorem dX11_cheapest_61 : decode cX11_cheapest 61 = .ok (.if_icmp .ge 7, 3) := by decide +kernel
theorem dX11_cheapest_64 : decode cX11_cheapest 64 = .ok (.iconst 1, 1) := by decide +kernel
theorem dX11_cheapest_65 : decode cX11_cheapest 65 = .ok (.goto 4, 3) := by decide +kernel
theorem dX11_cheapest_68 : decode cX11_cheapest 68 = .ok (.iconst 0, 1) := by decide +kernel
theorem dX11_cheapest_69 : decode cX11_cheapest 69 = .ok (.istore 6, 2) := by decide +kernel
theorem dX11_cheapest_71 : decode cX11_cheapest 71 = .ok (.iload 6, 2) := by decide +kernel
theorem dX11_cheapest_73 : decode cX11_cheapest 73 = .ok (.ifCond .eq 8, 3) := by decide +kernel
theorem dX11_cheapest_76 : decode cX11_cheapest 76 = .ok (.iload 4, 2) := by decide +kernel
theorem dX11_cheapest_78 : decode cX11_cheapest 78 = .ok (.goto 4, 3) := by decide +kernel
theorem dX11_cheapest_81 : decode cX11_cheapest 81 = .ok (.iload_n 2, 1) := by decide +kernel
theorem dX11_cheapest_82 : decode cX11_cheapest 82 = .ok (.istore_n 2, 1) := by decide +kernel
theorem dX11_cheapest_83 : decode cX11_cheapest 83 = .ok (.iload 6, 2) := by decide +kernel
theorem dX11_cheapest_85 : decode cX11_cheapest 85 = .ok (.ifCond .eq 8, 3) := by decide +kernel
theorem dX11_cheapest_88 : decode cX11_cheapest 88 = .ok (.iload 5, 2) := by decide +kernel
theorem dX11_cheapest_90 : decode cX11_cheapest 90 = .ok (.goto 4, 3) := by decide +kernel
theorem dX11_cheapest_93 : decode cX11_cheapest 93 = .ok (.iload_n 3, 1) := by decide +kernel
theorem dX11_cheapest_94 : decode cX11_cheapest 94 = .ok (.istore_n 3, 1) := by decide +kernel
theorem dX11_cheapest_95 : decode cX11_cheapest 95 = .ok (.iinc 4 1, 3) := by decide +kernel
theorem dX11_cheapest_98 : decode cX11_cheapest 98 = .ok (.goto (-90), 3) := by decide +kernel
theorem dX11_cheapest_101 : decode cX11_cheapest 101 = .ok (.iload_n 2, 1) := by decide +kernel
theorem dX11_cheapest_102 : decode cX11_cheapest 102 = .ok (.ireturn, 1) := by decide +kernel
theorem dX11_leastCost_0 : decode cX11_leastCost 0 = .ok (.aload_n 0, 1) := by decide +kernel
theorem dX11_leastCost_1 : decode cX11_leastCost 1 = .ok (.iload_n 1, 1) := by decide +kernel
theorem dX11_leastCost_2 : decode cX11_leastCost 2 = .ok (.invokevirtual 261, 3) := by decide +kernel
theorem dX11_leastCost_5 : decode cX11_leastCost 5 = .ok (.ifCond .ne 5, 3) := by decide +kernel
theorem dX11_leastCost_8 : decode cX11_leastCost 8 = .ok (.iconst (-1), 1) := by decide +kernel
theorem dX11_leastCost_9 : decode cX11_leastCost 9 = .ok (.ireturn, 1) := by decide +kernel
theorem dX11_leastCost_10 : decode cX11_leastCost 10 = .ok (.aload_n 0, 1) := by decide +kernel
theorem dX11_leastCost_11 : decode cX11_leastCost 11 = .ok (.iload_n 1, 1) := by decide +kernel
theorem dX11_leastCost_12 : decode cX11_leastCost 12 = .ok (.invokevirtual 306, 3) := by decide +kernel
theorem dX11_leastCost_15 : decode cX11_leastCost 15 = .ok (.istore_n 2, 1) := by decide +kernel
theorem dX11_leastCost_16 : decode cX11_leastCost 16 = .ok (.iload_n 2, 1) := by decide +kernel
theorem dX11_leastCost_17 : decode cX11_leastCost 17 = .ok (.bipush (-6), 2) := by decide +kernel
theorem dX11_leastCost_19 : decode cX11_leastCost 19 = .ok (.if_icmp .ne 8, 3) := by decide +kernel
theorem dX11_leastCost_22 : decode cX11_leastCost 22 = .ok (.bipush (-6), 2) := by decide +kernel
theorem dX11_leastCost_24 : decode cX11_leastCost 24 = .ok (.goto 18, 3) := by decide +kernel
theorem dX11_leastCost_27 : decode cX11_leastCost 27 = .ok (.aload_n 0, 1) := by decide +kernel
theorem dX11_leastCost_28 : decode cX11_leastCost 28 = .ok (.aload_n 0, 1) := by decide +kernel
theorem dX11_leastCost_29 : decode cX11_leastCost 29 = .ok (.getfield 55, 3) := by decide +kernel
theorem dX11_leastCost_32 : decode cX11_leastCost 32 = .ok (.bipush 32, 2) := by decide +kernel
theorem dX11_leastCost_34 : decode cX11_leastCost 34 = .ok (.iload_n 1, 1) := by decide +kernel
theorem dX11_leastCost_35 : decode cX11_leastCost 35 = .ok (.imul, 1) := by decide +kernel
theorem dX11_leastCost_36 : decode cX11_leastCost 36 = .ok (.iload_n 2, 1) := by decide +kernel
theorem dX11_leastCost_37 : decode cX11_leastCost 37 = .ok (.iadd, 1) := by decide +kernel
theorem dX11_leastCost_38 : decode cX11_leastCost 38 = .ok (.laload, 1) := by decide +kernel
theorem dX11_leastCost_39 : decode cX11_leastCost 39 = .ok (.invokevirtual 303, 3) := by decide +kernel
theorem dX11_leastCost_42 : decode cX11_leastCost 42 = .ok (.ireturn, 1) := by decide +kernel
theorem dX11_cheapestTags_0 : decode cX11_cheapestTags 0 = .ok (.aload_n 0, 1) := by decide +kernel
theorem dX11_cheapestTags_1 : decode cX11_cheapestTags 1 = .ok (.iload_n 1, 1) := by decide +kernel
theorem dX11_cheapestTags_2 : decode cX11_cheapestTags 2 = .ok (.invokevirtual 261, 3) := by decide +kernel
theorem dX11_cheapestTags_5 : decode cX11_cheapestTags 5 = .ok (.ifCond .ne 5, 3) := by decide +kernel
theorem dX11_cheapestTags_8 : decode cX11_cheapestTags 8 = .ok (.iconst (-1), 1) := by decide +kernel
theorem dX11_cheapestTags_9 : decode cX11_cheapestTags 9 = .ok (.ireturn, 1) := by decide +kernel
theorem dX11_cheapestTags_10 : decode cX11_cheapestTags 10 = .ok (.aload_n 0, 1) := by decide +kernel
theorem dX11_cheapestTags_11 : decode cX11_cheapestTags 11 = .ok (.iload_n 1, 1) := by decide +kernel
theorem dX11_cheapestTags_12 : decode cX11_cheapestTags 12 = .ok (.invokevirtual 306, 3) := by decide +kernel
theorem dX11_cheapestTags_15 : decode cX11_cheapestTags 15 = .ok (.istore_n 2, 1) := by decide +kernel
theorem dX11_cheapestTags_16 : decode cX11_cheapestTags 16 = .ok (.iload_n 2, 1) := by decide +kernel
theorem dX11_cheapestTags_17 : decode cX11_cheapestTags 17 = .ok (.bipush (-6), 2) := by decide +kernel
theorem dX11_cheapestTags_19 : decode cX11_cheapestTags 19 = .ok (.if_icmp .ne 8, 3) := by decide +kernel
theorem dX11_cheapestTags_22 : decode cX11_cheapestTags 22 = .ok (.bipush (-6), 2) := by decide +kernel
theorem dX11_cheapestTags_24 : decode cX11_cheapestTags 24 = .ok (.goto 17, 3) := by decide +kernel
theorem dX11_cheapestTags_27 : decode cX11_cheapestTags 27 = .ok (.aload_n 0, 1) := by decide +kernel
theorem dX11_cheapestTags_28 : decode cX11_cheapestTags 28 = .ok (.getfield 55, 3) := by decide +kernel
theorem dX11_cheapestTags_31 : decode cX11_cheapestTags 31 = .ok (.bipush 32, 2) := by decide +kernel
theorem dX11_cheapestTags_33 : decode cX11_cheapestTags 33 = .ok (.iload_n 1, 1) := by decide +kernel
theorem dX11_cheapestTags_34 : decode cX11_cheapestTags 34 = .ok (.imul, 1) := by decide +kernel
theorem dX11_cheapestTags_35 : decode cX11_cheapestTags 35 = .ok (.iload_n 2, 1) := by decide +kernel
theorem dX11_cheapestTags_36 : decode cX11_cheapestTags 36 = .ok (.iadd, 1) := by decide +kernel
theorem dX11_cheapestTags_37 : decode cX11_cheapestTags 37 = .ok (.laload, 1) := by decide +kernel
theorem dX11_cheapestTags_38 : decode cX11_cheapestTags 38 = .ok (.invokestatic 275, 3) := by decide +kernel
theorem dX11_cheapestTags_41 : decode cX11_cheapestTags 41 = .ok (.ireturn, 1) := by decide +kernel
theorem dX11_answerTrust_0 : decode cX11_answerTrust 0 = .ok (.aload_n 0, 1) := by decide +kernel
theorem dX11_answerTrust_1 : decode cX11_answerTrust 1 = .ok (.iload_n 1, 1) := by decide +kernel
theorem dX11_answerTrust_2 : decode cX11_answerTrust 2 = .ok (.invokevirtual 261, 3) := by decide +kernel
theorem dX11_answerTrust_5 : decode cX11_answerTrust 5 = .ok (.ifCond .ne 5, 3) := by decide +kernel
theorem dX11_answerTrust_8 : decode cX11_answerTrust 8 = .ok (.iconst (-1), 1) := by decide +kernel
theorem dX11_answerTrust_9 : decode cX11_answerTrust 9 = .ok (.ireturn, 1) := by decide +kernel
theorem dX11_answerTrust_10 : decode cX11_answerTrust 10 = .ok (.bipush (-6), 2) := by decide +kernel
theorem dX11_answerTrust_12 : decode cX11_answerTrust 12 = .ok (.istore_n 2, 1) := by decide +kernel
theorem dX11_answerTrust_13 : decode cX11_answerTrust 13 = .ok (.iconst 0, 1) := by decide +kernel
theorem dX11_answerTrust_14 : decode cX11_answerTrust 14 = .ok (.istore_n 3, 1) := by decide +kernel
theorem dX11_answerTrust_15 : decode cX11_answerTrust 15 = .ok (.iload_n 3, 1) := by decide +kernel
theorem dX11_answerTrust_16 : decode cX11_answerTrust 16 = .ok (.aload_n 0, 1) := by decide +kernel
theorem dX11_answerTrust_17 : decode cX11_answerTrust 17 = .ok (.getfield 52, 3) := by decide +kernel
theorem dX11_answerTrust_20 : decode cX11_answerTrust 20 = .ok (.iload_n 1, 1) := by decide +kernel
theorem dX11_answerTrust_21 : decode cX11_answerTrust 21 = .ok (.iaload, 1) := by decide +kernel
theorem dX11_answerTrust_22 : decode cX11_answerTrust 22 = .ok (.if_icmp .ge 58, 3) := by decide +kernel
theorem dX11_answerTrust_25 : decode cX11_answerTrust 25 = .ok (.aload_n 0, 1) := by decide +kernel
theorem dX11_answerTrust_26 : decode cX11_answerTrust 26 = .ok (.iload_n 1, 1) := by decide +kernel
theorem dX11_answerTrust_27 : decode cX11_answerTrust 27 = .ok (.iload_n 3, 1) := by decide +kernel
theorem dX11_answerTrust_28 : decode cX11_answerTrust 28 = .ok (.aload_n 0, 1) := by decide +kernel
theorem dX11_answerTrust_29 : decode cX11_answerTrust 29 = .ok (.iconst 1, 1) := by decide +kernel
theorem dX11_answerTrust_30 : decode cX11_answerTrust 30 = .ok (.invokevirtual 242, 3) := by decide +kernel
theorem dX11_answerTrust_33 : decode cX11_answerTrust 33 = .ok (.invokevirtual 295, 3) := by decide +kernel
theorem dX11_answerTrust_36 : decode cX11_answerTrust 36 = .ok (.ifCond .eq 21, 3) := by decide +kernel
theorem dX11_answerTrust_39 : decode cX11_answerTrust 39 = .ok (.aload_n 0, 1) := by decide +kernel
theorem dX11_answerTrust_40 : decode cX11_answerTrust 40 = .ok (.aload_n 0, 1) := by decide +kernel
theorem dX11_answerTrust_41 : decode cX11_answerTrust 41 = .ok (.getfield 55, 3) := by decide +kernel
theorem dX11_answerTrust_44 : decode cX11_answerTrust 44 = .ok (.bipush 32, 2) := by decide +kernel
theorem dX11_answerTrust_46 : decode cX11_answerTrust 46 = .ok (.iload_n 1, 1) := by decide +kernel
theorem dX11_answerTrust_47 : decode cX11_answerTrust 47 = .ok (.imul, 1) := by decide +kernel
theorem dX11_answerTrust_48 : decode cX11_answerTrust 48 = .ok (.iload_n 3, 1) := by decide +kernel
theorem dX11_answerTrust_49 : decode cX11_answerTrust 49 = .ok (.iadd, 1) := by decide +kernel
theorem dX11_answerTrust_50 : decode cX11_answerTrust 50 = .ok (.laload, 1) := by decide +kernel
theorem dX11_answerTrust_51 : decode cX11_answerTrust 51 = .ok (.invokevirtual 309, 3) := by decide +kernel
theorem dX11_answerTrust_54 : decode cX11_answerTrust 54 = .ok (.goto 5, 3) := by decide +kernel
theorem dX11_answerTrust_57 : decode cX11_answerTrust 57 = .ok (.bipush (-6), 2) := by decide +kernel
theorem dX11_answerTrust_59 : decode cX11_answerTrust 59 = .ok (.istore 4, 2) := by decide +kernel
theorem dX11_answerTrust_61 : decode cX11_answerTrust 61 = .ok (.iload 4, 2) := by decide +kernel
theorem dX11_answerTrust_63 : decode cX11_answerTrust 63 = .ok (.iload_n 2, 1) := by decide +kernel
theorem dX11_answerTrust_64 : decode cX11_answerTrust 64 = .ok (.if_icmp .le 8, 3) := by decide +kernel
theorem dX11_answerTrust_67 : decode cX11_answerTrust 67 = .ok (.iload 4, 2) := by decide +kernel
theorem dX11_answerTrust_69 : decode cX11_answerTrust 69 = .ok (.goto 4, 3) := by decide +kernel
theorem dX11_answerTrust_72 : decode cX11_answerTrust 72 = .ok (.iload_n 2, 1) := by decide +kernel
theorem dX11_answerTrust_73 : decode cX11_answerTrust 73 = .ok (.istore_n 2, 1) := by decide +kernel
theorem dX11_answerTrust_74 : decode cX11_answerTrust 74 = .ok (.iinc 3 1, 3) := by decide +kernel
theorem dX11_answerTrust_77 : decode cX11_answerTrust 77 = .ok (.goto (-62), 3) := by decide +kernel
theorem dX11_answerTrust_80 : decode cX11_answerTrust 80 = .ok (.iload_n 2, 1) := by decide +kernel
theorem dX11_answerTrust_81 : decode cX11_answerTrust 81 = .ok (.ireturn, 1) := by decide +kernel
theorem dX11_confidence_0 : decode cX11_confidence 0 = .ok (.aload_n 0, 1) := by decide +kernel
theorem dX11_confidence_1 : decode cX11_confidence 1 = .ok (.iload_n 1, 1) := by decide +kernel
theorem dX11_confidence_2 : decode cX11_confidence 2 = .ok (.invokevirtual 261, 3) := by decide +kernel
theorem dX11_confidence_5 : decode cX11_confidence 5 = .ok (.ifCond .ne 7, 3) := by decide +kernel
theorem dX11_confidence_8 : decode cX11_confidence 8 = .ok (.ldc_w 312, 3) := by decide +kernel
theorem dX11_confidence_11 : decode cX11_confidence 11 = .ok (.freturn, 1) := by decide +kernel
theorem dX11_confidence_12 : decode cX11_confidence 12 = .ok (.fconst 0, 1) := by decide +kernel
theorem dX11_confidence_13 : decode cX11_confidence 13 = .ok (.fstore_n 2, 1) := by decide +kernel
theorem dX11_confidence_14 : decode cX11_confidence 14 = .ok (.iconst 0, 1) := by decide +kernel
theorem dX11_confidence_15 : decode cX11_confidence 15 = .ok (.istore_n 3, 1) := by decide +kernel
theorem dX11_confidence_16 : decode cX11_confidence 16 = .ok (.iload_n 3, 1) := by decide +kernel
theorem dX11_confidence_17 : decode cX11_confidence 17 = .ok (.aload_n 0, 1) := by decide +kernel
theorem dX11_confidence_18 : decode cX11_confidence 18 = .ok (.getfield 52, 3) := by decide +kernel
theorem dX11_confidence_21 : decode cX11_confidence 21 = .ok (.iload_n 1, 1) := by decide +kernel
theorem dX11_confidence_22 : decode cX11_confidence 22 = .ok (.iaload, 1) := by decide +kernel
theorem dX11_confidence_23 : decode cX11_confidence 23 = .ok (.if_icmp .ge 58, 3) := by decide +kernel
theorem dX11_confidence_26 : decode cX11_confidence 26 = .ok (.aload_n 0, 1) := by decide +kernel
theorem dX11_confidence_27 : decode cX11_confidence 27 = .ok (.iload_n 1, 1) := by decide +kernel
theorem dX11_confidence_28 : decode cX11_confidence 28 = .ok (.iload_n 3, 1) := by decide +kernel
theorem dX11_confidence_29 : decode cX11_confidence 29 = .ok (.aload_n 0, 1) := by decide +kernel
theorem dX11_confidence_30 : decode cX11_confidence 30 = .ok (.iconst 1, 1) := by decide +kernel
theorem dX11_confidence_31 : decode cX11_confidence 31 = .ok (.invokevirtual 242, 3) := by decide +kernel
theorem dX11_confidence_34 : decode cX11_confidence 34 = .ok (.invokevirtual 295, 3) := by decide +kernel
theorem dX11_confidence_37 : decode cX11_confidence 37 = .ok (.ifCond .eq 21, 3) := by decide +kernel
theorem dX11_confidence_40 : decode cX11_confidence 40 = .ok (.aload_n 0, 1) := by decide +kernel
theorem dX11_confidence_41 : decode cX11_confidence 41 = .ok (.aload_n 0, 1) := by decide +kernel
theorem dX11_confidence_42 : decode cX11_confidence 42 = .ok (.getfield 55, 3) := by decide +kernel
theorem dX11_confidence_45 : decode cX11_confidence 45 = .ok (.bipush 32, 2) := by decide +kernel
theorem dX11_confidence_47 : decode cX11_confidence 47 = .ok (.iload_n 1, 1) := by decide +kernel
theorem dX11_confidence_48 : decode cX11_confidence 48 = .ok (.imul, 1) := by decide +kernel
theorem dX11_confidence_49 : decode cX11_confidence 49 = .ok (.iload_n 3, 1) := by decide +kernel
theorem dX11_confidence_50 : decode cX11_confidence 50 = .ok (.iadd, 1) := by decide +kernel
theorem dX11_confidence_51 : decode cX11_confidence 51 = .ok (.laload, 1) := by decide +kernel
theorem dX11_confidence_52 : decode cX11_confidence 52 = .ok (.invokevirtual 313, 3) := by decide +kernel
theorem dX11_confidence_55 : decode cX11_confidence 55 = .ok (.goto 4, 3) := by decide +kernel
theorem dX11_confidence_58 : decode cX11_confidence 58 = .ok (.fconst 0, 1) := by decide +kernel
theorem dX11_confidence_59 : decode cX11_confidence 59 = .ok (.fstore 4, 2) := by decide +kernel
theorem dX11_confidence_61 : decode cX11_confidence 61 = .ok (.fload 4, 2) := by decide +kernel
theorem dX11_confidence_63 : decode cX11_confidence 63 = .ok (.fload_n 2, 1) := by decide +kernel
theorem dX11_confidence_64 : decode cX11_confidence 64 = .ok (.fcmp .l, 1) := by decide +kernel
theorem dX11_confidence_65 : decode cX11_confidence 65 = .ok (.ifCond .le 8, 3) := by decide +kernel
theorem dX11_confidence_68 : decode cX11_confidence 68 = .ok (.fload 4, 2) := by decide +kernel
theorem dX11_confidence_70 : decode cX11_confidence 70 = .ok (.goto 4, 3) := by decide +kernel
theorem dX11_confidence_73 : decode cX11_confidence 73 = .ok (.fload_n 2, 1) := by decide +kernel
theorem dX11_confidence_74 : decode cX11_confidence 74 = .ok (.fstore_n 2, 1) := by decide +kernel
theorem dX11_confidence_75 : decode cX11_confidence 75 = .ok (.iinc 3 1, 3) := by decide +kernel
theorem dX11_confidence_78 : decode cX11_confidence 78 = .ok (.goto (-62), 3) := by decide +kernel
theorem dX11_confidence_81 : decode cX11_confidence 81 = .ok (.fload_n 2, 1) := by decide +kernel
theorem dX11_confidence_82 : decode cX11_confidence 82 = .ok (.freturn, 1) := by decide +kernel
theorem dX11_needed_0 : decode cX11_needed 0 = .ok (.aload_n 0, 1) := by decide +kernel
theorem dX11_needed_1 : decode cX11_needed 1 = .ok (.iload_n 1, 1) := by decide +kernel
theorem dX11_needed_2 : decode cX11_needed 2 = .ok (.invokevirtual 261, 3) := by decide +kernel
theorem dX11_needed_5 : decode cX11_needed 5 = .ok (.ifCond .ne 5, 3) := by decide +kernel
theorem dX11_needed_8 : decode cX11_needed 8 = .ok (.iconst (-1), 1) := by decide +kernel
theorem dX11_needed_9 : decode cX11_needed 9 = .ok (.ireturn, 1) := by decide +kernel
theorem dX11_needed_10 : decode cX11_needed 10 = .ok (.aload_n 0, 1) := by decide +kernel
theorem dX11_needed_11 : decode cX11_needed 11 = .ok (.iconst 1, 1) := by decide +kernel
theorem dX11_needed_12 : decode cX11_needed 12 = .ok (.invokevirtual 242, 3) := by decide +kernel
theorem dX11_needed_15 : decode cX11_needed 15 = .ok (.istore_n 2, 1) := by decide +kernel
theorem dX11_needed_16 : decode cX11_needed 16 = .ok (.ldc_w 317, 3) := by decide +kernel
theorem dX11_needed_19 : decode cX11_needed 19 = .ok (.istore_n 3, 1) := by decide +kernel
theorem dX11_needed_20 : decode cX11_needed 20 = .ok (.iconst 0, 1) := by decide +kernel
theorem dX11_needed_21 : decode cX11_needed 21 = .ok (.istore 4, 2) := by decide +kernel
theorem dX11_needed_23 : decode cX11_needed 23 = .ok (.iload 4, 2) := by decide +kernel
theorem dX11_needed_25 : decode cX11_needed 25 = .ok (.aload_n 0, 1) := by decide +kernel
theorem dX11_needed_26 : decode cX11_needed 26 = .ok (.getfield 52, 3) := by decide +kernel
theorem dX11_needed_29 : decode cX11_needed 29 = .ok (.iload_n 1, 1) := by decide +kernel
theorem dX11_needed_30 : decode cX11_needed 30 = .ok (.iaload, 1) := by decide +kernel
theorem dX11_needed_31 : decode cX11_needed 31 = .ok (.if_icmp .ge 44, 3) := by decide +kernel
theorem dX11_needed_34 : decode cX11_needed 34 = .ok (.iload_n 3, 1) := by decide +kernel
theorem dX11_needed_35 : decode cX11_needed 35 = .ok (.aload_n 0, 1) := by decide +kernel
theorem dX11_needed_36 : decode cX11_needed 36 = .ok (.iload_n 1, 1) := by decide +kernel
theorem dX11_needed_37 : decode cX11_needed 37 = .ok (.iload 4, 2) := by decide +kernel
theorem dX11_needed_39 : decode cX11_needed 39 = .ok (.iload_n 2, 1) := by decide +kernel
theorem dX11_needed_40 : decode cX11_needed 40 = .ok (.invokevirtual 295, 3) := by decide +kernel
theorem dX11_needed_43 : decode cX11_needed 43 = .ok (.ifCond .eq 21, 3) := by decide +kernel
theorem dX11_needed_46 : decode cX11_needed 46 = .ok (.aload_n 0, 1) := by decide +kernel
theorem dX11_needed_47 : decode cX11_needed 47 = .ok (.getfield 55, 3) := by decide +kernel
theorem dX11_needed_50 : decode cX11_needed 50 = .ok (.bipush 32, 2) := by decide +kernel
theorem dX11_needed_52 : decode cX11_needed 52 = .ok (.iload_n 1, 1) := by decide +kernel
theorem dX11_needed_53 : decode cX11_needed 53 = .ok (.imul, 1) := by decide +kernel
theorem dX11_needed_54 : decode cX11_needed 54 = .ok (.iload 4, 2) := by decide +kernel
theorem dX11_needed_56 : decode cX11_needed 56 = .ok (.iadd, 1) := by decide +kernel
theorem dX11_needed_57 : decode cX11_needed 57 = .ok (.laload, 1) := by decide +kernel
theorem dX11_needed_58 : decode cX11_needed 58 = .ok (.invokestatic 275, 3) := by decide +kernel
theorem dX11_needed_61 : decode cX11_needed 61 = .ok (.goto 6, 3) := by decide +kernel
theorem dX11_needed_64 : decode cX11_needed 64 = .ok (.ldc_w 317, 3) := by decide +kernel
theorem dX11_needed_67 : decode cX11_needed 67 = .ok (.iand, 1) := by decide +kernel
theorem dX11_needed_68 : decode cX11_needed 68 = .ok (.istore_n 3, 1) := by decide +kernel
theorem dX11_needed_69 : decode cX11_needed 69 = .ok (.iinc 4 1, 3) := by decide +kernel
theorem dX11_needed_72 : decode cX11_needed 72 = .ok (.goto (-49), 3) := by decide +kernel
theorem dX11_needed_75 : decode cX11_needed 75 = .ok (.aload_n 0, 1) := by decide +kernel
theorem dX11_needed_76 : decode cX11_needed 76 = .ok (.iload_n 1, 1) := by decide +kernel
theorem dX11_needed_77 : decode cX11_needed 77 = .ok (.iload_n 2, 1) := by decide +kernel
theorem dX11_needed_78 : decode cX11_needed 78 = .ok (.invokevirtual 298, 3) := by decide +kernel
theorem dX11_needed_81 : decode cX11_needed 81 = .ok (.ifCond .eq 7, 3) := by decide +kernel
theorem dX11_needed_84 : decode cX11_needed 84 = .ok (.iload_n 3, 1) := by decide +kernel
theorem dX11_needed_85 : decode cX11_needed 85 = .ok (.goto 5, 3) := by decide +kernel
theorem dX11_needed_88 : decode cX11_needed 88 = .ok (.bipush (-6), 2) := by decide +kernel
theorem dX11_needed_90 : decode cX11_needed 90 = .ok (.ireturn, 1) := by decide +kernel
theorem dX11_laysSets_0 : decode cX11_laysSets 0 = .ok (.aload_n 0, 1) := by decide +kernel
theorem dX11_laysSets_1 : decode cX11_laysSets 1 = .ok (.iconst 0, 1) := by decide +kernel
theorem dX11_laysSets_2 : decode cX11_laysSets 2 = .ok (.putfield 318, 3) := by decide +kernel
theorem dX11_laysSets_5 : decode cX11_laysSets 5 = .ok (.iconst 0, 1) := by decide +kernel
theorem dX11_laysSets_6 : decode cX11_laysSets 6 = .ok (.istore_n 3, 1) := by decide +kernel
theorem dX11_laysSets_7 : decode cX11_laysSets 7 = .ok (.iload_n 3, 1) := by decide +kernel
theorem dX11_laysSets_8 : decode cX11_laysSets 8 = .ok (.aload_n 0, 1) := by decide +kernel
theorem dX11_laysSets_9 : decode cX11_laysSets 9 = .ok (.getfield 52, 3) := by decide +kernel
theorem dX11_laysSets_12 : decode cX11_laysSets 12 = .ok (.iload_n 1, 1) := by decide +kernel
theorem dX11_laysSets_13 : decode cX11_laysSets 13 = .ok (.iaload, 1) := by decide +kernel
theorem dX11_laysSets_14 : decode cX11_laysSets 14 = .ok (.if_icmp .ge 52, 3) := by decide +kernel
theorem dX11_laysSets_17 : decode cX11_laysSets 17 = .ok (.aload_n 0, 1) := by decide +kernel
theorem dX11_laysSets_18 : decode cX11_laysSets 18 = .ok (.iload_n 1, 1) := by decide +kernel
theorem dX11_laysSets_19 : decode cX11_laysSets 19 = .ok (.iload_n 3, 1) := by decide +kernel
theorem dX11_laysSets_20 : decode cX11_laysSets 20 = .ok (.iload_n 2, 1) := by decide +kernel
theorem dX11_laysSets_21 : decode cX11_laysSets 21 = .ok (.invokevirtual 295, 3) := by decide +kernel
theorem dX11_laysSets_24 : decode cX11_laysSets 24 = .ok (.ifCond .eq 36, 3) := by decide +kernel
theorem dX11_laysSets_27 : decode cX11_laysSets 27 = .ok (.aload_n 0, 1) := by decide +kernel
theorem dX11_laysSets_28 : decode cX11_laysSets 28 = .ok (.getfield 66, 3) := by decide +kernel
theorem dX11_laysSets_31 : decode cX11_laysSets 31 = .ok (.aload_n 0, 1) := by decide +kernel
theorem dX11_laysSets_32 : decode cX11_laysSets 32 = .ok (.getfield 318, 3) := by decide +kernel
theorem dX11_laysSets_35 : decode cX11_laysSets 35 = .ok (.aload_n 0, 1) := by decide +kernel
theorem dX11_laysSets_36 : decode cX11_laysSets 36 = .ok (.getfield 55, 3) := by decide +kernel
theorem dX11_laysSets_39 : decode cX11_laysSets 39 = .ok (.bipush 32, 2) := by decide +kernel
theorem dX11_laysSets_41 : decode cX11_laysSets 41 = .ok (.iload_n 1, 1) := by decide +kernel
theorem dX11_laysSets_42 : decode cX11_laysSets 42 = .ok (.imul, 1) := by decide +kernel
theorem dX11_laysSets_43 : decode cX11_laysSets 43 = .ok (.iload_n 3, 1) := by decide +kernel
theorem dX11_laysSets_44 : decode cX11_laysSets 44 = .ok (.iadd, 1) := by decide +kernel
theorem dX11_laysSets_45 : decode cX11_laysSets 45 = .ok (.laload, 1) := by decide +kernel
theorem dX11_laysSets_46 : decode cX11_laysSets 46 = .ok (.invokestatic 275, 3) := by decide +kernel
theorem dX11_laysSets_49 : decode cX11_laysSets 49 = .ok (.iastore, 1) := by decide +kernel
theorem dX11_laysSets_50 : decode cX11_laysSets 50 = .ok (.aload_n 0, 1) := by decide +kernel
theorem dX11_laysSets_51 : decode cX11_laysSets 51 = .ok (.dup, 1) := by decide +kernel
theorem dX11_laysSets_52 : decode cX11_laysSets 52 = .ok (.getfield 318, 3) := by decide +kernel
theorem dX11_laysSets_55 : decode cX11_laysSets 55 = .ok (.iconst 1, 1) := by decide +kernel
theorem dX11_laysSets_56 : decode cX11_laysSets 56 = .ok (.iadd, 1) := by decide +kernel
theorem dX11_laysSets_57 : decode cX11_laysSets 57 = .ok (.putfield 318, 3) := by decide +kernel
theorem dX11_laysSets_60 : decode cX11_laysSets 60 = .ok (.iinc 3 1, 3) := by decide +kernel
theorem dX11_laysSets_63 : decode cX11_laysSets 63 = .ok (.goto (-56), 3) := by decide +kernel
theorem dX11_laysSets_66 : decode cX11_laysSets 66 = .ok (.return_, 1) := by decide +kernel
theorem dX11_meetsAll_0 : decode cX11_meetsAll 0 = .ok (.iconst 1, 1) := by decide +kernel
theorem dX11_meetsAll_1 : decode cX11_meetsAll 1 = .ok (.istore_n 2, 1) := by decide +kernel
theorem dX11_meetsAll_2 : decode cX11_meetsAll 2 = .ok (.iconst 0, 1) := by decide +kernel
theorem dX11_meetsAll_3 : decode cX11_meetsAll 3 = .ok (.istore_n 3, 1) := by decide +kernel
theorem dX11_meetsAll_4 : decode cX11_meetsAll 4 = .ok (.iload_n 3, 1) := by decide +kernel
theorem dX11_meetsAll_5 : decode cX11_meetsAll 5 = .ok (.aload_n 0, 1) := by decide +kernel
theorem dX11_meetsAll_6 : decode cX11_meetsAll 6 = .ok (.getfield 318, 3) := by decide +kernel
theorem dX11_meetsAll_9 : decode cX11_meetsAll 9 = .ok (.if_icmp .ge 30, 3) := by decide +kernel
theorem dX11_meetsAll_12 : decode cX11_meetsAll 12 = .ok (.iload_n 2, 1) := by decide +kernel
theorem dX11_meetsAll_13 : decode cX11_meetsAll 13 = .ok (.ifCond .eq 26, 3) := by decide +kernel
theorem dX11_meetsAll_16 : decode cX11_meetsAll 16 = .ok (.aload_n 0, 1) := by decide +kernel
theorem dX11_meetsAll_17 : decode cX11_meetsAll 17 = .ok (.getfield 66, 3) := by decide +kernel
theorem dX11_meetsAll_20 : decode cX11_meetsAll 20 = .ok (.iload_n 3, 1) := by decide +kernel
theorem dX11_meetsAll_21 : decode cX11_meetsAll 21 = .ok (.iaload, 1) := by decide +kernel
theorem dX11_meetsAll_22 : decode cX11_meetsAll 22 = .ok (.iload_n 1, 1) := by decide +kernel
theorem dX11_meetsAll_23 : decode cX11_meetsAll 23 = .ok (.iand, 1) := by decide +kernel
theorem dX11_meetsAll_24 : decode cX11_meetsAll 24 = .ok (.ifCond .eq 7, 3) := by decide +kernel
theorem dX11_meetsAll_27 : decode cX11_meetsAll 27 = .ok (.iconst 1, 1) := by decide +kernel
theorem dX11_meetsAll_28 : decode cX11_meetsAll 28 = .ok (.goto 4, 3) := by decide +kernel
theorem dX11_meetsAll_31 : decode cX11_meetsAll 31 = .ok (.iconst 0, 1) := by decide +kernel
theorem dX11_meetsAll_32 : decode cX11_meetsAll 32 = .ok (.istore_n 2, 1) := by decide +kernel
theorem dX11_meetsAll_33 : decode cX11_meetsAll 33 = .ok (.iinc 3 1, 3) := by decide +kernel
theorem dX11_meetsAll_36 : decode cX11_meetsAll 36 = .ok (.goto (-32), 3) := by decide +kernel
theorem dX11_meetsAll_39 : decode cX11_meetsAll 39 = .ok (.iload_n 2, 1) := by decide +kernel
theorem dX11_meetsAll_40 : decode cX11_meetsAll 40 = .ok (.ireturn, 1) := by decide +kernel
theorem dX11_hasOne_0 : decode cX11_hasOne 0 = .ok (.iconst 0, 1) := by decide +kernel
theorem dX11_hasOne_1 : decode cX11_hasOne 1 = .ok (.istore_n 2, 1) := by decide +kernel
theorem dX11_hasOne_2 : decode cX11_hasOne 2 = .ok (.iconst 0, 1) := by decide +kernel
theorem dX11_hasOne_3 : decode cX11_hasOne 3 = .ok (.istore_n 3, 1) := by decide +kernel
theorem dX11_hasOne_4 : decode cX11_hasOne 4 = .ok (.iload_n 3, 1) := by decide +kernel
theorem dX11_hasOne_5 : decode cX11_hasOne 5 = .ok (.aload_n 0, 1) := by decide +kernel
theorem dX11_hasOne_6 : decode cX11_hasOne 6 = .ok (.getfield 318, 3) := by decide +kernel
theorem dX11_hasOne_9 : decode cX11_hasOne 9 = .ok (.if_icmp .ge 36, 3) := by decide +kernel
theorem dX11_hasOne_12 : decode cX11_hasOne 12 = .ok (.iload_n 2, 1) := by decide +kernel
theorem dX11_hasOne_13 : decode cX11_hasOne 13 = .ok (.ifCond .ne 32, 3) := by decide +kernel
theorem dX11_hasOne_16 : decode cX11_hasOne 16 = .ok (.aload_n 0, 1) := by decide +kernel
theorem dX11_hasOne_17 : decode cX11_hasOne 17 = .ok (.getfield 66, 3) := by decide +kernel
theorem dX11_hasOne_20 : decode cX11_hasOne 20 = .ok (.iload_n 3, 1) := by decide +kernel
theorem dX11_hasOne_21 : decode cX11_hasOne 21 = .ok (.iaload, 1) := by decide +kernel
theorem dX11_hasOne_22 : decode cX11_hasOne 22 = .ok (.iload_n 1, 1) := by decide +kernel
theorem dX11_hasOne_23 : decode cX11_hasOne 23 = .ok (.iand, 1) := by decide +kernel
theorem dX11_hasOne_24 : decode cX11_hasOne 24 = .ok (.aload_n 0, 1) := by decide +kernel
theorem dX11_hasOne_25 : decode cX11_hasOne 25 = .ok (.getfield 66, 3) := by decide +kernel
theorem dX11_hasOne_28 : decode cX11_hasOne 28 = .ok (.iload_n 3, 1) := by decide +kernel
theorem dX11_hasOne_29 : decode cX11_hasOne 29 = .ok (.iaload, 1) := by decide +kernel
theorem dX11_hasOne_30 : decode cX11_hasOne 30 = .ok (.if_icmp .ne 7, 3) := by decide +kernel
theorem dX11_hasOne_33 : decode cX11_hasOne 33 = .ok (.iconst 1, 1) := by decide +kernel
theorem dX11_hasOne_34 : decode cX11_hasOne 34 = .ok (.goto 4, 3) := by decide +kernel
theorem dX11_hasOne_37 : decode cX11_hasOne 37 = .ok (.iconst 0, 1) := by decide +kernel
theorem dX11_hasOne_38 : decode cX11_hasOne 38 = .ok (.istore_n 2, 1) := by decide +kernel
theorem dX11_hasOne_39 : decode cX11_hasOne 39 = .ok (.iinc 3 1, 3) := by decide +kernel
theorem dX11_hasOne_42 : decode cX11_hasOne 42 = .ok (.goto (-38), 3) := by decide +kernel
theorem dX11_hasOne_45 : decode cX11_hasOne 45 = .ok (.iload_n 2, 1) := by decide +kernel
theorem dX11_hasOne_46 : decode cX11_hasOne 46 = .ok (.ireturn, 1) := by decide +kernel
theorem dX11_smallestCut_0 : decode cX11_smallestCut 0 = .ok (.aload_n 0, 1) := by decide +kernel
theorem dX11_smallestCut_1 : decode cX11_smallestCut 1 = .ok (.iload_n 1, 1) := by decide +kernel
theorem dX11_smallestCut_2 : decode cX11_smallestCut 2 = .ok (.invokevirtual 261, 3) := by decide +kernel
theorem dX11_smallestCut_5 : decode cX11_smallestCut 5 = .ok (.ifCond .ne 5, 3) := by decide +kernel
theorem dX11_smallestCut_8 : decode cX11_smallestCut 8 = .ok (.iconst (-1), 1) := by decide +kernel
theorem dX11_smallestCut_9 : decode cX11_smallestCut 9 = .ok (.ireturn, 1) := by decide +kernel
theorem dX11_smallestCut_10 : decode cX11_smallestCut 10 = .ok (.aload_n 0, 1) := by decide +kernel
theorem dX11_smallestCut_11 : decode cX11_smallestCut 11 = .ok (.iload_n 1, 1) := by decide +kernel
theorem dX11_smallestCut_12 : decode cX11_smallestCut 12 = .ok (.aload_n 0, 1) := by decide +kernel
theorem dX11_smallestCut_13 : decode cX11_smallestCut 13 = .ok (.iconst 1, 1) := by decide +kernel
theorem dX11_smallestCut_14 : decode cX11_smallestCut 14 = .ok (.invokevirtual 242, 3) := by decide +kernel
theorem dX11_smallestCut_17 : decode cX11_smallestCut 17 = .ok (.invokevirtual 321, 3) := by decide +kernel
theorem dX11_smallestCut_20 : decode cX11_smallestCut 20 = .ok (.bipush (-6), 2) := by decide +kernel
theorem dX11_smallestCut_22 : decode cX11_smallestCut 22 = .ok (.istore_n 2, 1) := by decide +kernel
theorem dX11_smallestCut_23 : decode cX11_smallestCut 23 = .ok (.iconst 1, 1) := by decide +kernel
theorem dX11_smallestCut_24 : decode cX11_smallestCut 24 = .ok (.istore_n 3, 1) := by decide +kernel
theorem dX11_smallestCut_25 : decode cX11_smallestCut 25 = .ok (.iload_n 3, 1) := by decide +kernel
theorem dX11_smallestCut_26 : decode cX11_smallestCut 26 = .ok (.ldc_w 324, 3) := by decide +kernel
theorem dX11_smallestCut_29 : decode cX11_smallestCut 29 = .ok (.if_icmp .ge 59, 3) := by decide +kernel
theorem dX11_smallestCut_32 : decode cX11_smallestCut 32 = .ok (.aload_n 0, 1) := by decide +kernel
theorem dX11_smallestCut_33 : decode cX11_smallestCut 33 = .ok (.getfield 318, 3) := by decide +kernel
theorem dX11_smallestCut_36 : decode cX11_smallestCut 36 = .ok (.ifCond .le 52, 3) := by decide +kernel
theorem dX11_smallestCut_39 : decode cX11_smallestCut 39 = .ok (.iload_n 2, 1) := by decide +kernel
theorem dX11_smallestCut_40 : decode cX11_smallestCut 40 = .ok (.bipush (-6), 2) := by decide +kernel
theorem dX11_smallestCut_42 : decode cX11_smallestCut 42 = .ok (.if_icmp .eq 14, 3) := by decide +kernel
theorem dX11_smallestCut_45 : decode cX11_smallestCut 45 = .ok (.iload_n 3, 1) := by decide +kernel
theorem dX11_smallestCut_46 : decode cX11_smallestCut 46 = .ok (.invokestatic 246, 3) := by decide +kernel
theorem dX11_smallestCut_49 : decode cX11_smallestCut 49 = .ok (.iload_n 2, 1) := by decide +kernel
theorem dX11_smallestCut_50 : decode cX11_smallestCut 50 = .ok (.invokestatic 246, 3) := by decide +kernel
theorem dX11_smallestCut_53 : decode cX11_smallestCut 53 = .ok (.if_icmp .ge 7, 3) := by decide +kernel
theorem dX11_smallestCut_56 : decode cX11_smallestCut 56 = .ok (.iconst 1, 1) := by decide +kernel
theorem dX11_smallestCut_57 : decode cX11_smallestCut 57 = .ok (.goto 4, 3) := by decide +kernel
theorem dX11_smallestCut_60 : decode cX11_smallestCut 60 = .ok (.iconst 0, 1) := by decide +kernel
theorem dX11_smallestCut_61 : decode cX11_smallestCut 61 = .ok (.istore 4, 2) := by decide +kernel
theorem dX11_smallestCut_63 : decode cX11_smallestCut 63 = .ok (.iload 4, 2) := by decide +kernel
theorem dX11_smallestCut_65 : decode cX11_smallestCut 65 = .ok (.ifCond .eq 15, 3) := by decide +kernel
theorem dX11_smallestCut_68 : decode cX11_smallestCut 68 = .ok (.aload_n 0, 1) := by decide +kernel
theorem dX11_smallestCut_69 : decode cX11_smallestCut 69 = .ok (.iload_n 3, 1) := by decide +kernel
theorem dX11_smallestCut_70 : decode cX11_smallestCut 70 = .ok (.invokevirtual 325, 3) := by decide +kernel
theorem dX11_smallestCut_73 : decode cX11_smallestCut 73 = .ok (.ifCond .eq 7, 3) := by decide +kernel
theorem dX11_smallestCut_76 : decode cX11_smallestCut 76 = .ok (.iload_n 3, 1) := by decide +kernel
theorem dX11_smallestCut_77 : decode cX11_smallestCut 77 = .ok (.goto 4, 3) := by decide +kernel
theorem dX11_smallestCut_80 : decode cX11_smallestCut 80 = .ok (.iload_n 2, 1) := by decide +kernel
theorem dX11_smallestCut_81 : decode cX11_smallestCut 81 = .ok (.istore_n 2, 1) := by decide +kernel
theorem dX11_smallestCut_82 : decode cX11_smallestCut 82 = .ok (.iinc 3 1, 3) := by decide +kernel
theorem dX11_smallestCut_85 : decode cX11_smallestCut 85 = .ok (.goto (-60), 3) := by decide +kernel
theorem dX11_smallestCut_88 : decode cX11_smallestCut 88 = .ok (.iload_n 2, 1) := by decide +kernel
theorem dX11_smallestCut_89 : decode cX11_smallestCut 89 = .ok (.ireturn, 1) := by decide +kernel
theorem dX11_worlds_0 : decode cX11_worlds 0 = .ok (.aload_n 0, 1) := by decide +kernel
theorem dX11_worlds_1 : decode cX11_worlds 1 = .ok (.iload_n 1, 1) := by decide +kernel
theorem dX11_worlds_2 : decode cX11_worlds 2 = .ok (.invokevirtual 261, 3) := by decide +kernel
theorem dX11_worlds_5 : decode cX11_worlds 5 = .ok (.ifCond .ne 5, 3) := by decide +kernel
theorem dX11_worlds_8 : decode cX11_worlds 8 = .ok (.iconst (-1), 1) := by decide +kernel
theorem dX11_worlds_9 : decode cX11_worlds 9 = .ok (.ireturn, 1) := by decide +kernel
theorem dX11_worlds_10 : decode cX11_worlds 10 = .ok (.aload_n 0, 1) := by decide +kernel
theorem dX11_worlds_11 : decode cX11_worlds 11 = .ok (.iload_n 1, 1) := by decide +kernel
theorem dX11_worlds_12 : decode cX11_worlds 12 = .ok (.iconst 0, 1) := by decide +kernel
theorem dX11_worlds_13 : decode cX11_worlds 13 = .ok (.invokevirtual 321, 3) := by decide +kernel
theorem dX11_worlds_16 : decode cX11_worlds 16 = .ok (.aload_n 0, 1) := by decide +kernel
theorem dX11_worlds_17 : decode cX11_worlds 17 = .ok (.iload_n 1, 1) := by decide +kernel
theorem dX11_worlds_18 : decode cX11_worlds 18 = .ok (.invokevirtual 292, 3) := by decide +kernel
theorem dX11_worlds_21 : decode cX11_worlds 21 = .ok (.istore_n 2, 1) := by decide +kernel
theorem dX11_worlds_22 : decode cX11_worlds 22 = .ok (.iconst 0, 1) := by decide +kernel
theorem dX11_worlds_23 : decode cX11_worlds 23 = .ok (.istore_n 3, 1) := by decide +kernel
theorem dX11_worlds_24 : decode cX11_worlds 24 = .ok (.iconst 1, 1) := by decide +kernel
theorem dX11_worlds_25 : decode cX11_worlds 25 = .ok (.istore 4, 2) := by decide +kernel
theorem dX11_worlds_27 : decode cX11_worlds 27 = .ok (.iload 4, 2) := by decide +kernel
theorem dX11_worlds_29 : decode cX11_worlds 29 = .ok (.ldc_w 324, 3) := by decide +kernel
theorem dX11_worlds_32 : decode cX11_worlds 32 = .ok (.if_icmp .ge 35, 3) := by decide +kernel
theorem dX11_worlds_35 : decode cX11_worlds 35 = .ok (.iload_n 3, 1) := by decide +kernel
theorem dX11_worlds_36 : decode cX11_worlds 36 = .ok (.iload 4, 2) := by decide +kernel
theorem dX11_worlds_38 : decode cX11_worlds 38 = .ok (.iload_n 2, 1) := by decide +kernel
theorem dX11_worlds_39 : decode cX11_worlds 39 = .ok (.iand, 1) := by decide +kernel
theorem dX11_worlds_40 : decode cX11_worlds 40 = .ok (.iload 4, 2) := by decide +kernel
theorem dX11_worlds_42 : decode cX11_worlds 42 = .ok (.if_icmp .ne 16, 3) := by decide +kernel
theorem dX11_worlds_45 : decode cX11_worlds 45 = .ok (.aload_n 0, 1) := by decide +kernel
theorem dX11_worlds_46 : decode cX11_worlds 46 = .ok (.iload 4, 2) := by decide +kernel
theorem dX11_worlds_48 : decode cX11_worlds 48 = .ok (.invokevirtual 328, 3) := by decide +kernel
theorem dX11_worlds_51 : decode cX11_worlds 51 = .ok (.ifCond .eq 7, 3) := by decide +kernel
theorem dX11_worlds_54 : decode cX11_worlds 54 = .ok (.iconst 1, 1) := by decide +kernel
theorem dX11_worlds_55 : decode cX11_worlds 55 = .ok (.goto 4, 3) := by decide +kernel
theorem dX11_worlds_58 : decode cX11_worlds 58 = .ok (.iconst 0, 1) := by decide +kernel
theorem dX11_worlds_59 : decode cX11_worlds 59 = .ok (.iadd, 1) := by decide +kernel
theorem dX11_worlds_60 : decode cX11_worlds 60 = .ok (.istore_n 3, 1) := by decide +kernel
theorem dX11_worlds_61 : decode cX11_worlds 61 = .ok (.iinc 4 1, 3) := by decide +kernel
theorem dX11_worlds_64 : decode cX11_worlds 64 = .ok (.goto (-37), 3) := by decide +kernel
theorem dX11_worlds_67 : decode cX11_worlds 67 = .ok (.iload_n 3, 1) := by decide +kernel
theorem dX11_worlds_68 : decode cX11_worlds 68 = .ok (.ireturn, 1) := by decide +kernel
theorem dX11_lostIf_0 : decode cX11_lostIf 0 = .ok (.iload_n 1, 1) := by decide +kernel
theorem dX11_lostIf_1 : decode cX11_lostIf 1 = .ok (.ifCond .lt 14, 3) := by decide +kernel
theorem dX11_lostIf_4 : decode cX11_lostIf 4 = .ok (.iload_n 1, 1) := by decide +kernel
theorem dX11_lostIf_5 : decode cX11_lostIf 5 = .ok (.aload_n 0, 1) := by decide +kernel
theorem dX11_lostIf_6 : decode cX11_lostIf 6 = .ok (.iconst 0, 1) := by decide +kernel
theorem dX11_lostIf_7 : decode cX11_lostIf 7 = .ok (.invokevirtual 242, 3) := by decide +kernel
theorem dX11_lostIf_10 : decode cX11_lostIf 10 = .ok (.iand, 1) := by decide +kernel
theorem dX11_lostIf_11 : decode cX11_lostIf 11 = .ok (.iload_n 1, 1) := by decide +kernel
theorem dX11_lostIf_12 : decode cX11_lostIf 12 = .ok (.if_icmp .eq 6, 3) := by decide +kernel
theorem dX11_lostIf_15 : decode cX11_lostIf 15 = .ok (.bipush (-2), 2) := by decide +kernel
theorem dX11_lostIf_17 : decode cX11_lostIf 17 = .ok (.ireturn, 1) := by decide +kernel
theorem dX11_lostIf_18 : decode cX11_lostIf 18 = .ok (.aload_n 0, 1) := by decide +kernel
theorem dX11_lostIf_19 : decode cX11_lostIf 19 = .ok (.iconst 1, 1) := by decide +kernel
theorem dX11_lostIf_20 : decode cX11_lostIf 20 = .ok (.invokevirtual 242, 3) := by decide +kernel
theorem dX11_lostIf_23 : decode cX11_lostIf 23 = .ok (.istore_n 2, 1) := by decide +kernel
theorem dX11_lostIf_24 : decode cX11_lostIf 24 = .ok (.aload_n 0, 1) := by decide +kernel
theorem dX11_lostIf_25 : decode cX11_lostIf 25 = .ok (.iload_n 2, 1) := by decide +kernel
theorem dX11_lostIf_26 : decode cX11_lostIf 26 = .ok (.invokevirtual 249, 3) := by decide +kernel
theorem dX11_lostIf_29 : decode cX11_lostIf 29 = .ok (.aload_n 0, 1) := by decide +kernel
theorem dX11_lostIf_30 : decode cX11_lostIf 30 = .ok (.iload_n 2, 1) := by decide +kernel
theorem dX11_lostIf_31 : decode cX11_lostIf 31 = .ok (.iload_n 1, 1) := by decide +kernel
theorem dX11_lostIf_32 : decode cX11_lostIf 32 = .ok (.ior, 1) := by decide +kernel
theorem dX11_lostIf_33 : decode cX11_lostIf 33 = .ok (.invokevirtual 249, 3) := by decide +kernel
theorem dX11_lostIf_36 : decode cX11_lostIf 36 = .ok (.isub, 1) := by decide +kernel
theorem dX11_lostIf_37 : decode cX11_lostIf 37 = .ok (.ireturn, 1) := by decide +kernel
theorem dX11_prints_0 : decode cX11_prints 0 = .ok (.aload_n 0, 1) := by decide +kernel
theorem dX11_prints_1 : decode cX11_prints 1 = .ok (.getfield 69, 3) := by decide +kernel
theorem dX11_prints_4 : decode cX11_prints 4 = .ok (.aload_n 0, 1) := by decide +kernel
theorem dX11_prints_5 : decode cX11_prints 5 = .ok (.getfield 331, 3) := by decide +kernel
theorem dX11_prints_8 : decode cX11_prints 8 = .ok (.iload_n 1, 1) := by decide +kernel
theorem dX11_prints_9 : decode cX11_prints 9 = .ok (.iastore, 1) := by decide +kernel
theorem dX11_prints_10 : decode cX11_prints 10 = .ok (.aload_n 0, 1) := by decide +kernel
theorem dX11_prints_11 : decode cX11_prints 11 = .ok (.dup, 1) := by decide +kernel
theorem dX11_prints_12 : decode cX11_prints 12 = .ok (.getfield 331, 3) := by decide +kernel
theorem dX11_prints_15 : decode cX11_prints 15 = .ok (.iconst 1, 1) := by decide +kernel
theorem dX11_prints_16 : decode cX11_prints 16 = .ok (.iadd, 1) := by decide +kernel
theorem dX11_prints_17 : decode cX11_prints 17 = .ok (.putfield 331, 3) := by decide +kernel
theorem dX11_prints_20 : decode cX11_prints 20 = .ok (.return_, 1) := by decide +kernel
theorem dX11_printsNumber_0 : decode cX11_printsNumber 0 = .ok (.lconst 1, 1) := by decide +kernel
theorem dX11_printsNumber_1 : decode cX11_printsNumber 1 = .ok (.lstore_n 3, 1) := by decide +kernel
theorem dX11_printsNumber_2 : decode cX11_printsNumber 2 = .ok (.lload_n 1, 1) := by decide +kernel
theorem dX11_printsNumber_3 : decode cX11_printsNumber 3 = .ok (.lload_n 3, 1) := by decide +kernel
theorem dX11_printsNumber_4 : decode cX11_printsNumber 4 = .ok (.ldiv, 1) := by decide +kernel
theorem dX11_printsNumber_5 : decode cX11_printsNumber 5 = .ok (.ldc2_w 334, 3) := by decide +kernel
theorem dX11_printsNumber_8 : decode cX11_printsNumber 8 = .ok (.lcmp, 1) := by decide +kernel
theorem dX11_printsNumber_9 : decode cX11_printsNumber 9 = .ok (.ifCond .le 12, 3) := by decide +kernel
theorem dX11_printsNumber_12 : decode cX11_printsNumber 12 = .ok (.lload_n 3, 1) := by decide +kernel
theorem dX11_printsNumber_13 : decode cX11_printsNumber 13 = .ok (.ldc2_w 336, 3) := by decide +kernel
theorem dX11_printsNumber_16 : decode cX11_printsNumber 16 = .ok (.lmul, 1) := by decide +kernel
theorem dX11_printsNumber_17 : decode cX11_printsNumber 17 = .ok (.lstore_n 3, 1) := by decide +kernel
theorem dX11_printsNumber_18 : decode cX11_printsNumber 18 = .ok (.goto (-16), 3) := by decide +kernel
theorem dX11_printsNumber_21 : decode cX11_printsNumber 21 = .ok (.lload_n 3, 1) := by decide +kernel
theorem dX11_printsNumber_22 : decode cX11_printsNumber 22 = .ok (.lconst 0, 1) := by decide +kernel
theorem dX11_printsNumber_23 : decode cX11_printsNumber 23 = .ok (.lcmp, 1) := by decide +kernel
theorem dX11_printsNumber_24 : decode cX11_printsNumber 24 = .ok (.ifCond .le 27, 3) := by decide +kernel
theorem dX11_printsNumber_27 : decode cX11_printsNumber 27 = .ok (.aload_n 0, 1) := by decide +kernel
theorem dX11_printsNumber_28 : decode cX11_printsNumber 28 = .ok (.bipush 48, 2) := by decide +kernel
theorem dX11_printsNumber_30 : decode cX11_printsNumber 30 = .ok (.lload_n 1, 1) := by decide +kernel
theorem dX11_printsNumber_31 : decode cX11_printsNumber 31 = .ok (.lload_n 3, 1) := by decide +kernel
theorem dX11_printsNumber_32 : decode cX11_printsNumber 32 = .ok (.ldiv, 1) := by decide +kernel
theorem dX11_printsNumber_33 : decode cX11_printsNumber 33 = .ok (.ldc2_w 336, 3) := by decide +kernel
theorem dX11_printsNumber_36 : decode cX11_printsNumber 36 = .ok (.lrem, 1) := by decide +kernel
theorem dX11_printsNumber_37 : decode cX11_printsNumber 37 = .ok (.l2i, 1) := by decide +kernel
theorem dX11_printsNumber_38 : decode cX11_printsNumber 38 = .ok (.iadd, 1) := by decide +kernel
theorem dX11_printsNumber_39 : decode cX11_printsNumber 39 = .ok (.invokevirtual 338, 3) := by decide +kernel
theorem dX11_printsNumber_42 : decode cX11_printsNumber 42 = .ok (.lload_n 3, 1) := by decide +kernel
theorem dX11_printsNumber_43 : decode cX11_printsNumber 43 = .ok (.ldc2_w 336, 3) := by decide +kernel
theorem dX11_printsNumber_46 : decode cX11_printsNumber 46 = .ok (.ldiv, 1) := by decide +kernel
theorem dX11_printsNumber_47 : decode cX11_printsNumber 47 = .ok (.lstore_n 3, 1) := by decide +kernel
theorem dX11_printsNumber_48 : decode cX11_printsNumber 48 = .ok (.goto (-27), 3) := by decide +kernel
theorem dX11_printsNumber_51 : decode cX11_printsNumber 51 = .ok (.return_, 1) := by decide +kernel
theorem dX11_printsTerm_0 : decode cX11_printsTerm 0 = .ok (.aload_n 0, 1) := by decide +kernel
theorem dX11_printsTerm_1 : decode cX11_printsTerm 1 = .ok (.getfield 59, 3) := by decide +kernel
theorem dX11_printsTerm_4 : decode cX11_printsTerm 4 = .ok (.sipush 13312, 3) := by decide +kernel
theorem dX11_printsTerm_7 : decode cX11_printsTerm 7 = .ok (.iload_n 1, 1) := by decide +kernel
theorem dX11_printsTerm_8 : decode cX11_printsTerm 8 = .ok (.iadd, 1) := by decide +kernel
theorem dX11_printsTerm_9 : decode cX11_printsTerm 9 = .ok (.laload, 1) := by decide +kernel
theorem dX11_printsTerm_10 : decode cX11_printsTerm 10 = .ok (.lconst 1, 1) := by decide +kernel
theorem dX11_printsTerm_11 : decode cX11_printsTerm 11 = .ok (.lcmp, 1) := by decide +kernel
theorem dX11_printsTerm_12 : decode cX11_printsTerm 12 = .ok (.ifCond .le 17, 3) := by decide +kernel
theorem dX11_printsTerm_15 : decode cX11_printsTerm 15 = .ok (.aload_n 0, 1) := by decide +kernel
theorem dX11_printsTerm_16 : decode cX11_printsTerm 16 = .ok (.aload_n 0, 1) := by decide +kernel
theorem dX11_printsTerm_17 : decode cX11_printsTerm 17 = .ok (.getfield 59, 3) := by decide +kernel
theorem dX11_printsTerm_20 : decode cX11_printsTerm 20 = .ok (.sipush 13312, 3) := by decide +kernel
theorem dX11_printsTerm_23 : decode cX11_printsTerm 23 = .ok (.iload_n 1, 1) := by decide +kernel
theorem dX11_printsTerm_24 : decode cX11_printsTerm 24 = .ok (.iadd, 1) := by decide +kernel
theorem dX11_printsTerm_25 : decode cX11_printsTerm 25 = .ok (.laload, 1) := by decide +kernel
theorem dX11_printsTerm_26 : decode cX11_printsTerm 26 = .ok (.invokevirtual 341, 3) := by decide +kernel
theorem dX11_printsTerm_29 : decode cX11_printsTerm 29 = .ok (.iconst 0, 1) := by decide +kernel
theorem dX11_printsTerm_30 : decode cX11_printsTerm 30 = .ok (.istore_n 2, 1) := by decide +kernel
theorem dX11_printsTerm_31 : decode cX11_printsTerm 31 = .ok (.iload_n 2, 1) := by decide +kernel
theorem dX11_printsTerm_32 : decode cX11_printsTerm 32 = .ok (.bipush 16, 2) := by decide +kernel
theorem dX11_printsTerm_34 : decode cX11_printsTerm 34 = .ok (.if_icmp .ge 53, 3) := by decide +kernel
theorem dX11_printsTerm_37 : decode cX11_printsTerm 37 = .ok (.aload_n 0, 1) := by decide +kernel
theorem dX11_printsTerm_38 : decode cX11_printsTerm 38 = .ok (.getfield 55, 3) := by decide +kernel
theorem dX11_printsTerm_41 : decode cX11_printsTerm 41 = .ok (.sipush 13312, 3) := by decide +kernel
theorem dX11_printsTerm_44 : decode cX11_printsTerm 44 = .ok (.iload_n 1, 1) := by decide +kernel
theorem dX11_printsTerm_45 : decode cX11_printsTerm 45 = .ok (.iadd, 1) := by decide +kernel
theorem dX11_printsTerm_46 : decode cX11_printsTerm 46 = .ok (.laload, 1) := by decide +kernel
theorem dX11_printsTerm_47 : decode cX11_printsTerm 47 = .ok (.iload_n 2, 1) := by decide +kernel
theorem dX11_printsTerm_48 : decode cX11_printsTerm 48 = .ok (.invokestatic 264, 3) := by decide +kernel
theorem dX11_printsTerm_51 : decode cX11_printsTerm 51 = .ok (.istore_n 3, 1) := by decide +kernel
theorem dX11_printsTerm_52 : decode cX11_printsTerm 52 = .ok (.iload_n 3, 1) := by decide +kernel
theorem dX11_printsTerm_53 : decode cX11_printsTerm 53 = .ok (.ifCond .le 11, 3) := by decide +kernel
theorem dX11_printsTerm_56 : decode cX11_printsTerm 56 = .ok (.aload_n 0, 1) := by decide +kernel
theorem dX11_printsTerm_57 : decode cX11_printsTerm 57 = .ok (.bipush 97, 2) := by decide +kernel
theorem dX11_printsTerm_59 : decode cX11_printsTerm 59 = .ok (.iload_n 2, 1) := by decide +kernel
theorem dX11_printsTerm_60 : decode cX11_printsTerm 60 = .ok (.iadd, 1) := by decide +kernel
theorem dX11_printsTerm_61 : decode cX11_printsTerm 61 = .ok (.invokevirtual 338, 3) := by decide +kernel
theorem dX11_printsTerm_64 : decode cX11_printsTerm 64 = .ok (.iload_n 3, 1) := by decide +kernel
theorem dX11_printsTerm_65 : decode cX11_printsTerm 65 = .ok (.iconst 1, 1) := by decide +kernel
theorem dX11_printsTerm_66 : decode cX11_printsTerm 66 = .ok (.if_icmp .le 15, 3) := by decide +kernel
theorem dX11_printsTerm_69 : decode cX11_printsTerm 69 = .ok (.aload_n 0, 1) := by decide +kernel
theorem dX11_printsTerm_70 : decode cX11_printsTerm 70 = .ok (.bipush 94, 2) := by decide +kernel
theorem dX11_printsTerm_72 : decode cX11_printsTerm 72 = .ok (.invokevirtual 338, 3) := by decide +kernel
theorem dX11_printsTerm_75 : decode cX11_printsTerm 75 = .ok (.aload_n 0, 1) := by decide +kernel
theorem dX11_printsTerm_76 : decode cX11_printsTerm 76 = .ok (.iload_n 3, 1) := by decide +kernel
theorem dX11_printsTerm_77 : decode cX11_printsTerm 77 = .ok (.i2l, 1) := by decide +kernel
theorem dX11_printsTerm_78 : decode cX11_printsTerm 78 = .ok (.invokevirtual 341, 3) := by decide +kernel
theorem dX11_printsTerm_81 : decode cX11_printsTerm 81 = .ok (.iinc 2 1, 3) := by decide +kernel
theorem dX11_printsTerm_84 : decode cX11_printsTerm 84 = .ok (.goto (-53), 3) := by decide +kernel
theorem dX11_printsTerm_87 : decode cX11_printsTerm 87 = .ok (.return_, 1) := by decide +kernel
theorem dX11_print_0 : decode cX11_print 0 = .ok (.aload_n 0, 1) := by decide +kernel
theorem dX11_print_1 : decode cX11_print 1 = .ok (.iload_n 1, 1) := by decide +kernel
theorem dX11_print_2 : decode cX11_print 2 = .ok (.invokevirtual 261, 3) := by decide +kernel
theorem dX11_print_5 : decode cX11_print 5 = .ok (.ifCond .ne 5, 3) := by decide +kernel
theorem dX11_print_8 : decode cX11_print 8 = .ok (.iconst (-1), 1) := by decide +kernel
theorem dX11_print_9 : decode cX11_print 9 = .ok (.ireturn, 1) := by decide +kernel
theorem dX11_print_10 : decode cX11_print 10 = .ok (.iload_n 2, 1) := by decide +kernel
theorem dX11_print_11 : decode cX11_print 11 = .ok (.invokestatic 282, 3) := by decide +kernel
theorem dX11_print_14 : decode cX11_print 14 = .ok (.ifCond .ne 6, 3) := by decide +kernel
theorem dX11_print_17 : decode cX11_print 17 = .ok (.bipush (-2), 2) := by decide +kernel
theorem dX11_print_19 : decode cX11_print 19 = .ok (.ireturn, 1) := by decide +kernel
theorem dX11_print_20 : decode cX11_print 20 = .ok (.aload_n 0, 1) := by decide +kernel
theorem dX11_print_21 : decode cX11_print 21 = .ok (.iload_n 1, 1) := by decide +kernel
theorem dX11_print_22 : decode cX11_print 22 = .ok (.iload_n 2, 1) := by decide +kernel
theorem dX11_print_23 : decode cX11_print 23 = .ok (.invokevirtual 284, 3) := by decide +kernel
theorem dX11_print_26 : decode cX11_print 26 = .ok (.aload_n 0, 1) := by decide +kernel
theorem dX11_print_27 : decode cX11_print 27 = .ok (.iconst 0, 1) := by decide +kernel
theorem dX11_print_28 : decode cX11_print 28 = .ok (.putfield 331, 3) := by decide +kernel
theorem dX11_print_31 : decode cX11_print 31 = .ok (.iconst 0, 1) := by decide +kernel
theorem dX11_print_32 : decode cX11_print 32 = .ok (.istore_n 3, 1) := by decide +kernel
theorem dX11_print_33 : decode cX11_print 33 = .ok (.iload_n 3, 1) := by decide +kernel
theorem dX11_print_34 : decode cX11_print 34 = .ok (.aload_n 0, 1) := by decide +kernel
theorem dX11_print_35 : decode cX11_print 35 = .ok (.getfield 52, 3) := by decide +kernel
theorem dX11_print_38 : decode cX11_print 38 = .ok (.sipush 416, 3) := by decide +kernel
theorem dX11_print_41 : decode cX11_print 41 = .ok (.iaload, 1) := by decide +kernel
theorem dX11_print_42 : decode cX11_print 42 = .ok (.if_icmp .ge 24, 3) := by decide +kernel
theorem dX11_print_45 : decode cX11_print 45 = .ok (.iload_n 3, 1) := by decide +kernel
theorem dX11_print_46 : decode cX11_print 46 = .ok (.ifCond .le 9, 3) := by decide +kernel
theorem dX11_print_49 : decode cX11_print 49 = .ok (.aload_n 0, 1) := by decide +kernel
theorem dX11_print_50 : decode cX11_print 50 = .ok (.bipush 43, 2) := by decide +kernel
theorem dX11_print_52 : decode cX11_print 52 = .ok (.invokevirtual 338, 3) := by decide +kernel
theorem dX11_print_55 : decode cX11_print 55 = .ok (.aload_n 0, 1) := by decide +kernel
theorem dX11_print_56 : decode cX11_print 56 = .ok (.iload_n 3, 1) := by decide +kernel
theorem dX11_print_57 : decode cX11_print 57 = .ok (.invokevirtual 345, 3) := by decide +kernel
theorem dX11_print_60 : decode cX11_print 60 = .ok (.iinc 3 1, 3) := by decide +kernel
theorem dX11_print_63 : decode cX11_print 63 = .ok (.goto (-30), 3) := by decide +kernel
theorem dX11_print_66 : decode cX11_print 66 = .ok (.aload_n 0, 1) := by decide +kernel
theorem dX11_print_67 : decode cX11_print 67 = .ok (.getfield 331, 3) := by decide +kernel
theorem dX11_print_70 : decode cX11_print 70 = .ok (.ireturn, 1) := by decide +kernel
theorem dX11_printed_0 : decode cX11_printed 0 = .ok (.iload_n 1, 1) := by decide +kernel
theorem dX11_printed_1 : decode cX11_printed 1 = .ok (.iconst 0, 1) := by decide +kernel
theorem dX11_printed_2 : decode cX11_printed 2 = .ok (.aload_n 0, 1) := by decide +kernel
theorem dX11_printed_3 : decode cX11_printed 3 = .ok (.getfield 331, 3) := by decide +kernel
theorem dX11_printed_6 : decode cX11_printed 6 = .ok (.iconst 1, 1) := by decide +kernel
theorem dX11_printed_7 : decode cX11_printed 7 = .ok (.isub, 1) := by decide +kernel
theorem dX11_printed_8 : decode cX11_printed 8 = .ok (.invokestatic 80, 3) := by decide +kernel
theorem dX11_printed_11 : decode cX11_printed 11 = .ok (.ifCond .eq 12, 3) := by decide +kernel
theorem dX11_printed_14 : decode cX11_printed 14 = .ok (.aload_n 0, 1) := by decide +kernel
theorem dX11_printed_15 : decode cX11_printed 15 = .ok (.getfield 69, 3) := by decide +kernel
theorem dX11_printed_18 : decode cX11_printed 18 = .ok (.iload_n 1, 1) := by decide +kernel
theorem dX11_printed_19 : decode cX11_printed 19 = .ok (.iaload, 1) := by decide +kernel
theorem dX11_printed_20 : decode cX11_printed 20 = .ok (.goto 4, 3) := by decide +kernel
theorem dX11_printed_23 : decode cX11_printed 23 = .ok (.iconst (-1), 1) := by decide +kernel
theorem dX11_printed_24 : decode cX11_printed 24 = .ok (.ireturn, 1) := by decide +kernel
theorem dJ6_bitCount_0f7a4_0 : decode cJ6_bitCount_0f7a4 0 = .ok (.iload_n 0, 1) := by decide +kernel
theorem dJ6_bitCount_0f7a4_1 : decode cJ6_bitCount_0f7a4 1 = .ok (.iload_n 0, 1) := by decide +kernel
theorem dJ6_bitCount_0f7a4_2 : decode cJ6_bitCount_0f7a4 2 = .ok (.iconst 1, 1) := by decide +kernel
theorem dJ6_bitCount_0f7a4_3 : decode cJ6_bitCount_0f7a4 3 = .ok (.iushr, 1) := by decide +kernel
theorem dJ6_bitCount_0f7a4_4 : decode cJ6_bitCount_0f7a4 4 = .ok (.ldc_w 265, 3) := by decide +kernel
theorem dJ6_bitCount_0f7a4_7 : decode cJ6_bitCount_0f7a4 7 = .ok (.iand, 1) := by decide +kernel
theorem dJ6_bitCount_0f7a4_8 : decode cJ6_bitCount_0f7a4 8 = .ok (.isub, 1) := by decide +kernel
theorem dJ6_bitCount_0f7a4_9 : decode cJ6_bitCount_0f7a4 9 = .ok (.istore_n 0, 1) := by decide +kernel
theorem dJ6_bitCount_0f7a4_10 : decode cJ6_bitCount_0f7a4 10 = .ok (.iload_n 0, 1) := by decide +kernel
theorem dJ6_bitCount_0f7a4_11 : decode cJ6_bitCount_0f7a4 11 = .ok (.ldc_w 266, 3) := by decide +kernel
theorem dJ6_bitCount_0f7a4_14 : decode cJ6_bitCount_0f7a4 14 = .ok (.iand, 1) := by decide +kernel
theorem dJ6_bitCount_0f7a4_15 : decode cJ6_bitCount_0f7a4 15 = .ok (.iload_n 0, 1) := by decide +kernel
theorem dJ6_bitCount_0f7a4_16 : decode cJ6_bitCount_0f7a4 16 = .ok (.iconst 2, 1) := by decide +kernel
theorem dJ6_bitCount_0f7a4_17 : decode cJ6_bitCount_0f7a4 17 = .ok (.iushr, 1) := by decide +kernel
theorem dJ6_bitCount_0f7a4_18 : decode cJ6_bitCount_0f7a4 18 = .ok (.ldc_w 266, 3) := by decide +kernel
theorem dJ6_bitCount_0f7a4_21 : decode cJ6_bitCount_0f7a4 21 = .ok (.iand, 1) := by decide +kernel
theorem dJ6_bitCount_0f7a4_22 : decode cJ6_bitCount_0f7a4 22 = .ok (.iadd, 1) := by decide +kernel
theorem dJ6_bitCount_0f7a4_23 : decode cJ6_bitCount_0f7a4 23 = .ok (.istore_n 0, 1) := by decide +kernel
theorem dJ6_bitCount_0f7a4_24 : decode cJ6_bitCount_0f7a4 24 = .ok (.iload_n 0, 1) := by decide +kernel
theorem dJ6_bitCount_0f7a4_25 : decode cJ6_bitCount_0f7a4 25 = .ok (.iload_n 0, 1) := by decide +kernel
theorem dJ6_bitCount_0f7a4_26 : decode cJ6_bitCount_0f7a4 26 = .ok (.iconst 4, 1) := by decide +kernel
theorem dJ6_bitCount_0f7a4_27 : decode cJ6_bitCount_0f7a4 27 = .ok (.iushr, 1) := by decide +kernel
theorem dJ6_bitCount_0f7a4_28 : decode cJ6_bitCount_0f7a4 28 = .ok (.iadd, 1) := by decide +kernel
theorem dJ6_bitCount_0f7a4_29 : decode cJ6_bitCount_0f7a4 29 = .ok (.ldc_w 267, 3) := by decide +kernel
theorem dJ6_bitCount_0f7a4_32 : decode cJ6_bitCount_0f7a4 32 = .ok (.iand, 1) := by decide +kernel
theorem dJ6_bitCount_0f7a4_33 : decode cJ6_bitCount_0f7a4 33 = .ok (.istore_n 0, 1) := by decide +kernel
theorem dJ6_bitCount_0f7a4_34 : decode cJ6_bitCount_0f7a4 34 = .ok (.iload_n 0, 1) := by decide +kernel
theorem dJ6_bitCount_0f7a4_35 : decode cJ6_bitCount_0f7a4 35 = .ok (.iload_n 0, 1) := by decide +kernel
theorem dJ6_bitCount_0f7a4_36 : decode cJ6_bitCount_0f7a4 36 = .ok (.bipush 8, 2) := by decide +kernel
theorem dJ6_bitCount_0f7a4_38 : decode cJ6_bitCount_0f7a4 38 = .ok (.iushr, 1) := by decide +kernel
theorem dJ6_bitCount_0f7a4_39 : decode cJ6_bitCount_0f7a4 39 = .ok (.iadd, 1) := by decide +kernel
theorem dJ6_bitCount_0f7a4_40 : decode cJ6_bitCount_0f7a4 40 = .ok (.istore_n 0, 1) := by decide +kernel
theorem dJ6_bitCount_0f7a4_41 : decode cJ6_bitCount_0f7a4 41 = .ok (.iload_n 0, 1) := by decide +kernel
theorem dJ6_bitCount_0f7a4_42 : decode cJ6_bitCount_0f7a4 42 = .ok (.iload_n 0, 1) := by decide +kernel
theorem dJ6_bitCount_0f7a4_43 : decode cJ6_bitCount_0f7a4 43 = .ok (.bipush 16, 2) := by decide +kernel
theorem dJ6_bitCount_0f7a4_45 : decode cJ6_bitCount_0f7a4 45 = .ok (.iushr, 1) := by decide +kernel
theorem dJ6_bitCount_0f7a4_46 : decode cJ6_bitCount_0f7a4 46 = .ok (.iadd, 1) := by decide +kernel
theorem dJ6_bitCount_0f7a4_47 : decode cJ6_bitCount_0f7a4 47 = .ok (.istore_n 0, 1) := by decide +kernel
theorem dJ6_bitCount_0f7a4_48 : decode cJ6_bitCount_0f7a4 48 = .ok (.iload_n 0, 1) := by decide +kernel
theorem dJ6_bitCount_0f7a4_49 : decode cJ6_bitCount_0f7a4 49 = .ok (.bipush 63, 2) := by decide +kernel
theorem dJ6_bitCount_0f7a4_51 : decode cJ6_bitCount_0f7a4 51 = .ok (.iand, 1) := by decide +kernel
theorem dJ6_bitCount_0f7a4_52 : decode cJ6_bitCount_0f7a4 52 = .ok (.ireturn, 1) := by decide +kernel
theorem dJ9_max_7cf53_0 : decode cJ9_max_7cf53 0 = .ok (.iload_n 0, 1) := by decide +kernel
theorem dJ9_max_7cf53_1 : decode cJ9_max_7cf53 1 = .ok (.iload_n 1, 1) := by decide +kernel
theorem dJ9_max_7cf53_2 : decode cJ9_max_7cf53 2 = .ok (.if_icmp .lt 7, 3) := by decide +kernel
theorem dJ9_max_7cf53_5 : decode cJ9_max_7cf53 5 = .ok (.iload_n 0, 1) := by decide +kernel
theorem dJ9_max_7cf53_6 : decode cJ9_max_7cf53 6 = .ok (.goto 4, 3) := by decide +kernel
theorem dJ9_max_7cf53_9 : decode cJ9_max_7cf53 9 = .ok (.iload_n 1, 1) := by decide +kernel
theorem dJ9_max_7cf53_10 : decode cJ9_max_7cf53 10 = .ok (.ireturn, 1) := by decide +kernel
theorem dJ9_min_7cf53_0 : decode cJ9_min_7cf53 0 = .ok (.iload_n 0, 1) := by decide +kernel
theorem dJ9_min_7cf53_1 : decode cJ9_min_7cf53 1 = .ok (.iload_n 1, 1) := by decide +kernel
theorem dJ9_min_7cf53_2 : decode cJ9_min_7cf53 2 = .ok (.if_icmp .gt 7, 3) := by decide +kernel
theorem dJ9_min_7cf53_5 : decode cJ9_min_7cf53 5 = .ok (.iload_n 0, 1) := by decide +kernel
theorem dJ9_min_7cf53_6 : decode cJ9_min_7cf53 6 = .ok (.goto 4, 3) := by decide +kernel
theorem dJ9_min_7cf53_9 : decode cJ9_min_7cf53 9 = .ok (.iload_n 1, 1) := by decide +kernel
theorem dJ9_min_7cf53_10 : decode cJ9_min_7cf53 10 = .ok (.ireturn, 1) := by decide +kernel
theorem dL_law_0 : decode cL_law 0 = .ok (.new 7, 3) := by decide +kernel
theorem dL_law_3 : decode cL_law 3 = .ok (.dup, 1) := by decide +kernel
theorem dL_law_4 : decode cL_law 4 = .ok (.invokespecial 9, 3) := by decide +kernel
theorem dL_law_7 : decode cL_law 7 = .ok (.astore_n 1, 1) := by decide +kernel
theorem dL_law_8 : decode cL_law 8 = .ok (.new 10, 3) := by decide +kernel
theorem dL_law_11 : decode cL_law 11 = .ok (.dup, 1) := by decide +kernel
theorem dL_law_12 : decode cL_law 12 = .ok (.invokespecial 12, 3) := by decide +kernel
theorem dL_law_15 : decode cL_law 15 = .ok (.astore_n 2, 1) := by decide +kernel
theorem dL_law_16 : decode cL_law 16 = .ok (.iconst 0, 1) := by decide +kernel
theorem dL_law_17 : decode cL_law 17 = .ok (.istore_n 3, 1) := by decide +kernel
theorem dL_law_18 : decode cL_law 18 = .ok (.iload_n 3, 1) := by decide +kernel
theorem dL_law_19 : decode cL_law 19 = .ok (.aload_n 0, 1) := by decide +kernel
theorem dL_law_20 : decode cL_law 20 = .ok (.arraylength, 1) := by decide +kernel
theorem dL_law_21 : decode cL_law 21 = .ok (.iconst 5, 1) := by decide +kernel
theorem dL_law_22 : decode cL_law 22 = .ok (.isub, 1) := by decide +kernel
theorem dL_law_23 : decode cL_law 23 = .ok (.if_icmp .gt 1172, 3) := by decide +kernel
theorem dL_law_26 : decode cL_law 26 = .ok (.aload_n 0, 1) := by decide +kernel
theorem dL_law_27 : decode cL_law 27 = .ok (.iload_n 3, 1) := by decide +kernel
theorem dL_law_28 : decode cL_law 28 = .ok (.iaload, 1) := by decide +kernel
theorem dL_law_29 : decode cL_law 29 = .ok (.bipush 63, 2) := by decide +kernel
theorem dL_law_31 : decode cL_law 31 = .ok (.iand, 1) := by decide +kernel
theorem dL_law_32 : decode cL_law 32 = .ok (.tableswitch 1157 0 38 #[172, 205, 238, 261, 294, 327, 376, 389, 402, 425, 438, 451, 464, 487, 500, 513, 536, 569, 592, 615, 628, 651, 664, 677, 710, 743, 787, 840, 863, 887, 910, 933, 956, 1009, 1032, 1055, 1078, 1101, 1134], 172) := by decide +kernel
theorem dL_law_204 : decode cL_law 204 = .ok (.aload_n 1, 1) := by decide +kernel
theorem dL_law_205 : decode cL_law 205 = .ok (.aload_n 0, 1) := by decide +kernel
theorem dL_law_206 : decode cL_law 206 = .ok (.iload_n 3, 1) := by decide +kernel
theorem dL_law_207 : decode cL_law 207 = .ok (.iconst 1, 1) := by decide +kernel
theorem dL_law_208 : decode cL_law 208 = .ok (.iadd, 1) := by decide +kernel
theorem dL_law_209 : decode cL_law 209 = .ok (.iaload, 1) := by decide +kernel
theorem dL_law_210 : decode cL_law 210 = .ok (.aload_n 0, 1) := by decide +kernel
theorem dL_law_211 : decode cL_law 211 = .ok (.iload_n 3, 1) := by decide +kernel
theorem dL_law_212 : decode cL_law 212 = .ok (.iconst 2, 1) := by decide +kernel
theorem dL_law_213 : decode cL_law 213 = .ok (.iadd, 1) := by decide +kernel
theorem dL_law_214 : decode cL_law 214 = .ok (.iaload, 1) := by decide +kernel
theorem dL_law_215 : decode cL_law 215 = .ok (.invokevirtual 13, 3) := by decide +kernel
theorem dL_law_218 : decode cL_law 218 = .ok (.aload_n 2, 1) := by decide +kernel
theorem dL_law_219 : decode cL_law 219 = .ok (.aload_n 0, 1) := by decide +kernel
theorem dL_law_220 : decode cL_law 220 = .ok (.iload_n 3, 1) := by decide +kernel
theorem dL_law_221 : decode cL_law 221 = .ok (.iconst 1, 1) := by decide +kernel
theorem dL_law_222 : decode cL_law 222 = .ok (.iadd, 1) := by decide +kernel
theorem dL_law_223 : decode cL_law 223 = .ok (.iaload, 1) := by decide +kernel
theorem dL_law_224 : decode cL_law 224 = .ok (.aload_n 0, 1) := by decide +kernel
theorem dL_law_225 : decode cL_law 225 = .ok (.iload_n 3, 1) := by decide +kernel
theorem dL_law_226 : decode cL_law 226 = .ok (.iconst 2, 1) := by decide +kernel
theorem dL_law_227 : decode cL_law 227 = .ok (.iadd, 1) := by decide +kernel
theorem dL_law_228 : decode cL_law 228 = .ok (.iaload, 1) := by decide +kernel
theorem dL_law_229 : decode cL_law 229 = .ok (.invokevirtual 17, 3) := by decide +kernel
theorem dL_law_232 : decode cL_law 232 = .ok (.if_icmp .eq 957, 3) := by decide +kernel
theorem dL_law_235 : decode cL_law 235 = .ok (.iconst 0, 1) := by decide +kernel
theorem dL_law_236 : decode cL_law 236 = .ok (.ireturn, 1) := by decide +kernel
theorem dL_law_237 : decode cL_law 237 = .ok (.aload_n 1, 1) := by decide +kernel
theorem dL_law_238 : decode cL_law 238 = .ok (.aload_n 0, 1) := by decide +kernel
theorem dL_law_239 : decode cL_law 239 = .ok (.iload_n 3, 1) := by decide +kernel
theorem dL_law_240 : decode cL_law 240 = .ok (.iconst 1, 1) := by decide +kernel
theorem dL_law_241 : decode cL_law 241 = .ok (.iadd, 1) := by decide +kernel
theorem dL_law_242 : decode cL_law 242 = .ok (.iaload, 1) := by decide +kernel
theorem dL_law_243 : decode cL_law 243 = .ok (.aload_n 0, 1) := by decide +kernel
theorem dL_law_244 : decode cL_law 244 = .ok (.iload_n 3, 1) := by decide +kernel
theorem dL_law_245 : decode cL_law 245 = .ok (.iconst 2, 1) := by decide +kernel
theorem dL_law_246 : decode cL_law 246 = .ok (.iadd, 1) := by decide +kernel
theorem dL_law_247 : decode cL_law 247 = .ok (.iaload, 1) := by decide +kernel
theorem dL_law_248 : decode cL_law 248 = .ok (.invokevirtual 18, 3) := by decide +kernel
theorem dL_law_251 : decode cL_law 251 = .ok (.aload_n 2, 1) := by decide +kernel
theorem dL_law_252 : decode cL_law 252 = .ok (.aload_n 0, 1) := by decide +kernel
theorem dL_law_253 : decode cL_law 253 = .ok (.iload_n 3, 1) := by decide +kernel
theorem dL_law_254 : decode cL_law 254 = .ok (.iconst 1, 1) := by decide +kernel
theorem dL_law_255 : decode cL_law 255 = .ok (.iadd, 1) := by decide +kernel
theorem dL_law_256 : decode cL_law 256 = .ok (.iaload, 1) := by decide +kernel
theorem dL_law_257 : decode cL_law 257 = .ok (.aload_n 0, 1) := by decide +kernel
theorem dL_law_258 : decode cL_law 258 = .ok (.iload_n 3, 1) := by decide +kernel
theorem dL_law_259 : decode cL_law 259 = .ok (.iconst 2, 1) := by decide +kernel
theorem dL_law_260 : decode cL_law 260 = .ok (.iadd, 1) := by decide +kernel
theorem dL_law_261 : decode cL_law 261 = .ok (.iaload, 1) := by decide +kernel
theorem dL_law_262 : decode cL_law 262 = .ok (.invokevirtual 21, 3) := by decide +kernel
theorem dL_law_265 : decode cL_law 265 = .ok (.if_icmp .eq 924, 3) := by decide +kernel
theorem dL_law_268 : decode cL_law 268 = .ok (.iconst 0, 1) := by decide +kernel
theorem dL_law_269 : decode cL_law 269 = .ok (.ireturn, 1) := by decide +kernel
theorem dL_law_270 : decode cL_law 270 = .ok (.aload_n 1, 1) := by decide +kernel
theorem dL_law_271 : decode cL_law 271 = .ok (.aload_n 0, 1) := by decide +kernel
theorem dL_law_272 : decode cL_law 272 = .ok (.iload_n 3, 1) := by decide +kernel
theorem dL_law_273 : decode cL_law 273 = .ok (.iconst 1, 1) := by decide +kernel
theorem dL_law_274 : decode cL_law 274 = .ok (.iadd, 1) := by decide +kernel
theorem dL_law_275 : decode cL_law 275 = .ok (.iaload, 1) := by decide +kernel
theorem dL_law_276 : decode cL_law 276 = .ok (.invokevirtual 22, 3) := by decide +kernel
theorem dL_law_279 : decode cL_law 279 = .ok (.aload_n 2, 1) := by decide +kernel
theorem dL_law_280 : decode cL_law 280 = .ok (.aload_n 0, 1) := by decide +kernel
theorem dL_law_281 : decode cL_law 281 = .ok (.iload_n 3, 1) := by decide +kernel
theorem dL_law_282 : decode cL_law 282 = .ok (.iconst 1, 1) := by decide +kernel
theorem dL_law_283 : decode cL_law 283 = .ok (.iadd, 1) := by decide +kernel
theorem dL_law_284 : decode cL_law 284 = .ok (.iaload, 1) := by decide +kernel
theorem dL_law_285 : decode cL_law 285 = .ok (.invokevirtual 26, 3) := by decide +kernel
theorem dL_law_288 : decode cL_law 288 = .ok (.if_icmp .eq 901, 3) := by decide +kernel
theorem dL_law_291 : decode cL_law 291 = .ok (.iconst 0, 1) := by decide +kernel
theorem dL_law_292 : decode cL_law 292 = .ok (.ireturn, 1) := by decide +kernel
theorem dL_law_293 : decode cL_law 293 = .ok (.aload_n 1, 1) := by decide +kernel
theorem dL_law_294 : decode cL_law 294 = .ok (.aload_n 0, 1) := by decide +kernel
theorem dL_law_295 : decode cL_law 295 = .ok (.iload_n 3, 1) := by decide +kernel
theorem dL_law_296 : decode cL_law 296 = .ok (.iconst 1, 1) := by decide +kernel
theorem dL_law_297 : decode cL_law 297 = .ok (.iadd, 1) := by decide +kernel
theorem dL_law_298 : decode cL_law 298 = .ok (.iaload, 1) := by decide +kernel
theorem dL_law_299 : decode cL_law 299 = .ok (.aload_n 0, 1) := by decide +kernel
theorem dL_law_300 : decode cL_law 300 = .ok (.iload_n 3, 1) := by decide +kernel
theorem dL_law_301 : decode cL_law 301 = .ok (.iconst 2, 1) := by decide +kernel
theorem dL_law_302 : decode cL_law 302 = .ok (.iadd, 1) := by decide +kernel
theorem dL_law_303 : decode cL_law 303 = .ok (.iaload, 1) := by decide +kernel
theorem dL_law_304 : decode cL_law 304 = .ok (.invokevirtual 27, 3) := by decide +kernel
theorem dL_law_307 : decode cL_law 307 = .ok (.aload_n 2, 1) := by decide +kernel
theorem dL_law_308 : decode cL_law 308 = .ok (.aload_n 0, 1) := by decide +kernel
theorem dL_law_309 : decode cL_law 309 = .ok (.iload_n 3, 1) := by decide +kernel
theorem dL_law_310 : decode cL_law 310 = .ok (.iconst 1, 1) := by decide +kernel
theorem dL_law_311 : decode cL_law 311 = .ok (.iadd, 1) := by decide +kernel
theorem dL_law_312 : decode cL_law 312 = .ok (.iaload, 1) := by decide +kernel
theorem dL_law_313 : decode cL_law 313 = .ok (.aload_n 0, 1) := by decide +kernel
theorem dL_law_314 : decode cL_law 314 = .ok (.iload_n 3, 1) := by decide +kernel
theorem dL_law_315 : decode cL_law 315 = .ok (.iconst 2, 1) := by decide +kernel
theorem dL_law_316 : decode cL_law 316 = .ok (.iadd, 1) := by decide +kernel
theorem dL_law_317 : decode cL_law 317 = .ok (.iaload, 1) := by decide +kernel
theorem dL_law_318 : decode cL_law 318 = .ok (.invokevirtual 30, 3) := by decide +kernel
theorem dL_law_321 : decode cL_law 321 = .ok (.if_icmp .eq 868, 3) := by decide +kernel
theorem dL_law_324 : decode cL_law 324 = .ok (.iconst 0, 1) := by decide +kernel
theorem dL_law_325 : decode cL_law 325 = .ok (.ireturn, 1) := by decide +kernel
theorem dL_law_326 : decode cL_law 326 = .ok (.aload_n 1, 1) := by decide +kernel
theorem dL_law_327 : decode cL_law 327 = .ok (.aload_n 0, 1) := by decide +kernel
theorem dL_law_328 : decode cL_law 328 = .ok (.iload_n 3, 1) := by decide +kernel
theorem dL_law_329 : decode cL_law 329 = .ok (.iconst 1, 1) := by decide +kernel
theorem dL_law_330 : decode cL_law 330 = .ok (.iadd, 1) := by decide +kernel
theorem dL_law_331 : decode cL_law 331 = .ok (.iaload, 1) := by decide +kernel
theorem dL_law_332 : decode cL_law 332 = .ok (.aload_n 0, 1) := by decide +kernel
theorem dL_law_333 : decode cL_law 333 = .ok (.iload_n 3, 1) := by decide +kernel
theorem dL_law_334 : decode cL_law 334 = .ok (.iconst 2, 1) := by decide +kernel
theorem dL_law_335 : decode cL_law 335 = .ok (.iadd, 1) := by decide +kernel
theorem dL_law_336 : decode cL_law 336 = .ok (.iaload, 1) := by decide +kernel
theorem dL_law_337 : decode cL_law 337 = .ok (.invokevirtual 31, 3) := by decide +kernel
theorem dL_law_340 : decode cL_law 340 = .ok (.aload_n 2, 1) := by decide +kernel
theorem dL_law_341 : decode cL_law 341 = .ok (.aload_n 0, 1) := by decide +kernel
theorem dL_law_342 : decode cL_law 342 = .ok (.iload_n 3, 1) := by decide +kernel
theorem dL_law_343 : decode cL_law 343 = .ok (.iconst 1, 1) := by decide +kernel
theorem dL_law_344 : decode cL_law 344 = .ok (.iadd, 1) := by decide +kernel
theorem dL_law_345 : decode cL_law 345 = .ok (.iaload, 1) := by decide +kernel
theorem dL_law_346 : decode cL_law 346 = .ok (.aload_n 0, 1) := by decide +kernel
theorem dL_law_347 : decode cL_law 347 = .ok (.iload_n 3, 1) := by decide +kernel
theorem dL_law_348 : decode cL_law 348 = .ok (.iconst 2, 1) := by decide +kernel
theorem dL_law_349 : decode cL_law 349 = .ok (.iadd, 1) := by decide +kernel
theorem dL_law_350 : decode cL_law 350 = .ok (.iaload, 1) := by decide +kernel
theorem dL_law_351 : decode cL_law 351 = .ok (.invokevirtual 34, 3) := by decide +kernel
theorem dL_law_354 : decode cL_law 354 = .ok (.if_icmp .eq 835, 3) := by decide +kernel
theorem dL_law_357 : decode cL_law 357 = .ok (.iconst 0, 1) := by decide +kernel
theorem dL_law_358 : decode cL_law 358 = .ok (.ireturn, 1) := by decide +kernel
theorem dL_law_359 : decode cL_law 359 = .ok (.aload_n 1, 1) := by decide +kernel
theorem dL_law_360 : decode cL_law 360 = .ok (.aload_n 0, 1) := by decide +kernel
theorem dL_law_361 : decode cL_law 361 = .ok (.iload_n 3, 1) := by decide +kernel
theorem dL_law_362 : decode cL_law 362 = .ok (.iconst 1, 1) := by decide +kernel
theorem dL_law_363 : decode cL_law 363 = .ok (.iadd, 1) := by decide +kernel
theorem dL_law_364 : decode cL_law 364 = .ok (.iaload, 1) := by decide +kernel
theorem dL_law_365 : decode cL_law 365 = .ok (.aload_n 0, 1) := by decide +kernel
theorem dL_law_366 : decode cL_law 366 = .ok (.iload_n 3, 1) := by decide +kernel
theorem dL_law_367 : decode cL_law 367 = .ok (.iconst 2, 1) := by decide +kernel
theorem dL_law_368 : decode cL_law 368 = .ok (.iadd, 1) := by decide +kernel
theorem dL_law_369 : decode cL_law 369 = .ok (.iaload, 1) := by decide +kernel
theorem dL_law_370 : decode cL_law 370 = .ok (.ifCond .eq 7, 3) := by decide +kernel
theorem dL_law_373 : decode cL_law 373 = .ok (.iconst 1, 1) := by decide +kernel
theorem dL_law_374 : decode cL_law 374 = .ok (.goto 4, 3) := by decide +kernel
theorem dL_law_377 : decode cL_law 377 = .ok (.iconst 0, 1) := by decide +kernel
theorem dL_law_378 : decode cL_law 378 = .ok (.invokevirtual 35, 3) := by decide +kernel
theorem dL_law_381 : decode cL_law 381 = .ok (.aload_n 2, 1) := by decide +kernel
theorem dL_law_382 : decode cL_law 382 = .ok (.aload_n 0, 1) := by decide +kernel
theorem dL_law_383 : decode cL_law 383 = .ok (.iload_n 3, 1) := by decide +kernel
theorem dL_law_384 : decode cL_law 384 = .ok (.iconst 1, 1) := by decide +kernel
theorem dL_law_385 : decode cL_law 385 = .ok (.iadd, 1) := by decide +kernel
theorem dL_law_386 : decode cL_law 386 = .ok (.iaload, 1) := by decide +kernel
theorem dL_law_387 : decode cL_law 387 = .ok (.aload_n 0, 1) := by decide +kernel
theorem dL_law_388 : decode cL_law 388 = .ok (.iload_n 3, 1) := by decide +kernel
theorem dL_law_389 : decode cL_law 389 = .ok (.iconst 2, 1) := by decide +kernel
theorem dL_law_390 : decode cL_law 390 = .ok (.iadd, 1) := by decide +kernel
theorem dL_law_391 : decode cL_law 391 = .ok (.iaload, 1) := by decide +kernel
theorem dL_law_392 : decode cL_law 392 = .ok (.ifCond .eq 7, 3) := by decide +kernel
theorem dL_law_395 : decode cL_law 395 = .ok (.iconst 1, 1) := by decide +kernel
theorem dL_law_396 : decode cL_law 396 = .ok (.goto 4, 3) := by decide +kernel
theorem dL_law_399 : decode cL_law 399 = .ok (.iconst 0, 1) := by decide +kernel
theorem dL_law_400 : decode cL_law 400 = .ok (.invokevirtual 39, 3) := by decide +kernel
theorem dL_law_403 : decode cL_law 403 = .ok (.if_icmp .eq 786, 3) := by decide +kernel
theorem dL_law_406 : decode cL_law 406 = .ok (.iconst 0, 1) := by decide +kernel
theorem dL_law_407 : decode cL_law 407 = .ok (.ireturn, 1) := by decide +kernel
theorem dL_law_408 : decode cL_law 408 = .ok (.aload_n 1, 1) := by decide +kernel
theorem dL_law_409 : decode cL_law 409 = .ok (.invokevirtual 40, 3) := by decide +kernel
theorem dL_law_412 : decode cL_law 412 = .ok (.aload_n 2, 1) := by decide +kernel
theorem dL_law_413 : decode cL_law 413 = .ok (.invokevirtual 44, 3) := by decide +kernel
theorem dL_law_416 : decode cL_law 416 = .ok (.if_icmp .eq 773, 3) := by decide +kernel
theorem dL_law_419 : decode cL_law 419 = .ok (.iconst 0, 1) := by decide +kernel
theorem dL_law_420 : decode cL_law 420 = .ok (.ireturn, 1) := by decide +kernel
theorem dL_law_421 : decode cL_law 421 = .ok (.aload_n 1, 1) := by decide +kernel
theorem dL_law_422 : decode cL_law 422 = .ok (.invokevirtual 45, 3) := by decide +kernel
theorem dL_law_425 : decode cL_law 425 = .ok (.aload_n 2, 1) := by decide +kernel
theorem dL_law_426 : decode cL_law 426 = .ok (.invokevirtual 48, 3) := by decide +kernel
theorem dL_law_429 : decode cL_law 429 = .ok (.if_icmp .eq 760, 3) := by decide +kernel
theorem dL_law_432 : decode cL_law 432 = .ok (.iconst 0, 1) := by decide +kernel
theorem dL_law_433 : decode cL_law 433 = .ok (.ireturn, 1) := by decide +kernel
theorem dL_law_434 : decode cL_law 434 = .ok (.aload_n 1, 1) := by decide +kernel
theorem dL_law_435 : decode cL_law 435 = .ok (.aload_n 0, 1) := by decide +kernel
theorem dL_law_436 : decode cL_law 436 = .ok (.iload_n 3, 1) := by decide +kernel
theorem dL_law_437 : decode cL_law 437 = .ok (.iconst 1, 1) := by decide +kernel
theorem dL_law_438 : decode cL_law 438 = .ok (.iadd, 1) := by decide +kernel
theorem dL_law_439 : decode cL_law 439 = .ok (.iaload, 1) := by decide +kernel
theorem dL_law_440 : decode cL_law 440 = .ok (.invokevirtual 49, 3) := by decide +kernel
theorem dL_law_443 : decode cL_law 443 = .ok (.aload_n 2, 1) := by decide +kernel
theorem dL_law_444 : decode cL_law 444 = .ok (.aload_n 0, 1) := by decide +kernel
theorem dL_law_445 : decode cL_law 445 = .ok (.iload_n 3, 1) := by decide +kernel
theorem dL_law_446 : decode cL_law 446 = .ok (.iconst 1, 1) := by decide +kernel
theorem dL_law_447 : decode cL_law 447 = .ok (.iadd, 1) := by decide +kernel
theorem dL_law_448 : decode cL_law 448 = .ok (.iaload, 1) := by decide +kernel
theorem dL_law_449 : decode cL_law 449 = .ok (.invokevirtual 52, 3) := by decide +kernel
theorem dL_law_452 : decode cL_law 452 = .ok (.if_icmp .eq 737, 3) := by decide +kernel
theorem dL_law_455 : decode cL_law 455 = .ok (.iconst 0, 1) := by decide +kernel
theorem dL_law_456 : decode cL_law 456 = .ok (.ireturn, 1) := by decide +kernel
theorem dL_law_457 : decode cL_law 457 = .ok (.aload_n 1, 1) := by decide +kernel
theorem dL_law_458 : decode cL_law 458 = .ok (.invokevirtual 53, 3) := by decide +kernel
theorem dL_law_461 : decode cL_law 461 = .ok (.aload_n 2, 1) := by decide +kernel
theorem dL_law_462 : decode cL_law 462 = .ok (.invokevirtual 56, 3) := by decide +kernel
theorem dL_law_465 : decode cL_law 465 = .ok (.if_icmp .eq 724, 3) := by decide +kernel
theorem dL_law_468 : decode cL_law 468 = .ok (.iconst 0, 1) := by decide +kernel
theorem dL_law_469 : decode cL_law 469 = .ok (.ireturn, 1) := by decide +kernel
theorem dL_law_470 : decode cL_law 470 = .ok (.aload_n 1, 1) := by decide +kernel
theorem dL_law_471 : decode cL_law 471 = .ok (.invokevirtual 57, 3) := by decide +kernel
theorem dL_law_474 : decode cL_law 474 = .ok (.aload_n 2, 1) := by decide +kernel
theorem dL_law_475 : decode cL_law 475 = .ok (.invokevirtual 60, 3) := by decide +kernel
theorem dL_law_478 : decode cL_law 478 = .ok (.if_icmp .eq 711, 3) := by decide +kernel
theorem dL_law_481 : decode cL_law 481 = .ok (.iconst 0, 1) := by decide +kernel
theorem dL_law_482 : decode cL_law 482 = .ok (.ireturn, 1) := by decide +kernel
theorem dL_law_483 : decode cL_law 483 = .ok (.aload_n 1, 1) := by decide +kernel
theorem dL_law_484 : decode cL_law 484 = .ok (.invokevirtual 61, 3) := by decide +kernel
theorem dL_law_487 : decode cL_law 487 = .ok (.aload_n 2, 1) := by decide +kernel
theorem dL_law_488 : decode cL_law 488 = .ok (.invokevirtual 64, 3) := by decide +kernel
theorem dL_law_491 : decode cL_law 491 = .ok (.if_icmp .eq 698, 3) := by decide +kernel
theorem dL_law_494 : decode cL_law 494 = .ok (.iconst 0, 1) := by decide +kernel
theorem dL_law_495 : decode cL_law 495 = .ok (.ireturn, 1) := by decide +kernel
theorem dL_law_496 : decode cL_law 496 = .ok (.aload_n 1, 1) := by decide +kernel
theorem dL_law_497 : decode cL_law 497 = .ok (.aload_n 0, 1) := by decide +kernel
theorem dL_law_498 : decode cL_law 498 = .ok (.iload_n 3, 1) := by decide +kernel
theorem dL_law_499 : decode cL_law 499 = .ok (.iconst 1, 1) := by decide +kernel
theorem dL_law_500 : decode cL_law 500 = .ok (.iadd, 1) := by decide +kernel
theorem dL_law_501 : decode cL_law 501 = .ok (.iaload, 1) := by decide +kernel
theorem dL_law_502 : decode cL_law 502 = .ok (.invokevirtual 65, 3) := by decide +kernel
theorem dL_law_505 : decode cL_law 505 = .ok (.aload_n 2, 1) := by decide +kernel
theorem dL_law_506 : decode cL_law 506 = .ok (.aload_n 0, 1) := by decide +kernel
theorem dL_law_507 : decode cL_law 507 = .ok (.iload_n 3, 1) := by decide +kernel
theorem dL_law_508 : decode cL_law 508 = .ok (.iconst 1, 1) := by decide +kernel
theorem dL_law_509 : decode cL_law 509 = .ok (.iadd, 1) := by decide +kernel
theorem dL_law_510 : decode cL_law 510 = .ok (.iaload, 1) := by decide +kernel
theorem dL_law_511 : decode cL_law 511 = .ok (.invokevirtual 68, 3) := by decide +kernel
theorem dL_law_514 : decode cL_law 514 = .ok (.if_icmp .eq 675, 3) := by decide +kernel
theorem dL_law_517 : decode cL_law 517 = .ok (.iconst 0, 1) := by decide +kernel
theorem dL_law_518 : decode cL_law 518 = .ok (.ireturn, 1) := by decide +kernel
theorem dL_law_519 : decode cL_law 519 = .ok (.aload_n 1, 1) := by decide +kernel
theorem dL_law_520 : decode cL_law 520 = .ok (.invokevirtual 69, 3) := by decide +kernel
theorem dL_law_523 : decode cL_law 523 = .ok (.aload_n 2, 1) := by decide +kernel
theorem dL_law_524 : decode cL_law 524 = .ok (.invokevirtual 72, 3) := by decide +kernel
theorem dL_law_527 : decode cL_law 527 = .ok (.if_icmp .eq 662, 3) := by decide +kernel
theorem dL_law_530 : decode cL_law 530 = .ok (.iconst 0, 1) := by decide +kernel
theorem dL_law_531 : decode cL_law 531 = .ok (.ireturn, 1) := by decide +kernel
theorem dL_law_532 : decode cL_law 532 = .ok (.aload_n 1, 1) := by decide +kernel
theorem dL_law_533 : decode cL_law 533 = .ok (.invokevirtual 73, 3) := by decide +kernel
theorem dL_law_536 : decode cL_law 536 = .ok (.aload_n 2, 1) := by decide +kernel
theorem dL_law_537 : decode cL_law 537 = .ok (.invokevirtual 76, 3) := by decide +kernel
theorem dL_law_540 : decode cL_law 540 = .ok (.if_icmp .eq 649, 3) := by decide +kernel
theorem dL_law_543 : decode cL_law 543 = .ok (.iconst 0, 1) := by decide +kernel
theorem dL_law_544 : decode cL_law 544 = .ok (.ireturn, 1) := by decide +kernel
theorem dL_law_545 : decode cL_law 545 = .ok (.aload_n 1, 1) := by decide +kernel
theorem dL_law_546 : decode cL_law 546 = .ok (.aload_n 0, 1) := by decide +kernel
theorem dL_law_547 : decode cL_law 547 = .ok (.iload_n 3, 1) := by decide +kernel
theorem dL_law_548 : decode cL_law 548 = .ok (.iconst 1, 1) := by decide +kernel
theorem dL_law_549 : decode cL_law 549 = .ok (.iadd, 1) := by decide +kernel
theorem dL_law_550 : decode cL_law 550 = .ok (.iaload, 1) := by decide +kernel
theorem dL_law_551 : decode cL_law 551 = .ok (.invokevirtual 77, 3) := by decide +kernel
theorem dL_law_554 : decode cL_law 554 = .ok (.aload_n 2, 1) := by decide +kernel
theorem dL_law_555 : decode cL_law 555 = .ok (.aload_n 0, 1) := by decide +kernel
theorem dL_law_556 : decode cL_law 556 = .ok (.iload_n 3, 1) := by decide +kernel
theorem dL_law_557 : decode cL_law 557 = .ok (.iconst 1, 1) := by decide +kernel
theorem dL_law_558 : decode cL_law 558 = .ok (.iadd, 1) := by decide +kernel
theorem dL_law_559 : decode cL_law 559 = .ok (.iaload, 1) := by decide +kernel
theorem dL_law_560 : decode cL_law 560 = .ok (.invokevirtual 80, 3) := by decide +kernel
theorem dL_law_563 : decode cL_law 563 = .ok (.if_icmp .eq 626, 3) := by decide +kernel
theorem dL_law_566 : decode cL_law 566 = .ok (.iconst 0, 1) := by decide +kernel
theorem dL_law_567 : decode cL_law 567 = .ok (.ireturn, 1) := by decide +kernel
theorem dL_law_568 : decode cL_law 568 = .ok (.aload_n 1, 1) := by decide +kernel
theorem dL_law_569 : decode cL_law 569 = .ok (.aload_n 0, 1) := by decide +kernel
theorem dL_law_570 : decode cL_law 570 = .ok (.iload_n 3, 1) := by decide +kernel
theorem dL_law_571 : decode cL_law 571 = .ok (.iconst 1, 1) := by decide +kernel
theorem dL_law_572 : decode cL_law 572 = .ok (.iadd, 1) := by decide +kernel
theorem dL_law_573 : decode cL_law 573 = .ok (.iaload, 1) := by decide +kernel
theorem dL_law_574 : decode cL_law 574 = .ok (.aload_n 0, 1) := by decide +kernel
theorem dL_law_575 : decode cL_law 575 = .ok (.iload_n 3, 1) := by decide +kernel
theorem dL_law_576 : decode cL_law 576 = .ok (.iconst 2, 1) := by decide +kernel
theorem dL_law_577 : decode cL_law 577 = .ok (.iadd, 1) := by decide +kernel
theorem dL_law_578 : decode cL_law 578 = .ok (.iaload, 1) := by decide +kernel
theorem dL_law_579 : decode cL_law 579 = .ok (.invokevirtual 81, 3) := by decide +kernel
theorem dL_law_582 : decode cL_law 582 = .ok (.aload_n 2, 1) := by decide +kernel
theorem dL_law_583 : decode cL_law 583 = .ok (.aload_n 0, 1) := by decide +kernel
theorem dL_law_584 : decode cL_law 584 = .ok (.iload_n 3, 1) := by decide +kernel
theorem dL_law_585 : decode cL_law 585 = .ok (.iconst 1, 1) := by decide +kernel
theorem dL_law_586 : decode cL_law 586 = .ok (.iadd, 1) := by decide +kernel
theorem dL_law_587 : decode cL_law 587 = .ok (.iaload, 1) := by decide +kernel
theorem dL_law_588 : decode cL_law 588 = .ok (.aload_n 0, 1) := by decide +kernel
theorem dL_law_589 : decode cL_law 589 = .ok (.iload_n 3, 1) := by decide +kernel
theorem dL_law_590 : decode cL_law 590 = .ok (.iconst 2, 1) := by decide +kernel
theorem dL_law_591 : decode cL_law 591 = .ok (.iadd, 1) := by decide +kernel
theorem dL_law_592 : decode cL_law 592 = .ok (.iaload, 1) := by decide +kernel
theorem dL_law_593 : decode cL_law 593 = .ok (.invokevirtual 84, 3) := by decide +kernel
theorem dL_law_596 : decode cL_law 596 = .ok (.if_icmp .eq 593, 3) := by decide +kernel
theorem dL_law_599 : decode cL_law 599 = .ok (.iconst 0, 1) := by decide +kernel
theorem dL_law_600 : decode cL_law 600 = .ok (.ireturn, 1) := by decide +kernel
theorem dL_law_601 : decode cL_law 601 = .ok (.aload_n 1, 1) := by decide +kernel
theorem dL_law_602 : decode cL_law 602 = .ok (.aload_n 0, 1) := by decide +kernel
theorem dL_law_603 : decode cL_law 603 = .ok (.iload_n 3, 1) := by decide +kernel
theorem dL_law_604 : decode cL_law 604 = .ok (.iconst 1, 1) := by decide +kernel
theorem dL_law_605 : decode cL_law 605 = .ok (.iadd, 1) := by decide +kernel
theorem dL_law_606 : decode cL_law 606 = .ok (.iaload, 1) := by decide +kernel
theorem dL_law_607 : decode cL_law 607 = .ok (.invokevirtual 85, 3) := by decide +kernel
theorem dL_law_610 : decode cL_law 610 = .ok (.aload_n 2, 1) := by decide +kernel
theorem dL_law_611 : decode cL_law 611 = .ok (.aload_n 0, 1) := by decide +kernel
theorem dL_law_612 : decode cL_law 612 = .ok (.iload_n 3, 1) := by decide +kernel
theorem dL_law_613 : decode cL_law 613 = .ok (.iconst 1, 1) := by decide +kernel
theorem dL_law_614 : decode cL_law 614 = .ok (.iadd, 1) := by decide +kernel
theorem dL_law_615 : decode cL_law 615 = .ok (.iaload, 1) := by decide +kernel
theorem dL_law_616 : decode cL_law 616 = .ok (.invokevirtual 88, 3) := by decide +kernel
theorem dL_law_619 : decode cL_law 619 = .ok (.if_icmp .eq 570, 3) := by decide +kernel
theorem dL_law_622 : decode cL_law 622 = .ok (.iconst 0, 1) := by decide +kernel
theorem dL_law_623 : decode cL_law 623 = .ok (.ireturn, 1) := by decide +kernel
theorem dL_law_624 : decode cL_law 624 = .ok (.aload_n 1, 1) := by decide +kernel
theorem dL_law_625 : decode cL_law 625 = .ok (.aload_n 0, 1) := by decide +kernel
theorem dL_law_626 : decode cL_law 626 = .ok (.iload_n 3, 1) := by decide +kernel
theorem dL_law_627 : decode cL_law 627 = .ok (.iconst 1, 1) := by decide +kernel
theorem dL_law_628 : decode cL_law 628 = .ok (.iadd, 1) := by decide +kernel
theorem dL_law_629 : decode cL_law 629 = .ok (.iaload, 1) := by decide +kernel
theorem dL_law_630 : decode cL_law 630 = .ok (.invokevirtual 89, 3) := by decide +kernel
theorem dL_law_633 : decode cL_law 633 = .ok (.aload_n 2, 1) := by decide +kernel
theorem dL_law_634 : decode cL_law 634 = .ok (.aload_n 0, 1) := by decide +kernel
theorem dL_law_635 : decode cL_law 635 = .ok (.iload_n 3, 1) := by decide +kernel
theorem dL_law_636 : decode cL_law 636 = .ok (.iconst 1, 1) := by decide +kernel
theorem dL_law_637 : decode cL_law 637 = .ok (.iadd, 1) := by decide +kernel
theorem dL_law_638 : decode cL_law 638 = .ok (.iaload, 1) := by decide +kernel
theorem dL_law_639 : decode cL_law 639 = .ok (.invokevirtual 92, 3) := by decide +kernel
theorem dL_law_642 : decode cL_law 642 = .ok (.if_icmp .eq 547, 3) := by decide +kernel
theorem dL_law_645 : decode cL_law 645 = .ok (.iconst 0, 1) := by decide +kernel
theorem dL_law_646 : decode cL_law 646 = .ok (.ireturn, 1) := by decide +kernel
theorem dL_law_647 : decode cL_law 647 = .ok (.aload_n 1, 1) := by decide +kernel
theorem dL_law_648 : decode cL_law 648 = .ok (.invokevirtual 93, 3) := by decide +kernel
theorem dL_law_651 : decode cL_law 651 = .ok (.aload_n 2, 1) := by decide +kernel
theorem dL_law_652 : decode cL_law 652 = .ok (.invokevirtual 96, 3) := by decide +kernel
theorem dL_law_655 : decode cL_law 655 = .ok (.if_icmp .eq 534, 3) := by decide +kernel
theorem dL_law_658 : decode cL_law 658 = .ok (.iconst 0, 1) := by decide +kernel
theorem dL_law_659 : decode cL_law 659 = .ok (.ireturn, 1) := by decide +kernel
theorem dL_law_660 : decode cL_law 660 = .ok (.aload_n 1, 1) := by decide +kernel
theorem dL_law_661 : decode cL_law 661 = .ok (.aload_n 0, 1) := by decide +kernel
theorem dL_law_662 : decode cL_law 662 = .ok (.iload_n 3, 1) := by decide +kernel
theorem dL_law_663 : decode cL_law 663 = .ok (.iconst 1, 1) := by decide +kernel
theorem dL_law_664 : decode cL_law 664 = .ok (.iadd, 1) := by decide +kernel
theorem dL_law_665 : decode cL_law 665 = .ok (.iaload, 1) := by decide +kernel
theorem dL_law_666 : decode cL_law 666 = .ok (.invokevirtual 97, 3) := by decide +kernel
theorem dL_law_669 : decode cL_law 669 = .ok (.aload_n 2, 1) := by decide +kernel
theorem dL_law_670 : decode cL_law 670 = .ok (.aload_n 0, 1) := by decide +kernel
theorem dL_law_671 : decode cL_law 671 = .ok (.iload_n 3, 1) := by decide +kernel
theorem dL_law_672 : decode cL_law 672 = .ok (.iconst 1, 1) := by decide +kernel
theorem dL_law_673 : decode cL_law 673 = .ok (.iadd, 1) := by decide +kernel
theorem dL_law_674 : decode cL_law 674 = .ok (.iaload, 1) := by decide +kernel
theorem dL_law_675 : decode cL_law 675 = .ok (.invokevirtual 100, 3) := by decide +kernel
theorem dL_law_678 : decode cL_law 678 = .ok (.if_icmp .eq 511, 3) := by decide +kernel
theorem dL_law_681 : decode cL_law 681 = .ok (.iconst 0, 1) := by decide +kernel
theorem dL_law_682 : decode cL_law 682 = .ok (.ireturn, 1) := by decide +kernel
theorem dL_law_683 : decode cL_law 683 = .ok (.aload_n 1, 1) := by decide +kernel
theorem dL_law_684 : decode cL_law 684 = .ok (.invokevirtual 101, 3) := by decide +kernel
theorem dL_law_687 : decode cL_law 687 = .ok (.aload_n 2, 1) := by decide +kernel
theorem dL_law_688 : decode cL_law 688 = .ok (.invokevirtual 104, 3) := by decide +kernel
theorem dL_law_691 : decode cL_law 691 = .ok (.if_icmp .eq 498, 3) := by decide +kernel
theorem dL_law_694 : decode cL_law 694 = .ok (.iconst 0, 1) := by decide +kernel
theorem dL_law_695 : decode cL_law 695 = .ok (.ireturn, 1) := by decide +kernel
theorem dL_law_696 : decode cL_law 696 = .ok (.aload_n 1, 1) := by decide +kernel
theorem dL_law_697 : decode cL_law 697 = .ok (.invokevirtual 105, 3) := by decide +kernel
theorem dL_law_700 : decode cL_law 700 = .ok (.aload_n 2, 1) := by decide +kernel
theorem dL_law_701 : decode cL_law 701 = .ok (.invokevirtual 108, 3) := by decide +kernel
theorem dL_law_704 : decode cL_law 704 = .ok (.if_icmp .eq 485, 3) := by decide +kernel
theorem dL_law_707 : decode cL_law 707 = .ok (.iconst 0, 1) := by decide +kernel
theorem dL_law_708 : decode cL_law 708 = .ok (.ireturn, 1) := by decide +kernel
theorem dL_law_709 : decode cL_law 709 = .ok (.aload_n 1, 1) := by decide +kernel
theorem dL_law_710 : decode cL_law 710 = .ok (.aload_n 0, 1) := by decide +kernel
theorem dL_law_711 : decode cL_law 711 = .ok (.iload_n 3, 1) := by decide +kernel
theorem dL_law_712 : decode cL_law 712 = .ok (.iconst 1, 1) := by decide +kernel
theorem dL_law_713 : decode cL_law 713 = .ok (.iadd, 1) := by decide +kernel
theorem dL_law_714 : decode cL_law 714 = .ok (.iaload, 1) := by decide +kernel
theorem dL_law_715 : decode cL_law 715 = .ok (.aload_n 0, 1) := by decide +kernel
theorem dL_law_716 : decode cL_law 716 = .ok (.iload_n 3, 1) := by decide +kernel
theorem dL_law_717 : decode cL_law 717 = .ok (.iconst 2, 1) := by decide +kernel
theorem dL_law_718 : decode cL_law 718 = .ok (.iadd, 1) := by decide +kernel
theorem dL_law_719 : decode cL_law 719 = .ok (.iaload, 1) := by decide +kernel
theorem dL_law_720 : decode cL_law 720 = .ok (.invokevirtual 109, 3) := by decide +kernel
theorem dL_law_723 : decode cL_law 723 = .ok (.aload_n 2, 1) := by decide +kernel
theorem dL_law_724 : decode cL_law 724 = .ok (.aload_n 0, 1) := by decide +kernel
theorem dL_law_725 : decode cL_law 725 = .ok (.iload_n 3, 1) := by decide +kernel
theorem dL_law_726 : decode cL_law 726 = .ok (.iconst 1, 1) := by decide +kernel
theorem dL_law_727 : decode cL_law 727 = .ok (.iadd, 1) := by decide +kernel
theorem dL_law_728 : decode cL_law 728 = .ok (.iaload, 1) := by decide +kernel
theorem dL_law_729 : decode cL_law 729 = .ok (.aload_n 0, 1) := by decide +kernel
theorem dL_law_730 : decode cL_law 730 = .ok (.iload_n 3, 1) := by decide +kernel
theorem dL_law_731 : decode cL_law 731 = .ok (.iconst 2, 1) := by decide +kernel
theorem dL_law_732 : decode cL_law 732 = .ok (.iadd, 1) := by decide +kernel
theorem dL_law_733 : decode cL_law 733 = .ok (.iaload, 1) := by decide +kernel
theorem dL_law_734 : decode cL_law 734 = .ok (.invokevirtual 112, 3) := by decide +kernel
theorem dL_law_737 : decode cL_law 737 = .ok (.if_icmp .eq 452, 3) := by decide +kernel
theorem dL_law_740 : decode cL_law 740 = .ok (.iconst 0, 1) := by decide +kernel
theorem dL_law_741 : decode cL_law 741 = .ok (.ireturn, 1) := by decide +kernel
theorem dL_law_742 : decode cL_law 742 = .ok (.aload_n 1, 1) := by decide +kernel
theorem dL_law_743 : decode cL_law 743 = .ok (.aload_n 0, 1) := by decide +kernel
theorem dL_law_744 : decode cL_law 744 = .ok (.iload_n 3, 1) := by decide +kernel
theorem dL_law_745 : decode cL_law 745 = .ok (.iconst 1, 1) := by decide +kernel
theorem dL_law_746 : decode cL_law 746 = .ok (.iadd, 1) := by decide +kernel
theorem dL_law_747 : decode cL_law 747 = .ok (.iaload, 1) := by decide +kernel
theorem dL_law_748 : decode cL_law 748 = .ok (.aload_n 0, 1) := by decide +kernel
theorem dL_law_749 : decode cL_law 749 = .ok (.iload_n 3, 1) := by decide +kernel
theorem dL_law_750 : decode cL_law 750 = .ok (.iconst 2, 1) := by decide +kernel
theorem dL_law_751 : decode cL_law 751 = .ok (.iadd, 1) := by decide +kernel
theorem dL_law_752 : decode cL_law 752 = .ok (.iaload, 1) := by decide +kernel
theorem dL_law_753 : decode cL_law 753 = .ok (.invokevirtual 113, 3) := by decide +kernel
theorem dL_law_756 : decode cL_law 756 = .ok (.aload_n 2, 1) := by decide +kernel
theorem dL_law_757 : decode cL_law 757 = .ok (.aload_n 0, 1) := by decide +kernel
theorem dL_law_758 : decode cL_law 758 = .ok (.iload_n 3, 1) := by decide +kernel
theorem dL_law_759 : decode cL_law 759 = .ok (.iconst 1, 1) := by decide +kernel
theorem dL_law_760 : decode cL_law 760 = .ok (.iadd, 1) := by decide +kernel
theorem dL_law_761 : decode cL_law 761 = .ok (.iaload, 1) := by decide +kernel
theorem dL_law_762 : decode cL_law 762 = .ok (.aload_n 0, 1) := by decide +kernel
theorem dL_law_763 : decode cL_law 763 = .ok (.iload_n 3, 1) := by decide +kernel
theorem dL_law_764 : decode cL_law 764 = .ok (.iconst 2, 1) := by decide +kernel
theorem dL_law_765 : decode cL_law 765 = .ok (.iadd, 1) := by decide +kernel
theorem dL_law_766 : decode cL_law 766 = .ok (.iaload, 1) := by decide +kernel
theorem dL_law_767 : decode cL_law 767 = .ok (.invokevirtual 116, 3) := by decide +kernel
theorem dL_law_770 : decode cL_law 770 = .ok (.if_icmp .eq 419, 3) := by decide +kernel
theorem dL_law_773 : decode cL_law 773 = .ok (.iconst 0, 1) := by decide +kernel
theorem dL_law_774 : decode cL_law 774 = .ok (.ireturn, 1) := by decide +kernel
theorem dL_law_775 : decode cL_law 775 = .ok (.aload_n 1, 1) := by decide +kernel
theorem dL_law_776 : decode cL_law 776 = .ok (.aload_n 0, 1) := by decide +kernel
theorem dL_law_777 : decode cL_law 777 = .ok (.iload_n 3, 1) := by decide +kernel
theorem dL_law_778 : decode cL_law 778 = .ok (.iconst 1, 1) := by decide +kernel
theorem dL_law_779 : decode cL_law 779 = .ok (.iadd, 1) := by decide +kernel
theorem dL_law_780 : decode cL_law 780 = .ok (.iaload, 1) := by decide +kernel
theorem dL_law_781 : decode cL_law 781 = .ok (.aload_n 0, 1) := by decide +kernel
theorem dL_law_782 : decode cL_law 782 = .ok (.iload_n 3, 1) := by decide +kernel
theorem dL_law_783 : decode cL_law 783 = .ok (.iconst 2, 1) := by decide +kernel
theorem dL_law_784 : decode cL_law 784 = .ok (.iadd, 1) := by decide +kernel
theorem dL_law_785 : decode cL_law 785 = .ok (.iaload, 1) := by decide +kernel
theorem dL_law_786 : decode cL_law 786 = .ok (.aload_n 0, 1) := by decide +kernel
theorem dL_law_787 : decode cL_law 787 = .ok (.iload_n 3, 1) := by decide +kernel
theorem dL_law_788 : decode cL_law 788 = .ok (.iconst 3, 1) := by decide +kernel
theorem dL_law_789 : decode cL_law 789 = .ok (.iadd, 1) := by decide +kernel
theorem dL_law_790 : decode cL_law 790 = .ok (.iaload, 1) := by decide +kernel
theorem dL_law_791 : decode cL_law 791 = .ok (.invokevirtual 117, 3) := by decide +kernel
theorem dL_law_794 : decode cL_law 794 = .ok (.aload_n 2, 1) := by decide +kernel
theorem dL_law_795 : decode cL_law 795 = .ok (.aload_n 0, 1) := by decide +kernel
theorem dL_law_796 : decode cL_law 796 = .ok (.iload_n 3, 1) := by decide +kernel
theorem dL_law_797 : decode cL_law 797 = .ok (.iconst 1, 1) := by decide +kernel
theorem dL_law_798 : decode cL_law 798 = .ok (.iadd, 1) := by decide +kernel
theorem dL_law_799 : decode cL_law 799 = .ok (.iaload, 1) := by decide +kernel
theorem dL_law_800 : decode cL_law 800 = .ok (.aload_n 0, 1) := by decide +kernel
theorem dL_law_801 : decode cL_law 801 = .ok (.iload_n 3, 1) := by decide +kernel
theorem dL_law_802 : decode cL_law 802 = .ok (.iconst 2, 1) := by decide +kernel
theorem dL_law_803 : decode cL_law 803 = .ok (.iadd, 1) := by decide +kernel
theorem dL_law_804 : decode cL_law 804 = .ok (.iaload, 1) := by decide +kernel
theorem dL_law_805 : decode cL_law 805 = .ok (.aload_n 0, 1) := by decide +kernel
theorem dL_law_806 : decode cL_law 806 = .ok (.iload_n 3, 1) := by decide +kernel
theorem dL_law_807 : decode cL_law 807 = .ok (.iconst 3, 1) := by decide +kernel
theorem dL_law_808 : decode cL_law 808 = .ok (.iadd, 1) := by decide +kernel
theorem dL_law_809 : decode cL_law 809 = .ok (.iaload, 1) := by decide +kernel
theorem dL_law_810 : decode cL_law 810 = .ok (.invokevirtual 121, 3) := by decide +kernel
theorem dL_law_813 : decode cL_law 813 = .ok (.lcmp, 1) := by decide +kernel
theorem dL_law_814 : decode cL_law 814 = .ok (.ifCond .eq 375, 3) := by decide +kernel
theorem dL_law_817 : decode cL_law 817 = .ok (.iconst 0, 1) := by decide +kernel
theorem dL_law_818 : decode cL_law 818 = .ok (.ireturn, 1) := by decide +kernel
theorem dL_law_819 : decode cL_law 819 = .ok (.aload_n 1, 1) := by decide +kernel
theorem dL_law_820 : decode cL_law 820 = .ok (.aload_n 0, 1) := by decide +kernel
theorem dL_law_821 : decode cL_law 821 = .ok (.iload_n 3, 1) := by decide +kernel
theorem dL_law_822 : decode cL_law 822 = .ok (.iconst 1, 1) := by decide +kernel
theorem dL_law_823 : decode cL_law 823 = .ok (.iadd, 1) := by decide +kernel
theorem dL_law_824 : decode cL_law 824 = .ok (.iaload, 1) := by decide +kernel
theorem dL_law_825 : decode cL_law 825 = .ok (.aload_n 0, 1) := by decide +kernel
theorem dL_law_826 : decode cL_law 826 = .ok (.iload_n 3, 1) := by decide +kernel
theorem dL_law_827 : decode cL_law 827 = .ok (.iconst 2, 1) := by decide +kernel
theorem dL_law_828 : decode cL_law 828 = .ok (.iadd, 1) := by decide +kernel
theorem dL_law_829 : decode cL_law 829 = .ok (.iaload, 1) := by decide +kernel
theorem dL_law_830 : decode cL_law 830 = .ok (.aload_n 0, 1) := by decide +kernel
theorem dL_law_831 : decode cL_law 831 = .ok (.iload_n 3, 1) := by decide +kernel
theorem dL_law_832 : decode cL_law 832 = .ok (.iconst 3, 1) := by decide +kernel
theorem dL_law_833 : decode cL_law 833 = .ok (.iadd, 1) := by decide +kernel
theorem dL_law_834 : decode cL_law 834 = .ok (.iaload, 1) := by decide +kernel
theorem dL_law_835 : decode cL_law 835 = .ok (.aload_n 0, 1) := by decide +kernel
theorem dL_law_836 : decode cL_law 836 = .ok (.iload_n 3, 1) := by decide +kernel
theorem dL_law_837 : decode cL_law 837 = .ok (.iconst 4, 1) := by decide +kernel
theorem dL_law_838 : decode cL_law 838 = .ok (.iadd, 1) := by decide +kernel
theorem dL_law_839 : decode cL_law 839 = .ok (.iaload, 1) := by decide +kernel
theorem dL_law_840 : decode cL_law 840 = .ok (.invokevirtual 122, 3) := by decide +kernel
theorem dL_law_843 : decode cL_law 843 = .ok (.aload_n 2, 1) := by decide +kernel
theorem dL_law_844 : decode cL_law 844 = .ok (.aload_n 0, 1) := by decide +kernel
theorem dL_law_845 : decode cL_law 845 = .ok (.iload_n 3, 1) := by decide +kernel
theorem dL_law_846 : decode cL_law 846 = .ok (.iconst 1, 1) := by decide +kernel
theorem dL_law_847 : decode cL_law 847 = .ok (.iadd, 1) := by decide +kernel
theorem dL_law_848 : decode cL_law 848 = .ok (.iaload, 1) := by decide +kernel
theorem dL_law_849 : decode cL_law 849 = .ok (.aload_n 0, 1) := by decide +kernel
theorem dL_law_850 : decode cL_law 850 = .ok (.iload_n 3, 1) := by decide +kernel
theorem dL_law_851 : decode cL_law 851 = .ok (.iconst 2, 1) := by decide +kernel
theorem dL_law_852 : decode cL_law 852 = .ok (.iadd, 1) := by decide +kernel
theorem dL_law_853 : decode cL_law 853 = .ok (.iaload, 1) := by decide +kernel
theorem dL_law_854 : decode cL_law 854 = .ok (.aload_n 0, 1) := by decide +kernel
theorem dL_law_855 : decode cL_law 855 = .ok (.iload_n 3, 1) := by decide +kernel
theorem dL_law_856 : decode cL_law 856 = .ok (.iconst 3, 1) := by decide +kernel
theorem dL_law_857 : decode cL_law 857 = .ok (.iadd, 1) := by decide +kernel
theorem dL_law_858 : decode cL_law 858 = .ok (.iaload, 1) := by decide +kernel
theorem dL_law_859 : decode cL_law 859 = .ok (.aload_n 0, 1) := by decide +kernel
theorem dL_law_860 : decode cL_law 860 = .ok (.iload_n 3, 1) := by decide +kernel
theorem dL_law_861 : decode cL_law 861 = .ok (.iconst 4, 1) := by decide +kernel
theorem dL_law_862 : decode cL_law 862 = .ok (.iadd, 1) := by decide +kernel
theorem dL_law_863 : decode cL_law 863 = .ok (.iaload, 1) := by decide +kernel
theorem dL_law_864 : decode cL_law 864 = .ok (.invokevirtual 126, 3) := by decide +kernel
theorem dL_law_867 : decode cL_law 867 = .ok (.if_icmp .eq 322, 3) := by decide +kernel
theorem dL_law_870 : decode cL_law 870 = .ok (.iconst 0, 1) := by decide +kernel
theorem dL_law_871 : decode cL_law 871 = .ok (.ireturn, 1) := by decide +kernel
theorem dL_law_872 : decode cL_law 872 = .ok (.aload_n 1, 1) := by decide +kernel
theorem dL_law_873 : decode cL_law 873 = .ok (.aload_n 0, 1) := by decide +kernel
theorem dL_law_874 : decode cL_law 874 = .ok (.iload_n 3, 1) := by decide +kernel
theorem dL_law_875 : decode cL_law 875 = .ok (.iconst 1, 1) := by decide +kernel
theorem dL_law_876 : decode cL_law 876 = .ok (.iadd, 1) := by decide +kernel
theorem dL_law_877 : decode cL_law 877 = .ok (.iaload, 1) := by decide +kernel
theorem dL_law_878 : decode cL_law 878 = .ok (.invokevirtual 127, 3) := by decide +kernel
theorem dL_law_881 : decode cL_law 881 = .ok (.aload_n 2, 1) := by decide +kernel
theorem dL_law_882 : decode cL_law 882 = .ok (.aload_n 0, 1) := by decide +kernel
theorem dL_law_883 : decode cL_law 883 = .ok (.iload_n 3, 1) := by decide +kernel
theorem dL_law_884 : decode cL_law 884 = .ok (.iconst 1, 1) := by decide +kernel
theorem dL_law_885 : decode cL_law 885 = .ok (.iadd, 1) := by decide +kernel
theorem dL_law_886 : decode cL_law 886 = .ok (.iaload, 1) := by decide +kernel
theorem dL_law_887 : decode cL_law 887 = .ok (.invokevirtual 130, 3) := by decide +kernel
theorem dL_law_890 : decode cL_law 890 = .ok (.if_icmp .eq 299, 3) := by decide +kernel
theorem dL_law_893 : decode cL_law 893 = .ok (.iconst 0, 1) := by decide +kernel
theorem dL_law_894 : decode cL_law 894 = .ok (.ireturn, 1) := by decide +kernel
theorem dL_law_895 : decode cL_law 895 = .ok (.aload_n 1, 1) := by decide +kernel
theorem dL_law_896 : decode cL_law 896 = .ok (.aload_n 0, 1) := by decide +kernel
theorem dL_law_897 : decode cL_law 897 = .ok (.iload_n 3, 1) := by decide +kernel
theorem dL_law_898 : decode cL_law 898 = .ok (.iconst 1, 1) := by decide +kernel
theorem dL_law_899 : decode cL_law 899 = .ok (.iadd, 1) := by decide +kernel
theorem dL_law_900 : decode cL_law 900 = .ok (.iaload, 1) := by decide +kernel
theorem dL_law_901 : decode cL_law 901 = .ok (.invokevirtual 131, 3) := by decide +kernel
theorem dL_law_904 : decode cL_law 904 = .ok (.aload_n 2, 1) := by decide +kernel
theorem dL_law_905 : decode cL_law 905 = .ok (.aload_n 0, 1) := by decide +kernel
theorem dL_law_906 : decode cL_law 906 = .ok (.iload_n 3, 1) := by decide +kernel
theorem dL_law_907 : decode cL_law 907 = .ok (.iconst 1, 1) := by decide +kernel
theorem dL_law_908 : decode cL_law 908 = .ok (.iadd, 1) := by decide +kernel
theorem dL_law_909 : decode cL_law 909 = .ok (.iaload, 1) := by decide +kernel
theorem dL_law_910 : decode cL_law 910 = .ok (.invokevirtual 135, 3) := by decide +kernel
theorem dL_law_913 : decode cL_law 913 = .ok (.lcmp, 1) := by decide +kernel
theorem dL_law_914 : decode cL_law 914 = .ok (.ifCond .eq 275, 3) := by decide +kernel
theorem dL_law_917 : decode cL_law 917 = .ok (.iconst 0, 1) := by decide +kernel
theorem dL_law_918 : decode cL_law 918 = .ok (.ireturn, 1) := by decide +kernel
theorem dL_law_919 : decode cL_law 919 = .ok (.aload_n 1, 1) := by decide +kernel
theorem dL_law_920 : decode cL_law 920 = .ok (.aload_n 0, 1) := by decide +kernel
theorem dL_law_921 : decode cL_law 921 = .ok (.iload_n 3, 1) := by decide +kernel
theorem dL_law_922 : decode cL_law 922 = .ok (.iconst 1, 1) := by decide +kernel
theorem dL_law_923 : decode cL_law 923 = .ok (.iadd, 1) := by decide +kernel
theorem dL_law_924 : decode cL_law 924 = .ok (.iaload, 1) := by decide +kernel
theorem dL_law_925 : decode cL_law 925 = .ok (.invokevirtual 136, 3) := by decide +kernel
theorem dL_law_928 : decode cL_law 928 = .ok (.aload_n 2, 1) := by decide +kernel
theorem dL_law_929 : decode cL_law 929 = .ok (.aload_n 0, 1) := by decide +kernel
theorem dL_law_930 : decode cL_law 930 = .ok (.iload_n 3, 1) := by decide +kernel
theorem dL_law_931 : decode cL_law 931 = .ok (.iconst 1, 1) := by decide +kernel
theorem dL_law_932 : decode cL_law 932 = .ok (.iadd, 1) := by decide +kernel
theorem dL_law_933 : decode cL_law 933 = .ok (.iaload, 1) := by decide +kernel
theorem dL_law_934 : decode cL_law 934 = .ok (.invokevirtual 139, 3) := by decide +kernel
theorem dL_law_937 : decode cL_law 937 = .ok (.if_icmp .eq 252, 3) := by decide +kernel
theorem dL_law_940 : decode cL_law 940 = .ok (.iconst 0, 1) := by decide +kernel
theorem dL_law_941 : decode cL_law 941 = .ok (.ireturn, 1) := by decide +kernel
theorem dL_law_942 : decode cL_law 942 = .ok (.aload_n 1, 1) := by decide +kernel
theorem dL_law_943 : decode cL_law 943 = .ok (.aload_n 0, 1) := by decide +kernel
theorem dL_law_944 : decode cL_law 944 = .ok (.iload_n 3, 1) := by decide +kernel
theorem dL_law_945 : decode cL_law 945 = .ok (.iconst 1, 1) := by decide +kernel
theorem dL_law_946 : decode cL_law 946 = .ok (.iadd, 1) := by decide +kernel
theorem dL_law_947 : decode cL_law 947 = .ok (.iaload, 1) := by decide +kernel
theorem dL_law_948 : decode cL_law 948 = .ok (.invokevirtual 140, 3) := by decide +kernel
theorem dL_law_951 : decode cL_law 951 = .ok (.aload_n 2, 1) := by decide +kernel
theorem dL_law_952 : decode cL_law 952 = .ok (.aload_n 0, 1) := by decide +kernel
theorem dL_law_953 : decode cL_law 953 = .ok (.iload_n 3, 1) := by decide +kernel
theorem dL_law_954 : decode cL_law 954 = .ok (.iconst 1, 1) := by decide +kernel
theorem dL_law_955 : decode cL_law 955 = .ok (.iadd, 1) := by decide +kernel
theorem dL_law_956 : decode cL_law 956 = .ok (.iaload, 1) := by decide +kernel
theorem dL_law_957 : decode cL_law 957 = .ok (.invokevirtual 143, 3) := by decide +kernel
theorem dL_law_960 : decode cL_law 960 = .ok (.if_icmp .eq 229, 3) := by decide +kernel
theorem dL_law_963 : decode cL_law 963 = .ok (.iconst 0, 1) := by decide +kernel
theorem dL_law_964 : decode cL_law 964 = .ok (.ireturn, 1) := by decide +kernel
theorem dL_law_965 : decode cL_law 965 = .ok (.aload_n 1, 1) := by decide +kernel
theorem dL_law_966 : decode cL_law 966 = .ok (.aload_n 0, 1) := by decide +kernel
theorem dL_law_967 : decode cL_law 967 = .ok (.iload_n 3, 1) := by decide +kernel
theorem dL_law_968 : decode cL_law 968 = .ok (.iconst 1, 1) := by decide +kernel
theorem dL_law_969 : decode cL_law 969 = .ok (.iadd, 1) := by decide +kernel
theorem dL_law_970 : decode cL_law 970 = .ok (.iaload, 1) := by decide +kernel
theorem dL_law_971 : decode cL_law 971 = .ok (.invokevirtual 144, 3) := by decide +kernel
theorem dL_law_974 : decode cL_law 974 = .ok (.aload_n 2, 1) := by decide +kernel
theorem dL_law_975 : decode cL_law 975 = .ok (.aload_n 0, 1) := by decide +kernel
theorem dL_law_976 : decode cL_law 976 = .ok (.iload_n 3, 1) := by decide +kernel
theorem dL_law_977 : decode cL_law 977 = .ok (.iconst 1, 1) := by decide +kernel
theorem dL_law_978 : decode cL_law 978 = .ok (.iadd, 1) := by decide +kernel
theorem dL_law_979 : decode cL_law 979 = .ok (.iaload, 1) := by decide +kernel
theorem dL_law_980 : decode cL_law 980 = .ok (.invokevirtual 147, 3) := by decide +kernel
theorem dL_law_983 : decode cL_law 983 = .ok (.if_icmp .eq 206, 3) := by decide +kernel
theorem dL_law_986 : decode cL_law 986 = .ok (.iconst 0, 1) := by decide +kernel
theorem dL_law_987 : decode cL_law 987 = .ok (.ireturn, 1) := by decide +kernel
theorem dL_law_988 : decode cL_law 988 = .ok (.aload_n 1, 1) := by decide +kernel
theorem dL_law_989 : decode cL_law 989 = .ok (.aload_n 0, 1) := by decide +kernel
theorem dL_law_990 : decode cL_law 990 = .ok (.iload_n 3, 1) := by decide +kernel
theorem dL_law_991 : decode cL_law 991 = .ok (.iconst 1, 1) := by decide +kernel
theorem dL_law_992 : decode cL_law 992 = .ok (.iadd, 1) := by decide +kernel
theorem dL_law_993 : decode cL_law 993 = .ok (.iaload, 1) := by decide +kernel
theorem dL_law_994 : decode cL_law 994 = .ok (.invokevirtual 148, 3) := by decide +kernel
theorem dL_law_997 : decode cL_law 997 = .ok (.f2d, 1) := by decide +kernel
theorem dL_law_998 : decode cL_law 998 = .ok (.dstore 4, 2) := by decide +kernel
theorem dL_law_1000 : decode cL_law 1000 = .ok (.aload_n 2, 1) := by decide +kernel
theorem dL_law_1001 : decode cL_law 1001 = .ok (.aload_n 0, 1) := by decide +kernel
theorem dL_law_1002 : decode cL_law 1002 = .ok (.iload_n 3, 1) := by decide +kernel
theorem dL_law_1003 : decode cL_law 1003 = .ok (.iconst 1, 1) := by decide +kernel
theorem dL_law_1004 : decode cL_law 1004 = .ok (.iadd, 1) := by decide +kernel
theorem dL_law_1005 : decode cL_law 1005 = .ok (.iaload, 1) := by decide +kernel
theorem dL_law_1006 : decode cL_law 1006 = .ok (.invokevirtual 152, 3) := by decide +kernel
theorem dL_law_1009 : decode cL_law 1009 = .ok (.f2d, 1) := by decide +kernel
theorem dL_law_1010 : decode cL_law 1010 = .ok (.dstore 6, 2) := by decide +kernel
theorem dL_law_1012 : decode cL_law 1012 = .ok (.dload 4, 2) := by decide +kernel
theorem dL_law_1014 : decode cL_law 1014 = .ok (.dload 6, 2) := by decide +kernel
theorem dL_law_1016 : decode cL_law 1016 = .ok (.dcmp .l, 1) := by decide +kernel
theorem dL_law_1017 : decode cL_law 1017 = .ok (.ifCond .eq 21, 3) := by decide +kernel
theorem dL_law_1020 : decode cL_law 1020 = .ok (.dload 4, 2) := by decide +kernel
theorem dL_law_1022 : decode cL_law 1022 = .ok (.dload 4, 2) := by decide +kernel
theorem dL_law_1024 : decode cL_law 1024 = .ok (.dcmp .l, 1) := by decide +kernel
theorem dL_law_1025 : decode cL_law 1025 = .ok (.ifCond .eq 11, 3) := by decide +kernel
theorem dL_law_1028 : decode cL_law 1028 = .ok (.dload 6, 2) := by decide +kernel
theorem dL_law_1030 : decode cL_law 1030 = .ok (.dload 6, 2) := by decide +kernel
theorem dL_law_1032 : decode cL_law 1032 = .ok (.dcmp .l, 1) := by decide +kernel
theorem dL_law_1033 : decode cL_law 1033 = .ok (.ifCond .ne 5, 3) := by decide +kernel
theorem dL_law_1036 : decode cL_law 1036 = .ok (.iconst 0, 1) := by decide +kernel
theorem dL_law_1037 : decode cL_law 1037 = .ok (.ireturn, 1) := by decide +kernel
theorem dL_law_1038 : decode cL_law 1038 = .ok (.goto 151, 3) := by decide +kernel
theorem dL_law_1041 : decode cL_law 1041 = .ok (.aload_n 1, 1) := by decide +kernel
theorem dL_law_1042 : decode cL_law 1042 = .ok (.aload_n 0, 1) := by decide +kernel
theorem dL_law_1043 : decode cL_law 1043 = .ok (.iload_n 3, 1) := by decide +kernel
theorem dL_law_1044 : decode cL_law 1044 = .ok (.iconst 1, 1) := by decide +kernel
theorem dL_law_1045 : decode cL_law 1045 = .ok (.iadd, 1) := by decide +kernel
theorem dL_law_1046 : decode cL_law 1046 = .ok (.iaload, 1) := by decide +kernel
theorem dL_law_1047 : decode cL_law 1047 = .ok (.invokevirtual 153, 3) := by decide +kernel
theorem dL_law_1050 : decode cL_law 1050 = .ok (.aload_n 2, 1) := by decide +kernel
theorem dL_law_1051 : decode cL_law 1051 = .ok (.aload_n 0, 1) := by decide +kernel
theorem dL_law_1052 : decode cL_law 1052 = .ok (.iload_n 3, 1) := by decide +kernel
theorem dL_law_1053 : decode cL_law 1053 = .ok (.iconst 1, 1) := by decide +kernel
theorem dL_law_1054 : decode cL_law 1054 = .ok (.iadd, 1) := by decide +kernel
theorem dL_law_1055 : decode cL_law 1055 = .ok (.iaload, 1) := by decide +kernel
theorem dL_law_1056 : decode cL_law 1056 = .ok (.invokevirtual 156, 3) := by decide +kernel
theorem dL_law_1059 : decode cL_law 1059 = .ok (.if_icmp .eq 130, 3) := by decide +kernel
theorem dL_law_1062 : decode cL_law 1062 = .ok (.iconst 0, 1) := by decide +kernel
theorem dL_law_1063 : decode cL_law 1063 = .ok (.ireturn, 1) := by decide +kernel
theorem dL_law_1064 : decode cL_law 1064 = .ok (.aload_n 1, 1) := by decide +kernel
theorem dL_law_1065 : decode cL_law 1065 = .ok (.aload_n 0, 1) := by decide +kernel
theorem dL_law_1066 : decode cL_law 1066 = .ok (.iload_n 3, 1) := by decide +kernel
theorem dL_law_1067 : decode cL_law 1067 = .ok (.iconst 1, 1) := by decide +kernel
theorem dL_law_1068 : decode cL_law 1068 = .ok (.iadd, 1) := by decide +kernel
theorem dL_law_1069 : decode cL_law 1069 = .ok (.iaload, 1) := by decide +kernel
theorem dL_law_1070 : decode cL_law 1070 = .ok (.invokevirtual 157, 3) := by decide +kernel
theorem dL_law_1073 : decode cL_law 1073 = .ok (.aload_n 2, 1) := by decide +kernel
theorem dL_law_1074 : decode cL_law 1074 = .ok (.aload_n 0, 1) := by decide +kernel
theorem dL_law_1075 : decode cL_law 1075 = .ok (.iload_n 3, 1) := by decide +kernel
theorem dL_law_1076 : decode cL_law 1076 = .ok (.iconst 1, 1) := by decide +kernel
theorem dL_law_1077 : decode cL_law 1077 = .ok (.iadd, 1) := by decide +kernel
theorem dL_law_1078 : decode cL_law 1078 = .ok (.iaload, 1) := by decide +kernel
theorem dL_law_1079 : decode cL_law 1079 = .ok (.invokevirtual 160, 3) := by decide +kernel
theorem dL_law_1082 : decode cL_law 1082 = .ok (.if_icmp .eq 107, 3) := by decide +kernel
theorem dL_law_1085 : decode cL_law 1085 = .ok (.iconst 0, 1) := by decide +kernel
theorem dL_law_1086 : decode cL_law 1086 = .ok (.ireturn, 1) := by decide +kernel
theorem dL_law_1087 : decode cL_law 1087 = .ok (.aload_n 1, 1) := by decide +kernel
theorem dL_law_1088 : decode cL_law 1088 = .ok (.aload_n 0, 1) := by decide +kernel
theorem dL_law_1089 : decode cL_law 1089 = .ok (.iload_n 3, 1) := by decide +kernel
theorem dL_law_1090 : decode cL_law 1090 = .ok (.iconst 1, 1) := by decide +kernel
theorem dL_law_1091 : decode cL_law 1091 = .ok (.iadd, 1) := by decide +kernel
theorem dL_law_1092 : decode cL_law 1092 = .ok (.iaload, 1) := by decide +kernel
theorem dL_law_1093 : decode cL_law 1093 = .ok (.invokevirtual 161, 3) := by decide +kernel
theorem dL_law_1096 : decode cL_law 1096 = .ok (.aload_n 2, 1) := by decide +kernel
theorem dL_law_1097 : decode cL_law 1097 = .ok (.aload_n 0, 1) := by decide +kernel
theorem dL_law_1098 : decode cL_law 1098 = .ok (.iload_n 3, 1) := by decide +kernel
theorem dL_law_1099 : decode cL_law 1099 = .ok (.iconst 1, 1) := by decide +kernel
theorem dL_law_1100 : decode cL_law 1100 = .ok (.iadd, 1) := by decide +kernel
theorem dL_law_1101 : decode cL_law 1101 = .ok (.iaload, 1) := by decide +kernel
theorem dL_law_1102 : decode cL_law 1102 = .ok (.invokevirtual 164, 3) := by decide +kernel
theorem dL_law_1105 : decode cL_law 1105 = .ok (.if_icmp .eq 84, 3) := by decide +kernel
theorem dL_law_1108 : decode cL_law 1108 = .ok (.iconst 0, 1) := by decide +kernel
theorem dL_law_1109 : decode cL_law 1109 = .ok (.ireturn, 1) := by decide +kernel
theorem dL_law_1110 : decode cL_law 1110 = .ok (.aload_n 1, 1) := by decide +kernel
theorem dL_law_1111 : decode cL_law 1111 = .ok (.aload_n 0, 1) := by decide +kernel
theorem dL_law_1112 : decode cL_law 1112 = .ok (.iload_n 3, 1) := by decide +kernel
theorem dL_law_1113 : decode cL_law 1113 = .ok (.iconst 1, 1) := by decide +kernel
theorem dL_law_1114 : decode cL_law 1114 = .ok (.iadd, 1) := by decide +kernel
theorem dL_law_1115 : decode cL_law 1115 = .ok (.iaload, 1) := by decide +kernel
theorem dL_law_1116 : decode cL_law 1116 = .ok (.invokevirtual 165, 3) := by decide +kernel
theorem dL_law_1119 : decode cL_law 1119 = .ok (.aload_n 2, 1) := by decide +kernel
theorem dL_law_1120 : decode cL_law 1120 = .ok (.aload_n 0, 1) := by decide +kernel
theorem dL_law_1121 : decode cL_law 1121 = .ok (.iload_n 3, 1) := by decide +kernel
theorem dL_law_1122 : decode cL_law 1122 = .ok (.iconst 1, 1) := by decide +kernel
theorem dL_law_1123 : decode cL_law 1123 = .ok (.iadd, 1) := by decide +kernel
theorem dL_law_1124 : decode cL_law 1124 = .ok (.iaload, 1) := by decide +kernel
theorem dL_law_1125 : decode cL_law 1125 = .ok (.invokevirtual 168, 3) := by decide +kernel
theorem dL_law_1128 : decode cL_law 1128 = .ok (.if_icmp .eq 61, 3) := by decide +kernel
theorem dL_law_1131 : decode cL_law 1131 = .ok (.iconst 0, 1) := by decide +kernel
theorem dL_law_1132 : decode cL_law 1132 = .ok (.ireturn, 1) := by decide +kernel
theorem dL_law_1133 : decode cL_law 1133 = .ok (.aload_n 1, 1) := by decide +kernel
theorem dL_law_1134 : decode cL_law 1134 = .ok (.aload_n 0, 1) := by decide +kernel
theorem dL_law_1135 : decode cL_law 1135 = .ok (.iload_n 3, 1) := by decide +kernel
theorem dL_law_1136 : decode cL_law 1136 = .ok (.iconst 1, 1) := by decide +kernel
theorem dL_law_1137 : decode cL_law 1137 = .ok (.iadd, 1) := by decide +kernel
theorem dL_law_1138 : decode cL_law 1138 = .ok (.iaload, 1) := by decide +kernel
theorem dL_law_1139 : decode cL_law 1139 = .ok (.aload_n 0, 1) := by decide +kernel
theorem dL_law_1140 : decode cL_law 1140 = .ok (.iload_n 3, 1) := by decide +kernel
theorem dL_law_1141 : decode cL_law 1141 = .ok (.iconst 2, 1) := by decide +kernel
theorem dL_law_1142 : decode cL_law 1142 = .ok (.iadd, 1) := by decide +kernel
theorem dL_law_1143 : decode cL_law 1143 = .ok (.iaload, 1) := by decide +kernel
theorem dL_law_1144 : decode cL_law 1144 = .ok (.invokevirtual 169, 3) := by decide +kernel
theorem dL_law_1147 : decode cL_law 1147 = .ok (.aload_n 2, 1) := by decide +kernel
theorem dL_law_1148 : decode cL_law 1148 = .ok (.aload_n 0, 1) := by decide +kernel
theorem dL_law_1149 : decode cL_law 1149 = .ok (.iload_n 3, 1) := by decide +kernel
theorem dL_law_1150 : decode cL_law 1150 = .ok (.iconst 1, 1) := by decide +kernel
theorem dL_law_1151 : decode cL_law 1151 = .ok (.iadd, 1) := by decide +kernel
theorem dL_law_1152 : decode cL_law 1152 = .ok (.iaload, 1) := by decide +kernel
theorem dL_law_1153 : decode cL_law 1153 = .ok (.aload_n 0, 1) := by decide +kernel
theorem dL_law_1154 : decode cL_law 1154 = .ok (.iload_n 3, 1) := by decide +kernel
theorem dL_law_1155 : decode cL_law 1155 = .ok (.iconst 2, 1) := by decide +kernel
theorem dL_law_1156 : decode cL_law 1156 = .ok (.iadd, 1) := by decide +kernel
theorem dL_law_1157 : decode cL_law 1157 = .ok (.iaload, 1) := by decide +kernel
theorem dL_law_1158 : decode cL_law 1158 = .ok (.invokevirtual 172, 3) := by decide +kernel
theorem dL_law_1161 : decode cL_law 1161 = .ok (.if_icmp .eq 28, 3) := by decide +kernel
theorem dL_law_1164 : decode cL_law 1164 = .ok (.iconst 0, 1) := by decide +kernel
theorem dL_law_1165 : decode cL_law 1165 = .ok (.ireturn, 1) := by decide +kernel
theorem dL_law_1166 : decode cL_law 1166 = .ok (.aload_n 1, 1) := by decide +kernel
theorem dL_law_1167 : decode cL_law 1167 = .ok (.aload_n 0, 1) := by decide +kernel
theorem dL_law_1168 : decode cL_law 1168 = .ok (.iload_n 3, 1) := by decide +kernel
theorem dL_law_1169 : decode cL_law 1169 = .ok (.iconst 1, 1) := by decide +kernel
theorem dL_law_1170 : decode cL_law 1170 = .ok (.iadd, 1) := by decide +kernel
theorem dL_law_1171 : decode cL_law 1171 = .ok (.iaload, 1) := by decide +kernel
theorem dL_law_1172 : decode cL_law 1172 = .ok (.invokevirtual 173, 3) := by decide +kernel
theorem dL_law_1175 : decode cL_law 1175 = .ok (.aload_n 2, 1) := by decide +kernel
theorem dL_law_1176 : decode cL_law 1176 = .ok (.aload_n 0, 1) := by decide +kernel
theorem dL_law_1177 : decode cL_law 1177 = .ok (.iload_n 3, 1) := by decide +kernel
theorem dL_law_1178 : decode cL_law 1178 = .ok (.iconst 1, 1) := by decide +kernel
theorem dL_law_1179 : decode cL_law 1179 = .ok (.iadd, 1) := by decide +kernel
theorem dL_law_1180 : decode cL_law 1180 = .ok (.iaload, 1) := by decide +kernel
theorem dL_law_1181 : decode cL_law 1181 = .ok (.invokevirtual 176, 3) := by decide +kernel
theorem dL_law_1184 : decode cL_law 1184 = .ok (.if_icmp .eq 5, 3) := by decide +kernel
theorem dL_law_1187 : decode cL_law 1187 = .ok (.iconst 0, 1) := by decide +kernel
theorem dL_law_1188 : decode cL_law 1188 = .ok (.ireturn, 1) := by decide +kernel
theorem dL_law_1189 : decode cL_law 1189 = .ok (.iinc 3 5, 3) := by decide +kernel
theorem dL_law_1192 : decode cL_law 1192 = .ok (.goto (-1174), 3) := by decide +kernel
theorem dL_law_1195 : decode cL_law 1195 = .ok (.iconst 1, 1) := by decide +kernel
theorem dL_law_1196 : decode cL_law 1196 = .ok (.ireturn, 1) := by decide +kernel
