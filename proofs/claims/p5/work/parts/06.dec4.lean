/-! decode rows (printed by program) -/
theorem dX4_init_0 : decode cX4_init 0 = .ok (.aload_n 0, 1) := by decide +kernel
theorem dX4_init_1 : decode cX4_init 1 = .ok (.invokespecial 3, 3) := by decide +kernel
theorem dX4_init_4 : decode cX4_init 4 = .ok (.aload_n 0, 1) := by decide +kernel
theorem dX4_init_5 : decode cX4_init 5 = .ok (.bipush 6, 2) := by decide +kernel
theorem dX4_init_7 : decode cX4_init 7 = .ok (.anewarray 9, 3) := by decide +kernel
theorem dX4_init_10 : decode cX4_init 10 = .ok (.putfield 11, 3) := by decide +kernel
theorem dX4_init_13 : decode cX4_init 13 = .ok (.aload_n 0, 1) := by decide +kernel
theorem dX4_init_14 : decode cX4_init 14 = .ok (.iconst 4, 1) := by decide +kernel
theorem dX4_init_15 : decode cX4_init 15 = .ok (.anewarray 15, 3) := by decide +kernel
theorem dX4_init_18 : decode cX4_init 18 = .ok (.putfield 17, 3) := by decide +kernel
theorem dX4_init_21 : decode cX4_init 21 = .ok (.aload_n 0, 1) := by decide +kernel
theorem dX4_init_22 : decode cX4_init 22 = .ok (.new 21, 3) := by decide +kernel
theorem dX4_init_25 : decode cX4_init 25 = .ok (.dup, 1) := by decide +kernel
theorem dX4_init_26 : decode cX4_init 26 = .ok (.invokespecial 23, 3) := by decide +kernel
theorem dX4_init_29 : decode cX4_init 29 = .ok (.putfield 24, 3) := by decide +kernel
theorem dX4_init_32 : decode cX4_init 32 = .ok (.aload_n 0, 1) := by decide +kernel
theorem dX4_init_33 : decode cX4_init 33 = .ok (.bipush 41, 2) := by decide +kernel
theorem dX4_init_35 : decode cX4_init 35 = .ok (.newarray .int, 2) := by decide +kernel
theorem dX4_init_37 : decode cX4_init 37 = .ok (.putfield 28, 3) := by decide +kernel
theorem dX4_init_40 : decode cX4_init 40 = .ok (.iconst 0, 1) := by decide +kernel
theorem dX4_init_41 : decode cX4_init 41 = .ok (.istore_n 1, 1) := by decide +kernel
theorem dX4_init_42 : decode cX4_init 42 = .ok (.iload_n 1, 1) := by decide +kernel
theorem dX4_init_43 : decode cX4_init 43 = .ok (.bipush 6, 2) := by decide +kernel
theorem dX4_init_45 : decode cX4_init 45 = .ok (.if_icmp .ge 22, 3) := by decide +kernel
theorem dX4_init_48 : decode cX4_init 48 = .ok (.aload_n 0, 1) := by decide +kernel
theorem dX4_init_49 : decode cX4_init 49 = .ok (.getfield 11, 3) := by decide +kernel
theorem dX4_init_52 : decode cX4_init 52 = .ok (.iload_n 1, 1) := by decide +kernel
theorem dX4_init_53 : decode cX4_init 53 = .ok (.new 9, 3) := by decide +kernel
theorem dX4_init_56 : decode cX4_init 56 = .ok (.dup, 1) := by decide +kernel
theorem dX4_init_57 : decode cX4_init 57 = .ok (.invokespecial 32, 3) := by decide +kernel
theorem dX4_init_60 : decode cX4_init 60 = .ok (.aastore, 1) := by decide +kernel
theorem dX4_init_61 : decode cX4_init 61 = .ok (.iinc 1 1, 3) := by decide +kernel
theorem dX4_init_64 : decode cX4_init 64 = .ok (.goto (-22), 3) := by decide +kernel
theorem dX4_init_67 : decode cX4_init 67 = .ok (.iconst 0, 1) := by decide +kernel
theorem dX4_init_68 : decode cX4_init 68 = .ok (.istore_n 1, 1) := by decide +kernel
theorem dX4_init_69 : decode cX4_init 69 = .ok (.iload_n 1, 1) := by decide +kernel
theorem dX4_init_70 : decode cX4_init 70 = .ok (.iconst 4, 1) := by decide +kernel
theorem dX4_init_71 : decode cX4_init 71 = .ok (.if_icmp .ge 22, 3) := by decide +kernel
theorem dX4_init_74 : decode cX4_init 74 = .ok (.aload_n 0, 1) := by decide +kernel
theorem dX4_init_75 : decode cX4_init 75 = .ok (.getfield 17, 3) := by decide +kernel
theorem dX4_init_78 : decode cX4_init 78 = .ok (.iload_n 1, 1) := by decide +kernel
theorem dX4_init_79 : decode cX4_init 79 = .ok (.new 15, 3) := by decide +kernel
theorem dX4_init_82 : decode cX4_init 82 = .ok (.dup, 1) := by decide +kernel
theorem dX4_init_83 : decode cX4_init 83 = .ok (.invokespecial 33, 3) := by decide +kernel
theorem dX4_init_86 : decode cX4_init 86 = .ok (.aastore, 1) := by decide +kernel
theorem dX4_init_87 : decode cX4_init 87 = .ok (.iinc 1 1, 3) := by decide +kernel
theorem dX4_init_90 : decode cX4_init 90 = .ok (.goto (-21), 3) := by decide +kernel
theorem dX4_init_93 : decode cX4_init 93 = .ok (.aload_n 0, 1) := by decide +kernel
theorem dX4_init_94 : decode cX4_init 94 = .ok (.new 34, 3) := by decide +kernel
theorem dX4_init_97 : decode cX4_init 97 = .ok (.dup, 1) := by decide +kernel
theorem dX4_init_98 : decode cX4_init 98 = .ok (.aload_n 0, 1) := by decide +kernel
theorem dX4_init_99 : decode cX4_init 99 = .ok (.getfield 11, 3) := by decide +kernel
theorem dX4_init_102 : decode cX4_init 102 = .ok (.invokespecial 36, 3) := by decide +kernel
theorem dX4_init_105 : decode cX4_init 105 = .ok (.putfield 39, 3) := by decide +kernel
theorem dX4_init_108 : decode cX4_init 108 = .ok (.aload_n 0, 1) := by decide +kernel
theorem dX4_init_109 : decode cX4_init 109 = .ok (.new 34, 3) := by decide +kernel
theorem dX4_init_112 : decode cX4_init 112 = .ok (.dup, 1) := by decide +kernel
theorem dX4_init_113 : decode cX4_init 113 = .ok (.aload_n 0, 1) := by decide +kernel
theorem dX4_init_114 : decode cX4_init 114 = .ok (.getfield 11, 3) := by decide +kernel
theorem dX4_init_117 : decode cX4_init 117 = .ok (.invokespecial 36, 3) := by decide +kernel
theorem dX4_init_120 : decode cX4_init 120 = .ok (.putfield 43, 3) := by decide +kernel
theorem dX4_init_123 : decode cX4_init 123 = .ok (.aload_n 0, 1) := by decide +kernel
theorem dX4_init_124 : decode cX4_init 124 = .ok (.new 34, 3) := by decide +kernel
theorem dX4_init_127 : decode cX4_init 127 = .ok (.dup, 1) := by decide +kernel
theorem dX4_init_128 : decode cX4_init 128 = .ok (.aload_n 0, 1) := by decide +kernel
theorem dX4_init_129 : decode cX4_init 129 = .ok (.getfield 11, 3) := by decide +kernel
theorem dX4_init_132 : decode cX4_init 132 = .ok (.invokespecial 36, 3) := by decide +kernel
theorem dX4_init_135 : decode cX4_init 135 = .ok (.putfield 46, 3) := by decide +kernel
theorem dX4_init_138 : decode cX4_init 138 = .ok (.iconst 0, 1) := by decide +kernel
theorem dX4_init_139 : decode cX4_init 139 = .ok (.istore_n 1, 1) := by decide +kernel
theorem dX4_init_140 : decode cX4_init 140 = .ok (.iload_n 1, 1) := by decide +kernel
theorem dX4_init_141 : decode cX4_init 141 = .ok (.ldc 49, 2) := by decide +kernel
theorem dX4_init_143 : decode cX4_init 143 = .ok (.invokevirtual 51, 3) := by decide +kernel
theorem dX4_init_146 : decode cX4_init 146 = .ok (.if_icmp .ge 23, 3) := by decide +kernel
theorem dX4_init_149 : decode cX4_init 149 = .ok (.aload_n 0, 1) := by decide +kernel
theorem dX4_init_150 : decode cX4_init 150 = .ok (.getfield 24, 3) := by decide +kernel
theorem dX4_init_153 : decode cX4_init 153 = .ok (.ldc 49, 2) := by decide +kernel
theorem dX4_init_155 : decode cX4_init 155 = .ok (.iload_n 1, 1) := by decide +kernel
theorem dX4_init_156 : decode cX4_init 156 = .ok (.invokevirtual 57, 3) := by decide +kernel
theorem dX4_init_159 : decode cX4_init 159 = .ok (.invokevirtual 61, 3) := by decide +kernel
theorem dX4_init_162 : decode cX4_init 162 = .ok (.pop, 1) := by decide +kernel
theorem dX4_init_163 : decode cX4_init 163 = .ok (.iinc 1 1, 3) := by decide +kernel
theorem dX4_init_166 : decode cX4_init 166 = .ok (.goto (-26), 3) := by decide +kernel
theorem dX4_init_169 : decode cX4_init 169 = .ok (.aload_n 0, 1) := by decide +kernel
theorem dX4_init_170 : decode cX4_init 170 = .ok (.getfield 24, 3) := by decide +kernel
theorem dX4_init_173 : decode cX4_init 173 = .ok (.aload_n 0, 1) := by decide +kernel
theorem dX4_init_174 : decode cX4_init 174 = .ok (.getfield 11, 3) := by decide +kernel
theorem dX4_init_177 : decode cX4_init 177 = .ok (.iconst 0, 1) := by decide +kernel
theorem dX4_init_178 : decode cX4_init 178 = .ok (.aaload, 1) := by decide +kernel
theorem dX4_init_179 : decode cX4_init 179 = .ok (.invokevirtual 65, 3) := by decide +kernel
theorem dX4_init_182 : decode cX4_init 182 = .ok (.pop, 1) := by decide +kernel
theorem dX4_init_183 : decode cX4_init 183 = .ok (.aload_n 0, 1) := by decide +kernel
theorem dX4_init_184 : decode cX4_init 184 = .ok (.getfield 24, 3) := by decide +kernel
theorem dX4_init_187 : decode cX4_init 187 = .ok (.iconst 0, 1) := by decide +kernel
theorem dX4_init_188 : decode cX4_init 188 = .ok (.putfield 69, 3) := by decide +kernel
theorem dX4_init_191 : decode cX4_init 191 = .ok (.aload_n 0, 1) := by decide +kernel
theorem dX4_init_192 : decode cX4_init 192 = .ok (.iconst 1, 1) := by decide +kernel
theorem dX4_init_193 : decode cX4_init 193 = .ok (.putfield 73, 3) := by decide +kernel
theorem dX4_init_196 : decode cX4_init 196 = .ok (.return_, 1) := by decide +kernel
theorem dX4_set_0 : decode cX4_set 0 = .ok (.iload_n 1, 1) := by decide +kernel
theorem dX4_set_1 : decode cX4_set 1 = .ok (.iconst 0, 1) := by decide +kernel
theorem dX4_set_2 : decode cX4_set 2 = .ok (.iconst 3, 1) := by decide +kernel
theorem dX4_set_3 : decode cX4_set 3 = .ok (.invokestatic 76, 3) := by decide +kernel
theorem dX4_set_6 : decode cX4_set 6 = .ok (.ifCond .eq 20, 3) := by decide +kernel
theorem dX4_set_9 : decode cX4_set 9 = .ok (.aload_n 0, 1) := by decide +kernel
theorem dX4_set_10 : decode cX4_set 10 = .ok (.iload_n 1, 1) := by decide +kernel
theorem dX4_set_11 : decode cX4_set 11 = .ok (.iload_n 2, 1) := by decide +kernel
theorem dX4_set_12 : decode cX4_set 12 = .ok (.invokevirtual 80, 3) := by decide +kernel
theorem dX4_set_15 : decode cX4_set 15 = .ok (.ifCond .eq 11, 3) := by decide +kernel
theorem dX4_set_18 : decode cX4_set 18 = .ok (.iload_n 1, 1) := by decide +kernel
theorem dX4_set_19 : decode cX4_set 19 = .ok (.iload_n 3, 1) := by decide +kernel
theorem dX4_set_20 : decode cX4_set 20 = .ok (.invokestatic 84, 3) := by decide +kernel
theorem dX4_set_23 : decode cX4_set 23 = .ok (.ifCond .ne 7, 3) := by decide +kernel
theorem dX4_set_26 : decode cX4_set 26 = .ok (.sipush (-1000), 3) := by decide +kernel
theorem dX4_set_29 : decode cX4_set 29 = .ok (.ireturn, 1) := by decide +kernel
theorem dX4_set_30 : decode cX4_set 30 = .ok (.aload_n 0, 1) := by decide +kernel
theorem dX4_set_31 : decode cX4_set 31 = .ok (.iload_n 1, 1) := by decide +kernel
theorem dX4_set_32 : decode cX4_set 32 = .ok (.iload_n 2, 1) := by decide +kernel
theorem dX4_set_33 : decode cX4_set 33 = .ok (.invokevirtual 87, 3) := by decide +kernel
theorem dX4_set_36 : decode cX4_set 36 = .ok (.istore 4, 2) := by decide +kernel
theorem dX4_set_38 : decode cX4_set 38 = .ok (.iload_n 1, 1) := by decide +kernel
theorem dX4_set_39 : decode cX4_set 39 = .ok (.tableswitch 76 0 2 #[25, 36, 63], 25) := by decide +kernel
theorem dX4_set_64 : decode cX4_set 64 = .ok (.aload_n 0, 1) := by decide +kernel
theorem dX4_set_65 : decode cX4_set 65 = .ok (.getfield 39, 3) := by decide +kernel
theorem dX4_set_68 : decode cX4_set 68 = .ok (.iload_n 3, 1) := by decide +kernel
theorem dX4_set_69 : decode cX4_set 69 = .ok (.putfield 91, 3) := by decide +kernel
theorem dX4_set_72 : decode cX4_set 72 = .ok (.goto 53, 3) := by decide +kernel
theorem dX4_set_75 : decode cX4_set 75 = .ok (.aload_n 0, 1) := by decide +kernel
theorem dX4_set_76 : decode cX4_set 76 = .ok (.getfield 39, 3) := by decide +kernel
theorem dX4_set_79 : decode cX4_set 79 = .ok (.aload_n 0, 1) := by decide +kernel
theorem dX4_set_80 : decode cX4_set 80 = .ok (.getfield 39, 3) := by decide +kernel
theorem dX4_set_83 : decode cX4_set 83 = .ok (.getfield 94, 3) := by decide +kernel
theorem dX4_set_86 : decode cX4_set 86 = .ok (.iconst 1, 1) := by decide +kernel
theorem dX4_set_87 : decode cX4_set 87 = .ok (.iload_n 2, 1) := by decide +kernel
theorem dX4_set_88 : decode cX4_set 88 = .ok (.ishl, 1) := by decide +kernel
theorem dX4_set_89 : decode cX4_set 89 = .ok (.iconst (-1), 1) := by decide +kernel
theorem dX4_set_90 : decode cX4_set 90 = .ok (.ixor, 1) := by decide +kernel
theorem dX4_set_91 : decode cX4_set 91 = .ok (.iand, 1) := by decide +kernel
theorem dX4_set_92 : decode cX4_set 92 = .ok (.iload_n 3, 1) := by decide +kernel
theorem dX4_set_93 : decode cX4_set 93 = .ok (.iload_n 2, 1) := by decide +kernel
theorem dX4_set_94 : decode cX4_set 94 = .ok (.ishl, 1) := by decide +kernel
theorem dX4_set_95 : decode cX4_set 95 = .ok (.ior, 1) := by decide +kernel
theorem dX4_set_96 : decode cX4_set 96 = .ok (.putfield 94, 3) := by decide +kernel
theorem dX4_set_99 : decode cX4_set 99 = .ok (.goto 26, 3) := by decide +kernel
theorem dX4_set_102 : decode cX4_set 102 = .ok (.aload_n 0, 1) := by decide +kernel
theorem dX4_set_103 : decode cX4_set 103 = .ok (.getfield 39, 3) := by decide +kernel
theorem dX4_set_106 : decode cX4_set 106 = .ok (.getfield 97, 3) := by decide +kernel
theorem dX4_set_109 : decode cX4_set 109 = .ok (.iload_n 2, 1) := by decide +kernel
theorem dX4_set_110 : decode cX4_set 110 = .ok (.iload_n 3, 1) := by decide +kernel
theorem dX4_set_111 : decode cX4_set 111 = .ok (.iastore, 1) := by decide +kernel
theorem dX4_set_112 : decode cX4_set 112 = .ok (.goto 13, 3) := by decide +kernel
theorem dX4_set_115 : decode cX4_set 115 = .ok (.aload_n 0, 1) := by decide +kernel
theorem dX4_set_116 : decode cX4_set 116 = .ok (.getfield 39, 3) := by decide +kernel
theorem dX4_set_119 : decode cX4_set 119 = .ok (.getfield 100, 3) := by decide +kernel
theorem dX4_set_122 : decode cX4_set 122 = .ok (.iload_n 2, 1) := by decide +kernel
theorem dX4_set_123 : decode cX4_set 123 = .ok (.iload_n 3, 1) := by decide +kernel
theorem dX4_set_124 : decode cX4_set 124 = .ok (.iastore, 1) := by decide +kernel
theorem dX4_set_125 : decode cX4_set 125 = .ok (.iload 4, 2) := by decide +kernel
theorem dX4_set_127 : decode cX4_set 127 = .ok (.ireturn, 1) := by decide +kernel
theorem dX4_person_0 : decode cX4_person 0 = .ok (.iload_n 1, 1) := by decide +kernel
theorem dX4_person_1 : decode cX4_person 1 = .ok (.iconst 0, 1) := by decide +kernel
theorem dX4_person_2 : decode cX4_person 2 = .ok (.iconst 5, 1) := by decide +kernel
theorem dX4_person_3 : decode cX4_person 3 = .ok (.invokestatic 76, 3) := by decide +kernel
theorem dX4_person_6 : decode cX4_person 6 = .ok (.ifCond .eq 13, 3) := by decide +kernel
theorem dX4_person_9 : decode cX4_person 9 = .ok (.iload_n 2, 1) := by decide +kernel
theorem dX4_person_10 : decode cX4_person 10 = .ok (.iconst 0, 1) := by decide +kernel
theorem dX4_person_11 : decode cX4_person 11 = .ok (.bipush 9, 2) := by decide +kernel
theorem dX4_person_13 : decode cX4_person 13 = .ok (.invokestatic 76, 3) := by decide +kernel
theorem dX4_person_16 : decode cX4_person 16 = .ok (.ifCond .ne 6, 3) := by decide +kernel
theorem dX4_person_19 : decode cX4_person 19 = .ok (.bipush (-2), 2) := by decide +kernel
theorem dX4_person_21 : decode cX4_person 21 = .ok (.ireturn, 1) := by decide +kernel
theorem dX4_person_22 : decode cX4_person 22 = .ok (.aload_n 0, 1) := by decide +kernel
theorem dX4_person_23 : decode cX4_person 23 = .ok (.getfield 39, 3) := by decide +kernel
theorem dX4_person_26 : decode cX4_person 26 = .ok (.iload_n 1, 1) := by decide +kernel
theorem dX4_person_27 : decode cX4_person 27 = .ok (.iload_n 2, 1) := by decide +kernel
theorem dX4_person_28 : decode cX4_person 28 = .ok (.invokevirtual 103, 3) := by decide +kernel
theorem dX4_person_31 : decode cX4_person 31 = .ok (.ireturn, 1) := by decide +kernel
theorem dX4_told_0 : decode cX4_told 0 = .ok (.iload_n 2, 1) := by decide +kernel
theorem dX4_told_1 : decode cX4_told 1 = .ok (.iconst 0, 1) := by decide +kernel
theorem dX4_told_2 : decode cX4_told 2 = .ok (.bipush 7, 2) := by decide +kernel
theorem dX4_told_4 : decode cX4_told 4 = .ok (.invokestatic 76, 3) := by decide +kernel
theorem dX4_told_7 : decode cX4_told 7 = .ok (.ifCond .eq 12, 3) := by decide +kernel
theorem dX4_told_10 : decode cX4_told 10 = .ok (.aload_n 0, 1) := by decide +kernel
theorem dX4_told_11 : decode cX4_told 11 = .ok (.iload_n 2, 1) := by decide +kernel
theorem dX4_told_12 : decode cX4_told 12 = .ok (.iload_n 1, 1) := by decide +kernel
theorem dX4_told_13 : decode cX4_told 13 = .ok (.invokevirtual 80, 3) := by decide +kernel
theorem dX4_told_16 : decode cX4_told 16 = .ok (.ifCond .ne 7, 3) := by decide +kernel
theorem dX4_told_19 : decode cX4_told 19 = .ok (.sipush (-1000), 3) := by decide +kernel
theorem dX4_told_22 : decode cX4_told 22 = .ok (.ireturn, 1) := by decide +kernel
theorem dX4_told_23 : decode cX4_told 23 = .ok (.iload_n 2, 1) := by decide +kernel
theorem dX4_told_24 : decode cX4_told 24 = .ok (.tableswitch 89 4 7 #[32, 42, 51, 60], 32) := by decide +kernel
theorem dX4_told_56 : decode cX4_told 56 = .ok (.aload_n 0, 1) := by decide +kernel
theorem dX4_told_57 : decode cX4_told 57 = .ok (.getfield 39, 3) := by decide +kernel
theorem dX4_told_60 : decode cX4_told 60 = .ok (.getfield 106, 3) := by decide +kernel
theorem dX4_told_63 : decode cX4_told 63 = .ok (.iload_n 1, 1) := by decide +kernel
theorem dX4_told_64 : decode cX4_told 64 = .ok (.iaload, 1) := by decide +kernel
theorem dX4_told_65 : decode cX4_told 65 = .ok (.ireturn, 1) := by decide +kernel
theorem dX4_told_66 : decode cX4_told 66 = .ok (.aload_n 0, 1) := by decide +kernel
theorem dX4_told_67 : decode cX4_told 67 = .ok (.getfield 39, 3) := by decide +kernel
theorem dX4_told_70 : decode cX4_told 70 = .ok (.iload_n 1, 1) := by decide +kernel
theorem dX4_told_71 : decode cX4_told 71 = .ok (.invokevirtual 109, 3) := by decide +kernel
theorem dX4_told_74 : decode cX4_told 74 = .ok (.ireturn, 1) := by decide +kernel
theorem dX4_told_75 : decode cX4_told 75 = .ok (.aload_n 0, 1) := by decide +kernel
theorem dX4_told_76 : decode cX4_told 76 = .ok (.getfield 39, 3) := by decide +kernel
theorem dX4_told_79 : decode cX4_told 79 = .ok (.iload_n 1, 1) := by decide +kernel
theorem dX4_told_80 : decode cX4_told 80 = .ok (.invokevirtual 113, 3) := by decide +kernel
theorem dX4_told_83 : decode cX4_told 83 = .ok (.ireturn, 1) := by decide +kernel
theorem dX4_told_84 : decode cX4_told 84 = .ok (.aload_n 0, 1) := by decide +kernel
theorem dX4_told_85 : decode cX4_told 85 = .ok (.getfield 43, 3) := by decide +kernel
theorem dX4_told_88 : decode cX4_told 88 = .ok (.aload_n 0, 1) := by decide +kernel
theorem dX4_told_89 : decode cX4_told 89 = .ok (.getfield 39, 3) := by decide +kernel
theorem dX4_told_92 : decode cX4_told 92 = .ok (.invokevirtual 116, 3) := by decide +kernel
theorem dX4_told_95 : decode cX4_told 95 = .ok (.aload_n 0, 1) := by decide +kernel
theorem dX4_told_96 : decode cX4_told 96 = .ok (.getfield 43, 3) := by decide +kernel
theorem dX4_told_99 : decode cX4_told 99 = .ok (.invokevirtual 120, 3) := by decide +kernel
theorem dX4_told_102 : decode cX4_told 102 = .ok (.pop, 1) := by decide +kernel
theorem dX4_told_103 : decode cX4_told 103 = .ok (.aload_n 0, 1) := by decide +kernel
theorem dX4_told_104 : decode cX4_told 104 = .ok (.getfield 43, 3) := by decide +kernel
theorem dX4_told_107 : decode cX4_told 107 = .ok (.getfield 100, 3) := by decide +kernel
theorem dX4_told_110 : decode cX4_told 110 = .ok (.iload_n 1, 1) := by decide +kernel
theorem dX4_told_111 : decode cX4_told 111 = .ok (.iaload, 1) := by decide +kernel
theorem dX4_told_112 : decode cX4_told 112 = .ok (.ireturn, 1) := by decide +kernel
theorem dX4_told_113 : decode cX4_told 113 = .ok (.aload_n 0, 1) := by decide +kernel
theorem dX4_told_114 : decode cX4_told 114 = .ok (.iload_n 2, 1) := by decide +kernel
theorem dX4_told_115 : decode cX4_told 115 = .ok (.iload_n 1, 1) := by decide +kernel
theorem dX4_told_116 : decode cX4_told 116 = .ok (.invokevirtual 87, 3) := by decide +kernel
theorem dX4_told_119 : decode cX4_told 119 = .ok (.ireturn, 1) := by decide +kernel
theorem dX4_isThere_0 : decode cX4_isThere 0 = .ok (.iload_n 1, 1) := by decide +kernel
theorem dX4_isThere_1 : decode cX4_isThere 1 = .ok (.ifCond .ne 5, 3) := by decide +kernel
theorem dX4_isThere_4 : decode cX4_isThere 4 = .ok (.iconst 1, 1) := by decide +kernel
theorem dX4_isThere_5 : decode cX4_isThere 5 = .ok (.ireturn, 1) := by decide +kernel
theorem dX4_isThere_6 : decode cX4_isThere 6 = .ok (.iload_n 1, 1) := by decide +kernel
theorem dX4_isThere_7 : decode cX4_isThere 7 = .ok (.iconst 1, 1) := by decide +kernel
theorem dX4_isThere_8 : decode cX4_isThere 8 = .ok (.if_icmp .ne 13, 3) := by decide +kernel
theorem dX4_isThere_11 : decode cX4_isThere 11 = .ok (.iload_n 2, 1) := by decide +kernel
theorem dX4_isThere_12 : decode cX4_isThere 12 = .ok (.iconst 0, 1) := by decide +kernel
theorem dX4_isThere_13 : decode cX4_isThere 13 = .ok (.bipush 7, 2) := by decide +kernel
theorem dX4_isThere_15 : decode cX4_isThere 15 = .ok (.invokestatic 76, 3) := by decide +kernel
theorem dX4_isThere_18 : decode cX4_isThere 18 = .ok (.goto 8, 3) := by decide +kernel
theorem dX4_isThere_21 : decode cX4_isThere 21 = .ok (.aload_n 0, 1) := by decide +kernel
theorem dX4_isThere_22 : decode cX4_isThere 22 = .ok (.iload_n 2, 1) := by decide +kernel
theorem dX4_isThere_23 : decode cX4_isThere 23 = .ok (.invokevirtual 124, 3) := by decide +kernel
theorem dX4_isThere_26 : decode cX4_isThere 26 = .ok (.ireturn, 1) := by decide +kernel
theorem dX4_fits_0 : decode cX4_fits 0 = .ok (.iload_n 0, 1) := by decide +kernel
theorem dX4_fits_1 : decode cX4_fits 1 = .ok (.tableswitch 51 0 2 #[27, 36, 43], 27) := by decide +kernel
theorem dX4_fits_28 : decode cX4_fits 28 = .ok (.iload_n 1, 1) := by decide +kernel
theorem dX4_fits_29 : decode cX4_fits 29 = .ok (.iconst 0, 1) := by decide +kernel
theorem dX4_fits_30 : decode cX4_fits 30 = .ok (.sipush 999, 3) := by decide +kernel
theorem dX4_fits_33 : decode cX4_fits 33 = .ok (.invokestatic 76, 3) := by decide +kernel
theorem dX4_fits_36 : decode cX4_fits 36 = .ok (.ireturn, 1) := by decide +kernel
theorem dX4_fits_37 : decode cX4_fits 37 = .ok (.iload_n 1, 1) := by decide +kernel
theorem dX4_fits_38 : decode cX4_fits 38 = .ok (.iconst 0, 1) := by decide +kernel
theorem dX4_fits_39 : decode cX4_fits 39 = .ok (.iconst 1, 1) := by decide +kernel
theorem dX4_fits_40 : decode cX4_fits 40 = .ok (.invokestatic 76, 3) := by decide +kernel
theorem dX4_fits_43 : decode cX4_fits 43 = .ok (.ireturn, 1) := by decide +kernel
theorem dX4_fits_44 : decode cX4_fits 44 = .ok (.iload_n 1, 1) := by decide +kernel
theorem dX4_fits_45 : decode cX4_fits 45 = .ok (.iconst 0, 1) := by decide +kernel
theorem dX4_fits_46 : decode cX4_fits 46 = .ok (.bipush 9, 2) := by decide +kernel
theorem dX4_fits_48 : decode cX4_fits 48 = .ok (.invokestatic 76, 3) := by decide +kernel
theorem dX4_fits_51 : decode cX4_fits 51 = .ok (.ireturn, 1) := by decide +kernel
theorem dX4_fits_52 : decode cX4_fits 52 = .ok (.iload_n 1, 1) := by decide +kernel
theorem dX4_fits_53 : decode cX4_fits 53 = .ok (.bipush (-20), 2) := by decide +kernel
theorem dX4_fits_55 : decode cX4_fits 55 = .ok (.bipush 20, 2) := by decide +kernel
theorem dX4_fits_57 : decode cX4_fits 57 = .ok (.invokestatic 76, 3) := by decide +kernel
theorem dX4_fits_60 : decode cX4_fits 60 = .ok (.ireturn, 1) := by decide +kernel
theorem dX4_plainly_0 : decode cX4_plainly 0 = .ok (.iload_n 1, 1) := by decide +kernel
theorem dX4_plainly_1 : decode cX4_plainly 1 = .ok (.tableswitch 57 0 2 #[27, 35, 47], 27) := by decide +kernel
theorem dX4_plainly_28 : decode cX4_plainly 28 = .ok (.aload_n 0, 1) := by decide +kernel
theorem dX4_plainly_29 : decode cX4_plainly 29 = .ok (.getfield 39, 3) := by decide +kernel
theorem dX4_plainly_32 : decode cX4_plainly 32 = .ok (.getfield 91, 3) := by decide +kernel
theorem dX4_plainly_35 : decode cX4_plainly 35 = .ok (.ireturn, 1) := by decide +kernel
theorem dX4_plainly_36 : decode cX4_plainly 36 = .ok (.aload_n 0, 1) := by decide +kernel
theorem dX4_plainly_37 : decode cX4_plainly 37 = .ok (.getfield 39, 3) := by decide +kernel
theorem dX4_plainly_40 : decode cX4_plainly 40 = .ok (.getfield 94, 3) := by decide +kernel
theorem dX4_plainly_43 : decode cX4_plainly 43 = .ok (.iload_n 2, 1) := by decide +kernel
theorem dX4_plainly_44 : decode cX4_plainly 44 = .ok (.ishr, 1) := by decide +kernel
theorem dX4_plainly_45 : decode cX4_plainly 45 = .ok (.iconst 1, 1) := by decide +kernel
theorem dX4_plainly_46 : decode cX4_plainly 46 = .ok (.iand, 1) := by decide +kernel
theorem dX4_plainly_47 : decode cX4_plainly 47 = .ok (.ireturn, 1) := by decide +kernel
theorem dX4_plainly_48 : decode cX4_plainly 48 = .ok (.aload_n 0, 1) := by decide +kernel
theorem dX4_plainly_49 : decode cX4_plainly 49 = .ok (.getfield 39, 3) := by decide +kernel
theorem dX4_plainly_52 : decode cX4_plainly 52 = .ok (.getfield 97, 3) := by decide +kernel
theorem dX4_plainly_55 : decode cX4_plainly 55 = .ok (.iload_n 2, 1) := by decide +kernel
theorem dX4_plainly_56 : decode cX4_plainly 56 = .ok (.iaload, 1) := by decide +kernel
theorem dX4_plainly_57 : decode cX4_plainly 57 = .ok (.ireturn, 1) := by decide +kernel
theorem dX4_plainly_58 : decode cX4_plainly 58 = .ok (.aload_n 0, 1) := by decide +kernel
theorem dX4_plainly_59 : decode cX4_plainly 59 = .ok (.getfield 39, 3) := by decide +kernel
theorem dX4_plainly_62 : decode cX4_plainly 62 = .ok (.getfield 100, 3) := by decide +kernel
theorem dX4_plainly_65 : decode cX4_plainly 65 = .ok (.iload_n 2, 1) := by decide +kernel
theorem dX4_plainly_66 : decode cX4_plainly 66 = .ok (.iaload, 1) := by decide +kernel
theorem dX4_plainly_67 : decode cX4_plainly 67 = .ok (.ireturn, 1) := by decide +kernel
theorem dX4_isPerson_0 : decode cX4_isPerson 0 = .ok (.iload_n 1, 1) := by decide +kernel
theorem dX4_isPerson_1 : decode cX4_isPerson 1 = .ok (.iconst 0, 1) := by decide +kernel
theorem dX4_isPerson_2 : decode cX4_isPerson 2 = .ok (.aload_n 0, 1) := by decide +kernel
theorem dX4_isPerson_3 : decode cX4_isPerson 3 = .ok (.getfield 39, 3) := by decide +kernel
theorem dX4_isPerson_6 : decode cX4_isPerson 6 = .ok (.getfield 127, 3) := by decide +kernel
theorem dX4_isPerson_9 : decode cX4_isPerson 9 = .ok (.iconst 1, 1) := by decide +kernel
theorem dX4_isPerson_10 : decode cX4_isPerson 10 = .ok (.isub, 1) := by decide +kernel
theorem dX4_isPerson_11 : decode cX4_isPerson 11 = .ok (.invokestatic 76, 3) := by decide +kernel
theorem dX4_isPerson_14 : decode cX4_isPerson 14 = .ok (.ireturn, 1) := by decide +kernel
theorem dX4_areTwo_0 : decode cX4_areTwo 0 = .ok (.aload_n 0, 1) := by decide +kernel
theorem dX4_areTwo_1 : decode cX4_areTwo 1 = .ok (.iload_n 1, 1) := by decide +kernel
theorem dX4_areTwo_2 : decode cX4_areTwo 2 = .ok (.invokevirtual 124, 3) := by decide +kernel
theorem dX4_areTwo_5 : decode cX4_areTwo 5 = .ok (.ifCond .eq 20, 3) := by decide +kernel
theorem dX4_areTwo_8 : decode cX4_areTwo 8 = .ok (.aload_n 0, 1) := by decide +kernel
theorem dX4_areTwo_9 : decode cX4_areTwo 9 = .ok (.iload_n 2, 1) := by decide +kernel
theorem dX4_areTwo_10 : decode cX4_areTwo 10 = .ok (.invokevirtual 124, 3) := by decide +kernel
theorem dX4_areTwo_13 : decode cX4_areTwo 13 = .ok (.ifCond .eq 12, 3) := by decide +kernel
theorem dX4_areTwo_16 : decode cX4_areTwo 16 = .ok (.iload_n 1, 1) := by decide +kernel
theorem dX4_areTwo_17 : decode cX4_areTwo 17 = .ok (.iload_n 2, 1) := by decide +kernel
theorem dX4_areTwo_18 : decode cX4_areTwo 18 = .ok (.if_icmp .eq 7, 3) := by decide +kernel
theorem dX4_areTwo_21 : decode cX4_areTwo 21 = .ok (.iconst 1, 1) := by decide +kernel
theorem dX4_areTwo_22 : decode cX4_areTwo 22 = .ok (.goto 4, 3) := by decide +kernel
theorem dX4_areTwo_25 : decode cX4_areTwo 25 = .ok (.iconst 0, 1) := by decide +kernel
theorem dX4_areTwo_26 : decode cX4_areTwo 26 = .ok (.ireturn, 1) := by decide +kernel
theorem dX4_isIn_0 : decode cX4_isIn 0 = .ok (.iload_n 0, 1) := by decide +kernel
theorem dX4_isIn_1 : decode cX4_isIn 1 = .ok (.iload_n 1, 1) := by decide +kernel
theorem dX4_isIn_2 : decode cX4_isIn 2 = .ok (.if_icmp .lt 12, 3) := by decide +kernel
theorem dX4_isIn_5 : decode cX4_isIn 5 = .ok (.iload_n 0, 1) := by decide +kernel
theorem dX4_isIn_6 : decode cX4_isIn 6 = .ok (.iload_n 2, 1) := by decide +kernel
theorem dX4_isIn_7 : decode cX4_isIn 7 = .ok (.if_icmp .gt 7, 3) := by decide +kernel
theorem dX4_isIn_10 : decode cX4_isIn 10 = .ok (.iconst 1, 1) := by decide +kernel
theorem dX4_isIn_11 : decode cX4_isIn 11 = .ok (.goto 4, 3) := by decide +kernel
theorem dX4_isIn_14 : decode cX4_isIn 14 = .ok (.iconst 0, 1) := by decide +kernel
theorem dX4_isIn_15 : decode cX4_isIn 15 = .ok (.ireturn, 1) := by decide +kernel
theorem dX4_feed_0 : decode cX4_feed 0 = .ok (.iload_n 1, 1) := by decide +kernel
theorem dX4_feed_1 : decode cX4_feed 1 = .ok (.iconst 0, 1) := by decide +kernel
theorem dX4_feed_2 : decode cX4_feed 2 = .ok (.sipush 255, 3) := by decide +kernel
theorem dX4_feed_5 : decode cX4_feed 5 = .ok (.invokestatic 76, 3) := by decide +kernel
theorem dX4_feed_8 : decode cX4_feed 8 = .ok (.ifCond .ne 6, 3) := by decide +kernel
theorem dX4_feed_11 : decode cX4_feed 11 = .ok (.bipush (-2), 2) := by decide +kernel
theorem dX4_feed_13 : decode cX4_feed 13 = .ok (.ireturn, 1) := by decide +kernel
theorem dX4_feed_14 : decode cX4_feed 14 = .ok (.aload_n 0, 1) := by decide +kernel
theorem dX4_feed_15 : decode cX4_feed 15 = .ok (.getfield 24, 3) := by decide +kernel
theorem dX4_feed_18 : decode cX4_feed 18 = .ok (.iload_n 1, 1) := by decide +kernel
theorem dX4_feed_19 : decode cX4_feed 19 = .ok (.invokevirtual 61, 3) := by decide +kernel
theorem dX4_feed_22 : decode cX4_feed 22 = .ok (.ifCond .eq 13, 3) := by decide +kernel
theorem dX4_feed_25 : decode cX4_feed 25 = .ok (.aload_n 0, 1) := by decide +kernel
theorem dX4_feed_26 : decode cX4_feed 26 = .ok (.getfield 24, 3) := by decide +kernel
theorem dX4_feed_29 : decode cX4_feed 29 = .ok (.getfield 69, 3) := by decide +kernel
theorem dX4_feed_32 : decode cX4_feed 32 = .ok (.goto 5, 3) := by decide +kernel
theorem dX4_feed_35 : decode cX4_feed 35 = .ok (.bipush (-4), 2) := by decide +kernel
theorem dX4_feed_37 : decode cX4_feed 37 = .ok (.ireturn, 1) := by decide +kernel
theorem dX4_text_0 : decode cX4_text 0 = .ok (.aload_n 0, 1) := by decide +kernel
theorem dX4_text_1 : decode cX4_text 1 = .ok (.getfield 73, 3) := by decide +kernel
theorem dX4_text_4 : decode cX4_text 4 = .ok (.bipush 6, 2) := by decide +kernel
theorem dX4_text_6 : decode cX4_text 6 = .ok (.if_icmp .lt 6, 3) := by decide +kernel
theorem dX4_text_9 : decode cX4_text 9 = .ok (.bipush (-4), 2) := by decide +kernel
theorem dX4_text_11 : decode cX4_text 11 = .ok (.ireturn, 1) := by decide +kernel
theorem dX4_text_12 : decode cX4_text 12 = .ok (.aload_n 0, 1) := by decide +kernel
theorem dX4_text_13 : decode cX4_text 13 = .ok (.getfield 24, 3) := by decide +kernel
theorem dX4_text_16 : decode cX4_text 16 = .ok (.aload_n 0, 1) := by decide +kernel
theorem dX4_text_17 : decode cX4_text 17 = .ok (.getfield 11, 3) := by decide +kernel
theorem dX4_text_20 : decode cX4_text 20 = .ok (.aload_n 0, 1) := by decide +kernel
theorem dX4_text_21 : decode cX4_text 21 = .ok (.getfield 73, 3) := by decide +kernel
theorem dX4_text_24 : decode cX4_text 24 = .ok (.aaload, 1) := by decide +kernel
theorem dX4_text_25 : decode cX4_text 25 = .ok (.invokevirtual 65, 3) := by decide +kernel
theorem dX4_text_28 : decode cX4_text 28 = .ok (.istore_n 1, 1) := by decide +kernel
theorem dX4_text_29 : decode cX4_text 29 = .ok (.aload_n 0, 1) := by decide +kernel
theorem dX4_text_30 : decode cX4_text 30 = .ok (.getfield 24, 3) := by decide +kernel
theorem dX4_text_33 : decode cX4_text 33 = .ok (.iconst 0, 1) := by decide +kernel
theorem dX4_text_34 : decode cX4_text 34 = .ok (.putfield 69, 3) := by decide +kernel
theorem dX4_text_37 : decode cX4_text 37 = .ok (.iload_n 1, 1) := by decide +kernel
theorem dX4_text_38 : decode cX4_text 38 = .ok (.iconst (-1), 1) := by decide +kernel
theorem dX4_text_39 : decode cX4_text 39 = .ok (.if_icmp .eq 8, 3) := by decide +kernel
theorem dX4_text_42 : decode cX4_text 42 = .ok (.bipush (-100), 2) := by decide +kernel
theorem dX4_text_44 : decode cX4_text 44 = .ok (.iload_n 1, 1) := by decide +kernel
theorem dX4_text_45 : decode cX4_text 45 = .ok (.isub, 1) := by decide +kernel
theorem dX4_text_46 : decode cX4_text 46 = .ok (.ireturn, 1) := by decide +kernel
theorem dX4_text_47 : decode cX4_text 47 = .ok (.aload_n 0, 1) := by decide +kernel
theorem dX4_text_48 : decode cX4_text 48 = .ok (.dup, 1) := by decide +kernel
theorem dX4_text_49 : decode cX4_text 49 = .ok (.getfield 73, 3) := by decide +kernel
theorem dX4_text_52 : decode cX4_text 52 = .ok (.iconst 1, 1) := by decide +kernel
theorem dX4_text_53 : decode cX4_text 53 = .ok (.iadd, 1) := by decide +kernel
theorem dX4_text_54 : decode cX4_text 54 = .ok (.putfield 73, 3) := by decide +kernel
theorem dX4_text_57 : decode cX4_text 57 = .ok (.aload_n 0, 1) := by decide +kernel
theorem dX4_text_58 : decode cX4_text 58 = .ok (.getfield 73, 3) := by decide +kernel
theorem dX4_text_61 : decode cX4_text 61 = .ok (.iconst 1, 1) := by decide +kernel
theorem dX4_text_62 : decode cX4_text 62 = .ok (.isub, 1) := by decide +kernel
theorem dX4_text_63 : decode cX4_text 63 = .ok (.ireturn, 1) := by decide +kernel
theorem dX4_force_0 : decode cX4_force 0 = .ok (.iload_n 1, 1) := by decide +kernel
theorem dX4_force_1 : decode cX4_force 1 = .ok (.iconst 0, 1) := by decide +kernel
theorem dX4_force_2 : decode cX4_force 2 = .ok (.aload_n 0, 1) := by decide +kernel
theorem dX4_force_3 : decode cX4_force 3 = .ok (.getfield 73, 3) := by decide +kernel
theorem dX4_force_6 : decode cX4_force 6 = .ok (.iconst 1, 1) := by decide +kernel
theorem dX4_force_7 : decode cX4_force 7 = .ok (.isub, 1) := by decide +kernel
theorem dX4_force_8 : decode cX4_force 8 = .ok (.invokestatic 76, 3) := by decide +kernel
theorem dX4_force_11 : decode cX4_force 11 = .ok (.ifCond .ne 6, 3) := by decide +kernel
theorem dX4_force_14 : decode cX4_force 14 = .ok (.bipush (-2), 2) := by decide +kernel
theorem dX4_force_16 : decode cX4_force 16 = .ok (.ireturn, 1) := by decide +kernel
theorem dX4_force_17 : decode cX4_force 17 = .ok (.aload_n 0, 1) := by decide +kernel
theorem dX4_force_18 : decode cX4_force 18 = .ok (.getfield 39, 3) := by decide +kernel
theorem dX4_force_21 : decode cX4_force 21 = .ok (.getfield 128, 3) := by decide +kernel
theorem dX4_force_24 : decode cX4_force 24 = .ok (.istore_n 2, 1) := by decide +kernel
theorem dX4_force_25 : decode cX4_force 25 = .ok (.aload_n 0, 1) := by decide +kernel
theorem dX4_force_26 : decode cX4_force 26 = .ok (.getfield 39, 3) := by decide +kernel
theorem dX4_force_29 : decode cX4_force 29 = .ok (.iload_n 1, 1) := by decide +kernel
theorem dX4_force_30 : decode cX4_force 30 = .ok (.putfield 128, 3) := by decide +kernel
theorem dX4_force_33 : decode cX4_force 33 = .ok (.iload_n 2, 1) := by decide +kernel
theorem dX4_force_34 : decode cX4_force 34 = .ok (.ireturn, 1) := by decide +kernel
theorem dX4_sandwich_0 : decode cX4_sandwich 0 = .ok (.aload_n 0, 1) := by decide +kernel
theorem dX4_sandwich_1 : decode cX4_sandwich 1 = .ok (.iload_n 1, 1) := by decide +kernel
theorem dX4_sandwich_2 : decode cX4_sandwich 2 = .ok (.iload_n 2, 1) := by decide +kernel
theorem dX4_sandwich_3 : decode cX4_sandwich 3 = .ok (.invokevirtual 131, 3) := by decide +kernel
theorem dX4_sandwich_6 : decode cX4_sandwich 6 = .ok (.ifCond .ne 7, 3) := by decide +kernel
theorem dX4_sandwich_9 : decode cX4_sandwich 9 = .ok (.sipush (-1000), 3) := by decide +kernel
theorem dX4_sandwich_12 : decode cX4_sandwich 12 = .ok (.ireturn, 1) := by decide +kernel
theorem dX4_sandwich_13 : decode cX4_sandwich 13 = .ok (.iload_n 3, 1) := by decide +kernel
theorem dX4_sandwich_14 : decode cX4_sandwich 14 = .ok (.bipush 10, 2) := by decide +kernel
theorem dX4_sandwich_16 : decode cX4_sandwich 16 = .ok (.bipush 17, 2) := by decide +kernel
theorem dX4_sandwich_18 : decode cX4_sandwich 18 = .ok (.invokestatic 76, 3) := by decide +kernel
theorem dX4_sandwich_21 : decode cX4_sandwich 21 = .ok (.ifCond .eq 17, 3) := by decide +kernel
theorem dX4_sandwich_24 : decode cX4_sandwich 24 = .ok (.aload_n 0, 1) := by decide +kernel
theorem dX4_sandwich_25 : decode cX4_sandwich 25 = .ok (.getfield 39, 3) := by decide +kernel
theorem dX4_sandwich_28 : decode cX4_sandwich 28 = .ok (.iload_n 2, 1) := by decide +kernel
theorem dX4_sandwich_29 : decode cX4_sandwich 29 = .ok (.iload_n 1, 1) := by decide +kernel
theorem dX4_sandwich_30 : decode cX4_sandwich 30 = .ok (.iload_n 3, 1) := by decide +kernel
theorem dX4_sandwich_31 : decode cX4_sandwich 31 = .ok (.bipush 10, 2) := by decide +kernel
theorem dX4_sandwich_33 : decode cX4_sandwich 33 = .ok (.isub, 1) := by decide +kernel
theorem dX4_sandwich_34 : decode cX4_sandwich 34 = .ok (.invokevirtual 134, 3) := by decide +kernel
theorem dX4_sandwich_37 : decode cX4_sandwich 37 = .ok (.ireturn, 1) := by decide +kernel
theorem dX4_sandwich_38 : decode cX4_sandwich 38 = .ok (.iload_n 3, 1) := by decide +kernel
theorem dX4_sandwich_39 : decode cX4_sandwich 39 = .ok (.tableswitch 80 0 3 #[29, 39, 52, 70], 29) := by decide +kernel
theorem dX4_sandwich_68 : decode cX4_sandwich 68 = .ok (.aload_n 0, 1) := by decide +kernel
theorem dX4_sandwich_69 : decode cX4_sandwich 69 = .ok (.getfield 39, 3) := by decide +kernel
theorem dX4_sandwich_72 : decode cX4_sandwich 72 = .ok (.iload_n 1, 1) := by decide +kernel
theorem dX4_sandwich_73 : decode cX4_sandwich 73 = .ok (.iload_n 2, 1) := by decide +kernel
theorem dX4_sandwich_74 : decode cX4_sandwich 74 = .ok (.invokevirtual 138, 3) := by decide +kernel
theorem dX4_sandwich_77 : decode cX4_sandwich 77 = .ok (.ireturn, 1) := by decide +kernel
theorem dX4_sandwich_78 : decode cX4_sandwich 78 = .ok (.aload_n 0, 1) := by decide +kernel
theorem dX4_sandwich_79 : decode cX4_sandwich 79 = .ok (.getfield 39, 3) := by decide +kernel
theorem dX4_sandwich_82 : decode cX4_sandwich 82 = .ok (.iload_n 1, 1) := by decide +kernel
theorem dX4_sandwich_83 : decode cX4_sandwich 83 = .ok (.iload_n 2, 1) := by decide +kernel
theorem dX4_sandwich_84 : decode cX4_sandwich 84 = .ok (.invokevirtual 138, 3) := by decide +kernel
theorem dX4_sandwich_87 : decode cX4_sandwich 87 = .ok (.invokestatic 141, 3) := by decide +kernel
theorem dX4_sandwich_90 : decode cX4_sandwich 90 = .ok (.ireturn, 1) := by decide +kernel
theorem dX4_sandwich_91 : decode cX4_sandwich 91 = .ok (.aload_n 0, 1) := by decide +kernel
theorem dX4_sandwich_92 : decode cX4_sandwich 92 = .ok (.getfield 39, 3) := by decide +kernel
theorem dX4_sandwich_95 : decode cX4_sandwich 95 = .ok (.iload_n 1, 1) := by decide +kernel
theorem dX4_sandwich_96 : decode cX4_sandwich 96 = .ok (.iload_n 2, 1) := by decide +kernel
theorem dX4_sandwich_97 : decode cX4_sandwich 97 = .ok (.invokevirtual 146, 3) := by decide +kernel
theorem dX4_sandwich_100 : decode cX4_sandwich 100 = .ok (.ifCond .eq 7, 3) := by decide +kernel
theorem dX4_sandwich_103 : decode cX4_sandwich 103 = .ok (.iconst 1, 1) := by decide +kernel
theorem dX4_sandwich_104 : decode cX4_sandwich 104 = .ok (.goto 4, 3) := by decide +kernel
theorem dX4_sandwich_107 : decode cX4_sandwich 107 = .ok (.iconst 0, 1) := by decide +kernel
theorem dX4_sandwich_108 : decode cX4_sandwich 108 = .ok (.ireturn, 1) := by decide +kernel
theorem dX4_sandwich_109 : decode cX4_sandwich 109 = .ok (.aload_n 0, 1) := by decide +kernel
theorem dX4_sandwich_110 : decode cX4_sandwich 110 = .ok (.getfield 39, 3) := by decide +kernel
theorem dX4_sandwich_113 : decode cX4_sandwich 113 = .ok (.iload_n 1, 1) := by decide +kernel
theorem dX4_sandwich_114 : decode cX4_sandwich 114 = .ok (.iload_n 2, 1) := by decide +kernel
theorem dX4_sandwich_115 : decode cX4_sandwich 115 = .ok (.invokevirtual 149, 3) := by decide +kernel
theorem dX4_sandwich_118 : decode cX4_sandwich 118 = .ok (.ireturn, 1) := by decide +kernel
theorem dX4_sandwich_119 : decode cX4_sandwich 119 = .ok (.sipush (-1000), 3) := by decide +kernel
theorem dX4_sandwich_122 : decode cX4_sandwich 122 = .ok (.ireturn, 1) := by decide +kernel
theorem dX4_sunday_0 : decode cX4_sunday 0 = .ok (.aload_n 0, 1) := by decide +kernel
theorem dX4_sunday_1 : decode cX4_sunday 1 = .ok (.getfield 39, 3) := by decide +kernel
theorem dX4_sunday_4 : decode cX4_sunday 4 = .ok (.getfield 91, 3) := by decide +kernel
theorem dX4_sunday_7 : decode cX4_sunday 7 = .ok (.sipush 999, 3) := by decide +kernel
theorem dX4_sunday_10 : decode cX4_sunday 10 = .ok (.if_icmp .lt 7, 3) := by decide +kernel
theorem dX4_sunday_13 : decode cX4_sunday 13 = .ok (.sipush (-1000), 3) := by decide +kernel
theorem dX4_sunday_16 : decode cX4_sunday 16 = .ok (.ireturn, 1) := by decide +kernel
theorem dX4_sunday_17 : decode cX4_sunday 17 = .ok (.aload_n 0, 1) := by decide +kernel
theorem dX4_sunday_18 : decode cX4_sunday 18 = .ok (.getfield 39, 3) := by decide +kernel
theorem dX4_sunday_21 : decode cX4_sunday 21 = .ok (.invokevirtual 120, 3) := by decide +kernel
theorem dX4_sunday_24 : decode cX4_sunday 24 = .ok (.pop, 1) := by decide +kernel
theorem dX4_sunday_25 : decode cX4_sunday 25 = .ok (.aload_n 0, 1) := by decide +kernel
theorem dX4_sunday_26 : decode cX4_sunday 26 = .ok (.getfield 39, 3) := by decide +kernel
theorem dX4_sunday_29 : decode cX4_sunday 29 = .ok (.dup, 1) := by decide +kernel
theorem dX4_sunday_30 : decode cX4_sunday 30 = .ok (.getfield 91, 3) := by decide +kernel
theorem dX4_sunday_33 : decode cX4_sunday 33 = .ok (.iconst 1, 1) := by decide +kernel
theorem dX4_sunday_34 : decode cX4_sunday 34 = .ok (.iadd, 1) := by decide +kernel
theorem dX4_sunday_35 : decode cX4_sunday 35 = .ok (.putfield 91, 3) := by decide +kernel
theorem dX4_sunday_38 : decode cX4_sunday 38 = .ok (.aload_n 0, 1) := by decide +kernel
theorem dX4_sunday_39 : decode cX4_sunday 39 = .ok (.getfield 39, 3) := by decide +kernel
theorem dX4_sunday_42 : decode cX4_sunday 42 = .ok (.invokevirtual 152, 3) := by decide +kernel
theorem dX4_sunday_45 : decode cX4_sunday 45 = .ok (.ireturn, 1) := by decide +kernel
theorem dX4_run_0 : decode cX4_run 0 = .ok (.iload_n 2, 1) := by decide +kernel
theorem dX4_run_1 : decode cX4_run 1 = .ok (.bipush 10, 2) := by decide +kernel
theorem dX4_run_3 : decode cX4_run 3 = .ok (.if_icmp .lt 18, 3) := by decide +kernel
theorem dX4_run_6 : decode cX4_run 6 = .ok (.aload_n 0, 1) := by decide +kernel
theorem dX4_run_7 : decode cX4_run 7 = .ok (.iload_n 2, 1) := by decide +kernel
theorem dX4_run_8 : decode cX4_run 8 = .ok (.bipush 10, 2) := by decide +kernel
theorem dX4_run_10 : decode cX4_run 10 = .ok (.isub, 1) := by decide +kernel
theorem dX4_run_11 : decode cX4_run 11 = .ok (.invokevirtual 124, 3) := by decide +kernel
theorem dX4_run_14 : decode cX4_run 14 = .ok (.ifCond .eq 7, 3) := by decide +kernel
theorem dX4_run_17 : decode cX4_run 17 = .ok (.iconst 1, 1) := by decide +kernel
theorem dX4_run_18 : decode cX4_run 18 = .ok (.goto 4, 3) := by decide +kernel
theorem dX4_run_21 : decode cX4_run 21 = .ok (.iconst 0, 1) := by decide +kernel
theorem dX4_run_22 : decode cX4_run 22 = .ok (.istore_n 3, 1) := by decide +kernel
theorem dX4_run_23 : decode cX4_run 23 = .ok (.iload_n 1, 1) := by decide +kernel
theorem dX4_run_24 : decode cX4_run 24 = .ok (.iconst 0, 1) := by decide +kernel
theorem dX4_run_25 : decode cX4_run 25 = .ok (.bipush 40, 2) := by decide +kernel
theorem dX4_run_27 : decode cX4_run 27 = .ok (.invokestatic 76, 3) := by decide +kernel
theorem dX4_run_30 : decode cX4_run 30 = .ok (.ifCond .eq 16, 3) := by decide +kernel
theorem dX4_run_33 : decode cX4_run 33 = .ok (.iload_n 3, 1) := by decide +kernel
theorem dX4_run_34 : decode cX4_run 34 = .ok (.ifCond .ne 16, 3) := by decide +kernel
theorem dX4_run_37 : decode cX4_run 37 = .ok (.iload_n 2, 1) := by decide +kernel
theorem dX4_run_38 : decode cX4_run 38 = .ok (.iconst 0, 1) := by decide +kernel
theorem dX4_run_39 : decode cX4_run 39 = .ok (.iconst 1, 1) := by decide +kernel
theorem dX4_run_40 : decode cX4_run 40 = .ok (.invokestatic 76, 3) := by decide +kernel
theorem dX4_run_43 : decode cX4_run 43 = .ok (.ifCond .ne 7, 3) := by decide +kernel
theorem dX4_run_46 : decode cX4_run 46 = .ok (.sipush (-1000), 3) := by decide +kernel
theorem dX4_run_49 : decode cX4_run 49 = .ok (.ireturn, 1) := by decide +kernel
theorem dX4_run_50 : decode cX4_run 50 = .ok (.aload_n 0, 1) := by decide +kernel
theorem dX4_run_51 : decode cX4_run 51 = .ok (.getfield 43, 3) := by decide +kernel
theorem dX4_run_54 : decode cX4_run 54 = .ok (.aload_n 0, 1) := by decide +kernel
theorem dX4_run_55 : decode cX4_run 55 = .ok (.getfield 39, 3) := by decide +kernel
theorem dX4_run_58 : decode cX4_run 58 = .ok (.invokevirtual 116, 3) := by decide +kernel
theorem dX4_run_61 : decode cX4_run 61 = .ok (.iload_n 2, 1) := by decide +kernel
theorem dX4_run_62 : decode cX4_run 62 = .ok (.iconst 1, 1) := by decide +kernel
theorem dX4_run_63 : decode cX4_run 63 = .ok (.if_icmp .ne 12, 3) := by decide +kernel
theorem dX4_run_66 : decode cX4_run 66 = .ok (.aload_n 0, 1) := by decide +kernel
theorem dX4_run_67 : decode cX4_run 67 = .ok (.getfield 43, 3) := by decide +kernel
theorem dX4_run_70 : decode cX4_run 70 = .ok (.iload_n 1, 1) := by decide +kernel
theorem dX4_run_71 : decode cX4_run 71 = .ok (.invokevirtual 155, 3) := by decide +kernel
theorem dX4_run_74 : decode cX4_run 74 = .ok (.ireturn, 1) := by decide +kernel
theorem dX4_run_75 : decode cX4_run 75 = .ok (.aload_n 0, 1) := by decide +kernel
theorem dX4_run_76 : decode cX4_run 76 = .ok (.getfield 43, 3) := by decide +kernel
theorem dX4_run_79 : decode cX4_run 79 = .ok (.iload_n 1, 1) := by decide +kernel
theorem dX4_run_80 : decode cX4_run 80 = .ok (.invokevirtual 158, 3) := by decide +kernel
theorem dX4_run_83 : decode cX4_run 83 = .ok (.istore 4, 2) := by decide +kernel
theorem dX4_run_85 : decode cX4_run 85 = .ok (.iload_n 3, 1) := by decide +kernel
theorem dX4_run_86 : decode cX4_run 86 = .ok (.ifCond .eq 18, 3) := by decide +kernel
theorem dX4_run_89 : decode cX4_run 89 = .ok (.aload_n 0, 1) := by decide +kernel
theorem dX4_run_90 : decode cX4_run 90 = .ok (.getfield 43, 3) := by decide +kernel
theorem dX4_run_93 : decode cX4_run 93 = .ok (.getfield 100, 3) := by decide +kernel
theorem dX4_run_96 : decode cX4_run 96 = .ok (.iload_n 2, 1) := by decide +kernel
theorem dX4_run_97 : decode cX4_run 97 = .ok (.bipush 10, 2) := by decide +kernel
theorem dX4_run_99 : decode cX4_run 99 = .ok (.isub, 1) := by decide +kernel
theorem dX4_run_100 : decode cX4_run 100 = .ok (.iaload, 1) := by decide +kernel
theorem dX4_run_101 : decode cX4_run 101 = .ok (.goto 5, 3) := by decide +kernel
theorem dX4_run_104 : decode cX4_run 104 = .ok (.iload 4, 2) := by decide +kernel
theorem dX4_run_106 : decode cX4_run 106 = .ok (.ireturn, 1) := by decide +kernel
theorem dX4_again_0 : decode cX4_again 0 = .ok (.iload_n 1, 1) := by decide +kernel
theorem dX4_again_1 : decode cX4_again 1 = .ok (.iconst 0, 1) := by decide +kernel
theorem dX4_again_2 : decode cX4_again 2 = .ok (.iconst 2, 1) := by decide +kernel
theorem dX4_again_3 : decode cX4_again 3 = .ok (.invokestatic 76, 3) := by decide +kernel
theorem dX4_again_6 : decode cX4_again 6 = .ok (.ifCond .ne 6, 3) := by decide +kernel
theorem dX4_again_9 : decode cX4_again 9 = .ok (.bipush (-2), 2) := by decide +kernel
theorem dX4_again_11 : decode cX4_again 11 = .ok (.ireturn, 1) := by decide +kernel
theorem dX4_again_12 : decode cX4_again 12 = .ok (.aload_n 0, 1) := by decide +kernel
theorem dX4_again_13 : decode cX4_again 13 = .ok (.getfield 43, 3) := by decide +kernel
theorem dX4_again_16 : decode cX4_again 16 = .ok (.aload_n 0, 1) := by decide +kernel
theorem dX4_again_17 : decode cX4_again 17 = .ok (.getfield 39, 3) := by decide +kernel
theorem dX4_again_20 : decode cX4_again 20 = .ok (.invokevirtual 116, 3) := by decide +kernel
theorem dX4_again_23 : decode cX4_again 23 = .ok (.aload_n 0, 1) := by decide +kernel
theorem dX4_again_24 : decode cX4_again 24 = .ok (.getfield 28, 3) := by decide +kernel
theorem dX4_again_27 : decode cX4_again 27 = .ok (.iconst 0, 1) := by decide +kernel
theorem dX4_again_28 : decode cX4_again 28 = .ok (.aload_n 0, 1) := by decide +kernel
theorem dX4_again_29 : decode cX4_again 29 = .ok (.getfield 43, 3) := by decide +kernel
theorem dX4_again_32 : decode cX4_again 32 = .ok (.invokevirtual 161, 3) := by decide +kernel
theorem dX4_again_35 : decode cX4_again 35 = .ok (.iastore, 1) := by decide +kernel
theorem dX4_again_36 : decode cX4_again 36 = .ok (.iconst 1, 1) := by decide +kernel
theorem dX4_again_37 : decode cX4_again 37 = .ok (.istore_n 2, 1) := by decide +kernel
theorem dX4_again_38 : decode cX4_again 38 = .ok (.iload_n 2, 1) := by decide +kernel
theorem dX4_again_39 : decode cX4_again 39 = .ok (.bipush 40, 2) := by decide +kernel
theorem dX4_again_41 : decode cX4_again 41 = .ok (.if_icmp .gt 30, 3) := by decide +kernel
theorem dX4_again_44 : decode cX4_again 44 = .ok (.aload_n 0, 1) := by decide +kernel
theorem dX4_again_45 : decode cX4_again 45 = .ok (.getfield 43, 3) := by decide +kernel
theorem dX4_again_48 : decode cX4_again 48 = .ok (.invokevirtual 120, 3) := by decide +kernel
theorem dX4_again_51 : decode cX4_again 51 = .ok (.pop, 1) := by decide +kernel
theorem dX4_again_52 : decode cX4_again 52 = .ok (.aload_n 0, 1) := by decide +kernel
theorem dX4_again_53 : decode cX4_again 53 = .ok (.getfield 28, 3) := by decide +kernel
theorem dX4_again_56 : decode cX4_again 56 = .ok (.iload_n 2, 1) := by decide +kernel
theorem dX4_again_57 : decode cX4_again 57 = .ok (.aload_n 0, 1) := by decide +kernel
theorem dX4_again_58 : decode cX4_again 58 = .ok (.getfield 43, 3) := by decide +kernel
theorem dX4_again_61 : decode cX4_again 61 = .ok (.invokevirtual 161, 3) := by decide +kernel
theorem dX4_again_64 : decode cX4_again 64 = .ok (.iastore, 1) := by decide +kernel
theorem dX4_again_65 : decode cX4_again 65 = .ok (.iinc 2 1, 3) := by decide +kernel
theorem dX4_again_68 : decode cX4_again 68 = .ok (.goto (-30), 3) := by decide +kernel
theorem dX4_again_71 : decode cX4_again 71 = .ok (.iload_n 1, 1) := by decide +kernel
theorem dX4_again_72 : decode cX4_again 72 = .ok (.iconst 2, 1) := by decide +kernel
theorem dX4_again_73 : decode cX4_again 73 = .ok (.if_icmp .ne 10, 3) := by decide +kernel
theorem dX4_again_76 : decode cX4_again 76 = .ok (.aload_n 0, 1) := by decide +kernel
theorem dX4_again_77 : decode cX4_again 77 = .ok (.invokevirtual 164, 3) := by decide +kernel
theorem dX4_again_80 : decode cX4_again 80 = .ok (.goto 8, 3) := by decide +kernel
theorem dX4_again_83 : decode cX4_again 83 = .ok (.aload_n 0, 1) := by decide +kernel
theorem dX4_again_84 : decode cX4_again 84 = .ok (.iload_n 1, 1) := by decide +kernel
theorem dX4_again_85 : decode cX4_again 85 = .ok (.invokevirtual 167, 3) := by decide +kernel
theorem dX4_again_88 : decode cX4_again 88 = .ok (.ireturn, 1) := by decide +kernel
theorem dX4_firstDead_0 : decode cX4_firstDead 0 = .ok (.iconst 0, 1) := by decide +kernel
theorem dX4_firstDead_1 : decode cX4_firstDead 1 = .ok (.istore_n 1, 1) := by decide +kernel
theorem dX4_firstDead_2 : decode cX4_firstDead 2 = .ok (.iload_n 1, 1) := by decide +kernel
theorem dX4_firstDead_3 : decode cX4_firstDead 3 = .ok (.bipush 40, 2) := by decide +kernel
theorem dX4_firstDead_5 : decode cX4_firstDead 5 = .ok (.if_icmp .ge 28, 3) := by decide +kernel
theorem dX4_firstDead_8 : decode cX4_firstDead 8 = .ok (.aload_n 0, 1) := by decide +kernel
theorem dX4_firstDead_9 : decode cX4_firstDead 9 = .ok (.getfield 28, 3) := by decide +kernel
theorem dX4_firstDead_12 : decode cX4_firstDead 12 = .ok (.iload_n 1, 1) := by decide +kernel
theorem dX4_firstDead_13 : decode cX4_firstDead 13 = .ok (.iaload, 1) := by decide +kernel
theorem dX4_firstDead_14 : decode cX4_firstDead 14 = .ok (.aload_n 0, 1) := by decide +kernel
theorem dX4_firstDead_15 : decode cX4_firstDead 15 = .ok (.getfield 28, 3) := by decide +kernel
theorem dX4_firstDead_18 : decode cX4_firstDead 18 = .ok (.iload_n 1, 1) := by decide +kernel
theorem dX4_firstDead_19 : decode cX4_firstDead 19 = .ok (.iconst 1, 1) := by decide +kernel
theorem dX4_firstDead_20 : decode cX4_firstDead 20 = .ok (.iadd, 1) := by decide +kernel
theorem dX4_firstDead_21 : decode cX4_firstDead 21 = .ok (.iaload, 1) := by decide +kernel
theorem dX4_firstDead_22 : decode cX4_firstDead 22 = .ok (.if_icmp .ne 5, 3) := by decide +kernel
theorem dX4_firstDead_25 : decode cX4_firstDead 25 = .ok (.iload_n 1, 1) := by decide +kernel
theorem dX4_firstDead_26 : decode cX4_firstDead 26 = .ok (.ireturn, 1) := by decide +kernel
theorem dX4_firstDead_27 : decode cX4_firstDead 27 = .ok (.iinc 1 1, 3) := by decide +kernel
theorem dX4_firstDead_30 : decode cX4_firstDead 30 = .ok (.goto (-28), 3) := by decide +kernel
theorem dX4_firstDead_33 : decode cX4_firstDead 33 = .ok (.iconst (-1), 1) := by decide +kernel
theorem dX4_firstDead_34 : decode cX4_firstDead 34 = .ok (.ireturn, 1) := by decide +kernel
theorem dX4_firstAgain_0 : decode cX4_firstAgain 0 = .ok (.iconst 1, 1) := by decide +kernel
theorem dX4_firstAgain_1 : decode cX4_firstAgain 1 = .ok (.istore_n 2, 1) := by decide +kernel
theorem dX4_firstAgain_2 : decode cX4_firstAgain 2 = .ok (.iload_n 2, 1) := by decide +kernel
theorem dX4_firstAgain_3 : decode cX4_firstAgain 3 = .ok (.bipush 40, 2) := by decide +kernel
theorem dX4_firstAgain_5 : decode cX4_firstAgain 5 = .ok (.if_icmp .gt 49, 3) := by decide +kernel
theorem dX4_firstAgain_8 : decode cX4_firstAgain 8 = .ok (.iconst 0, 1) := by decide +kernel
theorem dX4_firstAgain_9 : decode cX4_firstAgain 9 = .ok (.istore_n 3, 1) := by decide +kernel
theorem dX4_firstAgain_10 : decode cX4_firstAgain 10 = .ok (.iload_n 3, 1) := by decide +kernel
theorem dX4_firstAgain_11 : decode cX4_firstAgain 11 = .ok (.iload_n 2, 1) := by decide +kernel
theorem dX4_firstAgain_12 : decode cX4_firstAgain 12 = .ok (.if_icmp .ge 36, 3) := by decide +kernel
theorem dX4_firstAgain_15 : decode cX4_firstAgain 15 = .ok (.aload_n 0, 1) := by decide +kernel
theorem dX4_firstAgain_16 : decode cX4_firstAgain 16 = .ok (.getfield 28, 3) := by decide +kernel
theorem dX4_firstAgain_19 : decode cX4_firstAgain 19 = .ok (.iload_n 3, 1) := by decide +kernel
theorem dX4_firstAgain_20 : decode cX4_firstAgain 20 = .ok (.iaload, 1) := by decide +kernel
theorem dX4_firstAgain_21 : decode cX4_firstAgain 21 = .ok (.aload_n 0, 1) := by decide +kernel
theorem dX4_firstAgain_22 : decode cX4_firstAgain 22 = .ok (.getfield 28, 3) := by decide +kernel
theorem dX4_firstAgain_25 : decode cX4_firstAgain 25 = .ok (.iload_n 2, 1) := by decide +kernel
theorem dX4_firstAgain_26 : decode cX4_firstAgain 26 = .ok (.iaload, 1) := by decide +kernel
theorem dX4_firstAgain_27 : decode cX4_firstAgain 27 = .ok (.if_icmp .ne 15, 3) := by decide +kernel
theorem dX4_firstAgain_30 : decode cX4_firstAgain 30 = .ok (.iload_n 1, 1) := by decide +kernel
theorem dX4_firstAgain_31 : decode cX4_firstAgain 31 = .ok (.ifCond .ne 7, 3) := by decide +kernel
theorem dX4_firstAgain_34 : decode cX4_firstAgain 34 = .ok (.iload_n 2, 1) := by decide +kernel
theorem dX4_firstAgain_35 : decode cX4_firstAgain 35 = .ok (.goto 6, 3) := by decide +kernel
theorem dX4_firstAgain_38 : decode cX4_firstAgain 38 = .ok (.iload_n 2, 1) := by decide +kernel
theorem dX4_firstAgain_39 : decode cX4_firstAgain 39 = .ok (.iload_n 3, 1) := by decide +kernel
theorem dX4_firstAgain_40 : decode cX4_firstAgain 40 = .ok (.isub, 1) := by decide +kernel
theorem dX4_firstAgain_41 : decode cX4_firstAgain 41 = .ok (.ireturn, 1) := by decide +kernel
theorem dX4_firstAgain_42 : decode cX4_firstAgain 42 = .ok (.iinc 3 1, 3) := by decide +kernel
theorem dX4_firstAgain_45 : decode cX4_firstAgain 45 = .ok (.goto (-35), 3) := by decide +kernel
theorem dX4_firstAgain_48 : decode cX4_firstAgain 48 = .ok (.iinc 2 1, 3) := by decide +kernel
theorem dX4_firstAgain_51 : decode cX4_firstAgain 51 = .ok (.goto (-49), 3) := by decide +kernel
theorem dX4_firstAgain_54 : decode cX4_firstAgain 54 = .ok (.iconst (-1), 1) := by decide +kernel
theorem dX4_firstAgain_55 : decode cX4_firstAgain 55 = .ok (.ireturn, 1) := by decide +kernel
theorem dX4_all_0 : decode cX4_all 0 = .ok (.iload_n 1, 1) := by decide +kernel
theorem dX4_all_1 : decode cX4_all 1 = .ok (.tableswitch 63 0 3 #[31, 39, 47, 55], 31) := by decide +kernel
theorem dX4_all_32 : decode cX4_all 32 = .ok (.aload_n 0, 1) := by decide +kernel
theorem dX4_all_33 : decode cX4_all 33 = .ok (.getfield 39, 3) := by decide +kernel
theorem dX4_all_36 : decode cX4_all 36 = .ok (.invokevirtual 152, 3) := by decide +kernel
theorem dX4_all_39 : decode cX4_all 39 = .ok (.ireturn, 1) := by decide +kernel
theorem dX4_all_40 : decode cX4_all 40 = .ok (.aload_n 0, 1) := by decide +kernel
theorem dX4_all_41 : decode cX4_all 41 = .ok (.getfield 39, 3) := by decide +kernel
theorem dX4_all_44 : decode cX4_all 44 = .ok (.invokevirtual 170, 3) := by decide +kernel
theorem dX4_all_47 : decode cX4_all 47 = .ok (.ireturn, 1) := by decide +kernel
theorem dX4_all_48 : decode cX4_all 48 = .ok (.aload_n 0, 1) := by decide +kernel
theorem dX4_all_49 : decode cX4_all 49 = .ok (.getfield 39, 3) := by decide +kernel
theorem dX4_all_52 : decode cX4_all 52 = .ok (.invokevirtual 173, 3) := by decide +kernel
theorem dX4_all_55 : decode cX4_all 55 = .ok (.ireturn, 1) := by decide +kernel
theorem dX4_all_56 : decode cX4_all 56 = .ok (.aload_n 0, 1) := by decide +kernel
theorem dX4_all_57 : decode cX4_all 57 = .ok (.getfield 39, 3) := by decide +kernel
theorem dX4_all_60 : decode cX4_all 60 = .ok (.invokevirtual 176, 3) := by decide +kernel
theorem dX4_all_63 : decode cX4_all 63 = .ok (.ireturn, 1) := by decide +kernel
theorem dX4_all_64 : decode cX4_all 64 = .ok (.sipush (-1000), 3) := by decide +kernel
theorem dX4_all_67 : decode cX4_all 67 = .ok (.ireturn, 1) := by decide +kernel
theorem dX4_best_0 : decode cX4_best 0 = .ok (.aload_n 0, 1) := by decide +kernel
theorem dX4_best_1 : decode cX4_best 1 = .ok (.iload_n 1, 1) := by decide +kernel
theorem dX4_best_2 : decode cX4_best 2 = .ok (.invokevirtual 124, 3) := by decide +kernel
theorem dX4_best_5 : decode cX4_best 5 = .ok (.ifCond .eq 22, 3) := by decide +kernel
theorem dX4_best_8 : decode cX4_best 8 = .ok (.iload_n 2, 1) := by decide +kernel
theorem dX4_best_9 : decode cX4_best 9 = .ok (.iconst 0, 1) := by decide +kernel
theorem dX4_best_10 : decode cX4_best 10 = .ok (.bipush 10, 2) := by decide +kernel
theorem dX4_best_12 : decode cX4_best 12 = .ok (.invokestatic 76, 3) := by decide +kernel
theorem dX4_best_15 : decode cX4_best 15 = .ok (.ifCond .eq 12, 3) := by decide +kernel
theorem dX4_best_18 : decode cX4_best 18 = .ok (.iload_n 3, 1) := by decide +kernel
theorem dX4_best_19 : decode cX4_best 19 = .ok (.iconst 0, 1) := by decide +kernel
theorem dX4_best_20 : decode cX4_best 20 = .ok (.iconst 1, 1) := by decide +kernel
theorem dX4_best_21 : decode cX4_best 21 = .ok (.invokestatic 76, 3) := by decide +kernel
theorem dX4_best_24 : decode cX4_best 24 = .ok (.ifCond .ne 7, 3) := by decide +kernel
theorem dX4_best_27 : decode cX4_best 27 = .ok (.sipush (-1000), 3) := by decide +kernel
theorem dX4_best_30 : decode cX4_best 30 = .ok (.ireturn, 1) := by decide +kernel
theorem dX4_best_31 : decode cX4_best 31 = .ok (.bipush (-101), 2) := by decide +kernel
theorem dX4_best_33 : decode cX4_best 33 = .ok (.istore 4, 2) := by decide +kernel
theorem dX4_best_35 : decode cX4_best 35 = .ok (.bipush (-100), 2) := by decide +kernel
theorem dX4_best_37 : decode cX4_best 37 = .ok (.istore 5, 2) := by decide +kernel
theorem dX4_best_39 : decode cX4_best 39 = .ok (.bipush (-20), 2) := by decide +kernel
theorem dX4_best_41 : decode cX4_best 41 = .ok (.istore 6, 2) := by decide +kernel
theorem dX4_best_43 : decode cX4_best 43 = .ok (.iload 6, 2) := by decide +kernel
theorem dX4_best_45 : decode cX4_best 45 = .ok (.bipush 20, 2) := by decide +kernel
theorem dX4_best_47 : decode cX4_best 47 = .ok (.if_icmp .gt 56, 3) := by decide +kernel
theorem dX4_best_50 : decode cX4_best 50 = .ok (.aload_n 0, 1) := by decide +kernel
theorem dX4_best_51 : decode cX4_best 51 = .ok (.getfield 43, 3) := by decide +kernel
theorem dX4_best_54 : decode cX4_best 54 = .ok (.aload_n 0, 1) := by decide +kernel
theorem dX4_best_55 : decode cX4_best 55 = .ok (.getfield 39, 3) := by decide +kernel
theorem dX4_best_58 : decode cX4_best 58 = .ok (.invokevirtual 116, 3) := by decide +kernel
theorem dX4_best_61 : decode cX4_best 61 = .ok (.aload_n 0, 1) := by decide +kernel
theorem dX4_best_62 : decode cX4_best 62 = .ok (.getfield 43, 3) := by decide +kernel
theorem dX4_best_65 : decode cX4_best 65 = .ok (.getfield 100, 3) := by decide +kernel
theorem dX4_best_68 : decode cX4_best 68 = .ok (.iload_n 1, 1) := by decide +kernel
theorem dX4_best_69 : decode cX4_best 69 = .ok (.iload 6, 2) := by decide +kernel
theorem dX4_best_71 : decode cX4_best 71 = .ok (.iastore, 1) := by decide +kernel
theorem dX4_best_72 : decode cX4_best 72 = .ok (.aload_n 0, 1) := by decide +kernel
theorem dX4_best_73 : decode cX4_best 73 = .ok (.getfield 43, 3) := by decide +kernel
theorem dX4_best_76 : decode cX4_best 76 = .ok (.iload_n 2, 1) := by decide +kernel
theorem dX4_best_77 : decode cX4_best 77 = .ok (.invokevirtual 158, 3) := by decide +kernel
theorem dX4_best_80 : decode cX4_best 80 = .ok (.istore 7, 2) := by decide +kernel
theorem dX4_best_82 : decode cX4_best 82 = .ok (.iload 7, 2) := by decide +kernel
theorem dX4_best_84 : decode cX4_best 84 = .ok (.iload 4, 2) := by decide +kernel
theorem dX4_best_86 : decode cX4_best 86 = .ok (.if_icmp .le 11, 3) := by decide +kernel
theorem dX4_best_89 : decode cX4_best 89 = .ok (.iload 7, 2) := by decide +kernel
theorem dX4_best_91 : decode cX4_best 91 = .ok (.istore 4, 2) := by decide +kernel
theorem dX4_best_93 : decode cX4_best 93 = .ok (.iload 6, 2) := by decide +kernel
theorem dX4_best_95 : decode cX4_best 95 = .ok (.istore 5, 2) := by decide +kernel
theorem dX4_best_97 : decode cX4_best 97 = .ok (.iinc 6 1, 3) := by decide +kernel
theorem dX4_best_100 : decode cX4_best 100 = .ok (.goto (-57), 3) := by decide +kernel
theorem dX4_best_103 : decode cX4_best 103 = .ok (.iload_n 3, 1) := by decide +kernel
theorem dX4_best_104 : decode cX4_best 104 = .ok (.ifCond .ne 8, 3) := by decide +kernel
theorem dX4_best_107 : decode cX4_best 107 = .ok (.iload 5, 2) := by decide +kernel
theorem dX4_best_109 : decode cX4_best 109 = .ok (.goto 5, 3) := by decide +kernel
theorem dX4_best_112 : decode cX4_best 112 = .ok (.iload 4, 2) := by decide +kernel
theorem dX4_best_114 : decode cX4_best 114 = .ok (.ireturn, 1) := by decide +kernel
theorem dX4_leaveOut_0 : decode cX4_leaveOut 0 = .ok (.iload_n 1, 1) := by decide +kernel
theorem dX4_leaveOut_1 : decode cX4_leaveOut 1 = .ok (.iconst 0, 1) := by decide +kernel
theorem dX4_leaveOut_2 : decode cX4_leaveOut 2 = .ok (.bipush 40, 2) := by decide +kernel
theorem dX4_leaveOut_4 : decode cX4_leaveOut 4 = .ok (.invokestatic 76, 3) := by decide +kernel
theorem dX4_leaveOut_7 : decode cX4_leaveOut 7 = .ok (.ifCond .eq 12, 3) := by decide +kernel
theorem dX4_leaveOut_10 : decode cX4_leaveOut 10 = .ok (.iload_n 2, 1) := by decide +kernel
theorem dX4_leaveOut_11 : decode cX4_leaveOut 11 = .ok (.iconst 0, 1) := by decide +kernel
theorem dX4_leaveOut_12 : decode cX4_leaveOut 12 = .ok (.iconst 1, 1) := by decide +kernel
theorem dX4_leaveOut_13 : decode cX4_leaveOut 13 = .ok (.invokestatic 76, 3) := by decide +kernel
theorem dX4_leaveOut_16 : decode cX4_leaveOut 16 = .ok (.ifCond .ne 7, 3) := by decide +kernel
theorem dX4_leaveOut_19 : decode cX4_leaveOut 19 = .ok (.sipush (-1000), 3) := by decide +kernel
theorem dX4_leaveOut_22 : decode cX4_leaveOut 22 = .ok (.ireturn, 1) := by decide +kernel
theorem dX4_leaveOut_23 : decode cX4_leaveOut 23 = .ok (.aload_n 0, 1) := by decide +kernel
theorem dX4_leaveOut_24 : decode cX4_leaveOut 24 = .ok (.iload_n 1, 1) := by decide +kernel
theorem dX4_leaveOut_25 : decode cX4_leaveOut 25 = .ok (.invokevirtual 179, 3) := by decide +kernel
theorem dX4_leaveOut_28 : decode cX4_leaveOut 28 = .ok (.istore_n 3, 1) := by decide +kernel
theorem dX4_leaveOut_29 : decode cX4_leaveOut 29 = .ok (.iconst (-1), 1) := by decide +kernel
theorem dX4_leaveOut_30 : decode cX4_leaveOut 30 = .ok (.istore 4, 2) := by decide +kernel
theorem dX4_leaveOut_32 : decode cX4_leaveOut 32 = .ok (.iconst 0, 1) := by decide +kernel
theorem dX4_leaveOut_33 : decode cX4_leaveOut 33 = .ok (.istore 5, 2) := by decide +kernel
theorem dX4_leaveOut_35 : decode cX4_leaveOut 35 = .ok (.iload 5, 2) := by decide +kernel
theorem dX4_leaveOut_37 : decode cX4_leaveOut 37 = .ok (.aload_n 0, 1) := by decide +kernel
theorem dX4_leaveOut_38 : decode cX4_leaveOut 38 = .ok (.getfield 39, 3) := by decide +kernel
theorem dX4_leaveOut_41 : decode cX4_leaveOut 41 = .ok (.getfield 127, 3) := by decide +kernel
theorem dX4_leaveOut_44 : decode cX4_leaveOut 44 = .ok (.if_icmp .ge 52, 3) := by decide +kernel
theorem dX4_leaveOut_47 : decode cX4_leaveOut 47 = .ok (.aload_n 0, 1) := by decide +kernel
theorem dX4_leaveOut_48 : decode cX4_leaveOut 48 = .ok (.getfield 43, 3) := by decide +kernel
theorem dX4_leaveOut_51 : decode cX4_leaveOut 51 = .ok (.aload_n 0, 1) := by decide +kernel
theorem dX4_leaveOut_52 : decode cX4_leaveOut 52 = .ok (.getfield 39, 3) := by decide +kernel
theorem dX4_leaveOut_55 : decode cX4_leaveOut 55 = .ok (.invokevirtual 116, 3) := by decide +kernel
theorem dX4_leaveOut_58 : decode cX4_leaveOut 58 = .ok (.aload_n 0, 1) := by decide +kernel
theorem dX4_leaveOut_59 : decode cX4_leaveOut 59 = .ok (.getfield 43, 3) := by decide +kernel
theorem dX4_leaveOut_62 : decode cX4_leaveOut 62 = .ok (.iload 5, 2) := by decide +kernel
theorem dX4_leaveOut_64 : decode cX4_leaveOut 64 = .ok (.putfield 182, 3) := by decide +kernel
theorem dX4_leaveOut_67 : decode cX4_leaveOut 67 = .ok (.aload_n 0, 1) := by decide +kernel
theorem dX4_leaveOut_68 : decode cX4_leaveOut 68 = .ok (.getfield 43, 3) := by decide +kernel
theorem dX4_leaveOut_71 : decode cX4_leaveOut 71 = .ok (.iload_n 1, 1) := by decide +kernel
theorem dX4_leaveOut_72 : decode cX4_leaveOut 72 = .ok (.invokevirtual 158, 3) := by decide +kernel
theorem dX4_leaveOut_75 : decode cX4_leaveOut 75 = .ok (.istore 6, 2) := by decide +kernel
theorem dX4_leaveOut_77 : decode cX4_leaveOut 77 = .ok (.iload 6, 2) := by decide +kernel
theorem dX4_leaveOut_79 : decode cX4_leaveOut 79 = .ok (.iload_n 3, 1) := by decide +kernel
theorem dX4_leaveOut_80 : decode cX4_leaveOut 80 = .ok (.if_icmp .le 10, 3) := by decide +kernel
theorem dX4_leaveOut_83 : decode cX4_leaveOut 83 = .ok (.iload 6, 2) := by decide +kernel
theorem dX4_leaveOut_85 : decode cX4_leaveOut 85 = .ok (.istore_n 3, 1) := by decide +kernel
theorem dX4_leaveOut_86 : decode cX4_leaveOut 86 = .ok (.iload 5, 2) := by decide +kernel
theorem dX4_leaveOut_88 : decode cX4_leaveOut 88 = .ok (.istore 4, 2) := by decide +kernel
theorem dX4_leaveOut_90 : decode cX4_leaveOut 90 = .ok (.iinc 5 1, 3) := by decide +kernel
theorem dX4_leaveOut_93 : decode cX4_leaveOut 93 = .ok (.goto (-58), 3) := by decide +kernel
theorem dX4_leaveOut_96 : decode cX4_leaveOut 96 = .ok (.iload_n 2, 1) := by decide +kernel
theorem dX4_leaveOut_97 : decode cX4_leaveOut 97 = .ok (.ifCond .ne 8, 3) := by decide +kernel
theorem dX4_leaveOut_100 : decode cX4_leaveOut 100 = .ok (.iload 4, 2) := by decide +kernel
theorem dX4_leaveOut_102 : decode cX4_leaveOut 102 = .ok (.goto 4, 3) := by decide +kernel
theorem dX4_leaveOut_105 : decode cX4_leaveOut 105 = .ok (.iload_n 3, 1) := by decide +kernel
theorem dX4_leaveOut_106 : decode cX4_leaveOut 106 = .ok (.ireturn, 1) := by decide +kernel
theorem dX4_spare_0 : decode cX4_spare 0 = .ok (.iload_n 1, 1) := by decide +kernel
theorem dX4_spare_1 : decode cX4_spare 1 = .ok (.iconst 0, 1) := by decide +kernel
theorem dX4_spare_2 : decode cX4_spare 2 = .ok (.bipush 40, 2) := by decide +kernel
theorem dX4_spare_4 : decode cX4_spare 4 = .ok (.invokestatic 76, 3) := by decide +kernel
theorem dX4_spare_7 : decode cX4_spare 7 = .ok (.ifCond .eq 12, 3) := by decide +kernel
theorem dX4_spare_10 : decode cX4_spare 10 = .ok (.iload_n 2, 1) := by decide +kernel
theorem dX4_spare_11 : decode cX4_spare 11 = .ok (.iconst 0, 1) := by decide +kernel
theorem dX4_spare_12 : decode cX4_spare 12 = .ok (.iconst 1, 1) := by decide +kernel
theorem dX4_spare_13 : decode cX4_spare 13 = .ok (.invokestatic 76, 3) := by decide +kernel
theorem dX4_spare_16 : decode cX4_spare 16 = .ok (.ifCond .ne 7, 3) := by decide +kernel
theorem dX4_spare_19 : decode cX4_spare 19 = .ok (.sipush (-1000), 3) := by decide +kernel
theorem dX4_spare_22 : decode cX4_spare 22 = .ok (.ireturn, 1) := by decide +kernel
theorem dX4_spare_23 : decode cX4_spare 23 = .ok (.aload_n 0, 1) := by decide +kernel
theorem dX4_spare_24 : decode cX4_spare 24 = .ok (.iload_n 1, 1) := by decide +kernel
theorem dX4_spare_25 : decode cX4_spare 25 = .ok (.invokevirtual 179, 3) := by decide +kernel
theorem dX4_spare_28 : decode cX4_spare 28 = .ok (.istore_n 3, 1) := by decide +kernel
theorem dX4_spare_29 : decode cX4_spare 29 = .ok (.iconst (-1), 1) := by decide +kernel
theorem dX4_spare_30 : decode cX4_spare 30 = .ok (.istore 4, 2) := by decide +kernel
theorem dX4_spare_32 : decode cX4_spare 32 = .ok (.iconst 0, 1) := by decide +kernel
theorem dX4_spare_33 : decode cX4_spare 33 = .ok (.istore 5, 2) := by decide +kernel
theorem dX4_spare_35 : decode cX4_spare 35 = .ok (.iload 5, 2) := by decide +kernel
theorem dX4_spare_37 : decode cX4_spare 37 = .ok (.bipush 8, 2) := by decide +kernel
theorem dX4_spare_39 : decode cX4_spare 39 = .ok (.if_icmp .ge 64, 3) := by decide +kernel
theorem dX4_spare_42 : decode cX4_spare 42 = .ok (.aload_n 0, 1) := by decide +kernel
theorem dX4_spare_43 : decode cX4_spare 43 = .ok (.getfield 43, 3) := by decide +kernel
theorem dX4_spare_46 : decode cX4_spare 46 = .ok (.aload_n 0, 1) := by decide +kernel
theorem dX4_spare_47 : decode cX4_spare 47 = .ok (.getfield 39, 3) := by decide +kernel
theorem dX4_spare_50 : decode cX4_spare 50 = .ok (.invokevirtual 116, 3) := by decide +kernel
theorem dX4_spare_53 : decode cX4_spare 53 = .ok (.aload_n 0, 1) := by decide +kernel
theorem dX4_spare_54 : decode cX4_spare 54 = .ok (.getfield 43, 3) := by decide +kernel
theorem dX4_spare_57 : decode cX4_spare 57 = .ok (.aload_n 0, 1) := by decide +kernel
theorem dX4_spare_58 : decode cX4_spare 58 = .ok (.getfield 39, 3) := by decide +kernel
theorem dX4_spare_61 : decode cX4_spare 61 = .ok (.getfield 94, 3) := by decide +kernel
theorem dX4_spare_64 : decode cX4_spare 64 = .ok (.iconst 1, 1) := by decide +kernel
theorem dX4_spare_65 : decode cX4_spare 65 = .ok (.iload 5, 2) := by decide +kernel
theorem dX4_spare_67 : decode cX4_spare 67 = .ok (.ishl, 1) := by decide +kernel
theorem dX4_spare_68 : decode cX4_spare 68 = .ok (.iconst (-1), 1) := by decide +kernel
theorem dX4_spare_69 : decode cX4_spare 69 = .ok (.ixor, 1) := by decide +kernel
theorem dX4_spare_70 : decode cX4_spare 70 = .ok (.iand, 1) := by decide +kernel
theorem dX4_spare_71 : decode cX4_spare 71 = .ok (.putfield 94, 3) := by decide +kernel
theorem dX4_spare_74 : decode cX4_spare 74 = .ok (.aload_n 0, 1) := by decide +kernel
theorem dX4_spare_75 : decode cX4_spare 75 = .ok (.getfield 43, 3) := by decide +kernel
theorem dX4_spare_78 : decode cX4_spare 78 = .ok (.iload_n 1, 1) := by decide +kernel
theorem dX4_spare_79 : decode cX4_spare 79 = .ok (.invokevirtual 158, 3) := by decide +kernel
theorem dX4_spare_82 : decode cX4_spare 82 = .ok (.istore 6, 2) := by decide +kernel
theorem dX4_spare_84 : decode cX4_spare 84 = .ok (.iload 6, 2) := by decide +kernel
theorem dX4_spare_86 : decode cX4_spare 86 = .ok (.iload_n 3, 1) := by decide +kernel
theorem dX4_spare_87 : decode cX4_spare 87 = .ok (.if_icmp .le 10, 3) := by decide +kernel
theorem dX4_spare_90 : decode cX4_spare 90 = .ok (.iload 6, 2) := by decide +kernel
theorem dX4_spare_92 : decode cX4_spare 92 = .ok (.istore_n 3, 1) := by decide +kernel
theorem dX4_spare_93 : decode cX4_spare 93 = .ok (.iload 5, 2) := by decide +kernel
theorem dX4_spare_95 : decode cX4_spare 95 = .ok (.istore 4, 2) := by decide +kernel
theorem dX4_spare_97 : decode cX4_spare 97 = .ok (.iinc 5 1, 3) := by decide +kernel
theorem dX4_spare_100 : decode cX4_spare 100 = .ok (.goto (-65), 3) := by decide +kernel
theorem dX4_spare_103 : decode cX4_spare 103 = .ok (.iload_n 2, 1) := by decide +kernel
theorem dX4_spare_104 : decode cX4_spare 104 = .ok (.ifCond .ne 8, 3) := by decide +kernel
theorem dX4_spare_107 : decode cX4_spare 107 = .ok (.iload 4, 2) := by decide +kernel
theorem dX4_spare_109 : decode cX4_spare 109 = .ok (.goto 4, 3) := by decide +kernel
theorem dX4_spare_112 : decode cX4_spare 112 = .ok (.iload_n 3, 1) := by decide +kernel
theorem dX4_spare_113 : decode cX4_spare 113 = .ok (.ireturn, 1) := by decide +kernel
theorem dX4_gladAsItIs_0 : decode cX4_gladAsItIs 0 = .ok (.aload_n 0, 1) := by decide +kernel
theorem dX4_gladAsItIs_1 : decode cX4_gladAsItIs 1 = .ok (.getfield 43, 3) := by decide +kernel
theorem dX4_gladAsItIs_4 : decode cX4_gladAsItIs 4 = .ok (.aload_n 0, 1) := by decide +kernel
theorem dX4_gladAsItIs_5 : decode cX4_gladAsItIs 5 = .ok (.getfield 39, 3) := by decide +kernel
theorem dX4_gladAsItIs_8 : decode cX4_gladAsItIs 8 = .ok (.invokevirtual 116, 3) := by decide +kernel
theorem dX4_gladAsItIs_11 : decode cX4_gladAsItIs 11 = .ok (.aload_n 0, 1) := by decide +kernel
theorem dX4_gladAsItIs_12 : decode cX4_gladAsItIs 12 = .ok (.getfield 43, 3) := by decide +kernel
theorem dX4_gladAsItIs_15 : decode cX4_gladAsItIs 15 = .ok (.iload_n 1, 1) := by decide +kernel
theorem dX4_gladAsItIs_16 : decode cX4_gladAsItIs 16 = .ok (.invokevirtual 158, 3) := by decide +kernel
theorem dX4_gladAsItIs_19 : decode cX4_gladAsItIs 19 = .ok (.ireturn, 1) := by decide +kernel
theorem dX4_add_0 : decode cX4_add 0 = .ok (.aload_n 0, 1) := by decide +kernel
theorem dX4_add_1 : decode cX4_add 1 = .ok (.iload_n 1, 1) := by decide +kernel
theorem dX4_add_2 : decode cX4_add 2 = .ok (.iload_n 2, 1) := by decide +kernel
theorem dX4_add_3 : decode cX4_add 3 = .ok (.invokevirtual 131, 3) := by decide +kernel
theorem dX4_add_6 : decode cX4_add 6 = .ok (.ifCond .eq 12, 3) := by decide +kernel
theorem dX4_add_9 : decode cX4_add 9 = .ok (.iload_n 3, 1) := by decide +kernel
theorem dX4_add_10 : decode cX4_add 10 = .ok (.iconst 0, 1) := by decide +kernel
theorem dX4_add_11 : decode cX4_add 11 = .ok (.iconst 1, 1) := by decide +kernel
theorem dX4_add_12 : decode cX4_add 12 = .ok (.invokestatic 76, 3) := by decide +kernel
theorem dX4_add_15 : decode cX4_add 15 = .ok (.ifCond .ne 7, 3) := by decide +kernel
theorem dX4_add_18 : decode cX4_add 18 = .ok (.sipush (-1000), 3) := by decide +kernel
theorem dX4_add_21 : decode cX4_add 21 = .ok (.ireturn, 1) := by decide +kernel
theorem dX4_add_22 : decode cX4_add 22 = .ok (.aload_n 0, 1) := by decide +kernel
theorem dX4_add_23 : decode cX4_add 23 = .ok (.getfield 43, 3) := by decide +kernel
theorem dX4_add_26 : decode cX4_add 26 = .ok (.aload_n 0, 1) := by decide +kernel
theorem dX4_add_27 : decode cX4_add 27 = .ok (.getfield 39, 3) := by decide +kernel
theorem dX4_add_30 : decode cX4_add 30 = .ok (.invokevirtual 116, 3) := by decide +kernel
theorem dX4_add_33 : decode cX4_add 33 = .ok (.aload_n 0, 1) := by decide +kernel
theorem dX4_add_34 : decode cX4_add 34 = .ok (.getfield 43, 3) := by decide +kernel
theorem dX4_add_37 : decode cX4_add 37 = .ok (.invokevirtual 120, 3) := by decide +kernel
theorem dX4_add_40 : decode cX4_add 40 = .ok (.pop, 1) := by decide +kernel
theorem dX4_add_41 : decode cX4_add 41 = .ok (.aload_n 0, 1) := by decide +kernel
theorem dX4_add_42 : decode cX4_add 42 = .ok (.getfield 39, 3) := by decide +kernel
theorem dX4_add_45 : decode cX4_add 45 = .ok (.getfield 100, 3) := by decide +kernel
theorem dX4_add_48 : decode cX4_add 48 = .ok (.iload_n 2, 1) := by decide +kernel
theorem dX4_add_49 : decode cX4_add 49 = .ok (.iaload, 1) := by decide +kernel
theorem dX4_add_50 : decode cX4_add 50 = .ok (.aload_n 0, 1) := by decide +kernel
theorem dX4_add_51 : decode cX4_add 51 = .ok (.getfield 43, 3) := by decide +kernel
theorem dX4_add_54 : decode cX4_add 54 = .ok (.getfield 185, 3) := by decide +kernel
theorem dX4_add_57 : decode cX4_add 57 = .ok (.iload_n 2, 1) := by decide +kernel
theorem dX4_add_58 : decode cX4_add 58 = .ok (.iaload, 1) := by decide +kernel
theorem dX4_add_59 : decode cX4_add 59 = .ok (.iadd, 1) := by decide +kernel
theorem dX4_add_60 : decode cX4_add 60 = .ok (.istore 4, 2) := by decide +kernel
theorem dX4_add_62 : decode cX4_add 62 = .ok (.aload_n 0, 1) := by decide +kernel
theorem dX4_add_63 : decode cX4_add 63 = .ok (.getfield 43, 3) := by decide +kernel
theorem dX4_add_66 : decode cX4_add 66 = .ok (.getfield 100, 3) := by decide +kernel
theorem dX4_add_69 : decode cX4_add 69 = .ok (.iload_n 2, 1) := by decide +kernel
theorem dX4_add_70 : decode cX4_add 70 = .ok (.iaload, 1) := by decide +kernel
theorem dX4_add_71 : decode cX4_add 71 = .ok (.istore 5, 2) := by decide +kernel
theorem dX4_add_73 : decode cX4_add 73 = .ok (.iconst (-1), 1) := by decide +kernel
theorem dX4_add_74 : decode cX4_add 74 = .ok (.istore 6, 2) := by decide +kernel
theorem dX4_add_76 : decode cX4_add 76 = .ok (.aload_n 0, 1) := by decide +kernel
theorem dX4_add_77 : decode cX4_add 77 = .ok (.getfield 39, 3) := by decide +kernel
theorem dX4_add_80 : decode cX4_add 80 = .ok (.getfield 94, 3) := by decide +kernel
theorem dX4_add_83 : decode cX4_add 83 = .ok (.aload_n 0, 1) := by decide +kernel
theorem dX4_add_84 : decode cX4_add 84 = .ok (.getfield 39, 3) := by decide +kernel
theorem dX4_add_87 : decode cX4_add 87 = .ok (.iload_n 1, 1) := by decide +kernel
theorem dX4_add_88 : decode cX4_add 88 = .ok (.iload_n 2, 1) := by decide +kernel
theorem dX4_add_89 : decode cX4_add 89 = .ok (.invokevirtual 138, 3) := by decide +kernel
theorem dX4_add_92 : decode cX4_add 92 = .ok (.iconst (-1), 1) := by decide +kernel
theorem dX4_add_93 : decode cX4_add 93 = .ok (.ixor, 1) := by decide +kernel
theorem dX4_add_94 : decode cX4_add 94 = .ok (.iand, 1) := by decide +kernel
theorem dX4_add_95 : decode cX4_add 95 = .ok (.istore 7, 2) := by decide +kernel
theorem dX4_add_97 : decode cX4_add 97 = .ok (.iconst 0, 1) := by decide +kernel
theorem dX4_add_98 : decode cX4_add 98 = .ok (.istore 8, 2) := by decide +kernel
theorem dX4_add_100 : decode cX4_add 100 = .ok (.iload 8, 2) := by decide +kernel
theorem dX4_add_102 : decode cX4_add 102 = .ok (.bipush 8, 2) := by decide +kernel
theorem dX4_add_104 : decode cX4_add 104 = .ok (.if_icmp .ge 53, 3) := by decide +kernel
theorem dX4_add_107 : decode cX4_add 107 = .ok (.iload 7, 2) := by decide +kernel
theorem dX4_add_109 : decode cX4_add 109 = .ok (.iload 8, 2) := by decide +kernel
theorem dX4_add_111 : decode cX4_add 111 = .ok (.ishr, 1) := by decide +kernel
theorem dX4_add_112 : decode cX4_add 112 = .ok (.iconst 1, 1) := by decide +kernel
theorem dX4_add_113 : decode cX4_add 113 = .ok (.iand, 1) := by decide +kernel
theorem dX4_add_114 : decode cX4_add 114 = .ok (.ifCond .eq 37, 3) := by decide +kernel
theorem dX4_add_117 : decode cX4_add 117 = .ok (.iload 4, 2) := by decide +kernel
theorem dX4_add_119 : decode cX4_add 119 = .ok (.aload_n 0, 1) := by decide +kernel
theorem dX4_add_120 : decode cX4_add 120 = .ok (.getfield 39, 3) := by decide +kernel
theorem dX4_add_123 : decode cX4_add 123 = .ok (.iload_n 2, 1) := by decide +kernel
theorem dX4_add_124 : decode cX4_add 124 = .ok (.iload_n 1, 1) := by decide +kernel
theorem dX4_add_125 : decode cX4_add 125 = .ok (.iload 8, 2) := by decide +kernel
theorem dX4_add_127 : decode cX4_add 127 = .ok (.invokevirtual 134, 3) := by decide +kernel
theorem dX4_add_130 : decode cX4_add 130 = .ok (.iadd, 1) := by decide +kernel
theorem dX4_add_131 : decode cX4_add 131 = .ok (.invokestatic 188, 3) := by decide +kernel
theorem dX4_add_134 : decode cX4_add 134 = .ok (.istore 9, 2) := by decide +kernel
theorem dX4_add_136 : decode cX4_add 136 = .ok (.iload 9, 2) := by decide +kernel
theorem dX4_add_138 : decode cX4_add 138 = .ok (.iload 5, 2) := by decide +kernel
theorem dX4_add_140 : decode cX4_add 140 = .ok (.if_icmp .le 11, 3) := by decide +kernel
theorem dX4_add_143 : decode cX4_add 143 = .ok (.iload 9, 2) := by decide +kernel
theorem dX4_add_145 : decode cX4_add 145 = .ok (.istore 5, 2) := by decide +kernel
theorem dX4_add_147 : decode cX4_add 147 = .ok (.iload 8, 2) := by decide +kernel
theorem dX4_add_149 : decode cX4_add 149 = .ok (.istore 6, 2) := by decide +kernel
theorem dX4_add_151 : decode cX4_add 151 = .ok (.iinc 8 1, 3) := by decide +kernel
theorem dX4_add_154 : decode cX4_add 154 = .ok (.goto (-54), 3) := by decide +kernel
theorem dX4_add_157 : decode cX4_add 157 = .ok (.iload_n 3, 1) := by decide +kernel
theorem dX4_add_158 : decode cX4_add 158 = .ok (.ifCond .ne 8, 3) := by decide +kernel
theorem dX4_add_161 : decode cX4_add 161 = .ok (.iload 6, 2) := by decide +kernel
theorem dX4_add_163 : decode cX4_add 163 = .ok (.goto 5, 3) := by decide +kernel
theorem dX4_add_166 : decode cX4_add 166 = .ok (.iload 5, 2) := by decide +kernel
theorem dX4_add_168 : decode cX4_add 168 = .ok (.ireturn, 1) := by decide +kernel
theorem dX4_bounded_0 : decode cX4_bounded 0 = .ok (.bipush (-20), 2) := by decide +kernel
theorem dX4_bounded_2 : decode cX4_bounded 2 = .ok (.bipush 20, 2) := by decide +kernel
theorem dX4_bounded_4 : decode cX4_bounded 4 = .ok (.iload_n 0, 1) := by decide +kernel
theorem dX4_bounded_5 : decode cX4_bounded 5 = .ok (.invokestatic 191, 3) := by decide +kernel
theorem dX4_bounded_8 : decode cX4_bounded 8 = .ok (.invokestatic 196, 3) := by decide +kernel
theorem dX4_bounded_11 : decode cX4_bounded 11 = .ok (.ireturn, 1) := by decide +kernel
theorem dX4_tells_0 : decode cX4_tells 0 = .ok (.iload_n 1, 1) := by decide +kernel
theorem dX4_tells_1 : decode cX4_tells 1 = .ok (.invokestatic 199, 3) := by decide +kernel
theorem dX4_tells_4 : decode cX4_tells 4 = .ok (.ifCond .eq 20, 3) := by decide +kernel
theorem dX4_tells_7 : decode cX4_tells 7 = .ok (.aload_n 0, 1) := by decide +kernel
theorem dX4_tells_8 : decode cX4_tells 8 = .ok (.iload_n 2, 1) := by decide +kernel
theorem dX4_tells_9 : decode cX4_tells 9 = .ok (.invokevirtual 124, 3) := by decide +kernel
theorem dX4_tells_12 : decode cX4_tells 12 = .ok (.ifCond .eq 12, 3) := by decide +kernel
theorem dX4_tells_15 : decode cX4_tells 15 = .ok (.iload_n 3, 1) := by decide +kernel
theorem dX4_tells_16 : decode cX4_tells 16 = .ok (.iconst 0, 1) := by decide +kernel
theorem dX4_tells_17 : decode cX4_tells 17 = .ok (.iconst 5, 1) := by decide +kernel
theorem dX4_tells_18 : decode cX4_tells 18 = .ok (.invokestatic 76, 3) := by decide +kernel
theorem dX4_tells_21 : decode cX4_tells 21 = .ok (.ifCond .ne 7, 3) := by decide +kernel
theorem dX4_tells_24 : decode cX4_tells 24 = .ok (.sipush (-1000), 3) := by decide +kernel
theorem dX4_tells_27 : decode cX4_tells 27 = .ok (.ireturn, 1) := by decide +kernel
theorem dX4_tells_28 : decode cX4_tells 28 = .ok (.aload_n 0, 1) := by decide +kernel
theorem dX4_tells_29 : decode cX4_tells 29 = .ok (.getfield 17, 3) := by decide +kernel
theorem dX4_tells_32 : decode cX4_tells 32 = .ok (.iload_n 1, 1) := by decide +kernel
theorem dX4_tells_33 : decode cX4_tells 33 = .ok (.aaload, 1) := by decide +kernel
theorem dX4_tells_34 : decode cX4_tells 34 = .ok (.astore 4, 2) := by decide +kernel
theorem dX4_tells_36 : decode cX4_tells 36 = .ok (.aload 4, 2) := by decide +kernel
theorem dX4_tells_38 : decode cX4_tells 38 = .ok (.invokevirtual 202, 3) := by decide +kernel
theorem dX4_tells_41 : decode cX4_tells 41 = .ok (.ifCond .eq 6, 3) := by decide +kernel
theorem dX4_tells_44 : decode cX4_tells 44 = .ok (.bipush (-11), 2) := by decide +kernel
theorem dX4_tells_46 : decode cX4_tells 46 = .ok (.ireturn, 1) := by decide +kernel
theorem dX4_tells_47 : decode cX4_tells 47 = .ok (.aload 4, 2) := by decide +kernel
theorem dX4_tells_49 : decode cX4_tells 49 = .ok (.getfield 205, 3) := by decide +kernel
theorem dX4_tells_52 : decode cX4_tells 52 = .ok (.bipush 10, 2) := by decide +kernel
theorem dX4_tells_54 : decode cX4_tells 54 = .ok (.if_icmp .le 7, 3) := by decide +kernel
theorem dX4_tells_57 : decode cX4_tells 57 = .ok (.sipush (-1000), 3) := by decide +kernel
theorem dX4_tells_60 : decode cX4_tells 60 = .ok (.ireturn, 1) := by decide +kernel
theorem dX4_tells_61 : decode cX4_tells 61 = .ok (.iload_n 3, 1) := by decide +kernel
theorem dX4_tells_62 : decode cX4_tells 62 = .ok (.tableswitch 74 0 4 #[34, 74, 74, 56, 56], 34) := by decide +kernel
theorem dX4_tells_96 : decode cX4_tells 96 = .ok (.aload_n 0, 1) := by decide +kernel
theorem dX4_tells_97 : decode cX4_tells 97 = .ok (.getfield 43, 3) := by decide +kernel
theorem dX4_tells_100 : decode cX4_tells 100 = .ok (.aload_n 0, 1) := by decide +kernel
theorem dX4_tells_101 : decode cX4_tells 101 = .ok (.getfield 39, 3) := by decide +kernel
theorem dX4_tells_104 : decode cX4_tells 104 = .ok (.invokevirtual 116, 3) := by decide +kernel
theorem dX4_tells_107 : decode cX4_tells 107 = .ok (.aload_n 0, 1) := by decide +kernel
theorem dX4_tells_108 : decode cX4_tells 108 = .ok (.getfield 43, 3) := by decide +kernel
theorem dX4_tells_111 : decode cX4_tells 111 = .ok (.aload 4, 2) := by decide +kernel
theorem dX4_tells_113 : decode cX4_tells 113 = .ok (.iload_n 2, 1) := by decide +kernel
theorem dX4_tells_114 : decode cX4_tells 114 = .ok (.invokevirtual 206, 3) := by decide +kernel
theorem dX4_tells_117 : decode cX4_tells 117 = .ok (.ireturn, 1) := by decide +kernel
theorem dX4_tells_118 : decode cX4_tells 118 = .ok (.aload_n 0, 1) := by decide +kernel
theorem dX4_tells_119 : decode cX4_tells 119 = .ok (.aload 4, 2) := by decide +kernel
theorem dX4_tells_121 : decode cX4_tells 121 = .ok (.iload_n 2, 1) := by decide +kernel
theorem dX4_tells_122 : decode cX4_tells 122 = .ok (.iload_n 3, 1) := by decide +kernel
theorem dX4_tells_123 : decode cX4_tells 123 = .ok (.iconst 4, 1) := by decide +kernel
theorem dX4_tells_124 : decode cX4_tells 124 = .ok (.if_icmp .ne 7, 3) := by decide +kernel
theorem dX4_tells_127 : decode cX4_tells 127 = .ok (.iconst 1, 1) := by decide +kernel
theorem dX4_tells_128 : decode cX4_tells 128 = .ok (.goto 4, 3) := by decide +kernel
theorem dX4_tells_131 : decode cX4_tells 131 = .ok (.iconst 0, 1) := by decide +kernel
theorem dX4_tells_132 : decode cX4_tells 132 = .ok (.invokevirtual 210, 3) := by decide +kernel
theorem dX4_tells_135 : decode cX4_tells 135 = .ok (.ireturn, 1) := by decide +kernel
theorem dX4_tells_136 : decode cX4_tells 136 = .ok (.aload_n 0, 1) := by decide +kernel
theorem dX4_tells_137 : decode cX4_tells 137 = .ok (.aload 4, 2) := by decide +kernel
theorem dX4_tells_139 : decode cX4_tells 139 = .ok (.iload_n 2, 1) := by decide +kernel
theorem dX4_tells_140 : decode cX4_tells 140 = .ok (.iload_n 3, 1) := by decide +kernel
theorem dX4_tells_141 : decode cX4_tells 141 = .ok (.invokevirtual 214, 3) := by decide +kernel
theorem dX4_tells_144 : decode cX4_tells 144 = .ok (.ireturn, 1) := by decide +kernel
theorem dX4_bitsSo_0 : decode cX4_bitsSo 0 = .ok (.iload_n 3, 1) := by decide +kernel
theorem dX4_bitsSo_1 : decode cX4_bitsSo 1 = .ok (.iconst 1, 1) := by decide +kernel
theorem dX4_bitsSo_2 : decode cX4_bitsSo 2 = .ok (.if_icmp .ne 8, 3) := by decide +kernel
theorem dX4_bitsSo_5 : decode cX4_bitsSo 5 = .ok (.bipush 6, 2) := by decide +kernel
theorem dX4_bitsSo_7 : decode cX4_bitsSo 7 = .ok (.goto 17, 3) := by decide +kernel
theorem dX4_bitsSo_10 : decode cX4_bitsSo 10 = .ok (.iload_n 3, 1) := by decide +kernel
theorem dX4_bitsSo_11 : decode cX4_bitsSo 11 = .ok (.iconst 2, 1) := by decide +kernel
theorem dX4_bitsSo_12 : decode cX4_bitsSo 12 = .ok (.if_icmp .ne 8, 3) := by decide +kernel
theorem dX4_bitsSo_15 : decode cX4_bitsSo 15 = .ok (.bipush 10, 2) := by decide +kernel
theorem dX4_bitsSo_17 : decode cX4_bitsSo 17 = .ok (.goto 7, 3) := by decide +kernel
theorem dX4_bitsSo_20 : decode cX4_bitsSo 20 = .ok (.aload_n 0, 1) := by decide +kernel
theorem dX4_bitsSo_21 : decode cX4_bitsSo 21 = .ok (.getfield 73, 3) := by decide +kernel
theorem dX4_bitsSo_24 : decode cX4_bitsSo 24 = .ok (.istore 4, 2) := by decide +kernel
theorem dX4_bitsSo_26 : decode cX4_bitsSo 26 = .ok (.iconst 0, 1) := by decide +kernel
theorem dX4_bitsSo_27 : decode cX4_bitsSo 27 = .ok (.istore 5, 2) := by decide +kernel
theorem dX4_bitsSo_29 : decode cX4_bitsSo 29 = .ok (.iconst 0, 1) := by decide +kernel
theorem dX4_bitsSo_30 : decode cX4_bitsSo 30 = .ok (.istore 6, 2) := by decide +kernel
theorem dX4_bitsSo_32 : decode cX4_bitsSo 32 = .ok (.iload 6, 2) := by decide +kernel
theorem dX4_bitsSo_34 : decode cX4_bitsSo 34 = .ok (.iload 4, 2) := by decide +kernel
theorem dX4_bitsSo_36 : decode cX4_bitsSo 36 = .ok (.if_icmp .ge 89, 3) := by decide +kernel
theorem dX4_bitsSo_39 : decode cX4_bitsSo 39 = .ok (.aload_n 0, 1) := by decide +kernel
theorem dX4_bitsSo_40 : decode cX4_bitsSo 40 = .ok (.getfield 43, 3) := by decide +kernel
theorem dX4_bitsSo_43 : decode cX4_bitsSo 43 = .ok (.aload_n 0, 1) := by decide +kernel
theorem dX4_bitsSo_44 : decode cX4_bitsSo 44 = .ok (.getfield 39, 3) := by decide +kernel
theorem dX4_bitsSo_47 : decode cX4_bitsSo 47 = .ok (.invokevirtual 116, 3) := by decide +kernel
theorem dX4_bitsSo_50 : decode cX4_bitsSo 50 = .ok (.iload_n 3, 1) := by decide +kernel
theorem dX4_bitsSo_51 : decode cX4_bitsSo 51 = .ok (.iconst 1, 1) := by decide +kernel
theorem dX4_bitsSo_52 : decode cX4_bitsSo 52 = .ok (.if_icmp .ne 17, 3) := by decide +kernel
theorem dX4_bitsSo_55 : decode cX4_bitsSo 55 = .ok (.aload_n 0, 1) := by decide +kernel
theorem dX4_bitsSo_56 : decode cX4_bitsSo 56 = .ok (.getfield 43, 3) := by decide +kernel
theorem dX4_bitsSo_59 : decode cX4_bitsSo 59 = .ok (.getfield 106, 3) := by decide +kernel
theorem dX4_bitsSo_62 : decode cX4_bitsSo 62 = .ok (.iload_n 2, 1) := by decide +kernel
theorem dX4_bitsSo_63 : decode cX4_bitsSo 63 = .ok (.iload 6, 2) := by decide +kernel
theorem dX4_bitsSo_65 : decode cX4_bitsSo 65 = .ok (.iastore, 1) := by decide +kernel
theorem dX4_bitsSo_66 : decode cX4_bitsSo 66 = .ok (.goto 31, 3) := by decide +kernel
theorem dX4_bitsSo_69 : decode cX4_bitsSo 69 = .ok (.iload_n 3, 1) := by decide +kernel
theorem dX4_bitsSo_70 : decode cX4_bitsSo 70 = .ok (.iconst 2, 1) := by decide +kernel
theorem dX4_bitsSo_71 : decode cX4_bitsSo 71 = .ok (.if_icmp .ne 17, 3) := by decide +kernel
theorem dX4_bitsSo_74 : decode cX4_bitsSo 74 = .ok (.aload_n 0, 1) := by decide +kernel
theorem dX4_bitsSo_75 : decode cX4_bitsSo 75 = .ok (.getfield 43, 3) := by decide +kernel
theorem dX4_bitsSo_78 : decode cX4_bitsSo 78 = .ok (.getfield 97, 3) := by decide +kernel
theorem dX4_bitsSo_81 : decode cX4_bitsSo 81 = .ok (.iload_n 2, 1) := by decide +kernel
theorem dX4_bitsSo_82 : decode cX4_bitsSo 82 = .ok (.iload 6, 2) := by decide +kernel
theorem dX4_bitsSo_84 : decode cX4_bitsSo 84 = .ok (.iastore, 1) := by decide +kernel
theorem dX4_bitsSo_85 : decode cX4_bitsSo 85 = .ok (.goto 12, 3) := by decide +kernel
theorem dX4_bitsSo_88 : decode cX4_bitsSo 88 = .ok (.aload_n 0, 1) := by decide +kernel
theorem dX4_bitsSo_89 : decode cX4_bitsSo 89 = .ok (.getfield 43, 3) := by decide +kernel
theorem dX4_bitsSo_92 : decode cX4_bitsSo 92 = .ok (.iload 6, 2) := by decide +kernel
theorem dX4_bitsSo_94 : decode cX4_bitsSo 94 = .ok (.putfield 128, 3) := by decide +kernel
theorem dX4_bitsSo_97 : decode cX4_bitsSo 97 = .ok (.aload_n 0, 1) := by decide +kernel
theorem dX4_bitsSo_98 : decode cX4_bitsSo 98 = .ok (.getfield 43, 3) := by decide +kernel
theorem dX4_bitsSo_101 : decode cX4_bitsSo 101 = .ok (.aload_n 1, 1) := by decide +kernel
theorem dX4_bitsSo_102 : decode cX4_bitsSo 102 = .ok (.iload_n 2, 1) := by decide +kernel
theorem dX4_bitsSo_103 : decode cX4_bitsSo 103 = .ok (.invokevirtual 206, 3) := by decide +kernel
theorem dX4_bitsSo_106 : decode cX4_bitsSo 106 = .ok (.iconst (-1), 1) := by decide +kernel
theorem dX4_bitsSo_107 : decode cX4_bitsSo 107 = .ok (.if_icmp .ne 12, 3) := by decide +kernel
theorem dX4_bitsSo_110 : decode cX4_bitsSo 110 = .ok (.iload 5, 2) := by decide +kernel
theorem dX4_bitsSo_112 : decode cX4_bitsSo 112 = .ok (.iconst 1, 1) := by decide +kernel
theorem dX4_bitsSo_113 : decode cX4_bitsSo 113 = .ok (.iload 6, 2) := by decide +kernel
theorem dX4_bitsSo_115 : decode cX4_bitsSo 115 = .ok (.ishl, 1) := by decide +kernel
theorem dX4_bitsSo_116 : decode cX4_bitsSo 116 = .ok (.ior, 1) := by decide +kernel
theorem dX4_bitsSo_117 : decode cX4_bitsSo 117 = .ok (.istore 5, 2) := by decide +kernel
theorem dX4_bitsSo_119 : decode cX4_bitsSo 119 = .ok (.iinc 6 1, 3) := by decide +kernel
theorem dX4_bitsSo_122 : decode cX4_bitsSo 122 = .ok (.goto (-90), 3) := by decide +kernel
theorem dX4_bitsSo_125 : decode cX4_bitsSo 125 = .ok (.iload 5, 2) := by decide +kernel
theorem dX4_bitsSo_127 : decode cX4_bitsSo 127 = .ok (.ireturn, 1) := by decide +kernel
theorem dX4_moodsSo_0 : decode cX4_moodsSo 0 = .ok (.iconst 0, 1) := by decide +kernel
theorem dX4_moodsSo_1 : decode cX4_moodsSo 1 = .ok (.istore 4, 2) := by decide +kernel
theorem dX4_moodsSo_3 : decode cX4_moodsSo 3 = .ok (.bipush (-100), 2) := by decide +kernel
theorem dX4_moodsSo_5 : decode cX4_moodsSo 5 = .ok (.istore 5, 2) := by decide +kernel
theorem dX4_moodsSo_7 : decode cX4_moodsSo 7 = .ok (.bipush (-20), 2) := by decide +kernel
theorem dX4_moodsSo_9 : decode cX4_moodsSo 9 = .ok (.istore 6, 2) := by decide +kernel
theorem dX4_moodsSo_11 : decode cX4_moodsSo 11 = .ok (.iload 6, 2) := by decide +kernel
theorem dX4_moodsSo_13 : decode cX4_moodsSo 13 = .ok (.bipush 20, 2) := by decide +kernel
theorem dX4_moodsSo_15 : decode cX4_moodsSo 15 = .ok (.if_icmp .gt 61, 3) := by decide +kernel
theorem dX4_moodsSo_18 : decode cX4_moodsSo 18 = .ok (.aload_n 0, 1) := by decide +kernel
theorem dX4_moodsSo_19 : decode cX4_moodsSo 19 = .ok (.getfield 43, 3) := by decide +kernel
theorem dX4_moodsSo_22 : decode cX4_moodsSo 22 = .ok (.aload_n 0, 1) := by decide +kernel
theorem dX4_moodsSo_23 : decode cX4_moodsSo 23 = .ok (.getfield 39, 3) := by decide +kernel
theorem dX4_moodsSo_26 : decode cX4_moodsSo 26 = .ok (.invokevirtual 116, 3) := by decide +kernel
theorem dX4_moodsSo_29 : decode cX4_moodsSo 29 = .ok (.aload_n 0, 1) := by decide +kernel
theorem dX4_moodsSo_30 : decode cX4_moodsSo 30 = .ok (.getfield 43, 3) := by decide +kernel
theorem dX4_moodsSo_33 : decode cX4_moodsSo 33 = .ok (.getfield 100, 3) := by decide +kernel
theorem dX4_moodsSo_36 : decode cX4_moodsSo 36 = .ok (.iload_n 2, 1) := by decide +kernel
theorem dX4_moodsSo_37 : decode cX4_moodsSo 37 = .ok (.iload 6, 2) := by decide +kernel
theorem dX4_moodsSo_39 : decode cX4_moodsSo 39 = .ok (.iastore, 1) := by decide +kernel
theorem dX4_moodsSo_40 : decode cX4_moodsSo 40 = .ok (.aload_n 0, 1) := by decide +kernel
theorem dX4_moodsSo_41 : decode cX4_moodsSo 41 = .ok (.getfield 43, 3) := by decide +kernel
theorem dX4_moodsSo_44 : decode cX4_moodsSo 44 = .ok (.aload_n 1, 1) := by decide +kernel
theorem dX4_moodsSo_45 : decode cX4_moodsSo 45 = .ok (.iload_n 2, 1) := by decide +kernel
theorem dX4_moodsSo_46 : decode cX4_moodsSo 46 = .ok (.invokevirtual 206, 3) := by decide +kernel
theorem dX4_moodsSo_49 : decode cX4_moodsSo 49 = .ok (.iconst (-1), 1) := by decide +kernel
theorem dX4_moodsSo_50 : decode cX4_moodsSo 50 = .ok (.if_icmp .ne 20, 3) := by decide +kernel
theorem dX4_moodsSo_53 : decode cX4_moodsSo 53 = .ok (.iload 4, 2) := by decide +kernel
theorem dX4_moodsSo_55 : decode cX4_moodsSo 55 = .ok (.ifCond .ne 8, 3) := by decide +kernel
theorem dX4_moodsSo_58 : decode cX4_moodsSo 58 = .ok (.iload 6, 2) := by decide +kernel
theorem dX4_moodsSo_60 : decode cX4_moodsSo 60 = .ok (.goto 5, 3) := by decide +kernel
theorem dX4_moodsSo_63 : decode cX4_moodsSo 63 = .ok (.iload 5, 2) := by decide +kernel
theorem dX4_moodsSo_65 : decode cX4_moodsSo 65 = .ok (.istore 5, 2) := by decide +kernel
theorem dX4_moodsSo_67 : decode cX4_moodsSo 67 = .ok (.iinc 4 1, 3) := by decide +kernel
theorem dX4_moodsSo_70 : decode cX4_moodsSo 70 = .ok (.iinc 6 1, 3) := by decide +kernel
theorem dX4_moodsSo_73 : decode cX4_moodsSo 73 = .ok (.goto (-62), 3) := by decide +kernel
theorem dX4_moodsSo_76 : decode cX4_moodsSo 76 = .ok (.iload_n 3, 1) := by decide +kernel
theorem dX4_moodsSo_77 : decode cX4_moodsSo 77 = .ok (.ifCond .eq 8, 3) := by decide +kernel
theorem dX4_moodsSo_80 : decode cX4_moodsSo 80 = .ok (.iload 5, 2) := by decide +kernel
theorem dX4_moodsSo_82 : decode cX4_moodsSo 82 = .ok (.goto 5, 3) := by decide +kernel
theorem dX4_moodsSo_85 : decode cX4_moodsSo 85 = .ok (.iload 4, 2) := by decide +kernel
theorem dX4_moodsSo_87 : decode cX4_moodsSo 87 = .ok (.ireturn, 1) := by decide +kernel
theorem dX4_film_0 : decode cX4_film 0 = .ok (.iload_n 1, 1) := by decide +kernel
theorem dX4_film_1 : decode cX4_film 1 = .ok (.invokestatic 199, 3) := by decide +kernel
theorem dX4_film_4 : decode cX4_film 4 = .ok (.ifCond .eq 21, 3) := by decide +kernel
theorem dX4_film_7 : decode cX4_film 7 = .ok (.aload_n 0, 1) := by decide +kernel
theorem dX4_film_8 : decode cX4_film 8 = .ok (.iload_n 2, 1) := by decide +kernel
theorem dX4_film_9 : decode cX4_film 9 = .ok (.invokevirtual 124, 3) := by decide +kernel
theorem dX4_film_12 : decode cX4_film 12 = .ok (.ifCond .eq 13, 3) := by decide +kernel
theorem dX4_film_15 : decode cX4_film 15 = .ok (.iload_n 3, 1) := by decide +kernel
theorem dX4_film_16 : decode cX4_film 16 = .ok (.iconst 0, 1) := by decide +kernel
theorem dX4_film_17 : decode cX4_film 17 = .ok (.bipush 10, 2) := by decide +kernel
theorem dX4_film_19 : decode cX4_film 19 = .ok (.invokestatic 76, 3) := by decide +kernel
theorem dX4_film_22 : decode cX4_film 22 = .ok (.ifCond .ne 6, 3) := by decide +kernel
theorem dX4_film_25 : decode cX4_film 25 = .ok (.bipush (-2), 2) := by decide +kernel
theorem dX4_film_27 : decode cX4_film 27 = .ok (.ireturn, 1) := by decide +kernel
theorem dX4_film_28 : decode cX4_film 28 = .ok (.aload_n 0, 1) := by decide +kernel
theorem dX4_film_29 : decode cX4_film 29 = .ok (.getfield 17, 3) := by decide +kernel
theorem dX4_film_32 : decode cX4_film 32 = .ok (.iload_n 1, 1) := by decide +kernel
theorem dX4_film_33 : decode cX4_film 33 = .ok (.aaload, 1) := by decide +kernel
theorem dX4_film_34 : decode cX4_film 34 = .ok (.astore 4, 2) := by decide +kernel
theorem dX4_film_36 : decode cX4_film 36 = .ok (.aload 4, 2) := by decide +kernel
theorem dX4_film_38 : decode cX4_film 38 = .ok (.iconst 0, 1) := by decide +kernel
theorem dX4_film_39 : decode cX4_film 39 = .ok (.iload_n 3, 1) := by decide +kernel
theorem dX4_film_40 : decode cX4_film 40 = .ok (.invokevirtual 218, 3) := by decide +kernel
theorem dX4_film_43 : decode cX4_film 43 = .ok (.aload_n 0, 1) := by decide +kernel
theorem dX4_film_44 : decode cX4_film 44 = .ok (.getfield 43, 3) := by decide +kernel
theorem dX4_film_47 : decode cX4_film 47 = .ok (.aload_n 0, 1) := by decide +kernel
theorem dX4_film_48 : decode cX4_film 48 = .ok (.getfield 39, 3) := by decide +kernel
theorem dX4_film_51 : decode cX4_film 51 = .ok (.invokevirtual 116, 3) := by decide +kernel
theorem dX4_film_54 : decode cX4_film 54 = .ok (.iconst 0, 1) := by decide +kernel
theorem dX4_film_55 : decode cX4_film 55 = .ok (.istore 5, 2) := by decide +kernel
theorem dX4_film_57 : decode cX4_film 57 = .ok (.iload 5, 2) := by decide +kernel
theorem dX4_film_59 : decode cX4_film 59 = .ok (.iload_n 3, 1) := by decide +kernel
theorem dX4_film_60 : decode cX4_film 60 = .ok (.if_icmp .ge 33, 3) := by decide +kernel
theorem dX4_film_63 : decode cX4_film 63 = .ok (.aload_n 0, 1) := by decide +kernel
theorem dX4_film_64 : decode cX4_film 64 = .ok (.getfield 43, 3) := by decide +kernel
theorem dX4_film_67 : decode cX4_film 67 = .ok (.invokevirtual 120, 3) := by decide +kernel
theorem dX4_film_70 : decode cX4_film 70 = .ok (.pop, 1) := by decide +kernel
theorem dX4_film_71 : decode cX4_film 71 = .ok (.aload 4, 2) := by decide +kernel
theorem dX4_film_73 : decode cX4_film 73 = .ok (.iload 5, 2) := by decide +kernel
theorem dX4_film_75 : decode cX4_film 75 = .ok (.aload_n 0, 1) := by decide +kernel
theorem dX4_film_76 : decode cX4_film 76 = .ok (.getfield 43, 3) := by decide +kernel
theorem dX4_film_79 : decode cX4_film 79 = .ok (.getfield 100, 3) := by decide +kernel
theorem dX4_film_82 : decode cX4_film 82 = .ok (.iload_n 2, 1) := by decide +kernel
theorem dX4_film_83 : decode cX4_film 83 = .ok (.iaload, 1) := by decide +kernel
theorem dX4_film_84 : decode cX4_film 84 = .ok (.invokevirtual 222, 3) := by decide +kernel
theorem dX4_film_87 : decode cX4_film 87 = .ok (.iinc 5 1, 3) := by decide +kernel
theorem dX4_film_90 : decode cX4_film 90 = .ok (.goto (-33), 3) := by decide +kernel
theorem dX4_film_93 : decode cX4_film 93 = .ok (.iload_n 3, 1) := by decide +kernel
theorem dX4_film_94 : decode cX4_film 94 = .ok (.ireturn, 1) := by decide +kernel
theorem dX4_drawn_0 : decode cX4_drawn 0 = .ok (.aload_n 0, 1) := by decide +kernel
theorem dX4_drawn_1 : decode cX4_drawn 1 = .ok (.getfield 43, 3) := by decide +kernel
theorem dX4_drawn_4 : decode cX4_drawn 4 = .ok (.aload_n 0, 1) := by decide +kernel
theorem dX4_drawn_5 : decode cX4_drawn 5 = .ok (.getfield 39, 3) := by decide +kernel
theorem dX4_drawn_8 : decode cX4_drawn 8 = .ok (.invokevirtual 116, 3) := by decide +kernel
theorem dX4_drawn_11 : decode cX4_drawn 11 = .ok (.aload_n 0, 1) := by decide +kernel
theorem dX4_drawn_12 : decode cX4_drawn 12 = .ok (.getfield 43, 3) := by decide +kernel
theorem dX4_drawn_15 : decode cX4_drawn 15 = .ok (.iload_n 1, 1) := by decide +kernel
theorem dX4_drawn_16 : decode cX4_drawn 16 = .ok (.invokevirtual 225, 3) := by decide +kernel
theorem dX4_drawn_19 : decode cX4_drawn 19 = .ok (.aload_n 0, 1) := by decide +kernel
theorem dX4_drawn_20 : decode cX4_drawn 20 = .ok (.getfield 43, 3) := by decide +kernel
theorem dX4_drawn_23 : decode cX4_drawn 23 = .ok (.iconst 5, 1) := by decide +kernel
theorem dX4_drawn_24 : decode cX4_drawn 24 = .ok (.invokevirtual 158, 3) := by decide +kernel
theorem dX4_drawn_27 : decode cX4_drawn 27 = .ok (.ireturn, 1) := by decide +kernel
theorem dX4_chance_0 : decode cX4_chance 0 = .ok (.iload_n 2, 1) := by decide +kernel
theorem dX4_chance_1 : decode cX4_chance 1 = .ok (.iconst 1, 1) := by decide +kernel
theorem dX4_chance_2 : decode cX4_chance 2 = .ok (.bipush 20, 2) := by decide +kernel
theorem dX4_chance_4 : decode cX4_chance 4 = .ok (.invokestatic 76, 3) := by decide +kernel
theorem dX4_chance_7 : decode cX4_chance 7 = .ok (.ifCond .eq 24, 3) := by decide +kernel
theorem dX4_chance_10 : decode cX4_chance 10 = .ok (.iload_n 3, 1) := by decide +kernel
theorem dX4_chance_11 : decode cX4_chance 11 = .ok (.bipush (-100), 2) := by decide +kernel
theorem dX4_chance_13 : decode cX4_chance 13 = .ok (.bipush 100, 2) := by decide +kernel
theorem dX4_chance_15 : decode cX4_chance 15 = .ok (.invokestatic 76, 3) := by decide +kernel
theorem dX4_chance_18 : decode cX4_chance 18 = .ok (.ifCond .eq 13, 3) := by decide +kernel
theorem dX4_chance_21 : decode cX4_chance 21 = .ok (.iload 4, 2) := by decide +kernel
theorem dX4_chance_23 : decode cX4_chance 23 = .ok (.iconst 0, 1) := by decide +kernel
theorem dX4_chance_24 : decode cX4_chance 24 = .ok (.iconst 1, 1) := by decide +kernel
theorem dX4_chance_25 : decode cX4_chance 25 = .ok (.invokestatic 76, 3) := by decide +kernel
theorem dX4_chance_28 : decode cX4_chance 28 = .ok (.ifCond .ne 7, 3) := by decide +kernel
theorem dX4_chance_31 : decode cX4_chance 31 = .ok (.ldc2_w 229, 3) := by decide +kernel
theorem dX4_chance_34 : decode cX4_chance 34 = .ok (.lreturn, 1) := by decide +kernel
theorem dX4_chance_35 : decode cX4_chance 35 = .ok (.iconst 0, 1) := by decide +kernel
theorem dX4_chance_36 : decode cX4_chance 36 = .ok (.istore 5, 2) := by decide +kernel
theorem dX4_chance_38 : decode cX4_chance 38 = .ok (.iconst 0, 1) := by decide +kernel
theorem dX4_chance_39 : decode cX4_chance 39 = .ok (.istore 6, 2) := by decide +kernel
theorem dX4_chance_41 : decode cX4_chance 41 = .ok (.iload 6, 2) := by decide +kernel
theorem dX4_chance_43 : decode cX4_chance 43 = .ok (.iload_n 2, 1) := by decide +kernel
theorem dX4_chance_44 : decode cX4_chance 44 = .ok (.if_icmp .ge 46, 3) := by decide +kernel
theorem dX4_chance_47 : decode cX4_chance 47 = .ok (.aload_n 0, 1) := by decide +kernel
theorem dX4_chance_48 : decode cX4_chance 48 = .ok (.getfield 43, 3) := by decide +kernel
theorem dX4_chance_51 : decode cX4_chance 51 = .ok (.aload_n 0, 1) := by decide +kernel
theorem dX4_chance_52 : decode cX4_chance 52 = .ok (.getfield 39, 3) := by decide +kernel
theorem dX4_chance_55 : decode cX4_chance 55 = .ok (.invokevirtual 116, 3) := by decide +kernel
theorem dX4_chance_58 : decode cX4_chance 58 = .ok (.aload_n 0, 1) := by decide +kernel
theorem dX4_chance_59 : decode cX4_chance 59 = .ok (.getfield 43, 3) := by decide +kernel
theorem dX4_chance_62 : decode cX4_chance 62 = .ok (.iload_n 1, 1) := by decide +kernel
theorem dX4_chance_63 : decode cX4_chance 63 = .ok (.iload 6, 2) := by decide +kernel
theorem dX4_chance_65 : decode cX4_chance 65 = .ok (.iadd, 1) := by decide +kernel
theorem dX4_chance_66 : decode cX4_chance 66 = .ok (.invokevirtual 225, 3) := by decide +kernel
theorem dX4_chance_69 : decode cX4_chance 69 = .ok (.aload_n 0, 1) := by decide +kernel
theorem dX4_chance_70 : decode cX4_chance 70 = .ok (.getfield 43, 3) := by decide +kernel
theorem dX4_chance_73 : decode cX4_chance 73 = .ok (.iconst 5, 1) := by decide +kernel
theorem dX4_chance_74 : decode cX4_chance 74 = .ok (.invokevirtual 158, 3) := by decide +kernel
theorem dX4_chance_77 : decode cX4_chance 77 = .ok (.iload_n 3, 1) := by decide +kernel
theorem dX4_chance_78 : decode cX4_chance 78 = .ok (.if_icmp .lt 6, 3) := by decide +kernel
theorem dX4_chance_81 : decode cX4_chance 81 = .ok (.iinc 5 1, 3) := by decide +kernel
theorem dX4_chance_84 : decode cX4_chance 84 = .ok (.iinc 6 1, 3) := by decide +kernel
theorem dX4_chance_87 : decode cX4_chance 87 = .ok (.goto (-46), 3) := by decide +kernel
theorem dX4_chance_90 : decode cX4_chance 90 = .ok (.iload 5, 2) := by decide +kernel
theorem dX4_chance_92 : decode cX4_chance 92 = .ok (.iload_n 2, 1) := by decide +kernel
theorem dX4_chance_93 : decode cX4_chance 93 = .ok (.invokestatic 231, 3) := by decide +kernel
theorem dX4_chance_96 : decode cX4_chance 96 = .ok (.istore 6, 2) := by decide +kernel
theorem dX4_chance_98 : decode cX4_chance 98 = .ok (.iload 4, 2) := by decide +kernel
theorem dX4_chance_100 : decode cX4_chance 100 = .ok (.ifCond .ne 12, 3) := by decide +kernel
theorem dX4_chance_103 : decode cX4_chance 103 = .ok (.iload 5, 2) := by decide +kernel
theorem dX4_chance_105 : decode cX4_chance 105 = .ok (.iload 6, 2) := by decide +kernel
theorem dX4_chance_107 : decode cX4_chance 107 = .ok (.idiv, 1) := by decide +kernel
theorem dX4_chance_108 : decode cX4_chance 108 = .ok (.i2l, 1) := by decide +kernel
theorem dX4_chance_109 : decode cX4_chance 109 = .ok (.goto 8, 3) := by decide +kernel
theorem dX4_chance_112 : decode cX4_chance 112 = .ok (.iload_n 2, 1) := by decide +kernel
theorem dX4_chance_113 : decode cX4_chance 113 = .ok (.iload 6, 2) := by decide +kernel
theorem dX4_chance_115 : decode cX4_chance 115 = .ok (.idiv, 1) := by decide +kernel
theorem dX4_chance_116 : decode cX4_chance 116 = .ok (.i2l, 1) := by decide +kernel
theorem dX4_chance_117 : decode cX4_chance 117 = .ok (.lreturn, 1) := by decide +kernel
theorem dX4_sharedDivisor_0 : decode cX4_sharedDivisor 0 = .ok (.iload_n 1, 1) := by decide +kernel
theorem dX4_sharedDivisor_1 : decode cX4_sharedDivisor 1 = .ok (.istore_n 2, 1) := by decide +kernel
theorem dX4_sharedDivisor_2 : decode cX4_sharedDivisor 2 = .ok (.iload_n 2, 1) := by decide +kernel
theorem dX4_sharedDivisor_3 : decode cX4_sharedDivisor 3 = .ok (.iconst 1, 1) := by decide +kernel
theorem dX4_sharedDivisor_4 : decode cX4_sharedDivisor 4 = .ok (.if_icmp .le 23, 3) := by decide +kernel
theorem dX4_sharedDivisor_7 : decode cX4_sharedDivisor 7 = .ok (.iload_n 0, 1) := by decide +kernel
theorem dX4_sharedDivisor_8 : decode cX4_sharedDivisor 8 = .ok (.iload_n 2, 1) := by decide +kernel
theorem dX4_sharedDivisor_9 : decode cX4_sharedDivisor 9 = .ok (.irem, 1) := by decide +kernel
theorem dX4_sharedDivisor_10 : decode cX4_sharedDivisor 10 = .ok (.ifCond .ne 11, 3) := by decide +kernel
theorem dX4_sharedDivisor_13 : decode cX4_sharedDivisor 13 = .ok (.iload_n 1, 1) := by decide +kernel
theorem dX4_sharedDivisor_14 : decode cX4_sharedDivisor 14 = .ok (.iload_n 2, 1) := by decide +kernel
theorem dX4_sharedDivisor_15 : decode cX4_sharedDivisor 15 = .ok (.irem, 1) := by decide +kernel
theorem dX4_sharedDivisor_16 : decode cX4_sharedDivisor 16 = .ok (.ifCond .ne 5, 3) := by decide +kernel
theorem dX4_sharedDivisor_19 : decode cX4_sharedDivisor 19 = .ok (.iload_n 2, 1) := by decide +kernel
theorem dX4_sharedDivisor_20 : decode cX4_sharedDivisor 20 = .ok (.ireturn, 1) := by decide +kernel
theorem dX4_sharedDivisor_21 : decode cX4_sharedDivisor 21 = .ok (.iinc 2 (-1), 3) := by decide +kernel
theorem dX4_sharedDivisor_24 : decode cX4_sharedDivisor 24 = .ok (.goto (-22), 3) := by decide +kernel
theorem dX4_sharedDivisor_27 : decode cX4_sharedDivisor 27 = .ok (.iconst 1, 1) := by decide +kernel
theorem dX4_sharedDivisor_28 : decode cX4_sharedDivisor 28 = .ok (.ireturn, 1) := by decide +kernel
theorem dX4_image_0 : decode cX4_image 0 = .ok (.aload_n 0, 1) := by decide +kernel
theorem dX4_image_1 : decode cX4_image 1 = .ok (.getfield 46, 3) := by decide +kernel
theorem dX4_image_4 : decode cX4_image 4 = .ok (.aload_n 0, 1) := by decide +kernel
theorem dX4_image_5 : decode cX4_image 5 = .ok (.getfield 39, 3) := by decide +kernel
theorem dX4_image_8 : decode cX4_image 8 = .ok (.invokevirtual 116, 3) := by decide +kernel
theorem dX4_image_11 : decode cX4_image 11 = .ok (.aload_n 0, 1) := by decide +kernel
theorem dX4_image_12 : decode cX4_image 12 = .ok (.iconst 1, 1) := by decide +kernel
theorem dX4_image_13 : decode cX4_image 13 = .ok (.putfield 234, 3) := by decide +kernel
theorem dX4_image_16 : decode cX4_image 16 = .ok (.aload_n 0, 1) := by decide +kernel
theorem dX4_image_17 : decode cX4_image 17 = .ok (.getfield 46, 3) := by decide +kernel
theorem dX4_image_20 : decode cX4_image 20 = .ok (.getfield 127, 3) := by decide +kernel
theorem dX4_image_23 : decode cX4_image 23 = .ok (.ireturn, 1) := by decide +kernel
theorem dX4_back_0 : decode cX4_back 0 = .ok (.aload_n 0, 1) := by decide +kernel
theorem dX4_back_1 : decode cX4_back 1 = .ok (.getfield 234, 3) := by decide +kernel
theorem dX4_back_4 : decode cX4_back 4 = .ok (.ifCond .ne 6, 3) := by decide +kernel
theorem dX4_back_7 : decode cX4_back 7 = .ok (.bipush (-3), 2) := by decide +kernel
theorem dX4_back_9 : decode cX4_back 9 = .ok (.ireturn, 1) := by decide +kernel
theorem dX4_back_10 : decode cX4_back 10 = .ok (.aload_n 0, 1) := by decide +kernel
theorem dX4_back_11 : decode cX4_back 11 = .ok (.getfield 39, 3) := by decide +kernel
theorem dX4_back_14 : decode cX4_back 14 = .ok (.aload_n 0, 1) := by decide +kernel
theorem dX4_back_15 : decode cX4_back 15 = .ok (.getfield 46, 3) := by decide +kernel
theorem dX4_back_18 : decode cX4_back 18 = .ok (.invokevirtual 116, 3) := by decide +kernel
theorem dX4_back_21 : decode cX4_back 21 = .ok (.aload_n 0, 1) := by decide +kernel
theorem dX4_back_22 : decode cX4_back 22 = .ok (.getfield 39, 3) := by decide +kernel
theorem dX4_back_25 : decode cX4_back 25 = .ok (.getfield 127, 3) := by decide +kernel
theorem dX4_back_28 : decode cX4_back 28 = .ok (.ireturn, 1) := by decide +kernel
theorem dX4_count_0 : decode cX4_count 0 = .ok (.iload_n 1, 1) := by decide +kernel
theorem dX4_count_1 : decode cX4_count 1 = .ok (.tableswitch 87 0 5 #[39, 47, 58, 66, 71, 79], 39) := by decide +kernel
theorem dX4_count_40 : decode cX4_count 40 = .ok (.aload_n 0, 1) := by decide +kernel
theorem dX4_count_41 : decode cX4_count 41 = .ok (.getfield 39, 3) := by decide +kernel
theorem dX4_count_44 : decode cX4_count 44 = .ok (.getfield 127, 3) := by decide +kernel
theorem dX4_count_47 : decode cX4_count 47 = .ok (.ireturn, 1) := by decide +kernel
theorem dX4_count_48 : decode cX4_count 48 = .ok (.aload_n 0, 1) := by decide +kernel
theorem dX4_count_49 : decode cX4_count 49 = .ok (.getfield 39, 3) := by decide +kernel
theorem dX4_count_52 : decode cX4_count 52 = .ok (.getfield 94, 3) := by decide +kernel
theorem dX4_count_55 : decode cX4_count 55 = .ok (.invokestatic 141, 3) := by decide +kernel
theorem dX4_count_58 : decode cX4_count 58 = .ok (.ireturn, 1) := by decide +kernel
theorem dX4_count_59 : decode cX4_count 59 = .ok (.aload_n 0, 1) := by decide +kernel
theorem dX4_count_60 : decode cX4_count 60 = .ok (.getfield 39, 3) := by decide +kernel
theorem dX4_count_63 : decode cX4_count 63 = .ok (.getfield 91, 3) := by decide +kernel
theorem dX4_count_66 : decode cX4_count 66 = .ok (.ireturn, 1) := by decide +kernel
theorem dX4_count_67 : decode cX4_count 67 = .ok (.aload_n 0, 1) := by decide +kernel
theorem dX4_count_68 : decode cX4_count 68 = .ok (.getfield 73, 3) := by decide +kernel
theorem dX4_count_71 : decode cX4_count 71 = .ok (.ireturn, 1) := by decide +kernel
theorem dX4_count_72 : decode cX4_count 72 = .ok (.aload_n 0, 1) := by decide +kernel
theorem dX4_count_73 : decode cX4_count 73 = .ok (.getfield 24, 3) := by decide +kernel
theorem dX4_count_76 : decode cX4_count 76 = .ok (.getfield 69, 3) := by decide +kernel
theorem dX4_count_79 : decode cX4_count 79 = .ok (.ireturn, 1) := by decide +kernel
theorem dX4_count_80 : decode cX4_count 80 = .ok (.aload_n 0, 1) := by decide +kernel
theorem dX4_count_81 : decode cX4_count 81 = .ok (.getfield 39, 3) := by decide +kernel
theorem dX4_count_84 : decode cX4_count 84 = .ok (.getfield 128, 3) := by decide +kernel
theorem dX4_count_87 : decode cX4_count 87 = .ok (.ireturn, 1) := by decide +kernel
theorem dX4_count_88 : decode cX4_count 88 = .ok (.bipush (-2), 2) := by decide +kernel
theorem dX4_count_90 : decode cX4_count 90 = .ok (.ireturn, 1) := by decide +kernel
theorem dX4_sheet_0 : decode cX4_sheet 0 = .ok (.iload_n 1, 1) := by decide +kernel
theorem dX4_sheet_1 : decode cX4_sheet 1 = .ok (.invokestatic 199, 3) := by decide +kernel
theorem dX4_sheet_4 : decode cX4_sheet 4 = .ok (.ifCond .eq 12, 3) := by decide +kernel
theorem dX4_sheet_7 : decode cX4_sheet 7 = .ok (.iload_n 2, 1) := by decide +kernel
theorem dX4_sheet_8 : decode cX4_sheet 8 = .ok (.iconst (-1), 1) := by decide +kernel
theorem dX4_sheet_9 : decode cX4_sheet 9 = .ok (.iconst 2, 1) := by decide +kernel
theorem dX4_sheet_10 : decode cX4_sheet 10 = .ok (.invokestatic 76, 3) := by decide +kernel
theorem dX4_sheet_13 : decode cX4_sheet 13 = .ok (.ifCond .ne 6, 3) := by decide +kernel
theorem dX4_sheet_16 : decode cX4_sheet 16 = .ok (.bipush (-2), 2) := by decide +kernel
theorem dX4_sheet_18 : decode cX4_sheet 18 = .ok (.ireturn, 1) := by decide +kernel
theorem dX4_sheet_19 : decode cX4_sheet 19 = .ok (.iload_n 2, 1) := by decide +kernel
theorem dX4_sheet_20 : decode cX4_sheet 20 = .ok (.iconst (-1), 1) := by decide +kernel
theorem dX4_sheet_21 : decode cX4_sheet 21 = .ok (.if_icmp .ne 16, 3) := by decide +kernel
theorem dX4_sheet_24 : decode cX4_sheet 24 = .ok (.aload_n 0, 1) := by decide +kernel
theorem dX4_sheet_25 : decode cX4_sheet 25 = .ok (.getfield 17, 3) := by decide +kernel
theorem dX4_sheet_28 : decode cX4_sheet 28 = .ok (.iload_n 1, 1) := by decide +kernel
theorem dX4_sheet_29 : decode cX4_sheet 29 = .ok (.aaload, 1) := by decide +kernel
theorem dX4_sheet_30 : decode cX4_sheet 30 = .ok (.iconst (-1), 1) := by decide +kernel
theorem dX4_sheet_31 : decode cX4_sheet 31 = .ok (.iconst 0, 1) := by decide +kernel
theorem dX4_sheet_32 : decode cX4_sheet 32 = .ok (.invokevirtual 218, 3) := by decide +kernel
theorem dX4_sheet_35 : decode cX4_sheet 35 = .ok (.iconst 1, 1) := by decide +kernel
theorem dX4_sheet_36 : decode cX4_sheet 36 = .ok (.ireturn, 1) := by decide +kernel
theorem dX4_sheet_37 : decode cX4_sheet 37 = .ok (.iload_n 3, 1) := by decide +kernel
theorem dX4_sheet_38 : decode cX4_sheet 38 = .ok (.bipush 40, 2) := by decide +kernel
theorem dX4_sheet_40 : decode cX4_sheet 40 = .ok (.if_icmp .le 6, 3) := by decide +kernel
theorem dX4_sheet_43 : decode cX4_sheet 43 = .ok (.bipush (-2), 2) := by decide +kernel
theorem dX4_sheet_45 : decode cX4_sheet 45 = .ok (.ireturn, 1) := by decide +kernel
theorem dX4_sheet_46 : decode cX4_sheet 46 = .ok (.iload_n 3, 1) := by decide +kernel
theorem dX4_sheet_47 : decode cX4_sheet 47 = .ok (.ifCond .ge 6, 3) := by decide +kernel
theorem dX4_sheet_50 : decode cX4_sheet 50 = .ok (.bipush (-14), 2) := by decide +kernel
theorem dX4_sheet_52 : decode cX4_sheet 52 = .ok (.ireturn, 1) := by decide +kernel
theorem dX4_sheet_53 : decode cX4_sheet 53 = .ok (.aload_n 0, 1) := by decide +kernel
theorem dX4_sheet_54 : decode cX4_sheet 54 = .ok (.getfield 17, 3) := by decide +kernel
theorem dX4_sheet_57 : decode cX4_sheet 57 = .ok (.iload_n 1, 1) := by decide +kernel
theorem dX4_sheet_58 : decode cX4_sheet 58 = .ok (.aaload, 1) := by decide +kernel
theorem dX4_sheet_59 : decode cX4_sheet 59 = .ok (.iload_n 2, 1) := by decide +kernel
theorem dX4_sheet_60 : decode cX4_sheet 60 = .ok (.iload_n 3, 1) := by decide +kernel
theorem dX4_sheet_61 : decode cX4_sheet 61 = .ok (.invokevirtual 218, 3) := by decide +kernel
theorem dX4_sheet_64 : decode cX4_sheet 64 = .ok (.iconst 1, 1) := by decide +kernel
theorem dX4_sheet_65 : decode cX4_sheet 65 = .ok (.ireturn, 1) := by decide +kernel
theorem dX4_cell_0 : decode cX4_cell 0 = .ok (.iload_n 1, 1) := by decide +kernel
theorem dX4_cell_1 : decode cX4_cell 1 = .ok (.invokestatic 199, 3) := by decide +kernel
theorem dX4_cell_4 : decode cX4_cell 4 = .ok (.ifCond .ne 6, 3) := by decide +kernel
theorem dX4_cell_7 : decode cX4_cell 7 = .ok (.bipush (-2), 2) := by decide +kernel
theorem dX4_cell_9 : decode cX4_cell 9 = .ok (.ireturn, 1) := by decide +kernel
theorem dX4_cell_10 : decode cX4_cell 10 = .ok (.aload_n 0, 1) := by decide +kernel
theorem dX4_cell_11 : decode cX4_cell 11 = .ok (.getfield 17, 3) := by decide +kernel
theorem dX4_cell_14 : decode cX4_cell 14 = .ok (.iload_n 1, 1) := by decide +kernel
theorem dX4_cell_15 : decode cX4_cell 15 = .ok (.aaload, 1) := by decide +kernel
theorem dX4_cell_16 : decode cX4_cell 16 = .ok (.astore 4, 2) := by decide +kernel
theorem dX4_cell_18 : decode cX4_cell 18 = .ok (.aload 4, 2) := by decide +kernel
theorem dX4_cell_20 : decode cX4_cell 20 = .ok (.invokevirtual 202, 3) := by decide +kernel
theorem dX4_cell_23 : decode cX4_cell 23 = .ok (.ifCond .eq 6, 3) := by decide +kernel
theorem dX4_cell_26 : decode cX4_cell 26 = .ok (.bipush (-11), 2) := by decide +kernel
theorem dX4_cell_28 : decode cX4_cell 28 = .ok (.ireturn, 1) := by decide +kernel
theorem dX4_cell_29 : decode cX4_cell 29 = .ok (.aload 4, 2) := by decide +kernel
theorem dX4_cell_31 : decode cX4_cell 31 = .ok (.iload_n 2, 1) := by decide +kernel
theorem dX4_cell_32 : decode cX4_cell 32 = .ok (.invokevirtual 238, 3) := by decide +kernel
theorem dX4_cell_35 : decode cX4_cell 35 = .ok (.ifCond .ne 6, 3) := by decide +kernel
theorem dX4_cell_38 : decode cX4_cell 38 = .ok (.bipush (-12), 2) := by decide +kernel
theorem dX4_cell_40 : decode cX4_cell 40 = .ok (.ireturn, 1) := by decide +kernel
theorem dX4_cell_41 : decode cX4_cell 41 = .ok (.aload 4, 2) := by decide +kernel
theorem dX4_cell_43 : decode cX4_cell 43 = .ok (.iload_n 2, 1) := by decide +kernel
theorem dX4_cell_44 : decode cX4_cell 44 = .ok (.iload_n 3, 1) := by decide +kernel
theorem dX4_cell_45 : decode cX4_cell 45 = .ok (.invokevirtual 222, 3) := by decide +kernel
theorem dX4_cell_48 : decode cX4_cell 48 = .ok (.iconst 1, 1) := by decide +kernel
theorem dX4_cell_49 : decode cX4_cell 49 = .ok (.ireturn, 1) := by decide +kernel
theorem dX4_copy_0 : decode cX4_copy 0 = .ok (.iload_n 1, 1) := by decide +kernel
theorem dX4_copy_1 : decode cX4_copy 1 = .ok (.invokestatic 199, 3) := by decide +kernel
theorem dX4_copy_4 : decode cX4_copy 4 = .ok (.ifCond .eq 10, 3) := by decide +kernel
theorem dX4_copy_7 : decode cX4_copy 7 = .ok (.iload_n 3, 1) := by decide +kernel
theorem dX4_copy_8 : decode cX4_copy 8 = .ok (.invokestatic 199, 3) := by decide +kernel
theorem dX4_copy_11 : decode cX4_copy 11 = .ok (.ifCond .ne 6, 3) := by decide +kernel
theorem dX4_copy_14 : decode cX4_copy 14 = .ok (.bipush (-2), 2) := by decide +kernel
theorem dX4_copy_16 : decode cX4_copy 16 = .ok (.ireturn, 1) := by decide +kernel
theorem dX4_copy_17 : decode cX4_copy 17 = .ok (.aload_n 0, 1) := by decide +kernel
theorem dX4_copy_18 : decode cX4_copy 18 = .ok (.getfield 17, 3) := by decide +kernel
theorem dX4_copy_21 : decode cX4_copy 21 = .ok (.iload_n 1, 1) := by decide +kernel
theorem dX4_copy_22 : decode cX4_copy 22 = .ok (.aaload, 1) := by decide +kernel
theorem dX4_copy_23 : decode cX4_copy 23 = .ok (.astore 6, 2) := by decide +kernel
theorem dX4_copy_25 : decode cX4_copy 25 = .ok (.aload_n 0, 1) := by decide +kernel
theorem dX4_copy_26 : decode cX4_copy 26 = .ok (.getfield 17, 3) := by decide +kernel
theorem dX4_copy_29 : decode cX4_copy 29 = .ok (.iload_n 3, 1) := by decide +kernel
theorem dX4_copy_30 : decode cX4_copy 30 = .ok (.aaload, 1) := by decide +kernel
theorem dX4_copy_31 : decode cX4_copy 31 = .ok (.astore 7, 2) := by decide +kernel
theorem dX4_copy_33 : decode cX4_copy 33 = .ok (.aload 6, 2) := by decide +kernel
theorem dX4_copy_35 : decode cX4_copy 35 = .ok (.invokevirtual 202, 3) := by decide +kernel
theorem dX4_copy_38 : decode cX4_copy 38 = .ok (.ifCond .ne 11, 3) := by decide +kernel
theorem dX4_copy_41 : decode cX4_copy 41 = .ok (.aload 7, 2) := by decide +kernel
theorem dX4_copy_43 : decode cX4_copy 43 = .ok (.invokevirtual 202, 3) := by decide +kernel
theorem dX4_copy_46 : decode cX4_copy 46 = .ok (.ifCond .eq 6, 3) := by decide +kernel
theorem dX4_copy_49 : decode cX4_copy 49 = .ok (.bipush (-11), 2) := by decide +kernel
theorem dX4_copy_51 : decode cX4_copy 51 = .ok (.ireturn, 1) := by decide +kernel
theorem dX4_copy_52 : decode cX4_copy 52 = .ok (.aload 6, 2) := by decide +kernel
theorem dX4_copy_54 : decode cX4_copy 54 = .ok (.getfield 241, 3) := by decide +kernel
theorem dX4_copy_57 : decode cX4_copy 57 = .ok (.aload 7, 2) := by decide +kernel
theorem dX4_copy_59 : decode cX4_copy 59 = .ok (.getfield 241, 3) := by decide +kernel
theorem dX4_copy_62 : decode cX4_copy 62 = .ok (.if_icmp .eq 6, 3) := by decide +kernel
theorem dX4_copy_65 : decode cX4_copy 65 = .ok (.bipush (-13), 2) := by decide +kernel
theorem dX4_copy_67 : decode cX4_copy 67 = .ok (.ireturn, 1) := by decide +kernel
theorem dX4_copy_68 : decode cX4_copy 68 = .ok (.aload 6, 2) := by decide +kernel
theorem dX4_copy_70 : decode cX4_copy 70 = .ok (.iload_n 2, 1) := by decide +kernel
theorem dX4_copy_71 : decode cX4_copy 71 = .ok (.iload 5, 2) := by decide +kernel
theorem dX4_copy_73 : decode cX4_copy 73 = .ok (.invokevirtual 244, 3) := by decide +kernel
theorem dX4_copy_76 : decode cX4_copy 76 = .ok (.ifCond .eq 15, 3) := by decide +kernel
theorem dX4_copy_79 : decode cX4_copy 79 = .ok (.aload 7, 2) := by decide +kernel
theorem dX4_copy_81 : decode cX4_copy 81 = .ok (.iload 4, 2) := by decide +kernel
theorem dX4_copy_83 : decode cX4_copy 83 = .ok (.iload 5, 2) := by decide +kernel
theorem dX4_copy_85 : decode cX4_copy 85 = .ok (.invokevirtual 244, 3) := by decide +kernel
theorem dX4_copy_88 : decode cX4_copy 88 = .ok (.ifCond .ne 6, 3) := by decide +kernel
theorem dX4_copy_91 : decode cX4_copy 91 = .ok (.bipush (-12), 2) := by decide +kernel
theorem dX4_copy_93 : decode cX4_copy 93 = .ok (.ireturn, 1) := by decide +kernel
theorem dX4_copy_94 : decode cX4_copy 94 = .ok (.aload 6, 2) := by decide +kernel
theorem dX4_copy_96 : decode cX4_copy 96 = .ok (.getfield 247, 3) := by decide +kernel
theorem dX4_copy_99 : decode cX4_copy 99 = .ok (.iload_n 2, 1) := by decide +kernel
theorem dX4_copy_100 : decode cX4_copy 100 = .ok (.aload 7, 2) := by decide +kernel
theorem dX4_copy_102 : decode cX4_copy 102 = .ok (.getfield 247, 3) := by decide +kernel
theorem dX4_copy_105 : decode cX4_copy 105 = .ok (.iload 4, 2) := by decide +kernel
theorem dX4_copy_107 : decode cX4_copy 107 = .ok (.iload 5, 2) := by decide +kernel
theorem dX4_copy_109 : decode cX4_copy 109 = .ok (.invokestatic 250, 3) := by decide +kernel
theorem dX4_copy_112 : decode cX4_copy 112 = .ok (.iload 5, 2) := by decide +kernel
theorem dX4_copy_114 : decode cX4_copy 114 = .ok (.ireturn, 1) := by decide +kernel
theorem dX4_people_0 : decode cX4_people 0 = .ok (.iload_n 1, 1) := by decide +kernel
theorem dX4_people_1 : decode cX4_people 1 = .ok (.invokestatic 199, 3) := by decide +kernel
theorem dX4_people_4 : decode cX4_people 4 = .ok (.ifCond .eq 22, 3) := by decide +kernel
theorem dX4_people_7 : decode cX4_people 7 = .ok (.iload_n 2, 1) := by decide +kernel
theorem dX4_people_8 : decode cX4_people 8 = .ok (.iconst 0, 1) := by decide +kernel
theorem dX4_people_9 : decode cX4_people 9 = .ok (.iconst 2, 1) := by decide +kernel
theorem dX4_people_10 : decode cX4_people 10 = .ok (.invokestatic 76, 3) := by decide +kernel
theorem dX4_people_13 : decode cX4_people 13 = .ok (.ifCond .eq 13, 3) := by decide +kernel
theorem dX4_people_16 : decode cX4_people 16 = .ok (.iload 4, 2) := by decide +kernel
theorem dX4_people_18 : decode cX4_people 18 = .ok (.iconst 0, 1) := by decide +kernel
theorem dX4_people_19 : decode cX4_people 19 = .ok (.iconst 5, 1) := by decide +kernel
theorem dX4_people_20 : decode cX4_people 20 = .ok (.invokestatic 76, 3) := by decide +kernel
theorem dX4_people_23 : decode cX4_people 23 = .ok (.ifCond .ne 6, 3) := by decide +kernel
theorem dX4_people_26 : decode cX4_people 26 = .ok (.bipush (-2), 2) := by decide +kernel
theorem dX4_people_28 : decode cX4_people 28 = .ok (.ireturn, 1) := by decide +kernel
theorem dX4_people_29 : decode cX4_people 29 = .ok (.aload_n 0, 1) := by decide +kernel
theorem dX4_people_30 : decode cX4_people 30 = .ok (.getfield 17, 3) := by decide +kernel
theorem dX4_people_33 : decode cX4_people 33 = .ok (.iload_n 1, 1) := by decide +kernel
theorem dX4_people_34 : decode cX4_people 34 = .ok (.aaload, 1) := by decide +kernel
theorem dX4_people_35 : decode cX4_people 35 = .ok (.astore 5, 2) := by decide +kernel
theorem dX4_people_37 : decode cX4_people 37 = .ok (.aload 5, 2) := by decide +kernel
theorem dX4_people_39 : decode cX4_people 39 = .ok (.invokevirtual 202, 3) := by decide +kernel
theorem dX4_people_42 : decode cX4_people 42 = .ok (.ifCond .eq 6, 3) := by decide +kernel
theorem dX4_people_45 : decode cX4_people 45 = .ok (.bipush (-11), 2) := by decide +kernel
theorem dX4_people_47 : decode cX4_people 47 = .ok (.ireturn, 1) := by decide +kernel
theorem dX4_people_48 : decode cX4_people 48 = .ok (.aload 5, 2) := by decide +kernel
theorem dX4_people_50 : decode cX4_people 50 = .ok (.getfield 241, 3) := by decide +kernel
theorem dX4_people_53 : decode cX4_people 53 = .ok (.iload_n 2, 1) := by decide +kernel
theorem dX4_people_54 : decode cX4_people 54 = .ok (.if_icmp .eq 6, 3) := by decide +kernel
theorem dX4_people_57 : decode cX4_people 57 = .ok (.bipush (-13), 2) := by decide +kernel
theorem dX4_people_59 : decode cX4_people 59 = .ok (.ireturn, 1) := by decide +kernel
theorem dX4_people_60 : decode cX4_people 60 = .ok (.iconst 0, 1) := by decide +kernel
theorem dX4_people_61 : decode cX4_people 61 = .ok (.istore 6, 2) := by decide +kernel
theorem dX4_people_63 : decode cX4_people 63 = .ok (.iconst 0, 1) := by decide +kernel
theorem dX4_people_64 : decode cX4_people 64 = .ok (.istore 7, 2) := by decide +kernel
theorem dX4_people_66 : decode cX4_people 66 = .ok (.iload 7, 2) := by decide +kernel
theorem dX4_people_68 : decode cX4_people 68 = .ok (.iload 4, 2) := by decide +kernel
theorem dX4_people_70 : decode cX4_people 70 = .ok (.if_icmp .ge 59, 3) := by decide +kernel
theorem dX4_people_73 : decode cX4_people 73 = .ok (.iload_n 3, 1) := by decide +kernel
theorem dX4_people_74 : decode cX4_people 74 = .ok (.iconst 2, 1) := by decide +kernel
theorem dX4_people_75 : decode cX4_people 75 = .ok (.iload 7, 2) := by decide +kernel
theorem dX4_people_77 : decode cX4_people 77 = .ok (.imul, 1) := by decide +kernel
theorem dX4_people_78 : decode cX4_people 78 = .ok (.iadd, 1) := by decide +kernel
theorem dX4_people_79 : decode cX4_people 79 = .ok (.istore 8, 2) := by decide +kernel
theorem dX4_people_81 : decode cX4_people 81 = .ok (.aload 5, 2) := by decide +kernel
theorem dX4_people_83 : decode cX4_people 83 = .ok (.iload 8, 2) := by decide +kernel
theorem dX4_people_85 : decode cX4_people 85 = .ok (.iconst 2, 1) := by decide +kernel
theorem dX4_people_86 : decode cX4_people 86 = .ok (.invokevirtual 244, 3) := by decide +kernel
theorem dX4_people_89 : decode cX4_people 89 = .ok (.ifCond .ne 6, 3) := by decide +kernel
theorem dX4_people_92 : decode cX4_people 92 = .ok (.bipush (-12), 2) := by decide +kernel
theorem dX4_people_94 : decode cX4_people 94 = .ok (.ireturn, 1) := by decide +kernel
theorem dX4_people_95 : decode cX4_people 95 = .ok (.aload_n 0, 1) := by decide +kernel
theorem dX4_people_96 : decode cX4_people 96 = .ok (.aload 5, 2) := by decide +kernel
theorem dX4_people_98 : decode cX4_people 98 = .ok (.getfield 247, 3) := by decide +kernel
theorem dX4_people_101 : decode cX4_people 101 = .ok (.iload 8, 2) := by decide +kernel
theorem dX4_people_103 : decode cX4_people 103 = .ok (.iaload, 1) := by decide +kernel
theorem dX4_people_104 : decode cX4_people 104 = .ok (.aload 5, 2) := by decide +kernel
theorem dX4_people_106 : decode cX4_people 106 = .ok (.getfield 247, 3) := by decide +kernel
theorem dX4_people_109 : decode cX4_people 109 = .ok (.iload 8, 2) := by decide +kernel
theorem dX4_people_111 : decode cX4_people 111 = .ok (.iconst 1, 1) := by decide +kernel
theorem dX4_people_112 : decode cX4_people 112 = .ok (.iadd, 1) := by decide +kernel
theorem dX4_people_113 : decode cX4_people 113 = .ok (.iaload, 1) := by decide +kernel
theorem dX4_people_114 : decode cX4_people 114 = .ok (.invokevirtual 256, 3) := by decide +kernel
theorem dX4_people_117 : decode cX4_people 117 = .ok (.ifCond .lt 6, 3) := by decide +kernel
theorem dX4_people_120 : decode cX4_people 120 = .ok (.iinc 6 1, 3) := by decide +kernel
theorem dX4_people_123 : decode cX4_people 123 = .ok (.iinc 7 1, 3) := by decide +kernel
theorem dX4_people_126 : decode cX4_people 126 = .ok (.goto (-60), 3) := by decide +kernel
theorem dX4_people_129 : decode cX4_people 129 = .ok (.iload 6, 2) := by decide +kernel
theorem dX4_people_131 : decode cX4_people 131 = .ok (.ireturn, 1) := by decide +kernel
theorem dX4_taken_0 : decode cX4_taken 0 = .ok (.iload_n 2, 1) := by decide +kernel
theorem dX4_taken_1 : decode cX4_taken 1 = .ok (.iconst 0, 1) := by decide +kernel
theorem dX4_taken_2 : decode cX4_taken 2 = .ok (.iconst 5, 1) := by decide +kernel
theorem dX4_taken_3 : decode cX4_taken 3 = .ok (.invokestatic 76, 3) := by decide +kernel
theorem dX4_taken_6 : decode cX4_taken 6 = .ok (.ifCond .ne 6, 3) := by decide +kernel
theorem dX4_taken_9 : decode cX4_taken 9 = .ok (.bipush (-2), 2) := by decide +kernel
theorem dX4_taken_11 : decode cX4_taken 11 = .ok (.ireturn, 1) := by decide +kernel
theorem dX4_taken_12 : decode cX4_taken 12 = .ok (.aload_n 0, 1) := by decide +kernel
theorem dX4_taken_13 : decode cX4_taken 13 = .ok (.iload_n 1, 1) := by decide +kernel
theorem dX4_taken_14 : decode cX4_taken 14 = .ok (.invokevirtual 124, 3) := by decide +kernel
theorem dX4_taken_17 : decode cX4_taken 17 = .ok (.ifCond .ne 6, 3) := by decide +kernel
theorem dX4_taken_20 : decode cX4_taken 20 = .ok (.bipush (-11), 2) := by decide +kernel
theorem dX4_taken_22 : decode cX4_taken 22 = .ok (.ireturn, 1) := by decide +kernel
theorem dX4_taken_23 : decode cX4_taken 23 = .ok (.aload_n 0, 1) := by decide +kernel
theorem dX4_taken_24 : decode cX4_taken 24 = .ok (.getfield 39, 3) := by decide +kernel
theorem dX4_taken_27 : decode cX4_taken 27 = .ok (.getfield 106, 3) := by decide +kernel
theorem dX4_taken_30 : decode cX4_taken 30 = .ok (.iload_n 1, 1) := by decide +kernel
theorem dX4_taken_31 : decode cX4_taken 31 = .ok (.iaload, 1) := by decide +kernel
theorem dX4_taken_32 : decode cX4_taken 32 = .ok (.istore_n 3, 1) := by decide +kernel
theorem dX4_taken_33 : decode cX4_taken 33 = .ok (.iconst 0, 1) := by decide +kernel
theorem dX4_taken_34 : decode cX4_taken 34 = .ok (.istore 4, 2) := by decide +kernel
theorem dX4_taken_36 : decode cX4_taken 36 = .ok (.iload 4, 2) := by decide +kernel
theorem dX4_taken_38 : decode cX4_taken 38 = .ok (.bipush 6, 2) := by decide +kernel
theorem dX4_taken_40 : decode cX4_taken 40 = .ok (.if_icmp .ge 39, 3) := by decide +kernel
theorem dX4_taken_43 : decode cX4_taken 43 = .ok (.iload_n 3, 1) := by decide +kernel
theorem dX4_taken_44 : decode cX4_taken 44 = .ok (.iconst 0, 1) := by decide +kernel
theorem dX4_taken_45 : decode cX4_taken 45 = .ok (.iconst 5, 1) := by decide +kernel
theorem dX4_taken_46 : decode cX4_taken 46 = .ok (.invokestatic 76, 3) := by decide +kernel
theorem dX4_taken_49 : decode cX4_taken 49 = .ok (.ifCond .eq 30, 3) := by decide +kernel
theorem dX4_taken_52 : decode cX4_taken 52 = .ok (.iload_n 3, 1) := by decide +kernel
theorem dX4_taken_53 : decode cX4_taken 53 = .ok (.iload_n 2, 1) := by decide +kernel
theorem dX4_taken_54 : decode cX4_taken 54 = .ok (.if_icmp .ne 13, 3) := by decide +kernel
theorem dX4_taken_57 : decode cX4_taken 57 = .ok (.aload_n 0, 1) := by decide +kernel
theorem dX4_taken_58 : decode cX4_taken 58 = .ok (.getfield 39, 3) := by decide +kernel
theorem dX4_taken_61 : decode cX4_taken 61 = .ok (.getfield 97, 3) := by decide +kernel
theorem dX4_taken_64 : decode cX4_taken 64 = .ok (.iload_n 1, 1) := by decide +kernel
theorem dX4_taken_65 : decode cX4_taken 65 = .ok (.iaload, 1) := by decide +kernel
theorem dX4_taken_66 : decode cX4_taken 66 = .ok (.ireturn, 1) := by decide +kernel
theorem dX4_taken_67 : decode cX4_taken 67 = .ok (.getstatic 259, 3) := by decide +kernel
theorem dX4_taken_70 : decode cX4_taken 70 = .ok (.iload_n 3, 1) := by decide +kernel
theorem dX4_taken_71 : decode cX4_taken 71 = .ok (.iaload, 1) := by decide +kernel
theorem dX4_taken_72 : decode cX4_taken 72 = .ok (.istore_n 3, 1) := by decide +kernel
theorem dX4_taken_73 : decode cX4_taken 73 = .ok (.iinc 4 1, 3) := by decide +kernel
theorem dX4_taken_76 : decode cX4_taken 76 = .ok (.goto (-40), 3) := by decide +kernel
theorem dX4_taken_79 : decode cX4_taken 79 = .ok (.bipush (-13), 2) := by decide +kernel
theorem dX4_taken_81 : decode cX4_taken 81 = .ok (.ireturn, 1) := by decide +kernel
theorem dX4_isSheet_0 : decode cX4_isSheet 0 = .ok (.iload_n 0, 1) := by decide +kernel
theorem dX4_isSheet_1 : decode cX4_isSheet 1 = .ok (.iconst 0, 1) := by decide +kernel
theorem dX4_isSheet_2 : decode cX4_isSheet 2 = .ok (.iconst 3, 1) := by decide +kernel
theorem dX4_isSheet_3 : decode cX4_isSheet 3 = .ok (.invokestatic 76, 3) := by decide +kernel
theorem dX4_isSheet_6 : decode cX4_isSheet 6 = .ok (.ireturn, 1) := by decide +kernel
