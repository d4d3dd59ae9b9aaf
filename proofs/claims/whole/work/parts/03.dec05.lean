theorem dX0_init_0 : decode cX0_init 0 = .ok (.aload_n 0, 1) := by decide +kernel
theorem dX0_init_1 : decode cX0_init 1 = .ok (.invokespecial 3, 3) := by decide +kernel
theorem dX0_init_4 : decode cX0_init 4 = .ok (.aload_n 0, 1) := by decide +kernel
theorem dX0_init_5 : decode cX0_init 5 = .ok (.bipush 8, 2) := by decide +kernel
theorem dX0_init_7 : decode cX0_init 7 = .ok (.newarray .int, 2) := by decide +kernel
theorem dX0_init_9 : decode cX0_init 9 = .ok (.putfield 9, 3) := by decide +kernel
theorem dX0_init_12 : decode cX0_init 12 = .ok (.aload_n 0, 1) := by decide +kernel
theorem dX0_init_13 : decode cX0_init 13 = .ok (.bipush 8, 2) := by decide +kernel
theorem dX0_init_15 : decode cX0_init 15 = .ok (.newarray .int, 2) := by decide +kernel
theorem dX0_init_17 : decode cX0_init 17 = .ok (.putfield 15, 3) := by decide +kernel
theorem dX0_init_20 : decode cX0_init 20 = .ok (.aload_n 0, 1) := by decide +kernel
theorem dX0_init_21 : decode cX0_init 21 = .ok (.bipush 32, 2) := by decide +kernel
theorem dX0_init_23 : decode cX0_init 23 = .ok (.newarray .int, 2) := by decide +kernel
theorem dX0_init_25 : decode cX0_init 25 = .ok (.putfield 18, 3) := by decide +kernel
theorem dX0_init_28 : decode cX0_init 28 = .ok (.aload_n 0, 1) := by decide +kernel
theorem dX0_init_29 : decode cX0_init 29 = .ok (.bipush 32, 2) := by decide +kernel
theorem dX0_init_31 : decode cX0_init 31 = .ok (.newarray .int, 2) := by decide +kernel
theorem dX0_init_33 : decode cX0_init 33 = .ok (.putfield 21, 3) := by decide +kernel
theorem dX0_init_36 : decode cX0_init 36 = .ok (.aload_n 0, 1) := by decide +kernel
theorem dX0_init_37 : decode cX0_init 37 = .ok (.bipush 32, 2) := by decide +kernel
theorem dX0_init_39 : decode cX0_init 39 = .ok (.newarray .int, 2) := by decide +kernel
theorem dX0_init_41 : decode cX0_init 41 = .ok (.putfield 24, 3) := by decide +kernel
theorem dX0_init_44 : decode cX0_init 44 = .ok (.aload_n 0, 1) := by decide +kernel
theorem dX0_init_45 : decode cX0_init 45 = .ok (.bipush 32, 2) := by decide +kernel
theorem dX0_init_47 : decode cX0_init 47 = .ok (.newarray .int, 2) := by decide +kernel
theorem dX0_init_49 : decode cX0_init 49 = .ok (.putfield 27, 3) := by decide +kernel
theorem dX0_init_52 : decode cX0_init 52 = .ok (.aload_n 0, 1) := by decide +kernel
theorem dX0_init_53 : decode cX0_init 53 = .ok (.aload_n 1, 1) := by decide +kernel
theorem dX0_init_54 : decode cX0_init 54 = .ok (.putfield 30, 3) := by decide +kernel
theorem dX0_init_57 : decode cX0_init 57 = .ok (.return_, 1) := by decide +kernel
theorem dX0_measure_0 : decode cX0_measure 0 = .ok (.aload_n 0, 1) := by decide +kernel
theorem dX0_measure_1 : decode cX0_measure 1 = .ok (.aload_n 0, 1) := by decide +kernel
theorem dX0_measure_2 : decode cX0_measure 2 = .ok (.getfield 30, 3) := by decide +kernel
theorem dX0_measure_5 : decode cX0_measure 5 = .ok (.getfield 34, 3) := by decide +kernel
theorem dX0_measure_8 : decode cX0_measure 8 = .ok (.iload_n 2, 1) := by decide +kernel
theorem dX0_measure_9 : decode cX0_measure 9 = .ok (.imul, 1) := by decide +kernel
theorem dX0_measure_10 : decode cX0_measure 10 = .ok (.putfield 40, 3) := by decide +kernel
theorem dX0_measure_13 : decode cX0_measure 13 = .ok (.aload_n 0, 1) := by decide +kernel
theorem dX0_measure_14 : decode cX0_measure 14 = .ok (.aload_n 0, 1) := by decide +kernel
theorem dX0_measure_15 : decode cX0_measure 15 = .ok (.getfield 30, 3) := by decide +kernel
theorem dX0_measure_18 : decode cX0_measure 18 = .ok (.getfield 41, 3) := by decide +kernel
theorem dX0_measure_21 : decode cX0_measure 21 = .ok (.iload_n 2, 1) := by decide +kernel
theorem dX0_measure_22 : decode cX0_measure 22 = .ok (.imul, 1) := by decide +kernel
theorem dX0_measure_23 : decode cX0_measure 23 = .ok (.putfield 44, 3) := by decide +kernel
theorem dX0_measure_26 : decode cX0_measure 26 = .ok (.iconst 0, 1) := by decide +kernel
theorem dX0_measure_27 : decode cX0_measure 27 = .ok (.istore_n 3, 1) := by decide +kernel
theorem dX0_measure_28 : decode cX0_measure 28 = .ok (.iload_n 3, 1) := by decide +kernel
theorem dX0_measure_29 : decode cX0_measure 29 = .ok (.aload_n 0, 1) := by decide +kernel
theorem dX0_measure_30 : decode cX0_measure 30 = .ok (.getfield 30, 3) := by decide +kernel
theorem dX0_measure_33 : decode cX0_measure 33 = .ok (.getfield 45, 3) := by decide +kernel
theorem dX0_measure_36 : decode cX0_measure 36 = .ok (.if_icmp .ge 202, 3) := by decide +kernel
theorem dX0_measure_39 : decode cX0_measure 39 = .ok (.aload_n 0, 1) := by decide +kernel
theorem dX0_measure_40 : decode cX0_measure 40 = .ok (.getfield 9, 3) := by decide +kernel
theorem dX0_measure_43 : decode cX0_measure 43 = .ok (.iload_n 3, 1) := by decide +kernel
theorem dX0_measure_44 : decode cX0_measure 44 = .ok (.aload_n 0, 1) := by decide +kernel
theorem dX0_measure_45 : decode cX0_measure 45 = .ok (.getfield 30, 3) := by decide +kernel
theorem dX0_measure_48 : decode cX0_measure 48 = .ok (.getfield 48, 3) := by decide +kernel
theorem dX0_measure_51 : decode cX0_measure 51 = .ok (.iload_n 3, 1) := by decide +kernel
theorem dX0_measure_52 : decode cX0_measure 52 = .ok (.iaload, 1) := by decide +kernel
theorem dX0_measure_53 : decode cX0_measure 53 = .ok (.iload_n 2, 1) := by decide +kernel
theorem dX0_measure_54 : decode cX0_measure 54 = .ok (.imul, 1) := by decide +kernel
theorem dX0_measure_55 : decode cX0_measure 55 = .ok (.iastore, 1) := by decide +kernel
theorem dX0_measure_56 : decode cX0_measure 56 = .ok (.aload_n 0, 1) := by decide +kernel
theorem dX0_measure_57 : decode cX0_measure 57 = .ok (.getfield 15, 3) := by decide +kernel
theorem dX0_measure_60 : decode cX0_measure 60 = .ok (.iload_n 3, 1) := by decide +kernel
theorem dX0_measure_61 : decode cX0_measure 61 = .ok (.aload_n 0, 1) := by decide +kernel
theorem dX0_measure_62 : decode cX0_measure 62 = .ok (.getfield 30, 3) := by decide +kernel
theorem dX0_measure_65 : decode cX0_measure 65 = .ok (.getfield 51, 3) := by decide +kernel
theorem dX0_measure_68 : decode cX0_measure 68 = .ok (.iload_n 3, 1) := by decide +kernel
theorem dX0_measure_69 : decode cX0_measure 69 = .ok (.iaload, 1) := by decide +kernel
theorem dX0_measure_70 : decode cX0_measure 70 = .ok (.iload_n 2, 1) := by decide +kernel
theorem dX0_measure_71 : decode cX0_measure 71 = .ok (.imul, 1) := by decide +kernel
theorem dX0_measure_72 : decode cX0_measure 72 = .ok (.iastore, 1) := by decide +kernel
theorem dX0_measure_73 : decode cX0_measure 73 = .ok (.aload_n 0, 1) := by decide +kernel
theorem dX0_measure_74 : decode cX0_measure 74 = .ok (.getfield 30, 3) := by decide +kernel
theorem dX0_measure_77 : decode cX0_measure 77 = .ok (.getfield 54, 3) := by decide +kernel
theorem dX0_measure_80 : decode cX0_measure 80 = .ok (.iload_n 3, 1) := by decide +kernel
theorem dX0_measure_81 : decode cX0_measure 81 = .ok (.iaload, 1) := by decide +kernel
theorem dX0_measure_82 : decode cX0_measure 82 = .ok (.iload_n 1, 1) := by decide +kernel
theorem dX0_measure_83 : decode cX0_measure 83 = .ok (.invokestatic 57, 3) := by decide +kernel
theorem dX0_measure_86 : decode cX0_measure 86 = .ok (.istore 4, 2) := by decide +kernel
theorem dX0_measure_88 : decode cX0_measure 88 = .ok (.aload_n 0, 1) := by decide +kernel
theorem dX0_measure_89 : decode cX0_measure 89 = .ok (.getfield 30, 3) := by decide +kernel
theorem dX0_measure_92 : decode cX0_measure 92 = .ok (.getfield 61, 3) := by decide +kernel
theorem dX0_measure_95 : decode cX0_measure 95 = .ok (.iload_n 3, 1) := by decide +kernel
theorem dX0_measure_96 : decode cX0_measure 96 = .ok (.iaload, 1) := by decide +kernel
theorem dX0_measure_97 : decode cX0_measure 97 = .ok (.iload_n 1, 1) := by decide +kernel
theorem dX0_measure_98 : decode cX0_measure 98 = .ok (.invokestatic 57, 3) := by decide +kernel
theorem dX0_measure_101 : decode cX0_measure 101 = .ok (.istore 5, 2) := by decide +kernel
theorem dX0_measure_103 : decode cX0_measure 103 = .ok (.iconst 0, 1) := by decide +kernel
theorem dX0_measure_104 : decode cX0_measure 104 = .ok (.istore 6, 2) := by decide +kernel
theorem dX0_measure_106 : decode cX0_measure 106 = .ok (.iload 6, 2) := by decide +kernel
theorem dX0_measure_108 : decode cX0_measure 108 = .ok (.iconst 4, 1) := by decide +kernel
theorem dX0_measure_109 : decode cX0_measure 109 = .ok (.if_icmp .ge 123, 3) := by decide +kernel
theorem dX0_measure_112 : decode cX0_measure 112 = .ok (.iload_n 3, 1) := by decide +kernel
theorem dX0_measure_113 : decode cX0_measure 113 = .ok (.iload 6, 2) := by decide +kernel
theorem dX0_measure_115 : decode cX0_measure 115 = .ok (.invokestatic 62, 3) := by decide +kernel
theorem dX0_measure_118 : decode cX0_measure 118 = .ok (.istore 7, 2) := by decide +kernel
theorem dX0_measure_120 : decode cX0_measure 120 = .ok (.aload_n 0, 1) := by decide +kernel
theorem dX0_measure_121 : decode cX0_measure 121 = .ok (.getfield 18, 3) := by decide +kernel
theorem dX0_measure_124 : decode cX0_measure 124 = .ok (.iload 7, 2) := by decide +kernel
theorem dX0_measure_126 : decode cX0_measure 126 = .ok (.iload 6, 2) := by decide +kernel
theorem dX0_measure_128 : decode cX0_measure 128 = .ok (.ifCond .eq 9, 3) := by decide +kernel
theorem dX0_measure_131 : decode cX0_measure 131 = .ok (.iload 6, 2) := by decide +kernel
theorem dX0_measure_133 : decode cX0_measure 133 = .ok (.iconst 3, 1) := by decide +kernel
theorem dX0_measure_134 : decode cX0_measure 134 = .ok (.if_icmp .ne 12, 3) := by decide +kernel
theorem dX0_measure_137 : decode cX0_measure 137 = .ok (.aload_n 0, 1) := by decide +kernel
theorem dX0_measure_138 : decode cX0_measure 138 = .ok (.getfield 9, 3) := by decide +kernel
theorem dX0_measure_141 : decode cX0_measure 141 = .ok (.iload_n 3, 1) := by decide +kernel
theorem dX0_measure_142 : decode cX0_measure 142 = .ok (.iaload, 1) := by decide +kernel
theorem dX0_measure_143 : decode cX0_measure 143 = .ok (.goto 12, 3) := by decide +kernel
theorem dX0_measure_146 : decode cX0_measure 146 = .ok (.aload_n 0, 1) := by decide +kernel
theorem dX0_measure_147 : decode cX0_measure 147 = .ok (.getfield 9, 3) := by decide +kernel
theorem dX0_measure_150 : decode cX0_measure 150 = .ok (.iload_n 3, 1) := by decide +kernel
theorem dX0_measure_151 : decode cX0_measure 151 = .ok (.iaload, 1) := by decide +kernel
theorem dX0_measure_152 : decode cX0_measure 152 = .ok (.iload 4, 2) := by decide +kernel
theorem dX0_measure_154 : decode cX0_measure 154 = .ok (.isub, 1) := by decide +kernel
theorem dX0_measure_155 : decode cX0_measure 155 = .ok (.iastore, 1) := by decide +kernel
theorem dX0_measure_156 : decode cX0_measure 156 = .ok (.aload_n 0, 1) := by decide +kernel
theorem dX0_measure_157 : decode cX0_measure 157 = .ok (.getfield 24, 3) := by decide +kernel
theorem dX0_measure_160 : decode cX0_measure 160 = .ok (.iload 7, 2) := by decide +kernel
theorem dX0_measure_162 : decode cX0_measure 162 = .ok (.iload 6, 2) := by decide +kernel
theorem dX0_measure_164 : decode cX0_measure 164 = .ok (.ifCond .eq 9, 3) := by decide +kernel
theorem dX0_measure_167 : decode cX0_measure 167 = .ok (.iload 6, 2) := by decide +kernel
theorem dX0_measure_169 : decode cX0_measure 169 = .ok (.iconst 1, 1) := by decide +kernel
theorem dX0_measure_170 : decode cX0_measure 170 = .ok (.if_icmp .ne 12, 3) := by decide +kernel
theorem dX0_measure_173 : decode cX0_measure 173 = .ok (.aload_n 0, 1) := by decide +kernel
theorem dX0_measure_174 : decode cX0_measure 174 = .ok (.getfield 15, 3) := by decide +kernel
theorem dX0_measure_177 : decode cX0_measure 177 = .ok (.iload_n 3, 1) := by decide +kernel
theorem dX0_measure_178 : decode cX0_measure 178 = .ok (.iaload, 1) := by decide +kernel
theorem dX0_measure_179 : decode cX0_measure 179 = .ok (.goto 12, 3) := by decide +kernel
theorem dX0_measure_182 : decode cX0_measure 182 = .ok (.aload_n 0, 1) := by decide +kernel
theorem dX0_measure_183 : decode cX0_measure 183 = .ok (.getfield 15, 3) := by decide +kernel
theorem dX0_measure_186 : decode cX0_measure 186 = .ok (.iload_n 3, 1) := by decide +kernel
theorem dX0_measure_187 : decode cX0_measure 187 = .ok (.iaload, 1) := by decide +kernel
theorem dX0_measure_188 : decode cX0_measure 188 = .ok (.iload 5, 2) := by decide +kernel
theorem dX0_measure_190 : decode cX0_measure 190 = .ok (.isub, 1) := by decide +kernel
theorem dX0_measure_191 : decode cX0_measure 191 = .ok (.iastore, 1) := by decide +kernel
theorem dX0_measure_192 : decode cX0_measure 192 = .ok (.aload_n 0, 1) := by decide +kernel
theorem dX0_measure_193 : decode cX0_measure 193 = .ok (.getfield 21, 3) := by decide +kernel
theorem dX0_measure_196 : decode cX0_measure 196 = .ok (.iload 7, 2) := by decide +kernel
theorem dX0_measure_198 : decode cX0_measure 198 = .ok (.aload_n 0, 1) := by decide +kernel
theorem dX0_measure_199 : decode cX0_measure 199 = .ok (.getfield 18, 3) := by decide +kernel
theorem dX0_measure_202 : decode cX0_measure 202 = .ok (.iload 7, 2) := by decide +kernel
theorem dX0_measure_204 : decode cX0_measure 204 = .ok (.iaload, 1) := by decide +kernel
theorem dX0_measure_205 : decode cX0_measure 205 = .ok (.iload 4, 2) := by decide +kernel
theorem dX0_measure_207 : decode cX0_measure 207 = .ok (.iadd, 1) := by decide +kernel
theorem dX0_measure_208 : decode cX0_measure 208 = .ok (.iastore, 1) := by decide +kernel
theorem dX0_measure_209 : decode cX0_measure 209 = .ok (.aload_n 0, 1) := by decide +kernel
theorem dX0_measure_210 : decode cX0_measure 210 = .ok (.getfield 27, 3) := by decide +kernel
theorem dX0_measure_213 : decode cX0_measure 213 = .ok (.iload 7, 2) := by decide +kernel
theorem dX0_measure_215 : decode cX0_measure 215 = .ok (.aload_n 0, 1) := by decide +kernel
theorem dX0_measure_216 : decode cX0_measure 216 = .ok (.getfield 24, 3) := by decide +kernel
theorem dX0_measure_219 : decode cX0_measure 219 = .ok (.iload 7, 2) := by decide +kernel
theorem dX0_measure_221 : decode cX0_measure 221 = .ok (.iaload, 1) := by decide +kernel
theorem dX0_measure_222 : decode cX0_measure 222 = .ok (.iload 5, 2) := by decide +kernel
theorem dX0_measure_224 : decode cX0_measure 224 = .ok (.iadd, 1) := by decide +kernel
theorem dX0_measure_225 : decode cX0_measure 225 = .ok (.iastore, 1) := by decide +kernel
theorem dX0_measure_226 : decode cX0_measure 226 = .ok (.iinc 6 1, 3) := by decide +kernel
theorem dX0_measure_229 : decode cX0_measure 229 = .ok (.goto (-123), 3) := by decide +kernel
theorem dX0_measure_232 : decode cX0_measure 232 = .ok (.iinc 3 1, 3) := by decide +kernel
theorem dX0_measure_235 : decode cX0_measure 235 = .ok (.goto (-207), 3) := by decide +kernel
theorem dX0_measure_238 : decode cX0_measure 238 = .ok (.return_, 1) := by decide +kernel
theorem dX0_isFree_0 : decode cX0_isFree 0 = .ok (.aload_n 0, 1) := by decide +kernel
theorem dX0_isFree_1 : decode cX0_isFree 1 = .ok (.iload_n 1, 1) := by decide +kernel
theorem dX0_isFree_2 : decode cX0_isFree 2 = .ok (.invokevirtual 65, 3) := by decide +kernel
theorem dX0_isFree_5 : decode cX0_isFree 5 = .ok (.ifCond .eq 15, 3) := by decide +kernel
theorem dX0_isFree_8 : decode cX0_isFree 8 = .ok (.aload_n 0, 1) := by decide +kernel
theorem dX0_isFree_9 : decode cX0_isFree 9 = .ok (.iload_n 1, 1) := by decide +kernel
theorem dX0_isFree_10 : decode cX0_isFree 10 = .ok (.invokevirtual 69, 3) := by decide +kernel
theorem dX0_isFree_13 : decode cX0_isFree 13 = .ok (.ifCond .ne 7, 3) := by decide +kernel
theorem dX0_isFree_16 : decode cX0_isFree 16 = .ok (.iconst 1, 1) := by decide +kernel
theorem dX0_isFree_17 : decode cX0_isFree 17 = .ok (.goto 4, 3) := by decide +kernel
theorem dX0_isFree_20 : decode cX0_isFree 20 = .ok (.iconst 0, 1) := by decide +kernel
theorem dX0_isFree_21 : decode cX0_isFree 21 = .ok (.ireturn, 1) := by decide +kernel
theorem dX0_mayStand_0 : decode cX0_mayStand 0 = .ok (.aload_n 0, 1) := by decide +kernel
theorem dX0_mayStand_1 : decode cX0_mayStand 1 = .ok (.getfield 30, 3) := by decide +kernel
theorem dX0_mayStand_4 : decode cX0_mayStand 4 = .ok (.getfield 73, 3) := by decide +kernel
theorem dX0_mayStand_7 : decode cX0_mayStand 7 = .ok (.iload_n 1, 1) := by decide +kernel
theorem dX0_mayStand_8 : decode cX0_mayStand 8 = .ok (.baload, 1) := by decide +kernel
theorem dX0_mayStand_9 : decode cX0_mayStand 9 = .ok (.ifCond .eq 51, 3) := by decide +kernel
theorem dX0_mayStand_12 : decode cX0_mayStand 12 = .ok (.aload_n 0, 1) := by decide +kernel
theorem dX0_mayStand_13 : decode cX0_mayStand 13 = .ok (.getfield 18, 3) := by decide +kernel
theorem dX0_mayStand_16 : decode cX0_mayStand 16 = .ok (.iload_n 1, 1) := by decide +kernel
theorem dX0_mayStand_17 : decode cX0_mayStand 17 = .ok (.iaload, 1) := by decide +kernel
theorem dX0_mayStand_18 : decode cX0_mayStand 18 = .ok (.ifCond .lt 42, 3) := by decide +kernel
theorem dX0_mayStand_21 : decode cX0_mayStand 21 = .ok (.aload_n 0, 1) := by decide +kernel
theorem dX0_mayStand_22 : decode cX0_mayStand 22 = .ok (.getfield 21, 3) := by decide +kernel
theorem dX0_mayStand_25 : decode cX0_mayStand 25 = .ok (.iload_n 1, 1) := by decide +kernel
theorem dX0_mayStand_26 : decode cX0_mayStand 26 = .ok (.iaload, 1) := by decide +kernel
theorem dX0_mayStand_27 : decode cX0_mayStand 27 = .ok (.aload_n 0, 1) := by decide +kernel
theorem dX0_mayStand_28 : decode cX0_mayStand 28 = .ok (.getfield 40, 3) := by decide +kernel
theorem dX0_mayStand_31 : decode cX0_mayStand 31 = .ok (.if_icmp .gt 29, 3) := by decide +kernel
theorem dX0_mayStand_34 : decode cX0_mayStand 34 = .ok (.aload_n 0, 1) := by decide +kernel
theorem dX0_mayStand_35 : decode cX0_mayStand 35 = .ok (.getfield 24, 3) := by decide +kernel
theorem dX0_mayStand_38 : decode cX0_mayStand 38 = .ok (.iload_n 1, 1) := by decide +kernel
theorem dX0_mayStand_39 : decode cX0_mayStand 39 = .ok (.iaload, 1) := by decide +kernel
theorem dX0_mayStand_40 : decode cX0_mayStand 40 = .ok (.ifCond .lt 20, 3) := by decide +kernel
theorem dX0_mayStand_43 : decode cX0_mayStand 43 = .ok (.aload_n 0, 1) := by decide +kernel
theorem dX0_mayStand_44 : decode cX0_mayStand 44 = .ok (.getfield 27, 3) := by decide +kernel
theorem dX0_mayStand_47 : decode cX0_mayStand 47 = .ok (.iload_n 1, 1) := by decide +kernel
theorem dX0_mayStand_48 : decode cX0_mayStand 48 = .ok (.iaload, 1) := by decide +kernel
theorem dX0_mayStand_49 : decode cX0_mayStand 49 = .ok (.aload_n 0, 1) := by decide +kernel
theorem dX0_mayStand_50 : decode cX0_mayStand 50 = .ok (.getfield 44, 3) := by decide +kernel
theorem dX0_mayStand_53 : decode cX0_mayStand 53 = .ok (.if_icmp .gt 7, 3) := by decide +kernel
theorem dX0_mayStand_56 : decode cX0_mayStand 56 = .ok (.iconst 1, 1) := by decide +kernel
theorem dX0_mayStand_57 : decode cX0_mayStand 57 = .ok (.goto 4, 3) := by decide +kernel
theorem dX0_mayStand_60 : decode cX0_mayStand 60 = .ok (.iconst 0, 1) := by decide +kernel
theorem dX0_mayStand_61 : decode cX0_mayStand 61 = .ok (.ireturn, 1) := by decide +kernel
theorem dX0_sitesWithin_0 : decode cX0_sitesWithin 0 = .ok (.iconst 0, 1) := by decide +kernel
theorem dX0_sitesWithin_1 : decode cX0_sitesWithin 1 = .ok (.istore_n 2, 1) := by decide +kernel
theorem dX0_sitesWithin_2 : decode cX0_sitesWithin 2 = .ok (.iconst 0, 1) := by decide +kernel
theorem dX0_sitesWithin_3 : decode cX0_sitesWithin 3 = .ok (.istore_n 3, 1) := by decide +kernel
theorem dX0_sitesWithin_4 : decode cX0_sitesWithin 4 = .ok (.iload_n 3, 1) := by decide +kernel
theorem dX0_sitesWithin_5 : decode cX0_sitesWithin 5 = .ok (.aload_n 0, 1) := by decide +kernel
theorem dX0_sitesWithin_6 : decode cX0_sitesWithin 6 = .ok (.getfield 30, 3) := by decide +kernel
theorem dX0_sitesWithin_9 : decode cX0_sitesWithin 9 = .ok (.getfield 45, 3) := by decide +kernel
theorem dX0_sitesWithin_12 : decode cX0_sitesWithin 12 = .ok (.if_icmp .ge 75, 3) := by decide +kernel
theorem dX0_sitesWithin_15 : decode cX0_sitesWithin 15 = .ok (.aload_n 0, 1) := by decide +kernel
theorem dX0_sitesWithin_16 : decode cX0_sitesWithin 16 = .ok (.getfield 18, 3) := by decide +kernel
theorem dX0_sitesWithin_19 : decode cX0_sitesWithin 19 = .ok (.iload_n 1, 1) := by decide +kernel
theorem dX0_sitesWithin_20 : decode cX0_sitesWithin 20 = .ok (.iaload, 1) := by decide +kernel
theorem dX0_sitesWithin_21 : decode cX0_sitesWithin 21 = .ok (.aload_n 0, 1) := by decide +kernel
theorem dX0_sitesWithin_22 : decode cX0_sitesWithin 22 = .ok (.getfield 9, 3) := by decide +kernel
theorem dX0_sitesWithin_25 : decode cX0_sitesWithin 25 = .ok (.iload_n 3, 1) := by decide +kernel
theorem dX0_sitesWithin_26 : decode cX0_sitesWithin 26 = .ok (.iaload, 1) := by decide +kernel
theorem dX0_sitesWithin_27 : decode cX0_sitesWithin 27 = .ok (.if_icmp .ge 54, 3) := by decide +kernel
theorem dX0_sitesWithin_30 : decode cX0_sitesWithin 30 = .ok (.aload_n 0, 1) := by decide +kernel
theorem dX0_sitesWithin_31 : decode cX0_sitesWithin 31 = .ok (.getfield 9, 3) := by decide +kernel
theorem dX0_sitesWithin_34 : decode cX0_sitesWithin 34 = .ok (.iload_n 3, 1) := by decide +kernel
theorem dX0_sitesWithin_35 : decode cX0_sitesWithin 35 = .ok (.iaload, 1) := by decide +kernel
theorem dX0_sitesWithin_36 : decode cX0_sitesWithin 36 = .ok (.aload_n 0, 1) := by decide +kernel
theorem dX0_sitesWithin_37 : decode cX0_sitesWithin 37 = .ok (.getfield 21, 3) := by decide +kernel
theorem dX0_sitesWithin_40 : decode cX0_sitesWithin 40 = .ok (.iload_n 1, 1) := by decide +kernel
theorem dX0_sitesWithin_41 : decode cX0_sitesWithin 41 = .ok (.iaload, 1) := by decide +kernel
theorem dX0_sitesWithin_42 : decode cX0_sitesWithin 42 = .ok (.if_icmp .ge 39, 3) := by decide +kernel
theorem dX0_sitesWithin_45 : decode cX0_sitesWithin 45 = .ok (.aload_n 0, 1) := by decide +kernel
theorem dX0_sitesWithin_46 : decode cX0_sitesWithin 46 = .ok (.getfield 24, 3) := by decide +kernel
theorem dX0_sitesWithin_49 : decode cX0_sitesWithin 49 = .ok (.iload_n 1, 1) := by decide +kernel
theorem dX0_sitesWithin_50 : decode cX0_sitesWithin 50 = .ok (.iaload, 1) := by decide +kernel
theorem dX0_sitesWithin_51 : decode cX0_sitesWithin 51 = .ok (.aload_n 0, 1) := by decide +kernel
theorem dX0_sitesWithin_52 : decode cX0_sitesWithin 52 = .ok (.getfield 15, 3) := by decide +kernel
theorem dX0_sitesWithin_55 : decode cX0_sitesWithin 55 = .ok (.iload_n 3, 1) := by decide +kernel
theorem dX0_sitesWithin_56 : decode cX0_sitesWithin 56 = .ok (.iaload, 1) := by decide +kernel
theorem dX0_sitesWithin_57 : decode cX0_sitesWithin 57 = .ok (.if_icmp .ge 24, 3) := by decide +kernel
theorem dX0_sitesWithin_60 : decode cX0_sitesWithin 60 = .ok (.aload_n 0, 1) := by decide +kernel
theorem dX0_sitesWithin_61 : decode cX0_sitesWithin 61 = .ok (.getfield 15, 3) := by decide +kernel
theorem dX0_sitesWithin_64 : decode cX0_sitesWithin 64 = .ok (.iload_n 3, 1) := by decide +kernel
theorem dX0_sitesWithin_65 : decode cX0_sitesWithin 65 = .ok (.iaload, 1) := by decide +kernel
theorem dX0_sitesWithin_66 : decode cX0_sitesWithin 66 = .ok (.aload_n 0, 1) := by decide +kernel
theorem dX0_sitesWithin_67 : decode cX0_sitesWithin 67 = .ok (.getfield 27, 3) := by decide +kernel
theorem dX0_sitesWithin_70 : decode cX0_sitesWithin 70 = .ok (.iload_n 1, 1) := by decide +kernel
theorem dX0_sitesWithin_71 : decode cX0_sitesWithin 71 = .ok (.iaload, 1) := by decide +kernel
theorem dX0_sitesWithin_72 : decode cX0_sitesWithin 72 = .ok (.if_icmp .ge 9, 3) := by decide +kernel
theorem dX0_sitesWithin_75 : decode cX0_sitesWithin 75 = .ok (.iload_n 2, 1) := by decide +kernel
theorem dX0_sitesWithin_76 : decode cX0_sitesWithin 76 = .ok (.iconst 1, 1) := by decide +kernel
theorem dX0_sitesWithin_77 : decode cX0_sitesWithin 77 = .ok (.iload_n 3, 1) := by decide +kernel
theorem dX0_sitesWithin_78 : decode cX0_sitesWithin 78 = .ok (.ishl, 1) := by decide +kernel
theorem dX0_sitesWithin_79 : decode cX0_sitesWithin 79 = .ok (.ior, 1) := by decide +kernel
theorem dX0_sitesWithin_80 : decode cX0_sitesWithin 80 = .ok (.istore_n 2, 1) := by decide +kernel
theorem dX0_sitesWithin_81 : decode cX0_sitesWithin 81 = .ok (.iinc 3 1, 3) := by decide +kernel
theorem dX0_sitesWithin_84 : decode cX0_sitesWithin 84 = .ok (.goto (-80), 3) := by decide +kernel
theorem dX0_sitesWithin_87 : decode cX0_sitesWithin 87 = .ok (.iload_n 2, 1) := by decide +kernel
theorem dX0_sitesWithin_88 : decode cX0_sitesWithin 88 = .ok (.ireturn, 1) := by decide +kernel
theorem dX0_doClash_0 : decode cX0_doClash 0 = .ok (.aload_n 0, 1) := by decide +kernel
theorem dX0_doClash_1 : decode cX0_doClash 1 = .ok (.getfield 18, 3) := by decide +kernel
theorem dX0_doClash_4 : decode cX0_doClash 4 = .ok (.iload_n 1, 1) := by decide +kernel
theorem dX0_doClash_5 : decode cX0_doClash 5 = .ok (.iaload, 1) := by decide +kernel
theorem dX0_doClash_6 : decode cX0_doClash 6 = .ok (.aload_n 0, 1) := by decide +kernel
theorem dX0_doClash_7 : decode cX0_doClash 7 = .ok (.getfield 21, 3) := by decide +kernel
theorem dX0_doClash_10 : decode cX0_doClash 10 = .ok (.iload_n 2, 1) := by decide +kernel
theorem dX0_doClash_11 : decode cX0_doClash 11 = .ok (.iaload, 1) := by decide +kernel
theorem dX0_doClash_12 : decode cX0_doClash 12 = .ok (.aload_n 0, 1) := by decide +kernel
theorem dX0_doClash_13 : decode cX0_doClash 13 = .ok (.getfield 30, 3) := by decide +kernel
theorem dX0_doClash_16 : decode cX0_doClash 16 = .ok (.getfield 77, 3) := by decide +kernel
theorem dX0_doClash_19 : decode cX0_doClash 19 = .ok (.iadd, 1) := by decide +kernel
theorem dX0_doClash_20 : decode cX0_doClash 20 = .ok (.if_icmp .ge 76, 3) := by decide +kernel
theorem dX0_doClash_23 : decode cX0_doClash 23 = .ok (.aload_n 0, 1) := by decide +kernel
theorem dX0_doClash_24 : decode cX0_doClash 24 = .ok (.getfield 18, 3) := by decide +kernel
theorem dX0_doClash_27 : decode cX0_doClash 27 = .ok (.iload_n 2, 1) := by decide +kernel
theorem dX0_doClash_28 : decode cX0_doClash 28 = .ok (.iaload, 1) := by decide +kernel
theorem dX0_doClash_29 : decode cX0_doClash 29 = .ok (.aload_n 0, 1) := by decide +kernel
theorem dX0_doClash_30 : decode cX0_doClash 30 = .ok (.getfield 21, 3) := by decide +kernel
theorem dX0_doClash_33 : decode cX0_doClash 33 = .ok (.iload_n 1, 1) := by decide +kernel
theorem dX0_doClash_34 : decode cX0_doClash 34 = .ok (.iaload, 1) := by decide +kernel
theorem dX0_doClash_35 : decode cX0_doClash 35 = .ok (.aload_n 0, 1) := by decide +kernel
theorem dX0_doClash_36 : decode cX0_doClash 36 = .ok (.getfield 30, 3) := by decide +kernel
theorem dX0_doClash_39 : decode cX0_doClash 39 = .ok (.getfield 77, 3) := by decide +kernel
theorem dX0_doClash_42 : decode cX0_doClash 42 = .ok (.iadd, 1) := by decide +kernel
theorem dX0_doClash_43 : decode cX0_doClash 43 = .ok (.if_icmp .ge 53, 3) := by decide +kernel
theorem dX0_doClash_46 : decode cX0_doClash 46 = .ok (.aload_n 0, 1) := by decide +kernel
theorem dX0_doClash_47 : decode cX0_doClash 47 = .ok (.getfield 24, 3) := by decide +kernel
theorem dX0_doClash_50 : decode cX0_doClash 50 = .ok (.iload_n 1, 1) := by decide +kernel
theorem dX0_doClash_51 : decode cX0_doClash 51 = .ok (.iaload, 1) := by decide +kernel
theorem dX0_doClash_52 : decode cX0_doClash 52 = .ok (.aload_n 0, 1) := by decide +kernel
theorem dX0_doClash_53 : decode cX0_doClash 53 = .ok (.getfield 27, 3) := by decide +kernel
theorem dX0_doClash_56 : decode cX0_doClash 56 = .ok (.iload_n 2, 1) := by decide +kernel
theorem dX0_doClash_57 : decode cX0_doClash 57 = .ok (.iaload, 1) := by decide +kernel
theorem dX0_doClash_58 : decode cX0_doClash 58 = .ok (.aload_n 0, 1) := by decide +kernel
theorem dX0_doClash_59 : decode cX0_doClash 59 = .ok (.getfield 30, 3) := by decide +kernel
theorem dX0_doClash_62 : decode cX0_doClash 62 = .ok (.getfield 77, 3) := by decide +kernel
theorem dX0_doClash_65 : decode cX0_doClash 65 = .ok (.iadd, 1) := by decide +kernel
theorem dX0_doClash_66 : decode cX0_doClash 66 = .ok (.if_icmp .ge 30, 3) := by decide +kernel
theorem dX0_doClash_69 : decode cX0_doClash 69 = .ok (.aload_n 0, 1) := by decide +kernel
theorem dX0_doClash_70 : decode cX0_doClash 70 = .ok (.getfield 24, 3) := by decide +kernel
theorem dX0_doClash_73 : decode cX0_doClash 73 = .ok (.iload_n 2, 1) := by decide +kernel
theorem dX0_doClash_74 : decode cX0_doClash 74 = .ok (.iaload, 1) := by decide +kernel
theorem dX0_doClash_75 : decode cX0_doClash 75 = .ok (.aload_n 0, 1) := by decide +kernel
theorem dX0_doClash_76 : decode cX0_doClash 76 = .ok (.getfield 27, 3) := by decide +kernel
theorem dX0_doClash_79 : decode cX0_doClash 79 = .ok (.iload_n 1, 1) := by decide +kernel
theorem dX0_doClash_80 : decode cX0_doClash 80 = .ok (.iaload, 1) := by decide +kernel
theorem dX0_doClash_81 : decode cX0_doClash 81 = .ok (.aload_n 0, 1) := by decide +kernel
theorem dX0_doClash_82 : decode cX0_doClash 82 = .ok (.getfield 30, 3) := by decide +kernel
theorem dX0_doClash_85 : decode cX0_doClash 85 = .ok (.getfield 77, 3) := by decide +kernel
theorem dX0_doClash_88 : decode cX0_doClash 88 = .ok (.iadd, 1) := by decide +kernel
theorem dX0_doClash_89 : decode cX0_doClash 89 = .ok (.if_icmp .ge 7, 3) := by decide +kernel
theorem dX0_doClash_92 : decode cX0_doClash 92 = .ok (.iconst 1, 1) := by decide +kernel
theorem dX0_doClash_93 : decode cX0_doClash 93 = .ok (.goto 4, 3) := by decide +kernel
theorem dX0_doClash_96 : decode cX0_doClash 96 = .ok (.iconst 0, 1) := by decide +kernel
theorem dX0_doClash_97 : decode cX0_doClash 97 = .ok (.ireturn, 1) := by decide +kernel
theorem dX1_init_0 : decode cX1_init 0 = .ok (.aload_n 0, 1) := by decide +kernel
theorem dX1_init_1 : decode cX1_init 1 = .ok (.invokespecial 3, 3) := by decide +kernel
theorem dX1_init_4 : decode cX1_init 4 = .ok (.aload_n 0, 1) := by decide +kernel
theorem dX1_init_5 : decode cX1_init 5 = .ok (.bipush 100, 2) := by decide +kernel
theorem dX1_init_7 : decode cX1_init 7 = .ok (.putfield 9, 3) := by decide +kernel
theorem dX1_init_10 : decode cX1_init 10 = .ok (.aload_n 0, 1) := by decide +kernel
theorem dX1_init_11 : decode cX1_init 11 = .ok (.bipush 100, 2) := by decide +kernel
theorem dX1_init_13 : decode cX1_init 13 = .ok (.putfield 15, 3) := by decide +kernel
theorem dX1_init_16 : decode cX1_init 16 = .ok (.aload_n 0, 1) := by decide +kernel
theorem dX1_init_17 : decode cX1_init 17 = .ok (.bipush 10, 2) := by decide +kernel
theorem dX1_init_19 : decode cX1_init 19 = .ok (.putfield 18, 3) := by decide +kernel
theorem dX1_init_22 : decode cX1_init 22 = .ok (.aload_n 0, 1) := by decide +kernel
theorem dX1_init_23 : decode cX1_init 23 = .ok (.iconst 0, 1) := by decide +kernel
theorem dX1_init_24 : decode cX1_init 24 = .ok (.putfield 21, 3) := by decide +kernel
theorem dX1_init_27 : decode cX1_init 27 = .ok (.aload_n 0, 1) := by decide +kernel
theorem dX1_init_28 : decode cX1_init 28 = .ok (.iconst 0, 1) := by decide +kernel
theorem dX1_init_29 : decode cX1_init 29 = .ok (.putfield 24, 3) := by decide +kernel
theorem dX1_init_32 : decode cX1_init 32 = .ok (.aload_n 0, 1) := by decide +kernel
theorem dX1_init_33 : decode cX1_init 33 = .ok (.bipush 8, 2) := by decide +kernel
theorem dX1_init_35 : decode cX1_init 35 = .ok (.newarray .int, 2) := by decide +kernel
theorem dX1_init_37 : decode cX1_init 37 = .ok (.putfield 27, 3) := by decide +kernel
theorem dX1_init_40 : decode cX1_init 40 = .ok (.aload_n 0, 1) := by decide +kernel
theorem dX1_init_41 : decode cX1_init 41 = .ok (.bipush 8, 2) := by decide +kernel
theorem dX1_init_43 : decode cX1_init 43 = .ok (.newarray .int, 2) := by decide +kernel
theorem dX1_init_45 : decode cX1_init 45 = .ok (.putfield 31, 3) := by decide +kernel
theorem dX1_init_48 : decode cX1_init 48 = .ok (.aload_n 0, 1) := by decide +kernel
theorem dX1_init_49 : decode cX1_init 49 = .ok (.bipush 8, 2) := by decide +kernel
theorem dX1_init_51 : decode cX1_init 51 = .ok (.newarray .int, 2) := by decide +kernel
theorem dX1_init_53 : decode cX1_init 53 = .ok (.putfield 34, 3) := by decide +kernel
theorem dX1_init_56 : decode cX1_init 56 = .ok (.aload_n 0, 1) := by decide +kernel
theorem dX1_init_57 : decode cX1_init 57 = .ok (.bipush 8, 2) := by decide +kernel
theorem dX1_init_59 : decode cX1_init 59 = .ok (.newarray .int, 2) := by decide +kernel
theorem dX1_init_61 : decode cX1_init 61 = .ok (.putfield 37, 3) := by decide +kernel
theorem dX1_init_64 : decode cX1_init 64 = .ok (.aload_n 0, 1) := by decide +kernel
theorem dX1_init_65 : decode cX1_init 65 = .ok (.bipush 8, 2) := by decide +kernel
theorem dX1_init_67 : decode cX1_init 67 = .ok (.newarray .int, 2) := by decide +kernel
theorem dX1_init_69 : decode cX1_init 69 = .ok (.putfield 40, 3) := by decide +kernel
theorem dX1_init_72 : decode cX1_init 72 = .ok (.aload_n 0, 1) := by decide +kernel
theorem dX1_init_73 : decode cX1_init 73 = .ok (.bipush 32, 2) := by decide +kernel
theorem dX1_init_75 : decode cX1_init 75 = .ok (.newarray .boolean, 2) := by decide +kernel
theorem dX1_init_77 : decode cX1_init 77 = .ok (.putfield 43, 3) := by decide +kernel
theorem dX1_init_80 : decode cX1_init 80 = .ok (.return_, 1) := by decide +kernel
theorem dX1_has_0 : decode cX1_has 0 = .ok (.iload_n 1, 1) := by decide +kernel
theorem dX1_has_1 : decode cX1_has 1 = .ok (.iconst 0, 1) := by decide +kernel
theorem dX1_has_2 : decode cX1_has 2 = .ok (.aload_n 0, 1) := by decide +kernel
theorem dX1_has_3 : decode cX1_has 3 = .ok (.getfield 24, 3) := by decide +kernel
theorem dX1_has_6 : decode cX1_has 6 = .ok (.iconst 1, 1) := by decide +kernel
theorem dX1_has_7 : decode cX1_has 7 = .ok (.isub, 1) := by decide +kernel
theorem dX1_has_8 : decode cX1_has 8 = .ok (.invokestatic 47, 3) := by decide +kernel
theorem dX1_has_11 : decode cX1_has 11 = .ok (.ireturn, 1) := by decide +kernel
theorem dX1_holds_0 : decode cX1_holds 0 = .ok (.iload_n 1, 1) := by decide +kernel
theorem dX1_holds_1 : decode cX1_holds 1 = .ok (.iconst 0, 1) := by decide +kernel
theorem dX1_holds_2 : decode cX1_holds 2 = .ok (.aload_n 0, 1) := by decide +kernel
theorem dX1_holds_3 : decode cX1_holds 3 = .ok (.getfield 9, 3) := by decide +kernel
theorem dX1_holds_6 : decode cX1_holds 6 = .ok (.invokestatic 47, 3) := by decide +kernel
theorem dX1_holds_9 : decode cX1_holds 9 = .ok (.ifCond .eq 19, 3) := by decide +kernel
theorem dX1_holds_12 : decode cX1_holds 12 = .ok (.iload_n 2, 1) := by decide +kernel
theorem dX1_holds_13 : decode cX1_holds 13 = .ok (.iconst 0, 1) := by decide +kernel
theorem dX1_holds_14 : decode cX1_holds 14 = .ok (.aload_n 0, 1) := by decide +kernel
theorem dX1_holds_15 : decode cX1_holds 15 = .ok (.getfield 15, 3) := by decide +kernel
theorem dX1_holds_18 : decode cX1_holds 18 = .ok (.invokestatic 47, 3) := by decide +kernel
theorem dX1_holds_21 : decode cX1_holds 21 = .ok (.ifCond .eq 7, 3) := by decide +kernel
theorem dX1_holds_24 : decode cX1_holds 24 = .ok (.iconst 1, 1) := by decide +kernel
theorem dX1_holds_25 : decode cX1_holds 25 = .ok (.goto 4, 3) := by decide +kernel
theorem dX1_holds_28 : decode cX1_holds 28 = .ok (.iconst 0, 1) := by decide +kernel
theorem dX1_holds_29 : decode cX1_holds 29 = .ok (.ireturn, 1) := by decide +kernel
theorem dX1_add_0 : decode cX1_add 0 = .ok (.aload_n 0, 1) := by decide +kernel
theorem dX1_add_1 : decode cX1_add 1 = .ok (.getfield 24, 3) := by decide +kernel
theorem dX1_add_4 : decode cX1_add 4 = .ok (.istore 6, 2) := by decide +kernel
theorem dX1_add_6 : decode cX1_add 6 = .ok (.aload_n 0, 1) := by decide +kernel
theorem dX1_add_7 : decode cX1_add 7 = .ok (.getfield 27, 3) := by decide +kernel
theorem dX1_add_10 : decode cX1_add 10 = .ok (.iload 6, 2) := by decide +kernel
theorem dX1_add_12 : decode cX1_add 12 = .ok (.iload_n 1, 1) := by decide +kernel
theorem dX1_add_13 : decode cX1_add 13 = .ok (.iastore, 1) := by decide +kernel
theorem dX1_add_14 : decode cX1_add 14 = .ok (.aload_n 0, 1) := by decide +kernel
theorem dX1_add_15 : decode cX1_add 15 = .ok (.getfield 31, 3) := by decide +kernel
theorem dX1_add_18 : decode cX1_add 18 = .ok (.iload 6, 2) := by decide +kernel
theorem dX1_add_20 : decode cX1_add 20 = .ok (.iload_n 2, 1) := by decide +kernel
theorem dX1_add_21 : decode cX1_add 21 = .ok (.iastore, 1) := by decide +kernel
theorem dX1_add_22 : decode cX1_add 22 = .ok (.aload_n 0, 1) := by decide +kernel
theorem dX1_add_23 : decode cX1_add 23 = .ok (.getfield 34, 3) := by decide +kernel
theorem dX1_add_26 : decode cX1_add 26 = .ok (.iload 6, 2) := by decide +kernel
theorem dX1_add_28 : decode cX1_add 28 = .ok (.iload_n 3, 1) := by decide +kernel
theorem dX1_add_29 : decode cX1_add 29 = .ok (.iastore, 1) := by decide +kernel
theorem dX1_add_30 : decode cX1_add 30 = .ok (.aload_n 0, 1) := by decide +kernel
theorem dX1_add_31 : decode cX1_add 31 = .ok (.getfield 37, 3) := by decide +kernel
theorem dX1_add_34 : decode cX1_add 34 = .ok (.iload 6, 2) := by decide +kernel
theorem dX1_add_36 : decode cX1_add 36 = .ok (.iload 4, 2) := by decide +kernel
theorem dX1_add_38 : decode cX1_add 38 = .ok (.iastore, 1) := by decide +kernel
theorem dX1_add_39 : decode cX1_add 39 = .ok (.aload_n 0, 1) := by decide +kernel
theorem dX1_add_40 : decode cX1_add 40 = .ok (.getfield 40, 3) := by decide +kernel
theorem dX1_add_43 : decode cX1_add 43 = .ok (.iload 6, 2) := by decide +kernel
theorem dX1_add_45 : decode cX1_add 45 = .ok (.iload 5, 2) := by decide +kernel
theorem dX1_add_47 : decode cX1_add 47 = .ok (.iastore, 1) := by decide +kernel
theorem dX1_add_48 : decode cX1_add 48 = .ok (.iconst 0, 1) := by decide +kernel
theorem dX1_add_49 : decode cX1_add 49 = .ok (.istore 7, 2) := by decide +kernel
theorem dX1_add_51 : decode cX1_add 51 = .ok (.iload 7, 2) := by decide +kernel
theorem dX1_add_53 : decode cX1_add 53 = .ok (.iconst 4, 1) := by decide +kernel
theorem dX1_add_54 : decode cX1_add 54 = .ok (.if_icmp .ge 22, 3) := by decide +kernel
theorem dX1_add_57 : decode cX1_add 57 = .ok (.aload_n 0, 1) := by decide +kernel
theorem dX1_add_58 : decode cX1_add 58 = .ok (.getfield 43, 3) := by decide +kernel
theorem dX1_add_61 : decode cX1_add 61 = .ok (.iload 6, 2) := by decide +kernel
theorem dX1_add_63 : decode cX1_add 63 = .ok (.iload 7, 2) := by decide +kernel
theorem dX1_add_65 : decode cX1_add 65 = .ok (.invokestatic 51, 3) := by decide +kernel
theorem dX1_add_68 : decode cX1_add 68 = .ok (.iconst 1, 1) := by decide +kernel
theorem dX1_add_69 : decode cX1_add 69 = .ok (.bastore, 1) := by decide +kernel
theorem dX1_add_70 : decode cX1_add 70 = .ok (.iinc 7 1, 3) := by decide +kernel
theorem dX1_add_73 : decode cX1_add 73 = .ok (.goto (-22), 3) := by decide +kernel
theorem dX1_add_76 : decode cX1_add 76 = .ok (.aload_n 0, 1) := by decide +kernel
theorem dX1_add_77 : decode cX1_add 77 = .ok (.dup, 1) := by decide +kernel
theorem dX1_add_78 : decode cX1_add 78 = .ok (.getfield 24, 3) := by decide +kernel
theorem dX1_add_81 : decode cX1_add 81 = .ok (.iconst 1, 1) := by decide +kernel
theorem dX1_add_82 : decode cX1_add 82 = .ok (.iadd, 1) := by decide +kernel
theorem dX1_add_83 : decode cX1_add 83 = .ok (.putfield 24, 3) := by decide +kernel
theorem dX1_add_86 : decode cX1_add 86 = .ok (.iload 6, 2) := by decide +kernel
theorem dX1_add_88 : decode cX1_add 88 = .ok (.ireturn, 1) := by decide +kernel
theorem dX1_everySite_0 : decode cX1_everySite 0 = .ok (.iconst 1, 1) := by decide +kernel
theorem dX1_everySite_1 : decode cX1_everySite 1 = .ok (.aload_n 0, 1) := by decide +kernel
theorem dX1_everySite_2 : decode cX1_everySite 2 = .ok (.getfield 24, 3) := by decide +kernel
theorem dX1_everySite_5 : decode cX1_everySite 5 = .ok (.ishl, 1) := by decide +kernel
theorem dX1_everySite_6 : decode cX1_everySite 6 = .ok (.iconst 1, 1) := by decide +kernel
theorem dX1_everySite_7 : decode cX1_everySite 7 = .ok (.isub, 1) := by decide +kernel
theorem dX1_everySite_8 : decode cX1_everySite 8 = .ok (.ireturn, 1) := by decide +kernel
theorem dX1_worthOf_0 : decode cX1_worthOf 0 = .ok (.iconst 0, 1) := by decide +kernel
theorem dX1_worthOf_1 : decode cX1_worthOf 1 = .ok (.istore_n 2, 1) := by decide +kernel
theorem dX1_worthOf_2 : decode cX1_worthOf 2 = .ok (.iconst 0, 1) := by decide +kernel
theorem dX1_worthOf_3 : decode cX1_worthOf 3 = .ok (.istore_n 3, 1) := by decide +kernel
theorem dX1_worthOf_4 : decode cX1_worthOf 4 = .ok (.iload_n 3, 1) := by decide +kernel
theorem dX1_worthOf_5 : decode cX1_worthOf 5 = .ok (.aload_n 0, 1) := by decide +kernel
theorem dX1_worthOf_6 : decode cX1_worthOf 6 = .ok (.getfield 24, 3) := by decide +kernel
theorem dX1_worthOf_9 : decode cX1_worthOf 9 = .ok (.if_icmp .ge 26, 3) := by decide +kernel
theorem dX1_worthOf_12 : decode cX1_worthOf 12 = .ok (.iload_n 1, 1) := by decide +kernel
theorem dX1_worthOf_13 : decode cX1_worthOf 13 = .ok (.iload_n 3, 1) := by decide +kernel
theorem dX1_worthOf_14 : decode cX1_worthOf 14 = .ok (.invokestatic 55, 3) := by decide +kernel
theorem dX1_worthOf_17 : decode cX1_worthOf 17 = .ok (.ifCond .eq 12, 3) := by decide +kernel
theorem dX1_worthOf_20 : decode cX1_worthOf 20 = .ok (.iload_n 2, 1) := by decide +kernel
theorem dX1_worthOf_21 : decode cX1_worthOf 21 = .ok (.aload_n 0, 1) := by decide +kernel
theorem dX1_worthOf_22 : decode cX1_worthOf 22 = .ok (.getfield 40, 3) := by decide +kernel
theorem dX1_worthOf_25 : decode cX1_worthOf 25 = .ok (.iload_n 3, 1) := by decide +kernel
theorem dX1_worthOf_26 : decode cX1_worthOf 26 = .ok (.iaload, 1) := by decide +kernel
theorem dX1_worthOf_27 : decode cX1_worthOf 27 = .ok (.iadd, 1) := by decide +kernel
theorem dX1_worthOf_28 : decode cX1_worthOf 28 = .ok (.istore_n 2, 1) := by decide +kernel
theorem dX1_worthOf_29 : decode cX1_worthOf 29 = .ok (.iinc 3 1, 3) := by decide +kernel
theorem dX1_worthOf_32 : decode cX1_worthOf 32 = .ok (.goto (-28), 3) := by decide +kernel
theorem dX1_worthOf_35 : decode cX1_worthOf 35 = .ok (.iload_n 2, 1) := by decide +kernel
theorem dX1_worthOf_36 : decode cX1_worthOf 36 = .ok (.ireturn, 1) := by decide +kernel
theorem dX1_isSetForLines_0 : decode cX1_isSetForLines 0 = .ok (.iload_n 1, 1) := by decide +kernel
theorem dX1_isSetForLines_1 : decode cX1_isSetForLines 1 = .ok (.aload_n 0, 1) := by decide +kernel
theorem dX1_isSetForLines_2 : decode cX1_isSetForLines 2 = .ok (.invokevirtual 59, 3) := by decide +kernel
theorem dX1_isSetForLines_5 : decode cX1_isSetForLines 5 = .ok (.iconst (-1), 1) := by decide +kernel
theorem dX1_isSetForLines_6 : decode cX1_isSetForLines 6 = .ok (.ixor, 1) := by decide +kernel
theorem dX1_isSetForLines_7 : decode cX1_isSetForLines 7 = .ok (.iand, 1) := by decide +kernel
theorem dX1_isSetForLines_8 : decode cX1_isSetForLines 8 = .ok (.ifCond .ne 16, 3) := by decide +kernel
theorem dX1_isSetForLines_11 : decode cX1_isSetForLines 11 = .ok (.iload_n 1, 1) := by decide +kernel
theorem dX1_isSetForLines_12 : decode cX1_isSetForLines 12 = .ok (.invokestatic 63, 3) := by decide +kernel
theorem dX1_isSetForLines_15 : decode cX1_isSetForLines 15 = .ok (.bipush 6, 2) := by decide +kernel
theorem dX1_isSetForLines_17 : decode cX1_isSetForLines 17 = .ok (.if_icmp .gt 7, 3) := by decide +kernel
theorem dX1_isSetForLines_20 : decode cX1_isSetForLines 20 = .ok (.iconst 1, 1) := by decide +kernel
theorem dX1_isSetForLines_21 : decode cX1_isSetForLines 21 = .ok (.goto 4, 3) := by decide +kernel
theorem dX1_isSetForLines_24 : decode cX1_isSetForLines 24 = .ok (.iconst 0, 1) := by decide +kernel
theorem dX1_isSetForLines_25 : decode cX1_isSetForLines 25 = .ok (.ireturn, 1) := by decide +kernel
theorem dX2_init_0 : decode cX2_init 0 = .ok (.aload_n 0, 1) := by decide +kernel
theorem dX2_init_1 : decode cX2_init 1 = .ok (.invokespecial 3, 3) := by decide +kernel
theorem dX2_init_4 : decode cX2_init 4 = .ok (.aload_n 0, 1) := by decide +kernel
theorem dX2_init_5 : decode cX2_init 5 = .ok (.bipush 6, 2) := by decide +kernel
theorem dX2_init_7 : decode cX2_init 7 = .ok (.newarray .int, 2) := by decide +kernel
theorem dX2_init_9 : decode cX2_init 9 = .ok (.putfield 9, 3) := by decide +kernel
theorem dX2_init_12 : decode cX2_init 12 = .ok (.aload_n 0, 1) := by decide +kernel
theorem dX2_init_13 : decode cX2_init 13 = .ok (.bipush 6, 2) := by decide +kernel
theorem dX2_init_15 : decode cX2_init 15 = .ok (.newarray .int, 2) := by decide +kernel
theorem dX2_init_17 : decode cX2_init 17 = .ok (.putfield 15, 3) := by decide +kernel
theorem dX2_init_20 : decode cX2_init 20 = .ok (.aload_n 0, 1) := by decide +kernel
theorem dX2_init_21 : decode cX2_init 21 = .ok (.bipush 6, 2) := by decide +kernel
theorem dX2_init_23 : decode cX2_init 23 = .ok (.newarray .int, 2) := by decide +kernel
theorem dX2_init_25 : decode cX2_init 25 = .ok (.putfield 18, 3) := by decide +kernel
theorem dX2_init_28 : decode cX2_init 28 = .ok (.aload_n 0, 1) := by decide +kernel
theorem dX2_init_29 : decode cX2_init 29 = .ok (.aload_n 1, 1) := by decide +kernel
theorem dX2_init_30 : decode cX2_init 30 = .ok (.putfield 21, 3) := by decide +kernel
theorem dX2_init_33 : decode cX2_init 33 = .ok (.return_, 1) := by decide +kernel
theorem dX2_deal_0 : decode cX2_deal 0 = .ok (.aload_n 0, 1) := by decide +kernel
theorem dX2_deal_1 : decode cX2_deal 1 = .ok (.iconst 0, 1) := by decide +kernel
theorem dX2_deal_2 : decode cX2_deal 2 = .ok (.putfield 25, 3) := by decide +kernel
theorem dX2_deal_5 : decode cX2_deal 5 = .ok (.iconst 0, 1) := by decide +kernel
theorem dX2_deal_6 : decode cX2_deal 6 = .ok (.istore_n 2, 1) := by decide +kernel
theorem dX2_deal_7 : decode cX2_deal 7 = .ok (.iload_n 2, 1) := by decide +kernel
theorem dX2_deal_8 : decode cX2_deal 8 = .ok (.aload_n 0, 1) := by decide +kernel
theorem dX2_deal_9 : decode cX2_deal 9 = .ok (.getfield 21, 3) := by decide +kernel
theorem dX2_deal_12 : decode cX2_deal 12 = .ok (.getfield 29, 3) := by decide +kernel
theorem dX2_deal_15 : decode cX2_deal 15 = .ok (.if_icmp .ge 46, 3) := by decide +kernel
theorem dX2_deal_18 : decode cX2_deal 18 = .ok (.aload_n 0, 1) := by decide +kernel
theorem dX2_deal_19 : decode cX2_deal 19 = .ok (.getfield 25, 3) := by decide +kernel
theorem dX2_deal_22 : decode cX2_deal 22 = .ok (.bipush 6, 2) := by decide +kernel
theorem dX2_deal_24 : decode cX2_deal 24 = .ok (.if_icmp .ge 37, 3) := by decide +kernel
theorem dX2_deal_27 : decode cX2_deal 27 = .ok (.iload_n 1, 1) := by decide +kernel
theorem dX2_deal_28 : decode cX2_deal 28 = .ok (.iload_n 2, 1) := by decide +kernel
theorem dX2_deal_29 : decode cX2_deal 29 = .ok (.invokestatic 34, 3) := by decide +kernel
theorem dX2_deal_32 : decode cX2_deal 32 = .ok (.ifCond .eq 23, 3) := by decide +kernel
theorem dX2_deal_35 : decode cX2_deal 35 = .ok (.aload_n 0, 1) := by decide +kernel
theorem dX2_deal_36 : decode cX2_deal 36 = .ok (.getfield 9, 3) := by decide +kernel
theorem dX2_deal_39 : decode cX2_deal 39 = .ok (.aload_n 0, 1) := by decide +kernel
theorem dX2_deal_40 : decode cX2_deal 40 = .ok (.getfield 25, 3) := by decide +kernel
theorem dX2_deal_43 : decode cX2_deal 43 = .ok (.iload_n 2, 1) := by decide +kernel
theorem dX2_deal_44 : decode cX2_deal 44 = .ok (.iastore, 1) := by decide +kernel
theorem dX2_deal_45 : decode cX2_deal 45 = .ok (.aload_n 0, 1) := by decide +kernel
theorem dX2_deal_46 : decode cX2_deal 46 = .ok (.dup, 1) := by decide +kernel
theorem dX2_deal_47 : decode cX2_deal 47 = .ok (.getfield 25, 3) := by decide +kernel
theorem dX2_deal_50 : decode cX2_deal 50 = .ok (.iconst 1, 1) := by decide +kernel
theorem dX2_deal_51 : decode cX2_deal 51 = .ok (.iadd, 1) := by decide +kernel
theorem dX2_deal_52 : decode cX2_deal 52 = .ok (.putfield 25, 3) := by decide +kernel
theorem dX2_deal_55 : decode cX2_deal 55 = .ok (.iinc 2 1, 3) := by decide +kernel
theorem dX2_deal_58 : decode cX2_deal 58 = .ok (.goto (-51), 3) := by decide +kernel
theorem dX2_deal_61 : decode cX2_deal 61 = .ok (.aload_n 0, 1) := by decide +kernel
theorem dX2_deal_62 : decode cX2_deal 62 = .ok (.ldc 38, 2) := by decide +kernel
theorem dX2_deal_64 : decode cX2_deal 64 = .ok (.putfield 39, 3) := by decide +kernel
theorem dX2_deal_67 : decode cX2_deal 67 = .ok (.aload_n 0, 1) := by decide +kernel
theorem dX2_deal_68 : decode cX2_deal 68 = .ok (.ldc 38, 2) := by decide +kernel
theorem dX2_deal_70 : decode cX2_deal 70 = .ok (.putfield 42, 3) := by decide +kernel
theorem dX2_deal_73 : decode cX2_deal 73 = .ok (.aload_n 0, 1) := by decide +kernel
theorem dX2_deal_74 : decode cX2_deal 74 = .ok (.iconst 0, 1) := by decide +kernel
theorem dX2_deal_75 : decode cX2_deal 75 = .ok (.iconst 0, 1) := by decide +kernel
theorem dX2_deal_76 : decode cX2_deal 76 = .ok (.iconst 0, 1) := by decide +kernel
theorem dX2_deal_77 : decode cX2_deal 77 = .ok (.iconst 0, 1) := by decide +kernel
theorem dX2_deal_78 : decode cX2_deal 78 = .ok (.invokestatic 45, 3) := by decide +kernel
theorem dX2_deal_81 : decode cX2_deal 81 = .ok (.return_, 1) := by decide +kernel
theorem dX2_seekDeal_0 : decode cX2_seekDeal 0 = .ok (.iload_n 3, 1) := by decide +kernel
theorem dX2_seekDeal_1 : decode cX2_seekDeal 1 = .ok (.aload_n 0, 1) := by decide +kernel
theorem dX2_seekDeal_2 : decode cX2_seekDeal 2 = .ok (.getfield 39, 3) := by decide +kernel
theorem dX2_seekDeal_5 : decode cX2_seekDeal 5 = .ok (.if_icmp .gt 20, 3) := by decide +kernel
theorem dX2_seekDeal_8 : decode cX2_seekDeal 8 = .ok (.iload_n 3, 1) := by decide +kernel
theorem dX2_seekDeal_9 : decode cX2_seekDeal 9 = .ok (.aload_n 0, 1) := by decide +kernel
theorem dX2_seekDeal_10 : decode cX2_seekDeal 10 = .ok (.getfield 39, 3) := by decide +kernel
theorem dX2_seekDeal_13 : decode cX2_seekDeal 13 = .ok (.if_icmp .ne 13, 3) := by decide +kernel
theorem dX2_seekDeal_16 : decode cX2_seekDeal 16 = .ok (.iload 4, 2) := by decide +kernel
theorem dX2_seekDeal_18 : decode cX2_seekDeal 18 = .ok (.aload_n 0, 1) := by decide +kernel
theorem dX2_seekDeal_19 : decode cX2_seekDeal 19 = .ok (.getfield 42, 3) := by decide +kernel
theorem dX2_seekDeal_22 : decode cX2_seekDeal 22 = .ok (.if_icmp .lt 4, 3) := by decide +kernel
theorem dX2_seekDeal_25 : decode cX2_seekDeal 25 = .ok (.return_, 1) := by decide +kernel
theorem dX2_seekDeal_26 : decode cX2_seekDeal 26 = .ok (.iload_n 1, 1) := by decide +kernel
theorem dX2_seekDeal_27 : decode cX2_seekDeal 27 = .ok (.aload_n 0, 1) := by decide +kernel
theorem dX2_seekDeal_28 : decode cX2_seekDeal 28 = .ok (.getfield 25, 3) := by decide +kernel
theorem dX2_seekDeal_31 : decode cX2_seekDeal 31 = .ok (.if_icmp .lt 30, 3) := by decide +kernel
theorem dX2_seekDeal_34 : decode cX2_seekDeal 34 = .ok (.aload_n 0, 1) := by decide +kernel
theorem dX2_seekDeal_35 : decode cX2_seekDeal 35 = .ok (.iload_n 3, 1) := by decide +kernel
theorem dX2_seekDeal_36 : decode cX2_seekDeal 36 = .ok (.putfield 39, 3) := by decide +kernel
theorem dX2_seekDeal_39 : decode cX2_seekDeal 39 = .ok (.aload_n 0, 1) := by decide +kernel
theorem dX2_seekDeal_40 : decode cX2_seekDeal 40 = .ok (.iload 4, 2) := by decide +kernel
theorem dX2_seekDeal_42 : decode cX2_seekDeal 42 = .ok (.putfield 42, 3) := by decide +kernel
theorem dX2_seekDeal_45 : decode cX2_seekDeal 45 = .ok (.aload_n 0, 1) := by decide +kernel
theorem dX2_seekDeal_46 : decode cX2_seekDeal 46 = .ok (.getfield 15, 3) := by decide +kernel
theorem dX2_seekDeal_49 : decode cX2_seekDeal 49 = .ok (.iconst 0, 1) := by decide +kernel
theorem dX2_seekDeal_50 : decode cX2_seekDeal 50 = .ok (.aload_n 0, 1) := by decide +kernel
theorem dX2_seekDeal_51 : decode cX2_seekDeal 51 = .ok (.getfield 18, 3) := by decide +kernel
theorem dX2_seekDeal_54 : decode cX2_seekDeal 54 = .ok (.iconst 0, 1) := by decide +kernel
theorem dX2_seekDeal_55 : decode cX2_seekDeal 55 = .ok (.bipush 6, 2) := by decide +kernel
theorem dX2_seekDeal_57 : decode cX2_seekDeal 57 = .ok (.invokestatic 49, 3) := by decide +kernel
theorem dX2_seekDeal_60 : decode cX2_seekDeal 60 = .ok (.return_, 1) := by decide +kernel
theorem dX2_seekDeal_61 : decode cX2_seekDeal 61 = .ok (.iconst 0, 1) := by decide +kernel
theorem dX2_seekDeal_62 : decode cX2_seekDeal 62 = .ok (.istore 5, 2) := by decide +kernel
theorem dX2_seekDeal_64 : decode cX2_seekDeal 64 = .ok (.iload 5, 2) := by decide +kernel
theorem dX2_seekDeal_66 : decode cX2_seekDeal 66 = .ok (.aload_n 0, 1) := by decide +kernel
theorem dX2_seekDeal_67 : decode cX2_seekDeal 67 = .ok (.getfield 25, 3) := by decide +kernel
theorem dX2_seekDeal_70 : decode cX2_seekDeal 70 = .ok (.if_icmp .ge 54, 3) := by decide +kernel
theorem dX2_seekDeal_73 : decode cX2_seekDeal 73 = .ok (.iload_n 2, 1) := by decide +kernel
theorem dX2_seekDeal_74 : decode cX2_seekDeal 74 = .ok (.iload 5, 2) := by decide +kernel
theorem dX2_seekDeal_76 : decode cX2_seekDeal 76 = .ok (.invokestatic 34, 3) := by decide +kernel
theorem dX2_seekDeal_79 : decode cX2_seekDeal 79 = .ok (.ifCond .ne 39, 3) := by decide +kernel
theorem dX2_seekDeal_82 : decode cX2_seekDeal 82 = .ok (.aload_n 0, 1) := by decide +kernel
theorem dX2_seekDeal_83 : decode cX2_seekDeal 83 = .ok (.getfield 15, 3) := by decide +kernel
theorem dX2_seekDeal_86 : decode cX2_seekDeal 86 = .ok (.iload_n 1, 1) := by decide +kernel
theorem dX2_seekDeal_87 : decode cX2_seekDeal 87 = .ok (.iload 5, 2) := by decide +kernel
theorem dX2_seekDeal_89 : decode cX2_seekDeal 89 = .ok (.iastore, 1) := by decide +kernel
theorem dX2_seekDeal_90 : decode cX2_seekDeal 90 = .ok (.aload_n 0, 1) := by decide +kernel
theorem dX2_seekDeal_91 : decode cX2_seekDeal 91 = .ok (.iload_n 1, 1) := by decide +kernel
theorem dX2_seekDeal_92 : decode cX2_seekDeal 92 = .ok (.iconst 1, 1) := by decide +kernel
theorem dX2_seekDeal_93 : decode cX2_seekDeal 93 = .ok (.iadd, 1) := by decide +kernel
theorem dX2_seekDeal_94 : decode cX2_seekDeal 94 = .ok (.iload_n 2, 1) := by decide +kernel
theorem dX2_seekDeal_95 : decode cX2_seekDeal 95 = .ok (.iconst 1, 1) := by decide +kernel
theorem dX2_seekDeal_96 : decode cX2_seekDeal 96 = .ok (.iload 5, 2) := by decide +kernel
theorem dX2_seekDeal_98 : decode cX2_seekDeal 98 = .ok (.ishl, 1) := by decide +kernel
theorem dX2_seekDeal_99 : decode cX2_seekDeal 99 = .ok (.ior, 1) := by decide +kernel
theorem dX2_seekDeal_100 : decode cX2_seekDeal 100 = .ok (.iload_n 3, 1) := by decide +kernel
theorem dX2_seekDeal_101 : decode cX2_seekDeal 101 = .ok (.aload_n 0, 1) := by decide +kernel
theorem dX2_seekDeal_102 : decode cX2_seekDeal 102 = .ok (.iload_n 1, 1) := by decide +kernel
theorem dX2_seekDeal_103 : decode cX2_seekDeal 103 = .ok (.invokevirtual 55, 3) := by decide +kernel
theorem dX2_seekDeal_106 : decode cX2_seekDeal 106 = .ok (.iadd, 1) := by decide +kernel
theorem dX2_seekDeal_107 : decode cX2_seekDeal 107 = .ok (.iload 4, 2) := by decide +kernel
theorem dX2_seekDeal_109 : decode cX2_seekDeal 109 = .ok (.aload_n 0, 1) := by decide +kernel
theorem dX2_seekDeal_110 : decode cX2_seekDeal 110 = .ok (.iload_n 1, 1) := by decide +kernel
theorem dX2_seekDeal_111 : decode cX2_seekDeal 111 = .ok (.invokevirtual 59, 3) := by decide +kernel
theorem dX2_seekDeal_114 : decode cX2_seekDeal 114 = .ok (.iadd, 1) := by decide +kernel
theorem dX2_seekDeal_115 : decode cX2_seekDeal 115 = .ok (.invokestatic 45, 3) := by decide +kernel
theorem dX2_seekDeal_118 : decode cX2_seekDeal 118 = .ok (.iinc 5 1, 3) := by decide +kernel
theorem dX2_seekDeal_121 : decode cX2_seekDeal 121 = .ok (.goto (-57), 3) := by decide +kernel
theorem dX2_seekDeal_124 : decode cX2_seekDeal 124 = .ok (.return_, 1) := by decide +kernel
theorem dX2_crossedBefore_0 : decode cX2_crossedBefore 0 = .ok (.iconst 0, 1) := by decide +kernel
theorem dX2_crossedBefore_1 : decode cX2_crossedBefore 1 = .ok (.istore_n 2, 1) := by decide +kernel
theorem dX2_crossedBefore_2 : decode cX2_crossedBefore 2 = .ok (.iconst 0, 1) := by decide +kernel
theorem dX2_crossedBefore_3 : decode cX2_crossedBefore 3 = .ok (.istore_n 3, 1) := by decide +kernel
theorem dX2_crossedBefore_4 : decode cX2_crossedBefore 4 = .ok (.iload_n 3, 1) := by decide +kernel
theorem dX2_crossedBefore_5 : decode cX2_crossedBefore 5 = .ok (.iload_n 1, 1) := by decide +kernel
theorem dX2_crossedBefore_6 : decode cX2_crossedBefore 6 = .ok (.if_icmp .ge 41, 3) := by decide +kernel
theorem dX2_crossedBefore_9 : decode cX2_crossedBefore 9 = .ok (.iload_n 2, 1) := by decide +kernel
theorem dX2_crossedBefore_10 : decode cX2_crossedBefore 10 = .ok (.aload_n 0, 1) := by decide +kernel
theorem dX2_crossedBefore_11 : decode cX2_crossedBefore 11 = .ok (.aload_n 0, 1) := by decide +kernel
theorem dX2_crossedBefore_12 : decode cX2_crossedBefore 12 = .ok (.getfield 9, 3) := by decide +kernel
theorem dX2_crossedBefore_15 : decode cX2_crossedBefore 15 = .ok (.iload_n 1, 1) := by decide +kernel
theorem dX2_crossedBefore_16 : decode cX2_crossedBefore 16 = .ok (.iaload, 1) := by decide +kernel
theorem dX2_crossedBefore_17 : decode cX2_crossedBefore 17 = .ok (.aload_n 0, 1) := by decide +kernel
theorem dX2_crossedBefore_18 : decode cX2_crossedBefore 18 = .ok (.iload_n 1, 1) := by decide +kernel
theorem dX2_crossedBefore_19 : decode cX2_crossedBefore 19 = .ok (.invokevirtual 62, 3) := by decide +kernel
theorem dX2_crossedBefore_22 : decode cX2_crossedBefore 22 = .ok (.aload_n 0, 1) := by decide +kernel
theorem dX2_crossedBefore_23 : decode cX2_crossedBefore 23 = .ok (.getfield 9, 3) := by decide +kernel
theorem dX2_crossedBefore_26 : decode cX2_crossedBefore 26 = .ok (.iload_n 3, 1) := by decide +kernel
theorem dX2_crossedBefore_27 : decode cX2_crossedBefore 27 = .ok (.iaload, 1) := by decide +kernel
theorem dX2_crossedBefore_28 : decode cX2_crossedBefore 28 = .ok (.aload_n 0, 1) := by decide +kernel
theorem dX2_crossedBefore_29 : decode cX2_crossedBefore 29 = .ok (.iload_n 3, 1) := by decide +kernel
theorem dX2_crossedBefore_30 : decode cX2_crossedBefore 30 = .ok (.invokevirtual 62, 3) := by decide +kernel
theorem dX2_crossedBefore_33 : decode cX2_crossedBefore 33 = .ok (.invokevirtual 65, 3) := by decide +kernel
theorem dX2_crossedBefore_36 : decode cX2_crossedBefore 36 = .ok (.invokestatic 69, 3) := by decide +kernel
theorem dX2_crossedBefore_39 : decode cX2_crossedBefore 39 = .ok (.iadd, 1) := by decide +kernel
theorem dX2_crossedBefore_40 : decode cX2_crossedBefore 40 = .ok (.istore_n 2, 1) := by decide +kernel
theorem dX2_crossedBefore_41 : decode cX2_crossedBefore 41 = .ok (.iinc 3 1, 3) := by decide +kernel
theorem dX2_crossedBefore_44 : decode cX2_crossedBefore 44 = .ok (.goto (-40), 3) := by decide +kernel
theorem dX2_crossedBefore_47 : decode cX2_crossedBefore 47 = .ok (.iload_n 2, 1) := by decide +kernel
theorem dX2_crossedBefore_48 : decode cX2_crossedBefore 48 = .ok (.ireturn, 1) := by decide +kernel
theorem dX2_heightOf_0 : decode cX2_heightOf 0 = .ok (.aload_n 0, 1) := by decide +kernel
theorem dX2_heightOf_1 : decode cX2_heightOf 1 = .ok (.getfield 25, 3) := by decide +kernel
theorem dX2_heightOf_4 : decode cX2_heightOf 4 = .ok (.ifCond .le 25, 3) := by decide +kernel
theorem dX2_heightOf_7 : decode cX2_heightOf 7 = .ok (.aload_n 0, 1) := by decide +kernel
theorem dX2_heightOf_8 : decode cX2_heightOf 8 = .ok (.getfield 15, 3) := by decide +kernel
theorem dX2_heightOf_11 : decode cX2_heightOf 11 = .ok (.iload_n 1, 1) := by decide +kernel
theorem dX2_heightOf_12 : decode cX2_heightOf 12 = .ok (.iaload, 1) := by decide +kernel
theorem dX2_heightOf_13 : decode cX2_heightOf 13 = .ok (.aload_n 0, 1) := by decide +kernel
theorem dX2_heightOf_14 : decode cX2_heightOf 14 = .ok (.getfield 21, 3) := by decide +kernel
theorem dX2_heightOf_17 : decode cX2_heightOf 17 = .ok (.getfield 73, 3) := by decide +kernel
theorem dX2_heightOf_20 : decode cX2_heightOf 20 = .ok (.imul, 1) := by decide +kernel
theorem dX2_heightOf_21 : decode cX2_heightOf 21 = .ok (.aload_n 0, 1) := by decide +kernel
theorem dX2_heightOf_22 : decode cX2_heightOf 22 = .ok (.getfield 25, 3) := by decide +kernel
theorem dX2_heightOf_25 : decode cX2_heightOf 25 = .ok (.idiv, 1) := by decide +kernel
theorem dX2_heightOf_26 : decode cX2_heightOf 26 = .ok (.goto 4, 3) := by decide +kernel
theorem dX2_heightOf_29 : decode cX2_heightOf 29 = .ok (.iconst 0, 1) := by decide +kernel
theorem dX2_heightOf_30 : decode cX2_heightOf 30 = .ok (.ireturn, 1) := by decide +kernel
theorem dX2_lengthOf_0 : decode cX2_lengthOf 0 = .ok (.aload_n 0, 1) := by decide +kernel
theorem dX2_lengthOf_1 : decode cX2_lengthOf 1 = .ok (.getfield 9, 3) := by decide +kernel
theorem dX2_lengthOf_4 : decode cX2_lengthOf 4 = .ok (.iload_n 1, 1) := by decide +kernel
theorem dX2_lengthOf_5 : decode cX2_lengthOf 5 = .ok (.iaload, 1) := by decide +kernel
theorem dX2_lengthOf_6 : decode cX2_lengthOf 6 = .ok (.istore_n 2, 1) := by decide +kernel
theorem dX2_lengthOf_7 : decode cX2_lengthOf 7 = .ok (.aload_n 0, 1) := by decide +kernel
theorem dX2_lengthOf_8 : decode cX2_lengthOf 8 = .ok (.iload_n 1, 1) := by decide +kernel
theorem dX2_lengthOf_9 : decode cX2_lengthOf 9 = .ok (.invokevirtual 62, 3) := by decide +kernel
theorem dX2_lengthOf_12 : decode cX2_lengthOf 12 = .ok (.aload_n 0, 1) := by decide +kernel
theorem dX2_lengthOf_13 : decode cX2_lengthOf 13 = .ok (.getfield 21, 3) := by decide +kernel
theorem dX2_lengthOf_16 : decode cX2_lengthOf 16 = .ok (.getfield 76, 3) := by decide +kernel
theorem dX2_lengthOf_19 : decode cX2_lengthOf 19 = .ok (.iload_n 2, 1) := by decide +kernel
theorem dX2_lengthOf_20 : decode cX2_lengthOf 20 = .ok (.iaload, 1) := by decide +kernel
theorem dX2_lengthOf_21 : decode cX2_lengthOf 21 = .ok (.isub, 1) := by decide +kernel
theorem dX2_lengthOf_22 : decode cX2_lengthOf 22 = .ok (.invokestatic 79, 3) := by decide +kernel
theorem dX2_lengthOf_25 : decode cX2_lengthOf 25 = .ok (.aload_n 0, 1) := by decide +kernel
theorem dX2_lengthOf_26 : decode cX2_lengthOf 26 = .ok (.getfield 21, 3) := by decide +kernel
theorem dX2_lengthOf_29 : decode cX2_lengthOf 29 = .ok (.getfield 84, 3) := by decide +kernel
theorem dX2_lengthOf_32 : decode cX2_lengthOf 32 = .ok (.iadd, 1) := by decide +kernel
theorem dX2_lengthOf_33 : decode cX2_lengthOf 33 = .ok (.aload_n 0, 1) := by decide +kernel
theorem dX2_lengthOf_34 : decode cX2_lengthOf 34 = .ok (.getfield 21, 3) := by decide +kernel
theorem dX2_lengthOf_37 : decode cX2_lengthOf 37 = .ok (.getfield 87, 3) := by decide +kernel
theorem dX2_lengthOf_40 : decode cX2_lengthOf 40 = .ok (.iload_n 2, 1) := by decide +kernel
theorem dX2_lengthOf_41 : decode cX2_lengthOf 41 = .ok (.iaload, 1) := by decide +kernel
theorem dX2_lengthOf_42 : decode cX2_lengthOf 42 = .ok (.isub, 1) := by decide +kernel
theorem dX2_lengthOf_43 : decode cX2_lengthOf 43 = .ok (.ireturn, 1) := by decide +kernel
theorem dX2_placeOf_0 : decode cX2_placeOf 0 = .ok (.iconst 0, 1) := by decide +kernel
theorem dX2_placeOf_1 : decode cX2_placeOf 1 = .ok (.istore_n 2, 1) := by decide +kernel
theorem dX2_placeOf_2 : decode cX2_placeOf 2 = .ok (.iload_n 2, 1) := by decide +kernel
theorem dX2_placeOf_3 : decode cX2_placeOf 3 = .ok (.aload_n 0, 1) := by decide +kernel
theorem dX2_placeOf_4 : decode cX2_placeOf 4 = .ok (.getfield 25, 3) := by decide +kernel
theorem dX2_placeOf_7 : decode cX2_placeOf 7 = .ok (.if_icmp .ge 26, 3) := by decide +kernel
theorem dX2_placeOf_10 : decode cX2_placeOf 10 = .ok (.aload_n 0, 1) := by decide +kernel
theorem dX2_placeOf_11 : decode cX2_placeOf 11 = .ok (.getfield 9, 3) := by decide +kernel
theorem dX2_placeOf_14 : decode cX2_placeOf 14 = .ok (.iload_n 2, 1) := by decide +kernel
theorem dX2_placeOf_15 : decode cX2_placeOf 15 = .ok (.iaload, 1) := by decide +kernel
theorem dX2_placeOf_16 : decode cX2_placeOf 16 = .ok (.iload_n 1, 1) := by decide +kernel
theorem dX2_placeOf_17 : decode cX2_placeOf 17 = .ok (.if_icmp .ne 10, 3) := by decide +kernel
theorem dX2_placeOf_20 : decode cX2_placeOf 20 = .ok (.aload_n 0, 1) := by decide +kernel
theorem dX2_placeOf_21 : decode cX2_placeOf 21 = .ok (.getfield 18, 3) := by decide +kernel
theorem dX2_placeOf_24 : decode cX2_placeOf 24 = .ok (.iload_n 2, 1) := by decide +kernel
theorem dX2_placeOf_25 : decode cX2_placeOf 25 = .ok (.iaload, 1) := by decide +kernel
theorem dX2_placeOf_26 : decode cX2_placeOf 26 = .ok (.ireturn, 1) := by decide +kernel
theorem dX2_placeOf_27 : decode cX2_placeOf 27 = .ok (.iinc 2 1, 3) := by decide +kernel
theorem dX2_placeOf_30 : decode cX2_placeOf 30 = .ok (.goto (-28), 3) := by decide +kernel
theorem dX2_placeOf_33 : decode cX2_placeOf 33 = .ok (.iconst (-1), 1) := by decide +kernel
theorem dX2_placeOf_34 : decode cX2_placeOf 34 = .ok (.ireturn, 1) := by decide +kernel
theorem dX2_doCross_0 : decode cX2_doCross 0 = .ok (.iload_n 2, 1) := by decide +kernel
theorem dX2_doCross_1 : decode cX2_doCross 1 = .ok (.iload 4, 2) := by decide +kernel
theorem dX2_doCross_3 : decode cX2_doCross 3 = .ok (.if_icmp .eq 39, 3) := by decide +kernel
theorem dX2_doCross_6 : decode cX2_doCross 6 = .ok (.aload_n 0, 1) := by decide +kernel
theorem dX2_doCross_7 : decode cX2_doCross 7 = .ok (.iload_n 1, 1) := by decide +kernel
theorem dX2_doCross_8 : decode cX2_doCross 8 = .ok (.iload_n 2, 1) := by decide +kernel
theorem dX2_doCross_9 : decode cX2_doCross 9 = .ok (.iload_n 3, 1) := by decide +kernel
theorem dX2_doCross_10 : decode cX2_doCross 10 = .ok (.iload 4, 2) := by decide +kernel
theorem dX2_doCross_12 : decode cX2_doCross 12 = .ok (.invokevirtual 90, 3) := by decide +kernel
theorem dX2_doCross_15 : decode cX2_doCross 15 = .ok (.ifCond .ne 27, 3) := by decide +kernel
theorem dX2_doCross_18 : decode cX2_doCross 18 = .ok (.aload_n 0, 1) := by decide +kernel
theorem dX2_doCross_19 : decode cX2_doCross 19 = .ok (.iload_n 3, 1) := by decide +kernel
theorem dX2_doCross_20 : decode cX2_doCross 20 = .ok (.iload 4, 2) := by decide +kernel
theorem dX2_doCross_22 : decode cX2_doCross 22 = .ok (.iload_n 1, 1) := by decide +kernel
theorem dX2_doCross_23 : decode cX2_doCross 23 = .ok (.iload_n 2, 1) := by decide +kernel
theorem dX2_doCross_24 : decode cX2_doCross 24 = .ok (.invokevirtual 90, 3) := by decide +kernel
theorem dX2_doCross_27 : decode cX2_doCross 27 = .ok (.ifCond .ne 15, 3) := by decide +kernel
theorem dX2_doCross_30 : decode cX2_doCross 30 = .ok (.aload_n 0, 1) := by decide +kernel
theorem dX2_doCross_31 : decode cX2_doCross 31 = .ok (.iload_n 1, 1) := by decide +kernel
theorem dX2_doCross_32 : decode cX2_doCross 32 = .ok (.iload_n 2, 1) := by decide +kernel
theorem dX2_doCross_33 : decode cX2_doCross 33 = .ok (.iload_n 3, 1) := by decide +kernel
theorem dX2_doCross_34 : decode cX2_doCross 34 = .ok (.iload 4, 2) := by decide +kernel
theorem dX2_doCross_36 : decode cX2_doCross 36 = .ok (.invokevirtual 93, 3) := by decide +kernel
theorem dX2_doCross_39 : decode cX2_doCross 39 = .ok (.ifCond .eq 7, 3) := by decide +kernel
theorem dX2_doCross_42 : decode cX2_doCross 42 = .ok (.iconst 1, 1) := by decide +kernel
theorem dX2_doCross_43 : decode cX2_doCross 43 = .ok (.goto 4, 3) := by decide +kernel
theorem dX2_doCross_46 : decode cX2_doCross 46 = .ok (.iconst 0, 1) := by decide +kernel
theorem dX2_doCross_47 : decode cX2_doCross 47 = .ok (.ireturn, 1) := by decide +kernel
theorem dX2_isFirstPartMet_0 : decode cX2_isFirstPartMet 0 = .ok (.aload_n 0, 1) := by decide +kernel
theorem dX2_isFirstPartMet_1 : decode cX2_isFirstPartMet 1 = .ok (.getfield 21, 3) := by decide +kernel
theorem dX2_isFirstPartMet_4 : decode cX2_isFirstPartMet 4 = .ok (.getfield 87, 3) := by decide +kernel
theorem dX2_isFirstPartMet_7 : decode cX2_isFirstPartMet 7 = .ok (.iload_n 3, 1) := by decide +kernel
theorem dX2_isFirstPartMet_8 : decode cX2_isFirstPartMet 8 = .ok (.iaload, 1) := by decide +kernel
theorem dX2_isFirstPartMet_9 : decode cX2_isFirstPartMet 9 = .ok (.aload_n 0, 1) := by decide +kernel
theorem dX2_isFirstPartMet_10 : decode cX2_isFirstPartMet 10 = .ok (.getfield 21, 3) := by decide +kernel
theorem dX2_isFirstPartMet_13 : decode cX2_isFirstPartMet 13 = .ok (.getfield 87, 3) := by decide +kernel
theorem dX2_isFirstPartMet_16 : decode cX2_isFirstPartMet 16 = .ok (.iload_n 1, 1) := by decide +kernel
theorem dX2_isFirstPartMet_17 : decode cX2_isFirstPartMet 17 = .ok (.iaload, 1) := by decide +kernel
theorem dX2_isFirstPartMet_18 : decode cX2_isFirstPartMet 18 = .ok (.if_icmp .gt 43, 3) := by decide +kernel
theorem dX2_isFirstPartMet_21 : decode cX2_isFirstPartMet 21 = .ok (.aload_n 0, 1) := by decide +kernel
theorem dX2_isFirstPartMet_22 : decode cX2_isFirstPartMet 22 = .ok (.getfield 21, 3) := by decide +kernel
theorem dX2_isFirstPartMet_25 : decode cX2_isFirstPartMet 25 = .ok (.getfield 76, 3) := by decide +kernel
theorem dX2_isFirstPartMet_28 : decode cX2_isFirstPartMet 28 = .ok (.iload_n 1, 1) := by decide +kernel
theorem dX2_isFirstPartMet_29 : decode cX2_isFirstPartMet 29 = .ok (.iaload, 1) := by decide +kernel
theorem dX2_isFirstPartMet_30 : decode cX2_isFirstPartMet 30 = .ok (.iload_n 2, 1) := by decide +kernel
theorem dX2_isFirstPartMet_31 : decode cX2_isFirstPartMet 31 = .ok (.invokestatic 96, 3) := by decide +kernel
theorem dX2_isFirstPartMet_34 : decode cX2_isFirstPartMet 34 = .ok (.iload 4, 2) := by decide +kernel
theorem dX2_isFirstPartMet_36 : decode cX2_isFirstPartMet 36 = .ok (.if_icmp .gt 25, 3) := by decide +kernel
theorem dX2_isFirstPartMet_39 : decode cX2_isFirstPartMet 39 = .ok (.iload 4, 2) := by decide +kernel
theorem dX2_isFirstPartMet_41 : decode cX2_isFirstPartMet 41 = .ok (.aload_n 0, 1) := by decide +kernel
theorem dX2_isFirstPartMet_42 : decode cX2_isFirstPartMet 42 = .ok (.getfield 21, 3) := by decide +kernel
theorem dX2_isFirstPartMet_45 : decode cX2_isFirstPartMet 45 = .ok (.getfield 76, 3) := by decide +kernel
theorem dX2_isFirstPartMet_48 : decode cX2_isFirstPartMet 48 = .ok (.iload_n 1, 1) := by decide +kernel
theorem dX2_isFirstPartMet_49 : decode cX2_isFirstPartMet 49 = .ok (.iaload, 1) := by decide +kernel
theorem dX2_isFirstPartMet_50 : decode cX2_isFirstPartMet 50 = .ok (.iload_n 2, 1) := by decide +kernel
theorem dX2_isFirstPartMet_51 : decode cX2_isFirstPartMet 51 = .ok (.invokestatic 100, 3) := by decide +kernel
theorem dX2_isFirstPartMet_54 : decode cX2_isFirstPartMet 54 = .ok (.if_icmp .gt 7, 3) := by decide +kernel
theorem dX2_isFirstPartMet_57 : decode cX2_isFirstPartMet 57 = .ok (.iconst 1, 1) := by decide +kernel
theorem dX2_isFirstPartMet_58 : decode cX2_isFirstPartMet 58 = .ok (.goto 4, 3) := by decide +kernel
theorem dX2_isFirstPartMet_61 : decode cX2_isFirstPartMet 61 = .ok (.iconst 0, 1) := by decide +kernel
theorem dX2_isFirstPartMet_62 : decode cX2_isFirstPartMet 62 = .ok (.ireturn, 1) := by decide +kernel
theorem dX2_doFirstPartsMeet_0 : decode cX2_doFirstPartsMeet 0 = .ok (.aload_n 0, 1) := by decide +kernel
theorem dX2_doFirstPartsMeet_1 : decode cX2_doFirstPartsMeet 1 = .ok (.getfield 21, 3) := by decide +kernel
theorem dX2_doFirstPartsMeet_4 : decode cX2_doFirstPartsMeet 4 = .ok (.getfield 87, 3) := by decide +kernel
theorem dX2_doFirstPartsMeet_7 : decode cX2_doFirstPartsMeet 7 = .ok (.iload_n 1, 1) := by decide +kernel
theorem dX2_doFirstPartsMeet_8 : decode cX2_doFirstPartsMeet 8 = .ok (.iaload, 1) := by decide +kernel
theorem dX2_doFirstPartsMeet_9 : decode cX2_doFirstPartsMeet 9 = .ok (.aload_n 0, 1) := by decide +kernel
theorem dX2_doFirstPartsMeet_10 : decode cX2_doFirstPartsMeet 10 = .ok (.getfield 21, 3) := by decide +kernel
theorem dX2_doFirstPartsMeet_13 : decode cX2_doFirstPartsMeet 13 = .ok (.getfield 87, 3) := by decide +kernel
theorem dX2_doFirstPartsMeet_16 : decode cX2_doFirstPartsMeet 16 = .ok (.iload_n 3, 1) := by decide +kernel
theorem dX2_doFirstPartsMeet_17 : decode cX2_doFirstPartsMeet 17 = .ok (.iaload, 1) := by decide +kernel
theorem dX2_doFirstPartsMeet_18 : decode cX2_doFirstPartsMeet 18 = .ok (.if_icmp .ne 67, 3) := by decide +kernel
theorem dX2_doFirstPartsMeet_21 : decode cX2_doFirstPartsMeet 21 = .ok (.aload_n 0, 1) := by decide +kernel
theorem dX2_doFirstPartsMeet_22 : decode cX2_doFirstPartsMeet 22 = .ok (.getfield 21, 3) := by decide +kernel
theorem dX2_doFirstPartsMeet_25 : decode cX2_doFirstPartsMeet 25 = .ok (.getfield 76, 3) := by decide +kernel
theorem dX2_doFirstPartsMeet_28 : decode cX2_doFirstPartsMeet 28 = .ok (.iload_n 1, 1) := by decide +kernel
theorem dX2_doFirstPartsMeet_29 : decode cX2_doFirstPartsMeet 29 = .ok (.iaload, 1) := by decide +kernel
theorem dX2_doFirstPartsMeet_30 : decode cX2_doFirstPartsMeet 30 = .ok (.iload_n 2, 1) := by decide +kernel
theorem dX2_doFirstPartsMeet_31 : decode cX2_doFirstPartsMeet 31 = .ok (.invokestatic 96, 3) := by decide +kernel
theorem dX2_doFirstPartsMeet_34 : decode cX2_doFirstPartsMeet 34 = .ok (.aload_n 0, 1) := by decide +kernel
theorem dX2_doFirstPartsMeet_35 : decode cX2_doFirstPartsMeet 35 = .ok (.getfield 21, 3) := by decide +kernel
theorem dX2_doFirstPartsMeet_38 : decode cX2_doFirstPartsMeet 38 = .ok (.getfield 76, 3) := by decide +kernel
theorem dX2_doFirstPartsMeet_41 : decode cX2_doFirstPartsMeet 41 = .ok (.iload_n 3, 1) := by decide +kernel
theorem dX2_doFirstPartsMeet_42 : decode cX2_doFirstPartsMeet 42 = .ok (.iaload, 1) := by decide +kernel
theorem dX2_doFirstPartsMeet_43 : decode cX2_doFirstPartsMeet 43 = .ok (.iload 4, 2) := by decide +kernel
theorem dX2_doFirstPartsMeet_45 : decode cX2_doFirstPartsMeet 45 = .ok (.invokestatic 100, 3) := by decide +kernel
theorem dX2_doFirstPartsMeet_48 : decode cX2_doFirstPartsMeet 48 = .ok (.if_icmp .gt 37, 3) := by decide +kernel
theorem dX2_doFirstPartsMeet_51 : decode cX2_doFirstPartsMeet 51 = .ok (.aload_n 0, 1) := by decide +kernel
theorem dX2_doFirstPartsMeet_52 : decode cX2_doFirstPartsMeet 52 = .ok (.getfield 21, 3) := by decide +kernel
theorem dX2_doFirstPartsMeet_55 : decode cX2_doFirstPartsMeet 55 = .ok (.getfield 76, 3) := by decide +kernel
theorem dX2_doFirstPartsMeet_58 : decode cX2_doFirstPartsMeet 58 = .ok (.iload_n 3, 1) := by decide +kernel
theorem dX2_doFirstPartsMeet_59 : decode cX2_doFirstPartsMeet 59 = .ok (.iaload, 1) := by decide +kernel
theorem dX2_doFirstPartsMeet_60 : decode cX2_doFirstPartsMeet 60 = .ok (.iload 4, 2) := by decide +kernel
theorem dX2_doFirstPartsMeet_62 : decode cX2_doFirstPartsMeet 62 = .ok (.invokestatic 96, 3) := by decide +kernel
theorem dX2_doFirstPartsMeet_65 : decode cX2_doFirstPartsMeet 65 = .ok (.aload_n 0, 1) := by decide +kernel
theorem dX2_doFirstPartsMeet_66 : decode cX2_doFirstPartsMeet 66 = .ok (.getfield 21, 3) := by decide +kernel
theorem dX2_doFirstPartsMeet_69 : decode cX2_doFirstPartsMeet 69 = .ok (.getfield 76, 3) := by decide +kernel
theorem dX2_doFirstPartsMeet_72 : decode cX2_doFirstPartsMeet 72 = .ok (.iload_n 1, 1) := by decide +kernel
theorem dX2_doFirstPartsMeet_73 : decode cX2_doFirstPartsMeet 73 = .ok (.iaload, 1) := by decide +kernel
theorem dX2_doFirstPartsMeet_74 : decode cX2_doFirstPartsMeet 74 = .ok (.iload_n 2, 1) := by decide +kernel
theorem dX2_doFirstPartsMeet_75 : decode cX2_doFirstPartsMeet 75 = .ok (.invokestatic 100, 3) := by decide +kernel
theorem dX2_doFirstPartsMeet_78 : decode cX2_doFirstPartsMeet 78 = .ok (.if_icmp .gt 7, 3) := by decide +kernel
theorem dX2_doFirstPartsMeet_81 : decode cX2_doFirstPartsMeet 81 = .ok (.iconst 1, 1) := by decide +kernel
theorem dX2_doFirstPartsMeet_82 : decode cX2_doFirstPartsMeet 82 = .ok (.goto 4, 3) := by decide +kernel
theorem dX2_doFirstPartsMeet_85 : decode cX2_doFirstPartsMeet 85 = .ok (.iconst 0, 1) := by decide +kernel
theorem dX2_doFirstPartsMeet_86 : decode cX2_doFirstPartsMeet 86 = .ok (.ireturn, 1) := by decide +kernel
theorem dX3_init_0 : decode cX3_init 0 = .ok (.aload_n 0, 1) := by decide +kernel
theorem dX3_init_1 : decode cX3_init 1 = .ok (.invokespecial 3, 3) := by decide +kernel
theorem dX3_init_4 : decode cX3_init 4 = .ok (.aload_n 0, 1) := by decide +kernel
theorem dX3_init_5 : decode cX3_init 5 = .ok (.bipush 8, 2) := by decide +kernel
theorem dX3_init_7 : decode cX3_init 7 = .ok (.newarray .int, 2) := by decide +kernel
theorem dX3_init_9 : decode cX3_init 9 = .ok (.putfield 9, 3) := by decide +kernel
theorem dX3_init_12 : decode cX3_init 12 = .ok (.aload_n 0, 1) := by decide +kernel
theorem dX3_init_13 : decode cX3_init 13 = .ok (.aload_n 1, 1) := by decide +kernel
theorem dX3_init_14 : decode cX3_init 14 = .ok (.putfield 15, 3) := by decide +kernel
theorem dX3_init_17 : decode cX3_init 17 = .ok (.aload_n 0, 1) := by decide +kernel
theorem dX3_init_18 : decode cX3_init 18 = .ok (.aload_n 2, 1) := by decide +kernel
theorem dX3_init_19 : decode cX3_init 19 = .ok (.putfield 19, 3) := by decide +kernel
theorem dX3_init_22 : decode cX3_init 22 = .ok (.return_, 1) := by decide +kernel
theorem dX3_ownFault_0 : decode cX3_ownFault 0 = .ok (.aload_n 0, 1) := by decide +kernel
theorem dX3_ownFault_1 : decode cX3_ownFault 1 = .ok (.getfield 9, 3) := by decide +kernel
theorem dX3_ownFault_4 : decode cX3_ownFault 4 = .ok (.iload_n 1, 1) := by decide +kernel
theorem dX3_ownFault_5 : decode cX3_ownFault 5 = .ok (.iaload, 1) := by decide +kernel
theorem dX3_ownFault_6 : decode cX3_ownFault 6 = .ok (.bipush (-9), 2) := by decide +kernel
theorem dX3_ownFault_8 : decode cX3_ownFault 8 = .ok (.if_icmp .eq 27, 3) := by decide +kernel
theorem dX3_ownFault_11 : decode cX3_ownFault 11 = .ok (.aload_n 0, 1) := by decide +kernel
theorem dX3_ownFault_12 : decode cX3_ownFault 12 = .ok (.getfield 19, 3) := by decide +kernel
theorem dX3_ownFault_15 : decode cX3_ownFault 15 = .ok (.iload_n 1, 1) := by decide +kernel
theorem dX3_ownFault_16 : decode cX3_ownFault 16 = .ok (.aload_n 0, 1) := by decide +kernel
theorem dX3_ownFault_17 : decode cX3_ownFault 17 = .ok (.getfield 9, 3) := by decide +kernel
theorem dX3_ownFault_20 : decode cX3_ownFault 20 = .ok (.iload_n 1, 1) := by decide +kernel
theorem dX3_ownFault_21 : decode cX3_ownFault 21 = .ok (.iaload, 1) := by decide +kernel
theorem dX3_ownFault_22 : decode cX3_ownFault 22 = .ok (.invokestatic 23, 3) := by decide +kernel
theorem dX3_ownFault_25 : decode cX3_ownFault 25 = .ok (.invokevirtual 27, 3) := by decide +kernel
theorem dX3_ownFault_28 : decode cX3_ownFault 28 = .ok (.ifCond .ne 7, 3) := by decide +kernel
theorem dX3_ownFault_31 : decode cX3_ownFault 31 = .ok (.iconst 1, 1) := by decide +kernel
theorem dX3_ownFault_32 : decode cX3_ownFault 32 = .ok (.goto 4, 3) := by decide +kernel
theorem dX3_ownFault_35 : decode cX3_ownFault 35 = .ok (.iconst 0, 1) := by decide +kernel
theorem dX3_ownFault_36 : decode cX3_ownFault 36 = .ok (.invokestatic 33, 3) := by decide +kernel
theorem dX3_ownFault_39 : decode cX3_ownFault 39 = .ok (.ireturn, 1) := by decide +kernel
theorem dX3_sharedFault_0 : decode cX3_sharedFault 0 = .ok (.aload_n 0, 1) := by decide +kernel
theorem dX3_sharedFault_1 : decode cX3_sharedFault 1 = .ok (.getfield 9, 3) := by decide +kernel
theorem dX3_sharedFault_4 : decode cX3_sharedFault 4 = .ok (.iload_n 1, 1) := by decide +kernel
theorem dX3_sharedFault_5 : decode cX3_sharedFault 5 = .ok (.iaload, 1) := by decide +kernel
theorem dX3_sharedFault_6 : decode cX3_sharedFault 6 = .ok (.bipush (-9), 2) := by decide +kernel
theorem dX3_sharedFault_8 : decode cX3_sharedFault 8 = .ok (.if_icmp .eq 48, 3) := by decide +kernel
theorem dX3_sharedFault_11 : decode cX3_sharedFault 11 = .ok (.aload_n 0, 1) := by decide +kernel
theorem dX3_sharedFault_12 : decode cX3_sharedFault 12 = .ok (.getfield 9, 3) := by decide +kernel
theorem dX3_sharedFault_15 : decode cX3_sharedFault 15 = .ok (.iload_n 2, 1) := by decide +kernel
theorem dX3_sharedFault_16 : decode cX3_sharedFault 16 = .ok (.iaload, 1) := by decide +kernel
theorem dX3_sharedFault_17 : decode cX3_sharedFault 17 = .ok (.bipush (-9), 2) := by decide +kernel
theorem dX3_sharedFault_19 : decode cX3_sharedFault 19 = .ok (.if_icmp .eq 37, 3) := by decide +kernel
theorem dX3_sharedFault_22 : decode cX3_sharedFault 22 = .ok (.aload_n 0, 1) := by decide +kernel
theorem dX3_sharedFault_23 : decode cX3_sharedFault 23 = .ok (.getfield 19, 3) := by decide +kernel
theorem dX3_sharedFault_26 : decode cX3_sharedFault 26 = .ok (.iload_n 1, 1) := by decide +kernel
theorem dX3_sharedFault_27 : decode cX3_sharedFault 27 = .ok (.aload_n 0, 1) := by decide +kernel
theorem dX3_sharedFault_28 : decode cX3_sharedFault 28 = .ok (.getfield 9, 3) := by decide +kernel
theorem dX3_sharedFault_31 : decode cX3_sharedFault 31 = .ok (.iload_n 1, 1) := by decide +kernel
theorem dX3_sharedFault_32 : decode cX3_sharedFault 32 = .ok (.iaload, 1) := by decide +kernel
theorem dX3_sharedFault_33 : decode cX3_sharedFault 33 = .ok (.invokestatic 23, 3) := by decide +kernel
theorem dX3_sharedFault_36 : decode cX3_sharedFault 36 = .ok (.iload_n 2, 1) := by decide +kernel
theorem dX3_sharedFault_37 : decode cX3_sharedFault 37 = .ok (.aload_n 0, 1) := by decide +kernel
theorem dX3_sharedFault_38 : decode cX3_sharedFault 38 = .ok (.getfield 9, 3) := by decide +kernel
theorem dX3_sharedFault_41 : decode cX3_sharedFault 41 = .ok (.iload_n 2, 1) := by decide +kernel
theorem dX3_sharedFault_42 : decode cX3_sharedFault 42 = .ok (.iaload, 1) := by decide +kernel
theorem dX3_sharedFault_43 : decode cX3_sharedFault 43 = .ok (.invokestatic 23, 3) := by decide +kernel
theorem dX3_sharedFault_46 : decode cX3_sharedFault 46 = .ok (.invokevirtual 37, 3) := by decide +kernel
theorem dX3_sharedFault_49 : decode cX3_sharedFault 49 = .ok (.ifCond .eq 7, 3) := by decide +kernel
theorem dX3_sharedFault_52 : decode cX3_sharedFault 52 = .ok (.iconst 1, 1) := by decide +kernel
theorem dX3_sharedFault_53 : decode cX3_sharedFault 53 = .ok (.goto 4, 3) := by decide +kernel
theorem dX3_sharedFault_56 : decode cX3_sharedFault 56 = .ok (.iconst 0, 1) := by decide +kernel
theorem dX3_sharedFault_57 : decode cX3_sharedFault 57 = .ok (.invokestatic 33, 3) := by decide +kernel
theorem dX3_sharedFault_60 : decode cX3_sharedFault 60 = .ok (.ireturn, 1) := by decide +kernel
theorem dX3_countFaults_0 : decode cX3_countFaults 0 = .ok (.iconst 0, 1) := by decide +kernel
theorem dX3_countFaults_1 : decode cX3_countFaults 1 = .ok (.istore_n 1, 1) := by decide +kernel
theorem dX3_countFaults_2 : decode cX3_countFaults 2 = .ok (.iconst 0, 1) := by decide +kernel
theorem dX3_countFaults_3 : decode cX3_countFaults 3 = .ok (.istore_n 2, 1) := by decide +kernel
theorem dX3_countFaults_4 : decode cX3_countFaults 4 = .ok (.iload_n 2, 1) := by decide +kernel
theorem dX3_countFaults_5 : decode cX3_countFaults 5 = .ok (.aload_n 0, 1) := by decide +kernel
theorem dX3_countFaults_6 : decode cX3_countFaults 6 = .ok (.getfield 15, 3) := by decide +kernel
theorem dX3_countFaults_9 : decode cX3_countFaults 9 = .ok (.getfield 41, 3) := by decide +kernel
theorem dX3_countFaults_12 : decode cX3_countFaults 12 = .ok (.if_icmp .ge 39, 3) := by decide +kernel
theorem dX3_countFaults_15 : decode cX3_countFaults 15 = .ok (.iload_n 1, 1) := by decide +kernel
theorem dX3_countFaults_16 : decode cX3_countFaults 16 = .ok (.aload_n 0, 1) := by decide +kernel
theorem dX3_countFaults_17 : decode cX3_countFaults 17 = .ok (.iload_n 2, 1) := by decide +kernel
theorem dX3_countFaults_18 : decode cX3_countFaults 18 = .ok (.invokevirtual 47, 3) := by decide +kernel
theorem dX3_countFaults_21 : decode cX3_countFaults 21 = .ok (.iadd, 1) := by decide +kernel
theorem dX3_countFaults_22 : decode cX3_countFaults 22 = .ok (.istore_n 1, 1) := by decide +kernel
theorem dX3_countFaults_23 : decode cX3_countFaults 23 = .ok (.iconst 0, 1) := by decide +kernel
theorem dX3_countFaults_24 : decode cX3_countFaults 24 = .ok (.istore_n 3, 1) := by decide +kernel
theorem dX3_countFaults_25 : decode cX3_countFaults 25 = .ok (.iload_n 3, 1) := by decide +kernel
theorem dX3_countFaults_26 : decode cX3_countFaults 26 = .ok (.iload_n 2, 1) := by decide +kernel
theorem dX3_countFaults_27 : decode cX3_countFaults 27 = .ok (.if_icmp .ge 18, 3) := by decide +kernel
theorem dX3_countFaults_30 : decode cX3_countFaults 30 = .ok (.iload_n 1, 1) := by decide +kernel
theorem dX3_countFaults_31 : decode cX3_countFaults 31 = .ok (.aload_n 0, 1) := by decide +kernel
theorem dX3_countFaults_32 : decode cX3_countFaults 32 = .ok (.iload_n 2, 1) := by decide +kernel
theorem dX3_countFaults_33 : decode cX3_countFaults 33 = .ok (.iload_n 3, 1) := by decide +kernel
theorem dX3_countFaults_34 : decode cX3_countFaults 34 = .ok (.invokevirtual 51, 3) := by decide +kernel
theorem dX3_countFaults_37 : decode cX3_countFaults 37 = .ok (.iadd, 1) := by decide +kernel
theorem dX3_countFaults_38 : decode cX3_countFaults 38 = .ok (.istore_n 1, 1) := by decide +kernel
theorem dX3_countFaults_39 : decode cX3_countFaults 39 = .ok (.iinc 3 1, 3) := by decide +kernel
theorem dX3_countFaults_42 : decode cX3_countFaults 42 = .ok (.goto (-17), 3) := by decide +kernel
theorem dX3_countFaults_45 : decode cX3_countFaults 45 = .ok (.iinc 2 1, 3) := by decide +kernel
theorem dX3_countFaults_48 : decode cX3_countFaults 48 = .ok (.goto (-44), 3) := by decide +kernel
theorem dX3_countFaults_51 : decode cX3_countFaults 51 = .ok (.iload_n 1, 1) := by decide +kernel
theorem dX3_countFaults_52 : decode cX3_countFaults 52 = .ok (.ireturn, 1) := by decide +kernel
theorem dX3_mendMost_0 : decode cX3_mendMost 0 = .ok (.aload_n 0, 1) := by decide +kernel
theorem dX3_mendMost_1 : decode cX3_mendMost 1 = .ok (.invokevirtual 54, 3) := by decide +kernel
theorem dX3_mendMost_4 : decode cX3_mendMost 4 = .ok (.istore_n 1, 1) := by decide +kernel
theorem dX3_mendMost_5 : decode cX3_mendMost 5 = .ok (.bipush (-9), 2) := by decide +kernel
theorem dX3_mendMost_7 : decode cX3_mendMost 7 = .ok (.istore_n 2, 1) := by decide +kernel
theorem dX3_mendMost_8 : decode cX3_mendMost 8 = .ok (.bipush (-9), 2) := by decide +kernel
theorem dX3_mendMost_10 : decode cX3_mendMost 10 = .ok (.istore_n 3, 1) := by decide +kernel
theorem dX3_mendMost_11 : decode cX3_mendMost 11 = .ok (.iconst 0, 1) := by decide +kernel
theorem dX3_mendMost_12 : decode cX3_mendMost 12 = .ok (.istore 4, 2) := by decide +kernel
theorem dX3_mendMost_14 : decode cX3_mendMost 14 = .ok (.iload 4, 2) := by decide +kernel
theorem dX3_mendMost_16 : decode cX3_mendMost 16 = .ok (.aload_n 0, 1) := by decide +kernel
theorem dX3_mendMost_17 : decode cX3_mendMost 17 = .ok (.getfield 15, 3) := by decide +kernel
theorem dX3_mendMost_20 : decode cX3_mendMost 20 = .ok (.getfield 41, 3) := by decide +kernel
theorem dX3_mendMost_23 : decode cX3_mendMost 23 = .ok (.if_icmp .ge 79, 3) := by decide +kernel
theorem dX3_mendMost_26 : decode cX3_mendMost 26 = .ok (.aload_n 0, 1) := by decide +kernel
theorem dX3_mendMost_27 : decode cX3_mendMost 27 = .ok (.getfield 9, 3) := by decide +kernel
theorem dX3_mendMost_30 : decode cX3_mendMost 30 = .ok (.iload 4, 2) := by decide +kernel
theorem dX3_mendMost_32 : decode cX3_mendMost 32 = .ok (.iaload, 1) := by decide +kernel
theorem dX3_mendMost_33 : decode cX3_mendMost 33 = .ok (.istore 5, 2) := by decide +kernel
theorem dX3_mendMost_35 : decode cX3_mendMost 35 = .ok (.iconst 0, 1) := by decide +kernel
theorem dX3_mendMost_36 : decode cX3_mendMost 36 = .ok (.istore 6, 2) := by decide +kernel
theorem dX3_mendMost_38 : decode cX3_mendMost 38 = .ok (.iload 6, 2) := by decide +kernel
theorem dX3_mendMost_40 : decode cX3_mendMost 40 = .ok (.iconst 4, 1) := by decide +kernel
theorem dX3_mendMost_41 : decode cX3_mendMost 41 = .ok (.if_icmp .ge 46, 3) := by decide +kernel
theorem dX3_mendMost_44 : decode cX3_mendMost 44 = .ok (.iload 5, 2) := by decide +kernel
theorem dX3_mendMost_46 : decode cX3_mendMost 46 = .ok (.bipush (-9), 2) := by decide +kernel
theorem dX3_mendMost_48 : decode cX3_mendMost 48 = .ok (.if_icmp .eq 39, 3) := by decide +kernel
theorem dX3_mendMost_51 : decode cX3_mendMost 51 = .ok (.aload_n 0, 1) := by decide +kernel
theorem dX3_mendMost_52 : decode cX3_mendMost 52 = .ok (.getfield 9, 3) := by decide +kernel
theorem dX3_mendMost_55 : decode cX3_mendMost 55 = .ok (.iload 4, 2) := by decide +kernel
theorem dX3_mendMost_57 : decode cX3_mendMost 57 = .ok (.iload 6, 2) := by decide +kernel
theorem dX3_mendMost_59 : decode cX3_mendMost 59 = .ok (.iastore, 1) := by decide +kernel
theorem dX3_mendMost_60 : decode cX3_mendMost 60 = .ok (.aload_n 0, 1) := by decide +kernel
theorem dX3_mendMost_61 : decode cX3_mendMost 61 = .ok (.invokevirtual 54, 3) := by decide +kernel
theorem dX3_mendMost_64 : decode cX3_mendMost 64 = .ok (.istore 7, 2) := by decide +kernel
theorem dX3_mendMost_66 : decode cX3_mendMost 66 = .ok (.iload 7, 2) := by decide +kernel
theorem dX3_mendMost_68 : decode cX3_mendMost 68 = .ok (.iload_n 1, 1) := by decide +kernel
theorem dX3_mendMost_69 : decode cX3_mendMost 69 = .ok (.if_icmp .ge 12, 3) := by decide +kernel
theorem dX3_mendMost_72 : decode cX3_mendMost 72 = .ok (.iload 7, 2) := by decide +kernel
theorem dX3_mendMost_74 : decode cX3_mendMost 74 = .ok (.istore_n 1, 1) := by decide +kernel
theorem dX3_mendMost_75 : decode cX3_mendMost 75 = .ok (.iload 4, 2) := by decide +kernel
theorem dX3_mendMost_77 : decode cX3_mendMost 77 = .ok (.istore_n 2, 1) := by decide +kernel
theorem dX3_mendMost_78 : decode cX3_mendMost 78 = .ok (.iload 6, 2) := by decide +kernel
theorem dX3_mendMost_80 : decode cX3_mendMost 80 = .ok (.istore_n 3, 1) := by decide +kernel
theorem dX3_mendMost_81 : decode cX3_mendMost 81 = .ok (.iinc 6 1, 3) := by decide +kernel
theorem dX3_mendMost_84 : decode cX3_mendMost 84 = .ok (.goto (-46), 3) := by decide +kernel
theorem dX3_mendMost_87 : decode cX3_mendMost 87 = .ok (.aload_n 0, 1) := by decide +kernel
theorem dX3_mendMost_88 : decode cX3_mendMost 88 = .ok (.getfield 9, 3) := by decide +kernel
theorem dX3_mendMost_91 : decode cX3_mendMost 91 = .ok (.iload 4, 2) := by decide +kernel
theorem dX3_mendMost_93 : decode cX3_mendMost 93 = .ok (.iload 5, 2) := by decide +kernel
theorem dX3_mendMost_95 : decode cX3_mendMost 95 = .ok (.iastore, 1) := by decide +kernel
theorem dX3_mendMost_96 : decode cX3_mendMost 96 = .ok (.iinc 4 1, 3) := by decide +kernel
theorem dX3_mendMost_99 : decode cX3_mendMost 99 = .ok (.goto (-85), 3) := by decide +kernel
theorem dX3_mendMost_102 : decode cX3_mendMost 102 = .ok (.iload_n 2, 1) := by decide +kernel
theorem dX3_mendMost_103 : decode cX3_mendMost 103 = .ok (.bipush (-9), 2) := by decide +kernel
theorem dX3_mendMost_105 : decode cX3_mendMost 105 = .ok (.if_icmp .ne 6, 3) := by decide +kernel
theorem dX3_mendMost_108 : decode cX3_mendMost 108 = .ok (.bipush (-9), 2) := by decide +kernel
theorem dX3_mendMost_110 : decode cX3_mendMost 110 = .ok (.ireturn, 1) := by decide +kernel
theorem dX3_mendMost_111 : decode cX3_mendMost 111 = .ok (.aload_n 0, 1) := by decide +kernel
theorem dX3_mendMost_112 : decode cX3_mendMost 112 = .ok (.getfield 9, 3) := by decide +kernel
theorem dX3_mendMost_115 : decode cX3_mendMost 115 = .ok (.iload_n 2, 1) := by decide +kernel
theorem dX3_mendMost_116 : decode cX3_mendMost 116 = .ok (.iload_n 3, 1) := by decide +kernel
theorem dX3_mendMost_117 : decode cX3_mendMost 117 = .ok (.iastore, 1) := by decide +kernel
theorem dX3_mendMost_118 : decode cX3_mendMost 118 = .ok (.bipush 10, 2) := by decide +kernel
theorem dX3_mendMost_120 : decode cX3_mendMost 120 = .ok (.iload_n 2, 1) := by decide +kernel
theorem dX3_mendMost_121 : decode cX3_mendMost 121 = .ok (.imul, 1) := by decide +kernel
theorem dX3_mendMost_122 : decode cX3_mendMost 122 = .ok (.iload_n 3, 1) := by decide +kernel
theorem dX3_mendMost_123 : decode cX3_mendMost 123 = .ok (.iadd, 1) := by decide +kernel
theorem dX3_mendMost_124 : decode cX3_mendMost 124 = .ok (.ireturn, 1) := by decide +kernel
theorem dX4_init_0 : decode cX4_init 0 = .ok (.aload_n 0, 1) := by decide +kernel
theorem dX4_init_1 : decode cX4_init 1 = .ok (.invokespecial 3, 3) := by decide +kernel
theorem dX4_init_4 : decode cX4_init 4 = .ok (.aload_n 0, 1) := by decide +kernel
theorem dX4_init_5 : decode cX4_init 5 = .ok (.bipush 8, 2) := by decide +kernel
theorem dX4_init_7 : decode cX4_init 7 = .ok (.newarray .int, 2) := by decide +kernel
theorem dX4_init_9 : decode cX4_init 9 = .ok (.putfield 9, 3) := by decide +kernel
theorem dX4_init_12 : decode cX4_init 12 = .ok (.aload_n 0, 1) := by decide +kernel
theorem dX4_init_13 : decode cX4_init 13 = .ok (.bipush 8, 2) := by decide +kernel
theorem dX4_init_15 : decode cX4_init 15 = .ok (.newarray .int, 2) := by decide +kernel
theorem dX4_init_17 : decode cX4_init 17 = .ok (.putfield 15, 3) := by decide +kernel
theorem dX4_init_20 : decode cX4_init 20 = .ok (.aload_n 0, 1) := by decide +kernel
theorem dX4_init_21 : decode cX4_init 21 = .ok (.bipush 8, 2) := by decide +kernel
theorem dX4_init_23 : decode cX4_init 23 = .ok (.newarray .int, 2) := by decide +kernel
theorem dX4_init_25 : decode cX4_init 25 = .ok (.putfield 18, 3) := by decide +kernel
theorem dX4_init_28 : decode cX4_init 28 = .ok (.aload_n 0, 1) := by decide +kernel
theorem dX4_init_29 : decode cX4_init 29 = .ok (.aload_n 1, 1) := by decide +kernel
theorem dX4_init_30 : decode cX4_init 30 = .ok (.putfield 21, 3) := by decide +kernel
theorem dX4_init_33 : decode cX4_init 33 = .ok (.aload_n 0, 1) := by decide +kernel
theorem dX4_init_34 : decode cX4_init 34 = .ok (.aload_n 2, 1) := by decide +kernel
theorem dX4_init_35 : decode cX4_init 35 = .ok (.putfield 25, 3) := by decide +kernel
theorem dX4_init_38 : decode cX4_init 38 = .ok (.return_, 1) := by decide +kernel
theorem dX4_grow_0 : decode cX4_grow 0 = .ok (.aload_n 0, 1) := by decide +kernel
theorem dX4_grow_1 : decode cX4_grow 1 = .ok (.invokevirtual 29, 3) := by decide +kernel
theorem dX4_grow_4 : decode cX4_grow 4 = .ok (.iconst 0, 1) := by decide +kernel
theorem dX4_grow_5 : decode cX4_grow 5 = .ok (.istore_n 1, 1) := by decide +kernel
theorem dX4_grow_6 : decode cX4_grow 6 = .ok (.iload_n 1, 1) := by decide +kernel
theorem dX4_grow_7 : decode cX4_grow 7 = .ok (.aload_n 0, 1) := by decide +kernel
theorem dX4_grow_8 : decode cX4_grow 8 = .ok (.getfield 21, 3) := by decide +kernel
theorem dX4_grow_11 : decode cX4_grow 11 = .ok (.getfield 32, 3) := by decide +kernel
theorem dX4_grow_14 : decode cX4_grow 14 = .ok (.if_icmp .ge 25, 3) := by decide +kernel
theorem dX4_grow_17 : decode cX4_grow 17 = .ok (.aload_n 0, 1) := by decide +kernel
theorem dX4_grow_18 : decode cX4_grow 18 = .ok (.getfield 9, 3) := by decide +kernel
theorem dX4_grow_21 : decode cX4_grow 21 = .ok (.iload_n 1, 1) := by decide +kernel
theorem dX4_grow_22 : decode cX4_grow 22 = .ok (.bipush (-9), 2) := by decide +kernel
theorem dX4_grow_24 : decode cX4_grow 24 = .ok (.iastore, 1) := by decide +kernel
theorem dX4_grow_25 : decode cX4_grow 25 = .ok (.aload_n 0, 1) := by decide +kernel
theorem dX4_grow_26 : decode cX4_grow 26 = .ok (.getfield 15, 3) := by decide +kernel
theorem dX4_grow_29 : decode cX4_grow 29 = .ok (.iload_n 1, 1) := by decide +kernel
theorem dX4_grow_30 : decode cX4_grow 30 = .ok (.bipush (-9), 2) := by decide +kernel
theorem dX4_grow_32 : decode cX4_grow 32 = .ok (.iastore, 1) := by decide +kernel
theorem dX4_grow_33 : decode cX4_grow 33 = .ok (.iinc 1 1, 3) := by decide +kernel
theorem dX4_grow_36 : decode cX4_grow 36 = .ok (.goto (-30), 3) := by decide +kernel
theorem dX4_grow_39 : decode cX4_grow 39 = .ok (.iconst 0, 1) := by decide +kernel
theorem dX4_grow_40 : decode cX4_grow 40 = .ok (.istore_n 1, 1) := by decide +kernel
theorem dX4_grow_41 : decode cX4_grow 41 = .ok (.iload_n 1, 1) := by decide +kernel
theorem dX4_grow_42 : decode cX4_grow 42 = .ok (.bipush 6, 2) := by decide +kernel
theorem dX4_grow_44 : decode cX4_grow 44 = .ok (.if_icmp .ge 69, 3) := by decide +kernel
theorem dX4_grow_47 : decode cX4_grow 47 = .ok (.aload_n 0, 1) := by decide +kernel
theorem dX4_grow_48 : decode cX4_grow 48 = .ok (.getfield 25, 3) := by decide +kernel
theorem dX4_grow_51 : decode cX4_grow 51 = .ok (.aload_n 0, 1) := by decide +kernel
theorem dX4_grow_52 : decode cX4_grow 52 = .ok (.getfield 21, 3) := by decide +kernel
theorem dX4_grow_55 : decode cX4_grow 55 = .ok (.getfield 38, 3) := by decide +kernel
theorem dX4_grow_58 : decode cX4_grow 58 = .ok (.iload_n 1, 1) := by decide +kernel
theorem dX4_grow_59 : decode cX4_grow 59 = .ok (.iconst 1, 1) := by decide +kernel
theorem dX4_grow_60 : decode cX4_grow 60 = .ok (.iadd, 1) := by decide +kernel
theorem dX4_grow_61 : decode cX4_grow 61 = .ok (.invokevirtual 41, 3) := by decide +kernel
theorem dX4_grow_64 : decode cX4_grow 64 = .ok (.iconst 0, 1) := by decide +kernel
theorem dX4_grow_65 : decode cX4_grow 65 = .ok (.istore_n 2, 1) := by decide +kernel
theorem dX4_grow_66 : decode cX4_grow 66 = .ok (.iload_n 2, 1) := by decide +kernel
theorem dX4_grow_67 : decode cX4_grow 67 = .ok (.aload_n 0, 1) := by decide +kernel
theorem dX4_grow_68 : decode cX4_grow 68 = .ok (.getfield 21, 3) := by decide +kernel
theorem dX4_grow_71 : decode cX4_grow 71 = .ok (.getfield 32, 3) := by decide +kernel
theorem dX4_grow_74 : decode cX4_grow 74 = .ok (.if_icmp .ge 33, 3) := by decide +kernel
theorem dX4_grow_77 : decode cX4_grow 77 = .ok (.aload_n 0, 1) := by decide +kernel
theorem dX4_grow_78 : decode cX4_grow 78 = .ok (.getfield 18, 3) := by decide +kernel
theorem dX4_grow_81 : decode cX4_grow 81 = .ok (.iload_n 2, 1) := by decide +kernel
theorem dX4_grow_82 : decode cX4_grow 82 = .ok (.iaload, 1) := by decide +kernel
theorem dX4_grow_83 : decode cX4_grow 83 = .ok (.istore_n 3, 1) := by decide +kernel
theorem dX4_grow_84 : decode cX4_grow 84 = .ok (.aload_n 0, 1) := by decide +kernel
theorem dX4_grow_85 : decode cX4_grow 85 = .ok (.getfield 9, 3) := by decide +kernel
theorem dX4_grow_88 : decode cX4_grow 88 = .ok (.iload_n 3, 1) := by decide +kernel
theorem dX4_grow_89 : decode cX4_grow 89 = .ok (.iaload, 1) := by decide +kernel
theorem dX4_grow_90 : decode cX4_grow 90 = .ok (.bipush (-9), 2) := by decide +kernel
theorem dX4_grow_92 : decode cX4_grow 92 = .ok (.if_icmp .ne 9, 3) := by decide +kernel
theorem dX4_grow_95 : decode cX4_grow 95 = .ok (.aload_n 0, 1) := by decide +kernel
theorem dX4_grow_96 : decode cX4_grow 96 = .ok (.iload_n 3, 1) := by decide +kernel
theorem dX4_grow_97 : decode cX4_grow 97 = .ok (.iload_n 1, 1) := by decide +kernel
theorem dX4_grow_98 : decode cX4_grow 98 = .ok (.invokevirtual 47, 3) := by decide +kernel
theorem dX4_grow_101 : decode cX4_grow 101 = .ok (.iinc 2 1, 3) := by decide +kernel
theorem dX4_grow_104 : decode cX4_grow 104 = .ok (.goto (-38), 3) := by decide +kernel
theorem dX4_grow_107 : decode cX4_grow 107 = .ok (.iinc 1 1, 3) := by decide +kernel
theorem dX4_grow_110 : decode cX4_grow 110 = .ok (.goto (-69), 3) := by decide +kernel
theorem dX4_grow_113 : decode cX4_grow 113 = .ok (.return_, 1) := by decide +kernel
theorem dX4_sortByWorth_0 : decode cX4_sortByWorth 0 = .ok (.iconst 0, 1) := by decide +kernel
theorem dX4_sortByWorth_1 : decode cX4_sortByWorth 1 = .ok (.istore_n 1, 1) := by decide +kernel
theorem dX4_sortByWorth_2 : decode cX4_sortByWorth 2 = .ok (.iload_n 1, 1) := by decide +kernel
theorem dX4_sortByWorth_3 : decode cX4_sortByWorth 3 = .ok (.aload_n 0, 1) := by decide +kernel
theorem dX4_sortByWorth_4 : decode cX4_sortByWorth 4 = .ok (.getfield 21, 3) := by decide +kernel
theorem dX4_sortByWorth_7 : decode cX4_sortByWorth 7 = .ok (.getfield 32, 3) := by decide +kernel
theorem dX4_sortByWorth_10 : decode cX4_sortByWorth 10 = .ok (.if_icmp .ge 70, 3) := by decide +kernel
theorem dX4_sortByWorth_13 : decode cX4_sortByWorth 13 = .ok (.iload_n 1, 1) := by decide +kernel
theorem dX4_sortByWorth_14 : decode cX4_sortByWorth 14 = .ok (.istore_n 2, 1) := by decide +kernel
theorem dX4_sortByWorth_15 : decode cX4_sortByWorth 15 = .ok (.iload_n 2, 1) := by decide +kernel
theorem dX4_sortByWorth_16 : decode cX4_sortByWorth 16 = .ok (.ifCond .le 51, 3) := by decide +kernel
theorem dX4_sortByWorth_19 : decode cX4_sortByWorth 19 = .ok (.aload_n 0, 1) := by decide +kernel
theorem dX4_sortByWorth_20 : decode cX4_sortByWorth 20 = .ok (.getfield 21, 3) := by decide +kernel
theorem dX4_sortByWorth_23 : decode cX4_sortByWorth 23 = .ok (.getfield 50, 3) := by decide +kernel
theorem dX4_sortByWorth_26 : decode cX4_sortByWorth 26 = .ok (.aload_n 0, 1) := by decide +kernel
theorem dX4_sortByWorth_27 : decode cX4_sortByWorth 27 = .ok (.getfield 18, 3) := by decide +kernel
theorem dX4_sortByWorth_30 : decode cX4_sortByWorth 30 = .ok (.iload_n 2, 1) := by decide +kernel
theorem dX4_sortByWorth_31 : decode cX4_sortByWorth 31 = .ok (.iconst 1, 1) := by decide +kernel
theorem dX4_sortByWorth_32 : decode cX4_sortByWorth 32 = .ok (.isub, 1) := by decide +kernel
theorem dX4_sortByWorth_33 : decode cX4_sortByWorth 33 = .ok (.iaload, 1) := by decide +kernel
theorem dX4_sortByWorth_34 : decode cX4_sortByWorth 34 = .ok (.iaload, 1) := by decide +kernel
theorem dX4_sortByWorth_35 : decode cX4_sortByWorth 35 = .ok (.aload_n 0, 1) := by decide +kernel
theorem dX4_sortByWorth_36 : decode cX4_sortByWorth 36 = .ok (.getfield 21, 3) := by decide +kernel
theorem dX4_sortByWorth_39 : decode cX4_sortByWorth 39 = .ok (.getfield 50, 3) := by decide +kernel
theorem dX4_sortByWorth_42 : decode cX4_sortByWorth 42 = .ok (.iload_n 1, 1) := by decide +kernel
theorem dX4_sortByWorth_43 : decode cX4_sortByWorth 43 = .ok (.iaload, 1) := by decide +kernel
theorem dX4_sortByWorth_44 : decode cX4_sortByWorth 44 = .ok (.if_icmp .ge 23, 3) := by decide +kernel
theorem dX4_sortByWorth_47 : decode cX4_sortByWorth 47 = .ok (.aload_n 0, 1) := by decide +kernel
theorem dX4_sortByWorth_48 : decode cX4_sortByWorth 48 = .ok (.getfield 18, 3) := by decide +kernel
theorem dX4_sortByWorth_51 : decode cX4_sortByWorth 51 = .ok (.iload_n 2, 1) := by decide +kernel
theorem dX4_sortByWorth_52 : decode cX4_sortByWorth 52 = .ok (.aload_n 0, 1) := by decide +kernel
theorem dX4_sortByWorth_53 : decode cX4_sortByWorth 53 = .ok (.getfield 18, 3) := by decide +kernel
theorem dX4_sortByWorth_56 : decode cX4_sortByWorth 56 = .ok (.iload_n 2, 1) := by decide +kernel
theorem dX4_sortByWorth_57 : decode cX4_sortByWorth 57 = .ok (.iconst 1, 1) := by decide +kernel
theorem dX4_sortByWorth_58 : decode cX4_sortByWorth 58 = .ok (.isub, 1) := by decide +kernel
theorem dX4_sortByWorth_59 : decode cX4_sortByWorth 59 = .ok (.iaload, 1) := by decide +kernel
theorem dX4_sortByWorth_60 : decode cX4_sortByWorth 60 = .ok (.iastore, 1) := by decide +kernel
theorem dX4_sortByWorth_61 : decode cX4_sortByWorth 61 = .ok (.iinc 2 (-1), 3) := by decide +kernel
theorem dX4_sortByWorth_64 : decode cX4_sortByWorth 64 = .ok (.goto (-49), 3) := by decide +kernel
theorem dX4_sortByWorth_67 : decode cX4_sortByWorth 67 = .ok (.aload_n 0, 1) := by decide +kernel
theorem dX4_sortByWorth_68 : decode cX4_sortByWorth 68 = .ok (.getfield 18, 3) := by decide +kernel
theorem dX4_sortByWorth_71 : decode cX4_sortByWorth 71 = .ok (.iload_n 2, 1) := by decide +kernel
theorem dX4_sortByWorth_72 : decode cX4_sortByWorth 72 = .ok (.iload_n 1, 1) := by decide +kernel
theorem dX4_sortByWorth_73 : decode cX4_sortByWorth 73 = .ok (.iastore, 1) := by decide +kernel
theorem dX4_sortByWorth_74 : decode cX4_sortByWorth 74 = .ok (.iinc 1 1, 3) := by decide +kernel
theorem dX4_sortByWorth_77 : decode cX4_sortByWorth 77 = .ok (.goto (-75), 3) := by decide +kernel
theorem dX4_sortByWorth_80 : decode cX4_sortByWorth 80 = .ok (.return_, 1) := by decide +kernel
theorem dX4_show_0 : decode cX4_show 0 = .ok (.iconst 0, 1) := by decide +kernel
theorem dX4_show_1 : decode cX4_show 1 = .ok (.istore_n 3, 1) := by decide +kernel
theorem dX4_show_2 : decode cX4_show 2 = .ok (.iload_n 3, 1) := by decide +kernel
theorem dX4_show_3 : decode cX4_show 3 = .ok (.iconst 4, 1) := by decide +kernel
theorem dX4_show_4 : decode cX4_show 4 = .ok (.if_icmp .ge 52, 3) := by decide +kernel
theorem dX4_show_7 : decode cX4_show 7 = .ok (.iload_n 1, 1) := by decide +kernel
theorem dX4_show_8 : decode cX4_show 8 = .ok (.iload_n 3, 1) := by decide +kernel
theorem dX4_show_9 : decode cX4_show 9 = .ok (.invokestatic 53, 3) := by decide +kernel
theorem dX4_show_12 : decode cX4_show 12 = .ok (.istore 4, 2) := by decide +kernel
theorem dX4_show_14 : decode cX4_show 14 = .ok (.aload_n 0, 1) := by decide +kernel
theorem dX4_show_15 : decode cX4_show 15 = .ok (.getfield 25, 3) := by decide +kernel
theorem dX4_show_18 : decode cX4_show 18 = .ok (.iload 4, 2) := by decide +kernel
theorem dX4_show_20 : decode cX4_show 20 = .ok (.invokevirtual 57, 3) := by decide +kernel
theorem dX4_show_23 : decode cX4_show 23 = .ok (.ifCond .eq 27, 3) := by decide +kernel
theorem dX4_show_26 : decode cX4_show 26 = .ok (.aload_n 0, 1) := by decide +kernel
theorem dX4_show_27 : decode cX4_show 27 = .ok (.iload 4, 2) := by decide +kernel
theorem dX4_show_29 : decode cX4_show 29 = .ok (.invokevirtual 61, 3) := by decide +kernel
theorem dX4_show_32 : decode cX4_show 32 = .ok (.ifCond .ne 18, 3) := by decide +kernel
theorem dX4_show_35 : decode cX4_show 35 = .ok (.aload_n 0, 1) := by decide +kernel
theorem dX4_show_36 : decode cX4_show 36 = .ok (.getfield 9, 3) := by decide +kernel
theorem dX4_show_39 : decode cX4_show 39 = .ok (.iload_n 1, 1) := by decide +kernel
theorem dX4_show_40 : decode cX4_show 40 = .ok (.iload_n 2, 1) := by decide +kernel
theorem dX4_show_41 : decode cX4_show 41 = .ok (.iastore, 1) := by decide +kernel
theorem dX4_show_42 : decode cX4_show 42 = .ok (.aload_n 0, 1) := by decide +kernel
theorem dX4_show_43 : decode cX4_show 43 = .ok (.getfield 15, 3) := by decide +kernel
theorem dX4_show_46 : decode cX4_show 46 = .ok (.iload_n 1, 1) := by decide +kernel
theorem dX4_show_47 : decode cX4_show 47 = .ok (.iload_n 3, 1) := by decide +kernel
theorem dX4_show_48 : decode cX4_show 48 = .ok (.iastore, 1) := by decide +kernel
theorem dX4_show_49 : decode cX4_show 49 = .ok (.return_, 1) := by decide +kernel
theorem dX4_show_50 : decode cX4_show 50 = .ok (.iinc 3 1, 3) := by decide +kernel
theorem dX4_show_53 : decode cX4_show 53 = .ok (.goto (-51), 3) := by decide +kernel
theorem dX4_show_56 : decode cX4_show 56 = .ok (.return_, 1) := by decide +kernel
theorem dX4_clashesWithShown_0 : decode cX4_clashesWithShown 0 = .ok (.iconst 0, 1) := by decide +kernel
theorem dX4_clashesWithShown_1 : decode cX4_clashesWithShown 1 = .ok (.istore_n 2, 1) := by decide +kernel
theorem dX4_clashesWithShown_2 : decode cX4_clashesWithShown 2 = .ok (.iload_n 2, 1) := by decide +kernel
theorem dX4_clashesWithShown_3 : decode cX4_clashesWithShown 3 = .ok (.aload_n 0, 1) := by decide +kernel
theorem dX4_clashesWithShown_4 : decode cX4_clashesWithShown 4 = .ok (.getfield 21, 3) := by decide +kernel
theorem dX4_clashesWithShown_7 : decode cX4_clashesWithShown 7 = .ok (.getfield 32, 3) := by decide +kernel
theorem dX4_clashesWithShown_10 : decode cX4_clashesWithShown 10 = .ok (.if_icmp .ge 43, 3) := by decide +kernel
theorem dX4_clashesWithShown_13 : decode cX4_clashesWithShown 13 = .ok (.aload_n 0, 1) := by decide +kernel
theorem dX4_clashesWithShown_14 : decode cX4_clashesWithShown 14 = .ok (.getfield 9, 3) := by decide +kernel
theorem dX4_clashesWithShown_17 : decode cX4_clashesWithShown 17 = .ok (.iload_n 2, 1) := by decide +kernel
theorem dX4_clashesWithShown_18 : decode cX4_clashesWithShown 18 = .ok (.iaload, 1) := by decide +kernel
theorem dX4_clashesWithShown_19 : decode cX4_clashesWithShown 19 = .ok (.bipush (-9), 2) := by decide +kernel
theorem dX4_clashesWithShown_21 : decode cX4_clashesWithShown 21 = .ok (.if_icmp .eq 26, 3) := by decide +kernel
theorem dX4_clashesWithShown_24 : decode cX4_clashesWithShown 24 = .ok (.aload_n 0, 1) := by decide +kernel
theorem dX4_clashesWithShown_25 : decode cX4_clashesWithShown 25 = .ok (.getfield 25, 3) := by decide +kernel
theorem dX4_clashesWithShown_28 : decode cX4_clashesWithShown 28 = .ok (.iload_n 1, 1) := by decide +kernel
theorem dX4_clashesWithShown_29 : decode cX4_clashesWithShown 29 = .ok (.iload_n 2, 1) := by decide +kernel
theorem dX4_clashesWithShown_30 : decode cX4_clashesWithShown 30 = .ok (.aload_n 0, 1) := by decide +kernel
theorem dX4_clashesWithShown_31 : decode cX4_clashesWithShown 31 = .ok (.getfield 15, 3) := by decide +kernel
theorem dX4_clashesWithShown_34 : decode cX4_clashesWithShown 34 = .ok (.iload_n 2, 1) := by decide +kernel
theorem dX4_clashesWithShown_35 : decode cX4_clashesWithShown 35 = .ok (.iaload, 1) := by decide +kernel
theorem dX4_clashesWithShown_36 : decode cX4_clashesWithShown 36 = .ok (.invokestatic 53, 3) := by decide +kernel
theorem dX4_clashesWithShown_39 : decode cX4_clashesWithShown 39 = .ok (.invokevirtual 64, 3) := by decide +kernel
theorem dX4_clashesWithShown_42 : decode cX4_clashesWithShown 42 = .ok (.ifCond .eq 5, 3) := by decide +kernel
theorem dX4_clashesWithShown_45 : decode cX4_clashesWithShown 45 = .ok (.iconst 1, 1) := by decide +kernel
theorem dX4_clashesWithShown_46 : decode cX4_clashesWithShown 46 = .ok (.ireturn, 1) := by decide +kernel
theorem dX4_clashesWithShown_47 : decode cX4_clashesWithShown 47 = .ok (.iinc 2 1, 3) := by decide +kernel
theorem dX4_clashesWithShown_50 : decode cX4_clashesWithShown 50 = .ok (.goto (-48), 3) := by decide +kernel
theorem dX4_clashesWithShown_53 : decode cX4_clashesWithShown 53 = .ok (.iconst 0, 1) := by decide +kernel
theorem dX4_clashesWithShown_54 : decode cX4_clashesWithShown 54 = .ok (.ireturn, 1) := by decide +kernel
theorem dX5_init_0 : decode cX5_init 0 = .ok (.aload_n 0, 1) := by decide +kernel
theorem dX5_init_1 : decode cX5_init 1 = .ok (.invokespecial 3, 3) := by decide +kernel
theorem dX5_init_4 : decode cX5_init 4 = .ok (.aload_n 0, 1) := by decide +kernel
theorem dX5_init_5 : decode cX5_init 5 = .ok (.bipush 32, 2) := by decide +kernel
theorem dX5_init_7 : decode cX5_init 7 = .ok (.newarray .int, 2) := by decide +kernel
theorem dX5_init_9 : decode cX5_init 9 = .ok (.putfield 9, 3) := by decide +kernel
theorem dX5_init_12 : decode cX5_init 12 = .ok (.aload_n 0, 1) := by decide +kernel
theorem dX5_init_13 : decode cX5_init 13 = .ok (.bipush 32, 2) := by decide +kernel
theorem dX5_init_15 : decode cX5_init 15 = .ok (.newarray .int, 2) := by decide +kernel
theorem dX5_init_17 : decode cX5_init 17 = .ok (.putfield 15, 3) := by decide +kernel
theorem dX5_init_20 : decode cX5_init 20 = .ok (.aload_n 0, 1) := by decide +kernel
theorem dX5_init_21 : decode cX5_init 21 = .ok (.bipush 8, 2) := by decide +kernel
theorem dX5_init_23 : decode cX5_init 23 = .ok (.newarray .int, 2) := by decide +kernel
theorem dX5_init_25 : decode cX5_init 25 = .ok (.putfield 18, 3) := by decide +kernel
theorem dX5_init_28 : decode cX5_init 28 = .ok (.aload_n 0, 1) := by decide +kernel
theorem dX5_init_29 : decode cX5_init 29 = .ok (.bipush 8, 2) := by decide +kernel
theorem dX5_init_31 : decode cX5_init 31 = .ok (.newarray .int, 2) := by decide +kernel
theorem dX5_init_33 : decode cX5_init 33 = .ok (.putfield 21, 3) := by decide +kernel
theorem dX5_init_36 : decode cX5_init 36 = .ok (.aload_n 0, 1) := by decide +kernel
theorem dX5_init_37 : decode cX5_init 37 = .ok (.aload_n 1, 1) := by decide +kernel
theorem dX5_init_38 : decode cX5_init 38 = .ok (.putfield 24, 3) := by decide +kernel
theorem dX5_init_41 : decode cX5_init 41 = .ok (.aload_n 0, 1) := by decide +kernel
theorem dX5_init_42 : decode cX5_init 42 = .ok (.aload_n 2, 1) := by decide +kernel
theorem dX5_init_43 : decode cX5_init 43 = .ok (.putfield 28, 3) := by decide +kernel
theorem dX5_init_46 : decode cX5_init 46 = .ok (.return_, 1) := by decide +kernel
theorem dX5_study_0 : decode cX5_study 0 = .ok (.aload_n 0, 1) := by decide +kernel
theorem dX5_study_1 : decode cX5_study 1 = .ok (.getfield 28, 3) := by decide +kernel
theorem dX5_study_4 : decode cX5_study 4 = .ok (.iload_n 1, 1) := by decide +kernel
theorem dX5_study_5 : decode cX5_study 5 = .ok (.iconst 1, 1) := by decide +kernel
theorem dX5_study_6 : decode cX5_study 6 = .ok (.invokevirtual 32, 3) := by decide +kernel
theorem dX5_study_9 : decode cX5_study 9 = .ok (.iconst 4, 1) := by decide +kernel
theorem dX5_study_10 : decode cX5_study 10 = .ok (.aload_n 0, 1) := by decide +kernel
theorem dX5_study_11 : decode cX5_study 11 = .ok (.getfield 24, 3) := by decide +kernel
theorem dX5_study_14 : decode cX5_study 14 = .ok (.getfield 38, 3) := by decide +kernel
theorem dX5_study_17 : decode cX5_study 17 = .ok (.imul, 1) := by decide +kernel
theorem dX5_study_18 : decode cX5_study 18 = .ok (.istore_n 2, 1) := by decide +kernel
theorem dX5_study_19 : decode cX5_study 19 = .ok (.aload_n 0, 1) := by decide +kernel
theorem dX5_study_20 : decode cX5_study 20 = .ok (.iconst 0, 1) := by decide +kernel
theorem dX5_study_21 : decode cX5_study 21 = .ok (.putfield 44, 3) := by decide +kernel
theorem dX5_study_24 : decode cX5_study 24 = .ok (.iconst 0, 1) := by decide +kernel
theorem dX5_study_25 : decode cX5_study 25 = .ok (.istore_n 3, 1) := by decide +kernel
theorem dX5_study_26 : decode cX5_study 26 = .ok (.iload_n 3, 1) := by decide +kernel
theorem dX5_study_27 : decode cX5_study 27 = .ok (.iload_n 2, 1) := by decide +kernel
theorem dX5_study_28 : decode cX5_study 28 = .ok (.if_icmp .ge 58, 3) := by decide +kernel
theorem dX5_study_31 : decode cX5_study 31 = .ok (.aload_n 0, 1) := by decide +kernel
theorem dX5_study_32 : decode cX5_study 32 = .ok (.getfield 9, 3) := by decide +kernel
theorem dX5_study_35 : decode cX5_study 35 = .ok (.iload_n 3, 1) := by decide +kernel
theorem dX5_study_36 : decode cX5_study 36 = .ok (.aload_n 0, 1) := by decide +kernel
theorem dX5_study_37 : decode cX5_study 37 = .ok (.getfield 28, 3) := by decide +kernel
theorem dX5_study_40 : decode cX5_study 40 = .ok (.iload_n 3, 1) := by decide +kernel
theorem dX5_study_41 : decode cX5_study 41 = .ok (.invokevirtual 47, 3) := by decide +kernel
theorem dX5_study_44 : decode cX5_study 44 = .ok (.iastore, 1) := by decide +kernel
theorem dX5_study_45 : decode cX5_study 45 = .ok (.aload_n 0, 1) := by decide +kernel
theorem dX5_study_46 : decode cX5_study 46 = .ok (.getfield 15, 3) := by decide +kernel
theorem dX5_study_49 : decode cX5_study 49 = .ok (.iload_n 3, 1) := by decide +kernel
theorem dX5_study_50 : decode cX5_study 50 = .ok (.aload_n 0, 1) := by decide +kernel
theorem dX5_study_51 : decode cX5_study 51 = .ok (.iload_n 3, 1) := by decide +kernel
theorem dX5_study_52 : decode cX5_study 52 = .ok (.iload_n 2, 1) := by decide +kernel
theorem dX5_study_53 : decode cX5_study 53 = .ok (.invokevirtual 51, 3) := by decide +kernel
theorem dX5_study_56 : decode cX5_study 56 = .ok (.iastore, 1) := by decide +kernel
theorem dX5_study_57 : decode cX5_study 57 = .ok (.aload_n 0, 1) := by decide +kernel
theorem dX5_study_58 : decode cX5_study 58 = .ok (.getfield 28, 3) := by decide +kernel
theorem dX5_study_61 : decode cX5_study 61 = .ok (.iload_n 3, 1) := by decide +kernel
theorem dX5_study_62 : decode cX5_study 62 = .ok (.invokevirtual 55, 3) := by decide +kernel
theorem dX5_study_65 : decode cX5_study 65 = .ok (.ifCond .eq 15, 3) := by decide +kernel
theorem dX5_study_68 : decode cX5_study 68 = .ok (.aload_n 0, 1) := by decide +kernel
theorem dX5_study_69 : decode cX5_study 69 = .ok (.dup, 1) := by decide +kernel
theorem dX5_study_70 : decode cX5_study 70 = .ok (.getfield 44, 3) := by decide +kernel
theorem dX5_study_73 : decode cX5_study 73 = .ok (.iconst 1, 1) := by decide +kernel
theorem dX5_study_74 : decode cX5_study 74 = .ok (.iload_n 3, 1) := by decide +kernel
theorem dX5_study_75 : decode cX5_study 75 = .ok (.ishl, 1) := by decide +kernel
theorem dX5_study_76 : decode cX5_study 76 = .ok (.ior, 1) := by decide +kernel
theorem dX5_study_77 : decode cX5_study 77 = .ok (.putfield 44, 3) := by decide +kernel
theorem dX5_study_80 : decode cX5_study 80 = .ok (.iinc 3 1, 3) := by decide +kernel
theorem dX5_study_83 : decode cX5_study 83 = .ok (.goto (-57), 3) := by decide +kernel
theorem dX5_study_86 : decode cX5_study 86 = .ok (.return_, 1) := by decide +kernel
theorem dX5_clashingWith_0 : decode cX5_clashingWith 0 = .ok (.iconst 0, 1) := by decide +kernel
theorem dX5_clashingWith_1 : decode cX5_clashingWith 1 = .ok (.istore_n 3, 1) := by decide +kernel
theorem dX5_clashingWith_2 : decode cX5_clashingWith 2 = .ok (.iconst 0, 1) := by decide +kernel
theorem dX5_clashingWith_3 : decode cX5_clashingWith 3 = .ok (.istore 4, 2) := by decide +kernel
theorem dX5_clashingWith_5 : decode cX5_clashingWith 5 = .ok (.iload 4, 2) := by decide +kernel
theorem dX5_clashingWith_7 : decode cX5_clashingWith 7 = .ok (.iload_n 2, 1) := by decide +kernel
theorem dX5_clashingWith_8 : decode cX5_clashingWith 8 = .ok (.if_icmp .ge 39, 3) := by decide +kernel
theorem dX5_clashingWith_11 : decode cX5_clashingWith 11 = .ok (.iload 4, 2) := by decide +kernel
theorem dX5_clashingWith_13 : decode cX5_clashingWith 13 = .ok (.iconst 4, 1) := by decide +kernel
theorem dX5_clashingWith_14 : decode cX5_clashingWith 14 = .ok (.idiv, 1) := by decide +kernel
theorem dX5_clashingWith_15 : decode cX5_clashingWith 15 = .ok (.iload_n 1, 1) := by decide +kernel
theorem dX5_clashingWith_16 : decode cX5_clashingWith 16 = .ok (.iconst 4, 1) := by decide +kernel
theorem dX5_clashingWith_17 : decode cX5_clashingWith 17 = .ok (.idiv, 1) := by decide +kernel
theorem dX5_clashingWith_18 : decode cX5_clashingWith 18 = .ok (.if_icmp .eq 23, 3) := by decide +kernel
theorem dX5_clashingWith_21 : decode cX5_clashingWith 21 = .ok (.aload_n 0, 1) := by decide +kernel
theorem dX5_clashingWith_22 : decode cX5_clashingWith 22 = .ok (.getfield 28, 3) := by decide +kernel
theorem dX5_clashingWith_25 : decode cX5_clashingWith 25 = .ok (.iload_n 1, 1) := by decide +kernel
theorem dX5_clashingWith_26 : decode cX5_clashingWith 26 = .ok (.iload 4, 2) := by decide +kernel
theorem dX5_clashingWith_28 : decode cX5_clashingWith 28 = .ok (.invokevirtual 59, 3) := by decide +kernel
theorem dX5_clashingWith_31 : decode cX5_clashingWith 31 = .ok (.ifCond .eq 10, 3) := by decide +kernel
theorem dX5_clashingWith_34 : decode cX5_clashingWith 34 = .ok (.iload_n 3, 1) := by decide +kernel
theorem dX5_clashingWith_35 : decode cX5_clashingWith 35 = .ok (.iconst 1, 1) := by decide +kernel
theorem dX5_clashingWith_36 : decode cX5_clashingWith 36 = .ok (.iload 4, 2) := by decide +kernel
theorem dX5_clashingWith_38 : decode cX5_clashingWith 38 = .ok (.ishl, 1) := by decide +kernel
theorem dX5_clashingWith_39 : decode cX5_clashingWith 39 = .ok (.ior, 1) := by decide +kernel
theorem dX5_clashingWith_40 : decode cX5_clashingWith 40 = .ok (.istore_n 3, 1) := by decide +kernel
theorem dX5_clashingWith_41 : decode cX5_clashingWith 41 = .ok (.iinc 4 1, 3) := by decide +kernel
theorem dX5_clashingWith_44 : decode cX5_clashingWith 44 = .ok (.goto (-39), 3) := by decide +kernel
theorem dX5_clashingWith_47 : decode cX5_clashingWith 47 = .ok (.iload_n 3, 1) := by decide +kernel
theorem dX5_clashingWith_48 : decode cX5_clashingWith 48 = .ok (.ireturn, 1) := by decide +kernel
theorem dX5_freeBoxes_0 : decode cX5_freeBoxes 0 = .ok (.iconst 0, 1) := by decide +kernel
theorem dX5_freeBoxes_1 : decode cX5_freeBoxes 1 = .ok (.istore_n 2, 1) := by decide +kernel
theorem dX5_freeBoxes_2 : decode cX5_freeBoxes 2 = .ok (.iconst 0, 1) := by decide +kernel
theorem dX5_freeBoxes_3 : decode cX5_freeBoxes 3 = .ok (.istore_n 3, 1) := by decide +kernel
theorem dX5_freeBoxes_4 : decode cX5_freeBoxes 4 = .ok (.iload_n 3, 1) := by decide +kernel
theorem dX5_freeBoxes_5 : decode cX5_freeBoxes 5 = .ok (.aload_n 0, 1) := by decide +kernel
theorem dX5_freeBoxes_6 : decode cX5_freeBoxes 6 = .ok (.getfield 24, 3) := by decide +kernel
theorem dX5_freeBoxes_9 : decode cX5_freeBoxes 9 = .ok (.getfield 38, 3) := by decide +kernel
theorem dX5_freeBoxes_12 : decode cX5_freeBoxes 12 = .ok (.if_icmp .ge 71, 3) := by decide +kernel
theorem dX5_freeBoxes_15 : decode cX5_freeBoxes 15 = .ok (.iconst 0, 1) := by decide +kernel
theorem dX5_freeBoxes_16 : decode cX5_freeBoxes 16 = .ok (.istore 4, 2) := by decide +kernel
theorem dX5_freeBoxes_18 : decode cX5_freeBoxes 18 = .ok (.iload 4, 2) := by decide +kernel
theorem dX5_freeBoxes_20 : decode cX5_freeBoxes 20 = .ok (.iconst 4, 1) := by decide +kernel
theorem dX5_freeBoxes_21 : decode cX5_freeBoxes 21 = .ok (.if_icmp .ge 56, 3) := by decide +kernel
theorem dX5_freeBoxes_24 : decode cX5_freeBoxes 24 = .ok (.iload_n 3, 1) := by decide +kernel
theorem dX5_freeBoxes_25 : decode cX5_freeBoxes 25 = .ok (.iload 4, 2) := by decide +kernel
theorem dX5_freeBoxes_27 : decode cX5_freeBoxes 27 = .ok (.invokestatic 63, 3) := by decide +kernel
theorem dX5_freeBoxes_30 : decode cX5_freeBoxes 30 = .ok (.istore 5, 2) := by decide +kernel
theorem dX5_freeBoxes_32 : decode cX5_freeBoxes 32 = .ok (.iload_n 1, 1) := by decide +kernel
theorem dX5_freeBoxes_33 : decode cX5_freeBoxes 33 = .ok (.iload_n 3, 1) := by decide +kernel
theorem dX5_freeBoxes_34 : decode cX5_freeBoxes 34 = .ok (.invokestatic 66, 3) := by decide +kernel
theorem dX5_freeBoxes_37 : decode cX5_freeBoxes 37 = .ok (.ifCond .eq 34, 3) := by decide +kernel
theorem dX5_freeBoxes_40 : decode cX5_freeBoxes 40 = .ok (.aload_n 0, 1) := by decide +kernel
theorem dX5_freeBoxes_41 : decode cX5_freeBoxes 41 = .ok (.getfield 44, 3) := by decide +kernel
theorem dX5_freeBoxes_44 : decode cX5_freeBoxes 44 = .ok (.iload 5, 2) := by decide +kernel
theorem dX5_freeBoxes_46 : decode cX5_freeBoxes 46 = .ok (.invokestatic 66, 3) := by decide +kernel
theorem dX5_freeBoxes_49 : decode cX5_freeBoxes 49 = .ok (.ifCond .eq 22, 3) := by decide +kernel
theorem dX5_freeBoxes_52 : decode cX5_freeBoxes 52 = .ok (.aload_n 0, 1) := by decide +kernel
theorem dX5_freeBoxes_53 : decode cX5_freeBoxes 53 = .ok (.getfield 9, 3) := by decide +kernel
theorem dX5_freeBoxes_56 : decode cX5_freeBoxes 56 = .ok (.iload 5, 2) := by decide +kernel
theorem dX5_freeBoxes_58 : decode cX5_freeBoxes 58 = .ok (.iaload, 1) := by decide +kernel
theorem dX5_freeBoxes_59 : decode cX5_freeBoxes 59 = .ok (.iload_n 1, 1) := by decide +kernel
theorem dX5_freeBoxes_60 : decode cX5_freeBoxes 60 = .ok (.iand, 1) := by decide +kernel
theorem dX5_freeBoxes_61 : decode cX5_freeBoxes 61 = .ok (.ifCond .ne 10, 3) := by decide +kernel
theorem dX5_freeBoxes_64 : decode cX5_freeBoxes 64 = .ok (.iload_n 2, 1) := by decide +kernel
theorem dX5_freeBoxes_65 : decode cX5_freeBoxes 65 = .ok (.iconst 1, 1) := by decide +kernel
theorem dX5_freeBoxes_66 : decode cX5_freeBoxes 66 = .ok (.iload 5, 2) := by decide +kernel
theorem dX5_freeBoxes_68 : decode cX5_freeBoxes 68 = .ok (.ishl, 1) := by decide +kernel
theorem dX5_freeBoxes_69 : decode cX5_freeBoxes 69 = .ok (.ior, 1) := by decide +kernel
theorem dX5_freeBoxes_70 : decode cX5_freeBoxes 70 = .ok (.istore_n 2, 1) := by decide +kernel
theorem dX5_freeBoxes_71 : decode cX5_freeBoxes 71 = .ok (.iinc 4 1, 3) := by decide +kernel
theorem dX5_freeBoxes_74 : decode cX5_freeBoxes 74 = .ok (.goto (-56), 3) := by decide +kernel
theorem dX5_freeBoxes_77 : decode cX5_freeBoxes 77 = .ok (.iinc 3 1, 3) := by decide +kernel
theorem dX5_freeBoxes_80 : decode cX5_freeBoxes 80 = .ok (.goto (-76), 3) := by decide +kernel
theorem dX5_freeBoxes_83 : decode cX5_freeBoxes 83 = .ok (.iload_n 2, 1) := by decide +kernel
theorem dX5_freeBoxes_84 : decode cX5_freeBoxes 84 = .ok (.ireturn, 1) := by decide +kernel
theorem dX5_freeBoxesWith_0 : decode cX5_freeBoxesWith 0 = .ok (.aload_n 0, 1) := by decide +kernel
theorem dX5_freeBoxesWith_1 : decode cX5_freeBoxesWith 1 = .ok (.aload_n 0, 1) := by decide +kernel
theorem dX5_freeBoxesWith_2 : decode cX5_freeBoxesWith 2 = .ok (.getfield 24, 3) := by decide +kernel
theorem dX5_freeBoxesWith_5 : decode cX5_freeBoxesWith 5 = .ok (.invokevirtual 69, 3) := by decide +kernel
theorem dX5_freeBoxesWith_8 : decode cX5_freeBoxesWith 8 = .ok (.invokevirtual 73, 3) := by decide +kernel
theorem dX5_freeBoxesWith_11 : decode cX5_freeBoxesWith 11 = .ok (.iload_n 1, 1) := by decide +kernel
theorem dX5_freeBoxesWith_12 : decode cX5_freeBoxesWith 12 = .ok (.invokestatic 76, 3) := by decide +kernel
theorem dX5_freeBoxesWith_15 : decode cX5_freeBoxesWith 15 = .ok (.iconst (-1), 1) := by decide +kernel
theorem dX5_freeBoxesWith_16 : decode cX5_freeBoxesWith 16 = .ok (.ixor, 1) := by decide +kernel
theorem dX5_freeBoxesWith_17 : decode cX5_freeBoxesWith 17 = .ok (.iconst 1, 1) := by decide +kernel
theorem dX5_freeBoxesWith_18 : decode cX5_freeBoxesWith 18 = .ok (.iload_n 1, 1) := by decide +kernel
theorem dX5_freeBoxesWith_19 : decode cX5_freeBoxesWith 19 = .ok (.iload_n 2, 1) := by decide +kernel
theorem dX5_freeBoxesWith_20 : decode cX5_freeBoxesWith 20 = .ok (.invokestatic 63, 3) := by decide +kernel
theorem dX5_freeBoxesWith_23 : decode cX5_freeBoxesWith 23 = .ok (.ishl, 1) := by decide +kernel
theorem dX5_freeBoxesWith_24 : decode cX5_freeBoxesWith 24 = .ok (.ior, 1) := by decide +kernel
theorem dX5_freeBoxesWith_25 : decode cX5_freeBoxesWith 25 = .ok (.iand, 1) := by decide +kernel
theorem dX5_freeBoxesWith_26 : decode cX5_freeBoxesWith 26 = .ok (.ireturn, 1) := by decide +kernel
theorem dX5_findBest_0 : decode cX5_findBest 0 = .ok (.aload_n 0, 1) := by decide +kernel
theorem dX5_findBest_1 : decode cX5_findBest 1 = .ok (.aload_n 0, 1) := by decide +kernel
theorem dX5_findBest_2 : decode cX5_findBest 2 = .ok (.getfield 24, 3) := by decide +kernel
theorem dX5_findBest_5 : decode cX5_findBest 5 = .ok (.getfield 79, 3) := by decide +kernel
theorem dX5_findBest_8 : decode cX5_findBest 8 = .ok (.invokevirtual 82, 3) := by decide +kernel
theorem dX5_findBest_11 : decode cX5_findBest 11 = .ok (.aload_n 0, 1) := by decide +kernel
theorem dX5_findBest_12 : decode cX5_findBest 12 = .ok (.iconst (-1), 1) := by decide +kernel
theorem dX5_findBest_13 : decode cX5_findBest 13 = .ok (.putfield 86, 3) := by decide +kernel
theorem dX5_findBest_16 : decode cX5_findBest 16 = .ok (.aload_n 0, 1) := by decide +kernel
theorem dX5_findBest_17 : decode cX5_findBest 17 = .ok (.iconst 0, 1) := by decide +kernel
theorem dX5_findBest_18 : decode cX5_findBest 18 = .ok (.aload_n 0, 1) := by decide +kernel
theorem dX5_findBest_19 : decode cX5_findBest 19 = .ok (.aload_n 0, 1) := by decide +kernel
theorem dX5_findBest_20 : decode cX5_findBest 20 = .ok (.getfield 24, 3) := by decide +kernel
theorem dX5_findBest_23 : decode cX5_findBest 23 = .ok (.invokevirtual 69, 3) := by decide +kernel
theorem dX5_findBest_26 : decode cX5_findBest 26 = .ok (.invokevirtual 73, 3) := by decide +kernel
theorem dX5_findBest_29 : decode cX5_findBest 29 = .ok (.iconst 0, 1) := by decide +kernel
theorem dX5_findBest_30 : decode cX5_findBest 30 = .ok (.aload_n 0, 1) := by decide +kernel
theorem dX5_findBest_31 : decode cX5_findBest 31 = .ok (.getfield 24, 3) := by decide +kernel
theorem dX5_findBest_34 : decode cX5_findBest 34 = .ok (.aload_n 0, 1) := by decide +kernel
theorem dX5_findBest_35 : decode cX5_findBest 35 = .ok (.getfield 24, 3) := by decide +kernel
theorem dX5_findBest_38 : decode cX5_findBest 38 = .ok (.invokevirtual 69, 3) := by decide +kernel
theorem dX5_findBest_41 : decode cX5_findBest 41 = .ok (.invokevirtual 89, 3) := by decide +kernel
theorem dX5_findBest_44 : decode cX5_findBest 44 = .ok (.invokestatic 92, 3) := by decide +kernel
theorem dX5_findBest_47 : decode cX5_findBest 47 = .ok (.return_, 1) := by decide +kernel
theorem dX5_seekBest_0 : decode cX5_seekBest 0 = .ok (.iload 4, 2) := by decide +kernel
theorem dX5_seekBest_2 : decode cX5_seekBest 2 = .ok (.aload_n 0, 1) := by decide +kernel
theorem dX5_seekBest_3 : decode cX5_seekBest 3 = .ok (.getfield 86, 3) := by decide +kernel
theorem dX5_seekBest_6 : decode cX5_seekBest 6 = .ok (.if_icmp .gt 4, 3) := by decide +kernel
theorem dX5_seekBest_9 : decode cX5_seekBest 9 = .ok (.return_, 1) := by decide +kernel
theorem dX5_seekBest_10 : decode cX5_seekBest 10 = .ok (.iload_n 1, 1) := by decide +kernel
theorem dX5_seekBest_11 : decode cX5_seekBest 11 = .ok (.aload_n 0, 1) := by decide +kernel
theorem dX5_seekBest_12 : decode cX5_seekBest 12 = .ok (.getfield 24, 3) := by decide +kernel
theorem dX5_seekBest_15 : decode cX5_seekBest 15 = .ok (.getfield 38, 3) := by decide +kernel
theorem dX5_seekBest_18 : decode cX5_seekBest 18 = .ok (.if_icmp .lt 24, 3) := by decide +kernel
theorem dX5_seekBest_21 : decode cX5_seekBest 21 = .ok (.aload_n 0, 1) := by decide +kernel
theorem dX5_seekBest_22 : decode cX5_seekBest 22 = .ok (.iload_n 3, 1) := by decide +kernel
theorem dX5_seekBest_23 : decode cX5_seekBest 23 = .ok (.putfield 86, 3) := by decide +kernel
theorem dX5_seekBest_26 : decode cX5_seekBest 26 = .ok (.aload_n 0, 1) := by decide +kernel
theorem dX5_seekBest_27 : decode cX5_seekBest 27 = .ok (.getfield 18, 3) := by decide +kernel
theorem dX5_seekBest_30 : decode cX5_seekBest 30 = .ok (.iconst 0, 1) := by decide +kernel
theorem dX5_seekBest_31 : decode cX5_seekBest 31 = .ok (.aload_n 0, 1) := by decide +kernel
theorem dX5_seekBest_32 : decode cX5_seekBest 32 = .ok (.getfield 21, 3) := by decide +kernel
theorem dX5_seekBest_35 : decode cX5_seekBest 35 = .ok (.iconst 0, 1) := by decide +kernel
theorem dX5_seekBest_36 : decode cX5_seekBest 36 = .ok (.bipush 8, 2) := by decide +kernel
theorem dX5_seekBest_38 : decode cX5_seekBest 38 = .ok (.invokestatic 96, 3) := by decide +kernel
theorem dX5_seekBest_41 : decode cX5_seekBest 41 = .ok (.return_, 1) := by decide +kernel
theorem dX5_seekBest_42 : decode cX5_seekBest 42 = .ok (.aload_n 0, 1) := by decide +kernel
theorem dX5_seekBest_43 : decode cX5_seekBest 43 = .ok (.getfield 24, 3) := by decide +kernel
theorem dX5_seekBest_46 : decode cX5_seekBest 46 = .ok (.getfield 102, 3) := by decide +kernel
theorem dX5_seekBest_49 : decode cX5_seekBest 49 = .ok (.iload_n 1, 1) := by decide +kernel
theorem dX5_seekBest_50 : decode cX5_seekBest 50 = .ok (.iaload, 1) := by decide +kernel
theorem dX5_seekBest_51 : decode cX5_seekBest 51 = .ok (.istore 5, 2) := by decide +kernel
theorem dX5_seekBest_53 : decode cX5_seekBest 53 = .ok (.iload_n 2, 1) := by decide +kernel
theorem dX5_seekBest_54 : decode cX5_seekBest 54 = .ok (.iload_n 1, 1) := by decide +kernel
theorem dX5_seekBest_55 : decode cX5_seekBest 55 = .ok (.invokestatic 76, 3) := by decide +kernel
theorem dX5_seekBest_58 : decode cX5_seekBest 58 = .ok (.iconst (-1), 1) := by decide +kernel
theorem dX5_seekBest_59 : decode cX5_seekBest 59 = .ok (.ixor, 1) := by decide +kernel
theorem dX5_seekBest_60 : decode cX5_seekBest 60 = .ok (.iand, 1) := by decide +kernel
theorem dX5_seekBest_61 : decode cX5_seekBest 61 = .ok (.istore 6, 2) := by decide +kernel
theorem dX5_seekBest_63 : decode cX5_seekBest 63 = .ok (.iconst 0, 1) := by decide +kernel
theorem dX5_seekBest_64 : decode cX5_seekBest 64 = .ok (.istore 7, 2) := by decide +kernel
theorem dX5_seekBest_66 : decode cX5_seekBest 66 = .ok (.iload 7, 2) := by decide +kernel
theorem dX5_seekBest_68 : decode cX5_seekBest 68 = .ok (.iconst 4, 1) := by decide +kernel
theorem dX5_seekBest_69 : decode cX5_seekBest 69 = .ok (.if_icmp .ge 71, 3) := by decide +kernel
theorem dX5_seekBest_72 : decode cX5_seekBest 72 = .ok (.iload_n 1, 1) := by decide +kernel
theorem dX5_seekBest_73 : decode cX5_seekBest 73 = .ok (.iload 7, 2) := by decide +kernel
theorem dX5_seekBest_75 : decode cX5_seekBest 75 = .ok (.invokestatic 63, 3) := by decide +kernel
theorem dX5_seekBest_78 : decode cX5_seekBest 78 = .ok (.istore 8, 2) := by decide +kernel
theorem dX5_seekBest_80 : decode cX5_seekBest 80 = .ok (.iload_n 2, 1) := by decide +kernel
theorem dX5_seekBest_81 : decode cX5_seekBest 81 = .ok (.iload 8, 2) := by decide +kernel
theorem dX5_seekBest_83 : decode cX5_seekBest 83 = .ok (.invokestatic 66, 3) := by decide +kernel
theorem dX5_seekBest_86 : decode cX5_seekBest 86 = .ok (.ifCond .eq 48, 3) := by decide +kernel
theorem dX5_seekBest_89 : decode cX5_seekBest 89 = .ok (.iload 6, 2) := by decide +kernel
theorem dX5_seekBest_91 : decode cX5_seekBest 91 = .ok (.aload_n 0, 1) := by decide +kernel
theorem dX5_seekBest_92 : decode cX5_seekBest 92 = .ok (.getfield 15, 3) := by decide +kernel
theorem dX5_seekBest_95 : decode cX5_seekBest 95 = .ok (.iload 8, 2) := by decide +kernel
theorem dX5_seekBest_97 : decode cX5_seekBest 97 = .ok (.iaload, 1) := by decide +kernel
theorem dX5_seekBest_98 : decode cX5_seekBest 98 = .ok (.iconst (-1), 1) := by decide +kernel
theorem dX5_seekBest_99 : decode cX5_seekBest 99 = .ok (.ixor, 1) := by decide +kernel
theorem dX5_seekBest_100 : decode cX5_seekBest 100 = .ok (.iand, 1) := by decide +kernel
theorem dX5_seekBest_101 : decode cX5_seekBest 101 = .ok (.istore 9, 2) := by decide +kernel
theorem dX5_seekBest_103 : decode cX5_seekBest 103 = .ok (.aload_n 0, 1) := by decide +kernel
theorem dX5_seekBest_104 : decode cX5_seekBest 104 = .ok (.getfield 18, 3) := by decide +kernel
theorem dX5_seekBest_107 : decode cX5_seekBest 107 = .ok (.iload_n 1, 1) := by decide +kernel
theorem dX5_seekBest_108 : decode cX5_seekBest 108 = .ok (.iload 7, 2) := by decide +kernel
theorem dX5_seekBest_110 : decode cX5_seekBest 110 = .ok (.iastore, 1) := by decide +kernel
theorem dX5_seekBest_111 : decode cX5_seekBest 111 = .ok (.aload_n 0, 1) := by decide +kernel
theorem dX5_seekBest_112 : decode cX5_seekBest 112 = .ok (.iload_n 1, 1) := by decide +kernel
theorem dX5_seekBest_113 : decode cX5_seekBest 113 = .ok (.iconst 1, 1) := by decide +kernel
theorem dX5_seekBest_114 : decode cX5_seekBest 114 = .ok (.iadd, 1) := by decide +kernel
theorem dX5_seekBest_115 : decode cX5_seekBest 115 = .ok (.iload 9, 2) := by decide +kernel
theorem dX5_seekBest_117 : decode cX5_seekBest 117 = .ok (.iload_n 3, 1) := by decide +kernel
theorem dX5_seekBest_118 : decode cX5_seekBest 118 = .ok (.iload 5, 2) := by decide +kernel
theorem dX5_seekBest_120 : decode cX5_seekBest 120 = .ok (.iadd, 1) := by decide +kernel
theorem dX5_seekBest_121 : decode cX5_seekBest 121 = .ok (.iload 4, 2) := by decide +kernel
theorem dX5_seekBest_123 : decode cX5_seekBest 123 = .ok (.invokestatic 92, 3) := by decide +kernel
theorem dX5_seekBest_126 : decode cX5_seekBest 126 = .ok (.iload 9, 2) := by decide +kernel
theorem dX5_seekBest_128 : decode cX5_seekBest 128 = .ok (.iload 6, 2) := by decide +kernel
theorem dX5_seekBest_130 : decode cX5_seekBest 130 = .ok (.if_icmp .ne 4, 3) := by decide +kernel
theorem dX5_seekBest_133 : decode cX5_seekBest 133 = .ok (.return_, 1) := by decide +kernel
theorem dX5_seekBest_134 : decode cX5_seekBest 134 = .ok (.iinc 7 1, 3) := by decide +kernel
theorem dX5_seekBest_137 : decode cX5_seekBest 137 = .ok (.goto (-71), 3) := by decide +kernel
theorem dX5_seekBest_140 : decode cX5_seekBest 140 = .ok (.aload_n 0, 1) := by decide +kernel
theorem dX5_seekBest_141 : decode cX5_seekBest 141 = .ok (.getfield 18, 3) := by decide +kernel
theorem dX5_seekBest_144 : decode cX5_seekBest 144 = .ok (.iload_n 1, 1) := by decide +kernel
theorem dX5_seekBest_145 : decode cX5_seekBest 145 = .ok (.bipush (-9), 2) := by decide +kernel
theorem dX5_seekBest_147 : decode cX5_seekBest 147 = .ok (.iastore, 1) := by decide +kernel
theorem dX5_seekBest_148 : decode cX5_seekBest 148 = .ok (.aload_n 0, 1) := by decide +kernel
theorem dX5_seekBest_149 : decode cX5_seekBest 149 = .ok (.iload_n 1, 1) := by decide +kernel
theorem dX5_seekBest_150 : decode cX5_seekBest 150 = .ok (.iconst 1, 1) := by decide +kernel
theorem dX5_seekBest_151 : decode cX5_seekBest 151 = .ok (.iadd, 1) := by decide +kernel
theorem dX5_seekBest_152 : decode cX5_seekBest 152 = .ok (.iload 6, 2) := by decide +kernel
theorem dX5_seekBest_154 : decode cX5_seekBest 154 = .ok (.iload_n 3, 1) := by decide +kernel
theorem dX5_seekBest_155 : decode cX5_seekBest 155 = .ok (.iload 4, 2) := by decide +kernel
theorem dX5_seekBest_157 : decode cX5_seekBest 157 = .ok (.iload 5, 2) := by decide +kernel
theorem dX5_seekBest_159 : decode cX5_seekBest 159 = .ok (.isub, 1) := by decide +kernel
theorem dX5_seekBest_160 : decode cX5_seekBest 160 = .ok (.invokestatic 92, 3) := by decide +kernel
theorem dX5_seekBest_163 : decode cX5_seekBest 163 = .ok (.return_, 1) := by decide +kernel
theorem dX5_countFull_0 : decode cX5_countFull 0 = .ok (.aload_n 0, 1) := by decide +kernel
theorem dX5_countFull_1 : decode cX5_countFull 1 = .ok (.iconst 0, 1) := by decide +kernel
theorem dX5_countFull_2 : decode cX5_countFull 2 = .ok (.aload_n 0, 1) := by decide +kernel
theorem dX5_countFull_3 : decode cX5_countFull 3 = .ok (.aload_n 0, 1) := by decide +kernel
theorem dX5_countFull_4 : decode cX5_countFull 4 = .ok (.getfield 24, 3) := by decide +kernel
theorem dX5_countFull_7 : decode cX5_countFull 7 = .ok (.invokevirtual 69, 3) := by decide +kernel
theorem dX5_countFull_10 : decode cX5_countFull 10 = .ok (.invokevirtual 73, 3) := by decide +kernel
theorem dX5_countFull_13 : decode cX5_countFull 13 = .ok (.invokestatic 105, 3) := by decide +kernel
theorem dX5_countFull_16 : decode cX5_countFull 16 = .ok (.ireturn, 1) := by decide +kernel
theorem dX5_countFullWith_0 : decode cX5_countFullWith 0 = .ok (.aload_n 0, 1) := by decide +kernel
theorem dX5_countFullWith_1 : decode cX5_countFullWith 1 = .ok (.iconst 0, 1) := by decide +kernel
theorem dX5_countFullWith_2 : decode cX5_countFullWith 2 = .ok (.aload_n 0, 1) := by decide +kernel
theorem dX5_countFullWith_3 : decode cX5_countFullWith 3 = .ok (.iload_n 1, 1) := by decide +kernel
theorem dX5_countFullWith_4 : decode cX5_countFullWith 4 = .ok (.iload_n 2, 1) := by decide +kernel
theorem dX5_countFullWith_5 : decode cX5_countFullWith 5 = .ok (.invokevirtual 109, 3) := by decide +kernel
theorem dX5_countFullWith_8 : decode cX5_countFullWith 8 = .ok (.invokestatic 105, 3) := by decide +kernel
theorem dX5_countFullWith_11 : decode cX5_countFullWith 11 = .ok (.ireturn, 1) := by decide +kernel
theorem dX5_countFrom_0 : decode cX5_countFrom 0 = .ok (.iload_n 1, 1) := by decide +kernel
theorem dX5_countFrom_1 : decode cX5_countFrom 1 = .ok (.aload_n 0, 1) := by decide +kernel
theorem dX5_countFrom_2 : decode cX5_countFrom 2 = .ok (.getfield 24, 3) := by decide +kernel
theorem dX5_countFrom_5 : decode cX5_countFrom 5 = .ok (.getfield 38, 3) := by decide +kernel
theorem dX5_countFrom_8 : decode cX5_countFrom 8 = .ok (.if_icmp .lt 5, 3) := by decide +kernel
theorem dX5_countFrom_11 : decode cX5_countFrom 11 = .ok (.iconst 1, 1) := by decide +kernel
theorem dX5_countFrom_12 : decode cX5_countFrom 12 = .ok (.ireturn, 1) := by decide +kernel
theorem dX5_countFrom_13 : decode cX5_countFrom 13 = .ok (.iconst 0, 1) := by decide +kernel
theorem dX5_countFrom_14 : decode cX5_countFrom 14 = .ok (.istore_n 3, 1) := by decide +kernel
theorem dX5_countFrom_15 : decode cX5_countFrom 15 = .ok (.iconst 0, 1) := by decide +kernel
theorem dX5_countFrom_16 : decode cX5_countFrom 16 = .ok (.istore 4, 2) := by decide +kernel
theorem dX5_countFrom_18 : decode cX5_countFrom 18 = .ok (.iload_n 2, 1) := by decide +kernel
theorem dX5_countFrom_19 : decode cX5_countFrom 19 = .ok (.iload_n 1, 1) := by decide +kernel
theorem dX5_countFrom_20 : decode cX5_countFrom 20 = .ok (.invokestatic 76, 3) := by decide +kernel
theorem dX5_countFrom_23 : decode cX5_countFrom 23 = .ok (.iconst (-1), 1) := by decide +kernel
theorem dX5_countFrom_24 : decode cX5_countFrom 24 = .ok (.ixor, 1) := by decide +kernel
theorem dX5_countFrom_25 : decode cX5_countFrom 25 = .ok (.iand, 1) := by decide +kernel
theorem dX5_countFrom_26 : decode cX5_countFrom 26 = .ok (.istore 5, 2) := by decide +kernel
theorem dX5_countFrom_28 : decode cX5_countFrom 28 = .ok (.iconst 0, 1) := by decide +kernel
theorem dX5_countFrom_29 : decode cX5_countFrom 29 = .ok (.istore 6, 2) := by decide +kernel
theorem dX5_countFrom_31 : decode cX5_countFrom 31 = .ok (.iload 6, 2) := by decide +kernel
theorem dX5_countFrom_33 : decode cX5_countFrom 33 = .ok (.iconst 4, 1) := by decide +kernel
theorem dX5_countFrom_34 : decode cX5_countFrom 34 = .ok (.if_icmp .ge 65, 3) := by decide +kernel
theorem dX5_countFrom_37 : decode cX5_countFrom 37 = .ok (.iload_n 1, 1) := by decide +kernel
theorem dX5_countFrom_38 : decode cX5_countFrom 38 = .ok (.iload 6, 2) := by decide +kernel
theorem dX5_countFrom_40 : decode cX5_countFrom 40 = .ok (.invokestatic 63, 3) := by decide +kernel
theorem dX5_countFrom_43 : decode cX5_countFrom 43 = .ok (.istore 7, 2) := by decide +kernel
theorem dX5_countFrom_45 : decode cX5_countFrom 45 = .ok (.iload_n 2, 1) := by decide +kernel
theorem dX5_countFrom_46 : decode cX5_countFrom 46 = .ok (.iload 7, 2) := by decide +kernel
theorem dX5_countFrom_48 : decode cX5_countFrom 48 = .ok (.invokestatic 66, 3) := by decide +kernel
theorem dX5_countFrom_51 : decode cX5_countFrom 51 = .ok (.ifCond .eq 42, 3) := by decide +kernel
theorem dX5_countFrom_54 : decode cX5_countFrom 54 = .ok (.iload 5, 2) := by decide +kernel
theorem dX5_countFrom_56 : decode cX5_countFrom 56 = .ok (.aload_n 0, 1) := by decide +kernel
theorem dX5_countFrom_57 : decode cX5_countFrom 57 = .ok (.getfield 15, 3) := by decide +kernel
theorem dX5_countFrom_60 : decode cX5_countFrom 60 = .ok (.iload 7, 2) := by decide +kernel
theorem dX5_countFrom_62 : decode cX5_countFrom 62 = .ok (.iaload, 1) := by decide +kernel
theorem dX5_countFrom_63 : decode cX5_countFrom 63 = .ok (.iconst (-1), 1) := by decide +kernel
theorem dX5_countFrom_64 : decode cX5_countFrom 64 = .ok (.ixor, 1) := by decide +kernel
theorem dX5_countFrom_65 : decode cX5_countFrom 65 = .ok (.iand, 1) := by decide +kernel
theorem dX5_countFrom_66 : decode cX5_countFrom 66 = .ok (.istore 8, 2) := by decide +kernel
theorem dX5_countFrom_68 : decode cX5_countFrom 68 = .ok (.iload 8, 2) := by decide +kernel
theorem dX5_countFrom_70 : decode cX5_countFrom 70 = .ok (.iload 5, 2) := by decide +kernel
theorem dX5_countFrom_72 : decode cX5_countFrom 72 = .ok (.if_icmp .ne 9, 3) := by decide +kernel
theorem dX5_countFrom_75 : decode cX5_countFrom 75 = .ok (.iinc 4 1, 3) := by decide +kernel
theorem dX5_countFrom_78 : decode cX5_countFrom 78 = .ok (.goto 15, 3) := by decide +kernel
theorem dX5_countFrom_81 : decode cX5_countFrom 81 = .ok (.iload_n 3, 1) := by decide +kernel
theorem dX5_countFrom_82 : decode cX5_countFrom 82 = .ok (.aload_n 0, 1) := by decide +kernel
theorem dX5_countFrom_83 : decode cX5_countFrom 83 = .ok (.iload_n 1, 1) := by decide +kernel
theorem dX5_countFrom_84 : decode cX5_countFrom 84 = .ok (.iconst 1, 1) := by decide +kernel
theorem dX5_countFrom_85 : decode cX5_countFrom 85 = .ok (.iadd, 1) := by decide +kernel
theorem dX5_countFrom_86 : decode cX5_countFrom 86 = .ok (.iload 8, 2) := by decide +kernel
theorem dX5_countFrom_88 : decode cX5_countFrom 88 = .ok (.invokestatic 105, 3) := by decide +kernel
theorem dX5_countFrom_91 : decode cX5_countFrom 91 = .ok (.iadd, 1) := by decide +kernel
theorem dX5_countFrom_92 : decode cX5_countFrom 92 = .ok (.istore_n 3, 1) := by decide +kernel
theorem dX5_countFrom_93 : decode cX5_countFrom 93 = .ok (.iinc 6 1, 3) := by decide +kernel
theorem dX5_countFrom_96 : decode cX5_countFrom 96 = .ok (.goto (-65), 3) := by decide +kernel
theorem dX5_countFrom_99 : decode cX5_countFrom 99 = .ok (.iload 4, 2) := by decide +kernel
theorem dX5_countFrom_101 : decode cX5_countFrom 101 = .ok (.ifCond .le 20, 3) := by decide +kernel
theorem dX5_countFrom_104 : decode cX5_countFrom 104 = .ok (.iload_n 3, 1) := by decide +kernel
theorem dX5_countFrom_105 : decode cX5_countFrom 105 = .ok (.iload 4, 2) := by decide +kernel
theorem dX5_countFrom_107 : decode cX5_countFrom 107 = .ok (.aload_n 0, 1) := by decide +kernel
theorem dX5_countFrom_108 : decode cX5_countFrom 108 = .ok (.iload_n 1, 1) := by decide +kernel
theorem dX5_countFrom_109 : decode cX5_countFrom 109 = .ok (.iconst 1, 1) := by decide +kernel
theorem dX5_countFrom_110 : decode cX5_countFrom 110 = .ok (.iadd, 1) := by decide +kernel
theorem dX5_countFrom_111 : decode cX5_countFrom 111 = .ok (.iload 5, 2) := by decide +kernel
theorem dX5_countFrom_113 : decode cX5_countFrom 113 = .ok (.invokestatic 105, 3) := by decide +kernel
theorem dX5_countFrom_116 : decode cX5_countFrom 116 = .ok (.imul, 1) := by decide +kernel
theorem dX5_countFrom_117 : decode cX5_countFrom 117 = .ok (.iadd, 1) := by decide +kernel
theorem dX5_countFrom_118 : decode cX5_countFrom 118 = .ok (.goto 4, 3) := by decide +kernel
theorem dX5_countFrom_121 : decode cX5_countFrom 121 = .ok (.iload_n 3, 1) := by decide +kernel
theorem dX5_countFrom_122 : decode cX5_countFrom 122 = .ok (.ireturn, 1) := by decide +kernel
theorem dX5_isThereFull_0 : decode cX5_isThereFull 0 = .ok (.aload_n 0, 1) := by decide +kernel
theorem dX5_isThereFull_1 : decode cX5_isThereFull 1 = .ok (.iconst 0, 1) := by decide +kernel
theorem dX5_isThereFull_2 : decode cX5_isThereFull 2 = .ok (.iload_n 1, 1) := by decide +kernel
theorem dX5_isThereFull_3 : decode cX5_isThereFull 3 = .ok (.aload_n 0, 1) := by decide +kernel
theorem dX5_isThereFull_4 : decode cX5_isThereFull 4 = .ok (.iload_n 1, 1) := by decide +kernel
theorem dX5_isThereFull_5 : decode cX5_isThereFull 5 = .ok (.invokevirtual 73, 3) := by decide +kernel
theorem dX5_isThereFull_8 : decode cX5_isThereFull 8 = .ok (.invokestatic 112, 3) := by decide +kernel
theorem dX5_isThereFull_11 : decode cX5_isThereFull 11 = .ok (.ireturn, 1) := by decide +kernel
theorem dX5_isThereFullWith_0 : decode cX5_isThereFullWith 0 = .ok (.aload_n 0, 1) := by decide +kernel
theorem dX5_isThereFullWith_1 : decode cX5_isThereFullWith 1 = .ok (.iconst 0, 1) := by decide +kernel
theorem dX5_isThereFullWith_2 : decode cX5_isThereFullWith 2 = .ok (.aload_n 0, 1) := by decide +kernel
theorem dX5_isThereFullWith_3 : decode cX5_isThereFullWith 3 = .ok (.getfield 24, 3) := by decide +kernel
theorem dX5_isThereFullWith_6 : decode cX5_isThereFullWith 6 = .ok (.invokevirtual 69, 3) := by decide +kernel
theorem dX5_isThereFullWith_9 : decode cX5_isThereFullWith 9 = .ok (.aload_n 0, 1) := by decide +kernel
theorem dX5_isThereFullWith_10 : decode cX5_isThereFullWith 10 = .ok (.iload_n 1, 1) := by decide +kernel
theorem dX5_isThereFullWith_11 : decode cX5_isThereFullWith 11 = .ok (.iload_n 2, 1) := by decide +kernel
theorem dX5_isThereFullWith_12 : decode cX5_isThereFullWith 12 = .ok (.invokevirtual 109, 3) := by decide +kernel
theorem dX5_isThereFullWith_15 : decode cX5_isThereFullWith 15 = .ok (.invokestatic 112, 3) := by decide +kernel
theorem dX5_isThereFullWith_18 : decode cX5_isThereFullWith 18 = .ok (.ireturn, 1) := by decide +kernel
theorem dX5_isFullFrom_0 : decode cX5_isFullFrom 0 = .ok (.iload_n 1, 1) := by decide +kernel
theorem dX5_isFullFrom_1 : decode cX5_isFullFrom 1 = .ok (.aload_n 0, 1) := by decide +kernel
theorem dX5_isFullFrom_2 : decode cX5_isFullFrom 2 = .ok (.getfield 24, 3) := by decide +kernel
theorem dX5_isFullFrom_5 : decode cX5_isFullFrom 5 = .ok (.getfield 38, 3) := by decide +kernel
theorem dX5_isFullFrom_8 : decode cX5_isFullFrom 8 = .ok (.if_icmp .lt 5, 3) := by decide +kernel
theorem dX5_isFullFrom_11 : decode cX5_isFullFrom 11 = .ok (.iconst 1, 1) := by decide +kernel
theorem dX5_isFullFrom_12 : decode cX5_isFullFrom 12 = .ok (.ireturn, 1) := by decide +kernel
theorem dX5_isFullFrom_13 : decode cX5_isFullFrom 13 = .ok (.iload_n 2, 1) := by decide +kernel
theorem dX5_isFullFrom_14 : decode cX5_isFullFrom 14 = .ok (.iload_n 1, 1) := by decide +kernel
theorem dX5_isFullFrom_15 : decode cX5_isFullFrom 15 = .ok (.invokestatic 66, 3) := by decide +kernel
theorem dX5_isFullFrom_18 : decode cX5_isFullFrom 18 = .ok (.ifCond .ne 13, 3) := by decide +kernel
theorem dX5_isFullFrom_21 : decode cX5_isFullFrom 21 = .ok (.aload_n 0, 1) := by decide +kernel
theorem dX5_isFullFrom_22 : decode cX5_isFullFrom 22 = .ok (.iload_n 1, 1) := by decide +kernel
theorem dX5_isFullFrom_23 : decode cX5_isFullFrom 23 = .ok (.iconst 1, 1) := by decide +kernel
theorem dX5_isFullFrom_24 : decode cX5_isFullFrom 24 = .ok (.iadd, 1) := by decide +kernel
theorem dX5_isFullFrom_25 : decode cX5_isFullFrom 25 = .ok (.iload_n 2, 1) := by decide +kernel
theorem dX5_isFullFrom_26 : decode cX5_isFullFrom 26 = .ok (.iload_n 3, 1) := by decide +kernel
theorem dX5_isFullFrom_27 : decode cX5_isFullFrom 27 = .ok (.invokestatic 112, 3) := by decide +kernel
theorem dX5_isFullFrom_30 : decode cX5_isFullFrom 30 = .ok (.ireturn, 1) := by decide +kernel
theorem dX5_isFullFrom_31 : decode cX5_isFullFrom 31 = .ok (.iload_n 3, 1) := by decide +kernel
theorem dX5_isFullFrom_32 : decode cX5_isFullFrom 32 = .ok (.iload_n 1, 1) := by decide +kernel
theorem dX5_isFullFrom_33 : decode cX5_isFullFrom 33 = .ok (.invokestatic 76, 3) := by decide +kernel
theorem dX5_isFullFrom_36 : decode cX5_isFullFrom 36 = .ok (.iconst (-1), 1) := by decide +kernel
theorem dX5_isFullFrom_37 : decode cX5_isFullFrom 37 = .ok (.ixor, 1) := by decide +kernel
theorem dX5_isFullFrom_38 : decode cX5_isFullFrom 38 = .ok (.iand, 1) := by decide +kernel
theorem dX5_isFullFrom_39 : decode cX5_isFullFrom 39 = .ok (.istore 4, 2) := by decide +kernel
theorem dX5_isFullFrom_41 : decode cX5_isFullFrom 41 = .ok (.iconst 0, 1) := by decide +kernel
theorem dX5_isFullFrom_42 : decode cX5_isFullFrom 42 = .ok (.istore 5, 2) := by decide +kernel
theorem dX5_isFullFrom_44 : decode cX5_isFullFrom 44 = .ok (.iload 5, 2) := by decide +kernel
theorem dX5_isFullFrom_46 : decode cX5_isFullFrom 46 = .ok (.iconst 4, 1) := by decide +kernel
theorem dX5_isFullFrom_47 : decode cX5_isFullFrom 47 = .ok (.if_icmp .ge 67, 3) := by decide +kernel
theorem dX5_isFullFrom_50 : decode cX5_isFullFrom 50 = .ok (.iload_n 1, 1) := by decide +kernel
theorem dX5_isFullFrom_51 : decode cX5_isFullFrom 51 = .ok (.iload 5, 2) := by decide +kernel
theorem dX5_isFullFrom_53 : decode cX5_isFullFrom 53 = .ok (.invokestatic 63, 3) := by decide +kernel
theorem dX5_isFullFrom_56 : decode cX5_isFullFrom 56 = .ok (.istore 6, 2) := by decide +kernel
theorem dX5_isFullFrom_58 : decode cX5_isFullFrom 58 = .ok (.iload_n 3, 1) := by decide +kernel
theorem dX5_isFullFrom_59 : decode cX5_isFullFrom 59 = .ok (.iload 6, 2) := by decide +kernel
theorem dX5_isFullFrom_61 : decode cX5_isFullFrom 61 = .ok (.invokestatic 66, 3) := by decide +kernel
theorem dX5_isFullFrom_64 : decode cX5_isFullFrom 64 = .ok (.ifCond .eq 44, 3) := by decide +kernel
theorem dX5_isFullFrom_67 : decode cX5_isFullFrom 67 = .ok (.iload 4, 2) := by decide +kernel
theorem dX5_isFullFrom_69 : decode cX5_isFullFrom 69 = .ok (.aload_n 0, 1) := by decide +kernel
theorem dX5_isFullFrom_70 : decode cX5_isFullFrom 70 = .ok (.getfield 15, 3) := by decide +kernel
theorem dX5_isFullFrom_73 : decode cX5_isFullFrom 73 = .ok (.iload 6, 2) := by decide +kernel
theorem dX5_isFullFrom_75 : decode cX5_isFullFrom 75 = .ok (.iaload, 1) := by decide +kernel
theorem dX5_isFullFrom_76 : decode cX5_isFullFrom 76 = .ok (.iconst (-1), 1) := by decide +kernel
theorem dX5_isFullFrom_77 : decode cX5_isFullFrom 77 = .ok (.ixor, 1) := by decide +kernel
theorem dX5_isFullFrom_78 : decode cX5_isFullFrom 78 = .ok (.iand, 1) := by decide +kernel
theorem dX5_isFullFrom_79 : decode cX5_isFullFrom 79 = .ok (.istore 7, 2) := by decide +kernel
theorem dX5_isFullFrom_81 : decode cX5_isFullFrom 81 = .ok (.aload_n 0, 1) := by decide +kernel
theorem dX5_isFullFrom_82 : decode cX5_isFullFrom 82 = .ok (.iload_n 1, 1) := by decide +kernel
theorem dX5_isFullFrom_83 : decode cX5_isFullFrom 83 = .ok (.iconst 1, 1) := by decide +kernel
theorem dX5_isFullFrom_84 : decode cX5_isFullFrom 84 = .ok (.iadd, 1) := by decide +kernel
theorem dX5_isFullFrom_85 : decode cX5_isFullFrom 85 = .ok (.iload_n 2, 1) := by decide +kernel
theorem dX5_isFullFrom_86 : decode cX5_isFullFrom 86 = .ok (.iload 7, 2) := by decide +kernel
theorem dX5_isFullFrom_88 : decode cX5_isFullFrom 88 = .ok (.invokestatic 112, 3) := by decide +kernel
theorem dX5_isFullFrom_91 : decode cX5_isFullFrom 91 = .ok (.istore 8, 2) := by decide +kernel
theorem dX5_isFullFrom_93 : decode cX5_isFullFrom 93 = .ok (.iload 8, 2) := by decide +kernel
theorem dX5_isFullFrom_95 : decode cX5_isFullFrom 95 = .ok (.ifCond .ne 10, 3) := by decide +kernel
theorem dX5_isFullFrom_98 : decode cX5_isFullFrom 98 = .ok (.iload 7, 2) := by decide +kernel
theorem dX5_isFullFrom_100 : decode cX5_isFullFrom 100 = .ok (.iload 4, 2) := by decide +kernel
theorem dX5_isFullFrom_102 : decode cX5_isFullFrom 102 = .ok (.if_icmp .ne 6, 3) := by decide +kernel
theorem dX5_isFullFrom_105 : decode cX5_isFullFrom 105 = .ok (.iload 8, 2) := by decide +kernel
theorem dX5_isFullFrom_107 : decode cX5_isFullFrom 107 = .ok (.ireturn, 1) := by decide +kernel
theorem dX5_isFullFrom_108 : decode cX5_isFullFrom 108 = .ok (.iinc 5 1, 3) := by decide +kernel
theorem dX5_isFullFrom_111 : decode cX5_isFullFrom 111 = .ok (.goto (-67), 3) := by decide +kernel
theorem dX5_isFullFrom_114 : decode cX5_isFullFrom 114 = .ok (.iconst 0, 1) := by decide +kernel
theorem dX5_isFullFrom_115 : decode cX5_isFullFrom 115 = .ok (.ireturn, 1) := by decide +kernel
theorem dX5_countClashes_0 : decode cX5_countClashes 0 = .ok (.iconst 0, 1) := by decide +kernel
theorem dX5_countClashes_1 : decode cX5_countClashes 1 = .ok (.istore_n 2, 1) := by decide +kernel
theorem dX5_countClashes_2 : decode cX5_countClashes 2 = .ok (.iconst 0, 1) := by decide +kernel
theorem dX5_countClashes_3 : decode cX5_countClashes 3 = .ok (.istore_n 3, 1) := by decide +kernel
theorem dX5_countClashes_4 : decode cX5_countClashes 4 = .ok (.iload_n 3, 1) := by decide +kernel
theorem dX5_countClashes_5 : decode cX5_countClashes 5 = .ok (.iconst 4, 1) := by decide +kernel
theorem dX5_countClashes_6 : decode cX5_countClashes 6 = .ok (.aload_n 0, 1) := by decide +kernel
theorem dX5_countClashes_7 : decode cX5_countClashes 7 = .ok (.getfield 24, 3) := by decide +kernel
theorem dX5_countClashes_10 : decode cX5_countClashes 10 = .ok (.getfield 38, 3) := by decide +kernel
theorem dX5_countClashes_13 : decode cX5_countClashes 13 = .ok (.imul, 1) := by decide +kernel
theorem dX5_countClashes_14 : decode cX5_countClashes 14 = .ok (.if_icmp .ge 31, 3) := by decide +kernel
theorem dX5_countClashes_17 : decode cX5_countClashes 17 = .ok (.iload_n 1, 1) := by decide +kernel
theorem dX5_countClashes_18 : decode cX5_countClashes 18 = .ok (.iload_n 3, 1) := by decide +kernel
theorem dX5_countClashes_19 : decode cX5_countClashes 19 = .ok (.invokestatic 66, 3) := by decide +kernel
theorem dX5_countClashes_22 : decode cX5_countClashes 22 = .ok (.ifCond .eq 17, 3) := by decide +kernel
theorem dX5_countClashes_25 : decode cX5_countClashes 25 = .ok (.iload_n 2, 1) := by decide +kernel
theorem dX5_countClashes_26 : decode cX5_countClashes 26 = .ok (.aload_n 0, 1) := by decide +kernel
theorem dX5_countClashes_27 : decode cX5_countClashes 27 = .ok (.getfield 15, 3) := by decide +kernel
theorem dX5_countClashes_30 : decode cX5_countClashes 30 = .ok (.iload_n 3, 1) := by decide +kernel
theorem dX5_countClashes_31 : decode cX5_countClashes 31 = .ok (.iaload, 1) := by decide +kernel
theorem dX5_countClashes_32 : decode cX5_countClashes 32 = .ok (.iload_n 1, 1) := by decide +kernel
theorem dX5_countClashes_33 : decode cX5_countClashes 33 = .ok (.iand, 1) := by decide +kernel
theorem dX5_countClashes_34 : decode cX5_countClashes 34 = .ok (.invokestatic 116, 3) := by decide +kernel
theorem dX5_countClashes_37 : decode cX5_countClashes 37 = .ok (.iadd, 1) := by decide +kernel
theorem dX5_countClashes_38 : decode cX5_countClashes 38 = .ok (.istore_n 2, 1) := by decide +kernel
theorem dX5_countClashes_39 : decode cX5_countClashes 39 = .ok (.iinc 3 1, 3) := by decide +kernel
theorem dX5_countClashes_42 : decode cX5_countClashes 42 = .ok (.goto (-38), 3) := by decide +kernel
theorem dX5_countClashes_45 : decode cX5_countClashes 45 = .ok (.iload_n 2, 1) := by decide +kernel
theorem dX5_countClashes_46 : decode cX5_countClashes 46 = .ok (.iconst 2, 1) := by decide +kernel
theorem dX5_countClashes_47 : decode cX5_countClashes 47 = .ok (.idiv, 1) := by decide +kernel
theorem dX5_countClashes_48 : decode cX5_countClashes 48 = .ok (.ireturn, 1) := by decide +kernel
