theorem dX7_init_0 : decode cX7_init 0 = .ok (.aload_n 0, 1) := by decide +kernel
theorem dX7_init_1 : decode cX7_init 1 = .ok (.invokespecial 1, 3) := by decide +kernel
theorem dX7_init_4 : decode cX7_init 4 = .ok (.aload_n 0, 1) := by decide +kernel
theorem dX7_init_5 : decode cX7_init 5 = .ok (.bipush 100, 2) := by decide +kernel
theorem dX7_init_7 : decode cX7_init 7 = .ok (.putfield 7, 3) := by decide +kernel
theorem dX7_init_10 : decode cX7_init 10 = .ok (.aload_n 0, 1) := by decide +kernel
theorem dX7_init_11 : decode cX7_init 11 = .ok (.bipush 100, 2) := by decide +kernel
theorem dX7_init_13 : decode cX7_init 13 = .ok (.putfield 13, 3) := by decide +kernel
theorem dX7_init_16 : decode cX7_init 16 = .ok (.aload_n 0, 1) := by decide +kernel
theorem dX7_init_17 : decode cX7_init 17 = .ok (.bipush 8, 2) := by decide +kernel
theorem dX7_init_19 : decode cX7_init 19 = .ok (.newarray .int, 2) := by decide +kernel
theorem dX7_init_21 : decode cX7_init 21 = .ok (.putfield 16, 3) := by decide +kernel
theorem dX7_init_24 : decode cX7_init 24 = .ok (.aload_n 0, 1) := by decide +kernel
theorem dX7_init_25 : decode cX7_init 25 = .ok (.bipush 8, 2) := by decide +kernel
theorem dX7_init_27 : decode cX7_init 27 = .ok (.newarray .int, 2) := by decide +kernel
theorem dX7_init_29 : decode cX7_init 29 = .ok (.putfield 20, 3) := by decide +kernel
theorem dX7_init_32 : decode cX7_init 32 = .ok (.aload_n 0, 1) := by decide +kernel
theorem dX7_init_33 : decode cX7_init 33 = .ok (.bipush 8, 2) := by decide +kernel
theorem dX7_init_35 : decode cX7_init 35 = .ok (.newarray .int, 2) := by decide +kernel
theorem dX7_init_37 : decode cX7_init 37 = .ok (.putfield 23, 3) := by decide +kernel
theorem dX7_init_40 : decode cX7_init 40 = .ok (.aload_n 0, 1) := by decide +kernel
theorem dX7_init_41 : decode cX7_init 41 = .ok (.bipush 8, 2) := by decide +kernel
theorem dX7_init_43 : decode cX7_init 43 = .ok (.newarray .int, 2) := by decide +kernel
theorem dX7_init_45 : decode cX7_init 45 = .ok (.putfield 26, 3) := by decide +kernel
theorem dX7_init_48 : decode cX7_init 48 = .ok (.aload_n 0, 1) := by decide +kernel
theorem dX7_init_49 : decode cX7_init 49 = .ok (.bipush 8, 2) := by decide +kernel
theorem dX7_init_51 : decode cX7_init 51 = .ok (.newarray .int, 2) := by decide +kernel
theorem dX7_init_53 : decode cX7_init 53 = .ok (.putfield 29, 3) := by decide +kernel
theorem dX7_init_56 : decode cX7_init 56 = .ok (.aload_n 0, 1) := by decide +kernel
theorem dX7_init_57 : decode cX7_init 57 = .ok (.bipush 8, 2) := by decide +kernel
theorem dX7_init_59 : decode cX7_init 59 = .ok (.newarray .int, 2) := by decide +kernel
theorem dX7_init_61 : decode cX7_init 61 = .ok (.putfield 32, 3) := by decide +kernel
theorem dX7_init_64 : decode cX7_init 64 = .ok (.aload_n 0, 1) := by decide +kernel
theorem dX7_init_65 : decode cX7_init 65 = .ok (.bipush 8, 2) := by decide +kernel
theorem dX7_init_67 : decode cX7_init 67 = .ok (.newarray .int, 2) := by decide +kernel
theorem dX7_init_69 : decode cX7_init 69 = .ok (.putfield 35, 3) := by decide +kernel
theorem dX7_init_72 : decode cX7_init 72 = .ok (.aload_n 0, 1) := by decide +kernel
theorem dX7_init_73 : decode cX7_init 73 = .ok (.bipush 10, 2) := by decide +kernel
theorem dX7_init_75 : decode cX7_init 75 = .ok (.putfield 38, 3) := by decide +kernel
theorem dX7_init_78 : decode cX7_init 78 = .ok (.aload_n 0, 1) := by decide +kernel
theorem dX7_init_79 : decode cX7_init 79 = .ok (.iconst 1, 1) := by decide +kernel
theorem dX7_init_80 : decode cX7_init 80 = .ok (.putfield 41, 3) := by decide +kernel
theorem dX7_init_83 : decode cX7_init 83 = .ok (.aload_n 0, 1) := by decide +kernel
theorem dX7_init_84 : decode cX7_init 84 = .ok (.bipush 8, 2) := by decide +kernel
theorem dX7_init_86 : decode cX7_init 86 = .ok (.newarray .int, 2) := by decide +kernel
theorem dX7_init_88 : decode cX7_init 88 = .ok (.putfield 44, 3) := by decide +kernel
theorem dX7_init_91 : decode cX7_init 91 = .ok (.aload_n 0, 1) := by decide +kernel
theorem dX7_init_92 : decode cX7_init 92 = .ok (.bipush 8, 2) := by decide +kernel
theorem dX7_init_94 : decode cX7_init 94 = .ok (.newarray .int, 2) := by decide +kernel
theorem dX7_init_96 : decode cX7_init 96 = .ok (.putfield 47, 3) := by decide +kernel
theorem dX7_init_99 : decode cX7_init 99 = .ok (.aload_n 0, 1) := by decide +kernel
theorem dX7_init_100 : decode cX7_init 100 = .ok (.bipush 32, 2) := by decide +kernel
theorem dX7_init_102 : decode cX7_init 102 = .ok (.newarray .int, 2) := by decide +kernel
theorem dX7_init_104 : decode cX7_init 104 = .ok (.putfield 50, 3) := by decide +kernel
theorem dX7_init_107 : decode cX7_init 107 = .ok (.aload_n 0, 1) := by decide +kernel
theorem dX7_init_108 : decode cX7_init 108 = .ok (.bipush 9, 2) := by decide +kernel
theorem dX7_init_110 : decode cX7_init 110 = .ok (.newarray .int, 2) := by decide +kernel
theorem dX7_init_112 : decode cX7_init 112 = .ok (.putfield 53, 3) := by decide +kernel
theorem dX7_init_115 : decode cX7_init 115 = .ok (.aload_n 0, 1) := by decide +kernel
theorem dX7_init_116 : decode cX7_init 116 = .ok (.bipush 32, 2) := by decide +kernel
theorem dX7_init_118 : decode cX7_init 118 = .ok (.newarray .int, 2) := by decide +kernel
theorem dX7_init_120 : decode cX7_init 120 = .ok (.putfield 56, 3) := by decide +kernel
theorem dX7_init_123 : decode cX7_init 123 = .ok (.aload_n 0, 1) := by decide +kernel
theorem dX7_init_124 : decode cX7_init 124 = .ok (.bipush 8, 2) := by decide +kernel
theorem dX7_init_126 : decode cX7_init 126 = .ok (.newarray .int, 2) := by decide +kernel
theorem dX7_init_128 : decode cX7_init 128 = .ok (.putfield 59, 3) := by decide +kernel
theorem dX7_init_131 : decode cX7_init 131 = .ok (.aload_n 0, 1) := by decide +kernel
theorem dX7_init_132 : decode cX7_init 132 = .ok (.bipush 8, 2) := by decide +kernel
theorem dX7_init_134 : decode cX7_init 134 = .ok (.newarray .int, 2) := by decide +kernel
theorem dX7_init_136 : decode cX7_init 136 = .ok (.putfield 62, 3) := by decide +kernel
theorem dX7_init_139 : decode cX7_init 139 = .ok (.aload_n 0, 1) := by decide +kernel
theorem dX7_init_140 : decode cX7_init 140 = .ok (.bipush 6, 2) := by decide +kernel
theorem dX7_init_142 : decode cX7_init 142 = .ok (.newarray .int, 2) := by decide +kernel
theorem dX7_init_144 : decode cX7_init 144 = .ok (.putfield 65, 3) := by decide +kernel
theorem dX7_init_147 : decode cX7_init 147 = .ok (.aload_n 0, 1) := by decide +kernel
theorem dX7_init_148 : decode cX7_init 148 = .ok (.bipush 6, 2) := by decide +kernel
theorem dX7_init_150 : decode cX7_init 150 = .ok (.newarray .int, 2) := by decide +kernel
theorem dX7_init_152 : decode cX7_init 152 = .ok (.putfield 68, 3) := by decide +kernel
theorem dX7_init_155 : decode cX7_init 155 = .ok (.aload_n 0, 1) := by decide +kernel
theorem dX7_init_156 : decode cX7_init 156 = .ok (.bipush 6, 2) := by decide +kernel
theorem dX7_init_158 : decode cX7_init 158 = .ok (.newarray .int, 2) := by decide +kernel
theorem dX7_init_160 : decode cX7_init 160 = .ok (.putfield 71, 3) := by decide +kernel
theorem dX7_init_163 : decode cX7_init 163 = .ok (.return_, 1) := by decide +kernel
theorem dX7_in_0 : decode cX7_in 0 = .ok (.lload_n 0, 1) := by decide +kernel
theorem dX7_in_1 : decode cX7_in 1 = .ok (.lload_n 2, 1) := by decide +kernel
theorem dX7_in_2 : decode cX7_in 2 = .ok (.lcmp, 1) := by decide +kernel
theorem dX7_in_3 : decode cX7_in 3 = .ok (.ifCond .lt 14, 3) := by decide +kernel
theorem dX7_in_6 : decode cX7_in 6 = .ok (.lload_n 0, 1) := by decide +kernel
theorem dX7_in_7 : decode cX7_in 7 = .ok (.lload 4, 2) := by decide +kernel
theorem dX7_in_9 : decode cX7_in 9 = .ok (.lcmp, 1) := by decide +kernel
theorem dX7_in_10 : decode cX7_in 10 = .ok (.ifCond .gt 7, 3) := by decide +kernel
theorem dX7_in_13 : decode cX7_in 13 = .ok (.iconst 1, 1) := by decide +kernel
theorem dX7_in_14 : decode cX7_in 14 = .ok (.goto 4, 3) := by decide +kernel
theorem dX7_in_17 : decode cX7_in 17 = .ok (.iconst 0, 1) := by decide +kernel
theorem dX7_in_18 : decode cX7_in 18 = .ok (.ireturn, 1) := by decide +kernel
theorem dX7_isSite_0 : decode cX7_isSite 0 = .ok (.iload_n 1, 1) := by decide +kernel
theorem dX7_isSite_1 : decode cX7_isSite 1 = .ok (.i2l, 1) := by decide +kernel
theorem dX7_isSite_2 : decode cX7_isSite 2 = .ok (.lconst 0, 1) := by decide +kernel
theorem dX7_isSite_3 : decode cX7_isSite 3 = .ok (.aload_n 0, 1) := by decide +kernel
theorem dX7_isSite_4 : decode cX7_isSite 4 = .ok (.getfield 74, 3) := by decide +kernel
theorem dX7_isSite_7 : decode cX7_isSite 7 = .ok (.iconst 1, 1) := by decide +kernel
theorem dX7_isSite_8 : decode cX7_isSite 8 = .ok (.isub, 1) := by decide +kernel
theorem dX7_isSite_9 : decode cX7_isSite 9 = .ok (.i2l, 1) := by decide +kernel
theorem dX7_isSite_10 : decode cX7_isSite 10 = .ok (.invokestatic 77, 3) := by decide +kernel
theorem dX7_isSite_13 : decode cX7_isSite 13 = .ok (.ireturn, 1) := by decide +kernel
theorem dX7_isCorner_0 : decode cX7_isCorner 0 = .ok (.iload_n 0, 1) := by decide +kernel
theorem dX7_isCorner_1 : decode cX7_isCorner 1 = .ok (.i2l, 1) := by decide +kernel
theorem dX7_isCorner_2 : decode cX7_isCorner 2 = .ok (.lconst 0, 1) := by decide +kernel
theorem dX7_isCorner_3 : decode cX7_isCorner 3 = .ok (.ldc2_w 81, 3) := by decide +kernel
theorem dX7_isCorner_6 : decode cX7_isCorner 6 = .ok (.invokestatic 77, 3) := by decide +kernel
theorem dX7_isCorner_9 : decode cX7_isCorner 9 = .ok (.ireturn, 1) := by decide +kernel
theorem dX7_map_0 : decode cX7_map 0 = .ok (.iload_n 1, 1) := by decide +kernel
theorem dX7_map_1 : decode cX7_map 1 = .ok (.i2l, 1) := by decide +kernel
theorem dX7_map_2 : decode cX7_map 2 = .ok (.ldc2_w 83, 3) := by decide +kernel
theorem dX7_map_5 : decode cX7_map 5 = .ok (.ldc2_w 85, 3) := by decide +kernel
theorem dX7_map_8 : decode cX7_map 8 = .ok (.invokestatic 77, 3) := by decide +kernel
theorem dX7_map_11 : decode cX7_map 11 = .ok (.ifCond .eq 17, 3) := by decide +kernel
theorem dX7_map_14 : decode cX7_map 14 = .ok (.iload_n 2, 1) := by decide +kernel
theorem dX7_map_15 : decode cX7_map 15 = .ok (.i2l, 1) := by decide +kernel
theorem dX7_map_16 : decode cX7_map 16 = .ok (.ldc2_w 83, 3) := by decide +kernel
theorem dX7_map_19 : decode cX7_map 19 = .ok (.ldc2_w 85, 3) := by decide +kernel
theorem dX7_map_22 : decode cX7_map 22 = .ok (.invokestatic 77, 3) := by decide +kernel
theorem dX7_map_25 : decode cX7_map 25 = .ok (.ifCond .ne 6, 3) := by decide +kernel
theorem dX7_map_28 : decode cX7_map 28 = .ok (.bipush (-2), 2) := by decide +kernel
theorem dX7_map_30 : decode cX7_map 30 = .ok (.ireturn, 1) := by decide +kernel
theorem dX7_map_31 : decode cX7_map 31 = .ok (.aload_n 0, 1) := by decide +kernel
theorem dX7_map_32 : decode cX7_map 32 = .ok (.iload_n 1, 1) := by decide +kernel
theorem dX7_map_33 : decode cX7_map 33 = .ok (.putfield 7, 3) := by decide +kernel
theorem dX7_map_36 : decode cX7_map 36 = .ok (.aload_n 0, 1) := by decide +kernel
theorem dX7_map_37 : decode cX7_map 37 = .ok (.iload_n 2, 1) := by decide +kernel
theorem dX7_map_38 : decode cX7_map 38 = .ok (.putfield 13, 3) := by decide +kernel
theorem dX7_map_41 : decode cX7_map 41 = .ok (.aload_n 0, 1) := by decide +kernel
theorem dX7_map_42 : decode cX7_map 42 = .ok (.iconst 0, 1) := by decide +kernel
theorem dX7_map_43 : decode cX7_map 43 = .ok (.putfield 74, 3) := by decide +kernel
theorem dX7_map_46 : decode cX7_map 46 = .ok (.iconst 1, 1) := by decide +kernel
theorem dX7_map_47 : decode cX7_map 47 = .ok (.ireturn, 1) := by decide +kernel
theorem dX7_site_0 : decode cX7_site 0 = .ok (.iload_n 1, 1) := by decide +kernel
theorem dX7_site_1 : decode cX7_site 1 = .ok (.i2l, 1) := by decide +kernel
theorem dX7_site_2 : decode cX7_site 2 = .ok (.lconst 0, 1) := by decide +kernel
theorem dX7_site_3 : decode cX7_site 3 = .ok (.aload_n 0, 1) := by decide +kernel
theorem dX7_site_4 : decode cX7_site 4 = .ok (.getfield 7, 3) := by decide +kernel
theorem dX7_site_7 : decode cX7_site 7 = .ok (.i2l, 1) := by decide +kernel
theorem dX7_site_8 : decode cX7_site 8 = .ok (.invokestatic 77, 3) := by decide +kernel
theorem dX7_site_11 : decode cX7_site 11 = .ok (.ifCond .eq 55, 3) := by decide +kernel
theorem dX7_site_14 : decode cX7_site 14 = .ok (.iload_n 2, 1) := by decide +kernel
theorem dX7_site_15 : decode cX7_site 15 = .ok (.i2l, 1) := by decide +kernel
theorem dX7_site_16 : decode cX7_site 16 = .ok (.lconst 0, 1) := by decide +kernel
theorem dX7_site_17 : decode cX7_site 17 = .ok (.aload_n 0, 1) := by decide +kernel
theorem dX7_site_18 : decode cX7_site 18 = .ok (.getfield 13, 3) := by decide +kernel
theorem dX7_site_21 : decode cX7_site 21 = .ok (.i2l, 1) := by decide +kernel
theorem dX7_site_22 : decode cX7_site 22 = .ok (.invokestatic 77, 3) := by decide +kernel
theorem dX7_site_25 : decode cX7_site 25 = .ok (.ifCond .eq 41, 3) := by decide +kernel
theorem dX7_site_28 : decode cX7_site 28 = .ok (.iload_n 3, 1) := by decide +kernel
theorem dX7_site_29 : decode cX7_site 29 = .ok (.i2l, 1) := by decide +kernel
theorem dX7_site_30 : decode cX7_site 30 = .ok (.lconst 1, 1) := by decide +kernel
theorem dX7_site_31 : decode cX7_site 31 = .ok (.ldc2_w 87, 3) := by decide +kernel
theorem dX7_site_34 : decode cX7_site 34 = .ok (.invokestatic 77, 3) := by decide +kernel
theorem dX7_site_37 : decode cX7_site 37 = .ok (.ifCond .eq 29, 3) := by decide +kernel
theorem dX7_site_40 : decode cX7_site 40 = .ok (.iload 4, 2) := by decide +kernel
theorem dX7_site_42 : decode cX7_site 42 = .ok (.i2l, 1) := by decide +kernel
theorem dX7_site_43 : decode cX7_site 43 = .ok (.lconst 1, 1) := by decide +kernel
theorem dX7_site_44 : decode cX7_site 44 = .ok (.ldc2_w 89, 3) := by decide +kernel
theorem dX7_site_47 : decode cX7_site 47 = .ok (.invokestatic 77, 3) := by decide +kernel
theorem dX7_site_50 : decode cX7_site 50 = .ok (.ifCond .eq 16, 3) := by decide +kernel
theorem dX7_site_53 : decode cX7_site 53 = .ok (.iload 5, 2) := by decide +kernel
theorem dX7_site_55 : decode cX7_site 55 = .ok (.i2l, 1) := by decide +kernel
theorem dX7_site_56 : decode cX7_site 56 = .ok (.lconst 1, 1) := by decide +kernel
theorem dX7_site_57 : decode cX7_site 57 = .ok (.ldc2_w 91, 3) := by decide +kernel
theorem dX7_site_60 : decode cX7_site 60 = .ok (.invokestatic 77, 3) := by decide +kernel
theorem dX7_site_63 : decode cX7_site 63 = .ok (.ifCond .ne 6, 3) := by decide +kernel
theorem dX7_site_66 : decode cX7_site 66 = .ok (.bipush (-2), 2) := by decide +kernel
theorem dX7_site_68 : decode cX7_site 68 = .ok (.ireturn, 1) := by decide +kernel
theorem dX7_site_69 : decode cX7_site 69 = .ok (.aload_n 0, 1) := by decide +kernel
theorem dX7_site_70 : decode cX7_site 70 = .ok (.getfield 74, 3) := by decide +kernel
theorem dX7_site_73 : decode cX7_site 73 = .ok (.bipush 8, 2) := by decide +kernel
theorem dX7_site_75 : decode cX7_site 75 = .ok (.if_icmp .ne 6, 3) := by decide +kernel
theorem dX7_site_78 : decode cX7_site 78 = .ok (.bipush (-4), 2) := by decide +kernel
theorem dX7_site_80 : decode cX7_site 80 = .ok (.ireturn, 1) := by decide +kernel
theorem dX7_site_81 : decode cX7_site 81 = .ok (.aload_n 0, 1) := by decide +kernel
theorem dX7_site_82 : decode cX7_site 82 = .ok (.getfield 16, 3) := by decide +kernel
theorem dX7_site_85 : decode cX7_site 85 = .ok (.aload_n 0, 1) := by decide +kernel
theorem dX7_site_86 : decode cX7_site 86 = .ok (.getfield 74, 3) := by decide +kernel
theorem dX7_site_89 : decode cX7_site 89 = .ok (.iload_n 1, 1) := by decide +kernel
theorem dX7_site_90 : decode cX7_site 90 = .ok (.iastore, 1) := by decide +kernel
theorem dX7_site_91 : decode cX7_site 91 = .ok (.aload_n 0, 1) := by decide +kernel
theorem dX7_site_92 : decode cX7_site 92 = .ok (.getfield 20, 3) := by decide +kernel
theorem dX7_site_95 : decode cX7_site 95 = .ok (.aload_n 0, 1) := by decide +kernel
theorem dX7_site_96 : decode cX7_site 96 = .ok (.getfield 74, 3) := by decide +kernel
theorem dX7_site_99 : decode cX7_site 99 = .ok (.iload_n 2, 1) := by decide +kernel
theorem dX7_site_100 : decode cX7_site 100 = .ok (.iastore, 1) := by decide +kernel
theorem dX7_site_101 : decode cX7_site 101 = .ok (.aload_n 0, 1) := by decide +kernel
theorem dX7_site_102 : decode cX7_site 102 = .ok (.getfield 23, 3) := by decide +kernel
theorem dX7_site_105 : decode cX7_site 105 = .ok (.aload_n 0, 1) := by decide +kernel
theorem dX7_site_106 : decode cX7_site 106 = .ok (.getfield 74, 3) := by decide +kernel
theorem dX7_site_109 : decode cX7_site 109 = .ok (.iload_n 3, 1) := by decide +kernel
theorem dX7_site_110 : decode cX7_site 110 = .ok (.iastore, 1) := by decide +kernel
theorem dX7_site_111 : decode cX7_site 111 = .ok (.aload_n 0, 1) := by decide +kernel
theorem dX7_site_112 : decode cX7_site 112 = .ok (.getfield 26, 3) := by decide +kernel
theorem dX7_site_115 : decode cX7_site 115 = .ok (.aload_n 0, 1) := by decide +kernel
theorem dX7_site_116 : decode cX7_site 116 = .ok (.getfield 74, 3) := by decide +kernel
theorem dX7_site_119 : decode cX7_site 119 = .ok (.iload 4, 2) := by decide +kernel
theorem dX7_site_121 : decode cX7_site 121 = .ok (.iastore, 1) := by decide +kernel
theorem dX7_site_122 : decode cX7_site 122 = .ok (.aload_n 0, 1) := by decide +kernel
theorem dX7_site_123 : decode cX7_site 123 = .ok (.getfield 29, 3) := by decide +kernel
theorem dX7_site_126 : decode cX7_site 126 = .ok (.aload_n 0, 1) := by decide +kernel
theorem dX7_site_127 : decode cX7_site 127 = .ok (.getfield 74, 3) := by decide +kernel
theorem dX7_site_130 : decode cX7_site 130 = .ok (.iload 5, 2) := by decide +kernel
theorem dX7_site_132 : decode cX7_site 132 = .ok (.iastore, 1) := by decide +kernel
theorem dX7_site_133 : decode cX7_site 133 = .ok (.aload_n 0, 1) := by decide +kernel
theorem dX7_site_134 : decode cX7_site 134 = .ok (.getfield 32, 3) := by decide +kernel
theorem dX7_site_137 : decode cX7_site 137 = .ok (.aload_n 0, 1) := by decide +kernel
theorem dX7_site_138 : decode cX7_site 138 = .ok (.getfield 74, 3) := by decide +kernel
theorem dX7_site_141 : decode cX7_site 141 = .ok (.bipush 15, 2) := by decide +kernel
theorem dX7_site_143 : decode cX7_site 143 = .ok (.iastore, 1) := by decide +kernel
theorem dX7_site_144 : decode cX7_site 144 = .ok (.aload_n 0, 1) := by decide +kernel
theorem dX7_site_145 : decode cX7_site 145 = .ok (.getfield 35, 3) := by decide +kernel
theorem dX7_site_148 : decode cX7_site 148 = .ok (.aload_n 0, 1) := by decide +kernel
theorem dX7_site_149 : decode cX7_site 149 = .ok (.getfield 74, 3) := by decide +kernel
theorem dX7_site_152 : decode cX7_site 152 = .ok (.bipush (-9), 2) := by decide +kernel
theorem dX7_site_154 : decode cX7_site 154 = .ok (.iastore, 1) := by decide +kernel
theorem dX7_site_155 : decode cX7_site 155 = .ok (.aload_n 0, 1) := by decide +kernel
theorem dX7_site_156 : decode cX7_site 156 = .ok (.dup, 1) := by decide +kernel
theorem dX7_site_157 : decode cX7_site 157 = .ok (.getfield 74, 3) := by decide +kernel
theorem dX7_site_160 : decode cX7_site 160 = .ok (.iconst 1, 1) := by decide +kernel
theorem dX7_site_161 : decode cX7_site 161 = .ok (.iadd, 1) := by decide +kernel
theorem dX7_site_162 : decode cX7_site 162 = .ok (.putfield 74, 3) := by decide +kernel
theorem dX7_site_165 : decode cX7_site 165 = .ok (.aload_n 0, 1) := by decide +kernel
theorem dX7_site_166 : decode cX7_site 166 = .ok (.getfield 74, 3) := by decide +kernel
theorem dX7_site_169 : decode cX7_site 169 = .ok (.iconst 1, 1) := by decide +kernel
theorem dX7_site_170 : decode cX7_site 170 = .ok (.isub, 1) := by decide +kernel
theorem dX7_site_171 : decode cX7_site 171 = .ok (.ireturn, 1) := by decide +kernel
theorem dX7_move_0 : decode cX7_move 0 = .ok (.aload_n 0, 1) := by decide +kernel
theorem dX7_move_1 : decode cX7_move 1 = .ok (.iload_n 1, 1) := by decide +kernel
theorem dX7_move_2 : decode cX7_move 2 = .ok (.invokevirtual 93, 3) := by decide +kernel
theorem dX7_move_5 : decode cX7_move 5 = .ok (.ifCond .ne 5, 3) := by decide +kernel
theorem dX7_move_8 : decode cX7_move 8 = .ok (.iconst (-1), 1) := by decide +kernel
theorem dX7_move_9 : decode cX7_move 9 = .ok (.ireturn, 1) := by decide +kernel
theorem dX7_move_10 : decode cX7_move 10 = .ok (.iload_n 2, 1) := by decide +kernel
theorem dX7_move_11 : decode cX7_move 11 = .ok (.i2l, 1) := by decide +kernel
theorem dX7_move_12 : decode cX7_move 12 = .ok (.lconst 0, 1) := by decide +kernel
theorem dX7_move_13 : decode cX7_move 13 = .ok (.aload_n 0, 1) := by decide +kernel
theorem dX7_move_14 : decode cX7_move 14 = .ok (.getfield 7, 3) := by decide +kernel
theorem dX7_move_17 : decode cX7_move 17 = .ok (.i2l, 1) := by decide +kernel
theorem dX7_move_18 : decode cX7_move 18 = .ok (.invokestatic 77, 3) := by decide +kernel
theorem dX7_move_21 : decode cX7_move 21 = .ok (.ifCond .eq 17, 3) := by decide +kernel
theorem dX7_move_24 : decode cX7_move 24 = .ok (.iload_n 3, 1) := by decide +kernel
theorem dX7_move_25 : decode cX7_move 25 = .ok (.i2l, 1) := by decide +kernel
theorem dX7_move_26 : decode cX7_move 26 = .ok (.lconst 0, 1) := by decide +kernel
theorem dX7_move_27 : decode cX7_move 27 = .ok (.aload_n 0, 1) := by decide +kernel
theorem dX7_move_28 : decode cX7_move 28 = .ok (.getfield 13, 3) := by decide +kernel
theorem dX7_move_31 : decode cX7_move 31 = .ok (.i2l, 1) := by decide +kernel
theorem dX7_move_32 : decode cX7_move 32 = .ok (.invokestatic 77, 3) := by decide +kernel
theorem dX7_move_35 : decode cX7_move 35 = .ok (.ifCond .ne 6, 3) := by decide +kernel
theorem dX7_move_38 : decode cX7_move 38 = .ok (.bipush (-2), 2) := by decide +kernel
theorem dX7_move_40 : decode cX7_move 40 = .ok (.ireturn, 1) := by decide +kernel
theorem dX7_move_41 : decode cX7_move 41 = .ok (.sipush 1000, 3) := by decide +kernel
theorem dX7_move_44 : decode cX7_move 44 = .ok (.aload_n 0, 1) := by decide +kernel
theorem dX7_move_45 : decode cX7_move 45 = .ok (.getfield 16, 3) := by decide +kernel
theorem dX7_move_48 : decode cX7_move 48 = .ok (.iload_n 1, 1) := by decide +kernel
theorem dX7_move_49 : decode cX7_move 49 = .ok (.iaload, 1) := by decide +kernel
theorem dX7_move_50 : decode cX7_move 50 = .ok (.imul, 1) := by decide +kernel
theorem dX7_move_51 : decode cX7_move 51 = .ok (.aload_n 0, 1) := by decide +kernel
theorem dX7_move_52 : decode cX7_move 52 = .ok (.getfield 20, 3) := by decide +kernel
theorem dX7_move_55 : decode cX7_move 55 = .ok (.iload_n 1, 1) := by decide +kernel
theorem dX7_move_56 : decode cX7_move 56 = .ok (.iaload, 1) := by decide +kernel
theorem dX7_move_57 : decode cX7_move 57 = .ok (.iadd, 1) := by decide +kernel
theorem dX7_move_58 : decode cX7_move 58 = .ok (.istore 4, 2) := by decide +kernel
theorem dX7_move_60 : decode cX7_move 60 = .ok (.aload_n 0, 1) := by decide +kernel
theorem dX7_move_61 : decode cX7_move 61 = .ok (.getfield 16, 3) := by decide +kernel
theorem dX7_move_64 : decode cX7_move 64 = .ok (.iload_n 1, 1) := by decide +kernel
theorem dX7_move_65 : decode cX7_move 65 = .ok (.iload_n 2, 1) := by decide +kernel
theorem dX7_move_66 : decode cX7_move 66 = .ok (.iastore, 1) := by decide +kernel
theorem dX7_move_67 : decode cX7_move 67 = .ok (.aload_n 0, 1) := by decide +kernel
theorem dX7_move_68 : decode cX7_move 68 = .ok (.getfield 20, 3) := by decide +kernel
theorem dX7_move_71 : decode cX7_move 71 = .ok (.iload_n 1, 1) := by decide +kernel
theorem dX7_move_72 : decode cX7_move 72 = .ok (.iload_n 3, 1) := by decide +kernel
theorem dX7_move_73 : decode cX7_move 73 = .ok (.iastore, 1) := by decide +kernel
theorem dX7_move_74 : decode cX7_move 74 = .ok (.iload 4, 2) := by decide +kernel
theorem dX7_move_76 : decode cX7_move 76 = .ok (.ireturn, 1) := by decide +kernel
theorem dX7_allow_0 : decode cX7_allow 0 = .ok (.aload_n 0, 1) := by decide +kernel
theorem dX7_allow_1 : decode cX7_allow 1 = .ok (.iload_n 1, 1) := by decide +kernel
theorem dX7_allow_2 : decode cX7_allow 2 = .ok (.invokevirtual 93, 3) := by decide +kernel
theorem dX7_allow_5 : decode cX7_allow 5 = .ok (.ifCond .ne 5, 3) := by decide +kernel
theorem dX7_allow_8 : decode cX7_allow 8 = .ok (.iconst (-1), 1) := by decide +kernel
theorem dX7_allow_9 : decode cX7_allow 9 = .ok (.ireturn, 1) := by decide +kernel
theorem dX7_allow_10 : decode cX7_allow 10 = .ok (.iload_n 2, 1) := by decide +kernel
theorem dX7_allow_11 : decode cX7_allow 11 = .ok (.invokestatic 97, 3) := by decide +kernel
theorem dX7_allow_14 : decode cX7_allow 14 = .ok (.ifCond .ne 6, 3) := by decide +kernel
theorem dX7_allow_17 : decode cX7_allow 17 = .ok (.bipush (-2), 2) := by decide +kernel
theorem dX7_allow_19 : decode cX7_allow 19 = .ok (.ireturn, 1) := by decide +kernel
theorem dX7_allow_20 : decode cX7_allow 20 = .ok (.aload_n 0, 1) := by decide +kernel
theorem dX7_allow_21 : decode cX7_allow 21 = .ok (.getfield 32, 3) := by decide +kernel
theorem dX7_allow_24 : decode cX7_allow 24 = .ok (.iload_n 1, 1) := by decide +kernel
theorem dX7_allow_25 : decode cX7_allow 25 = .ok (.iaload, 1) := by decide +kernel
theorem dX7_allow_26 : decode cX7_allow 26 = .ok (.iload_n 2, 1) := by decide +kernel
theorem dX7_allow_27 : decode cX7_allow 27 = .ok (.ishr, 1) := by decide +kernel
theorem dX7_allow_28 : decode cX7_allow 28 = .ok (.iconst 1, 1) := by decide +kernel
theorem dX7_allow_29 : decode cX7_allow 29 = .ok (.iand, 1) := by decide +kernel
theorem dX7_allow_30 : decode cX7_allow 30 = .ok (.istore 4, 2) := by decide +kernel
theorem dX7_allow_32 : decode cX7_allow 32 = .ok (.aload_n 0, 1) := by decide +kernel
theorem dX7_allow_33 : decode cX7_allow 33 = .ok (.getfield 32, 3) := by decide +kernel
theorem dX7_allow_36 : decode cX7_allow 36 = .ok (.iload_n 1, 1) := by decide +kernel
theorem dX7_allow_37 : decode cX7_allow 37 = .ok (.iload_n 3, 1) := by decide +kernel
theorem dX7_allow_38 : decode cX7_allow 38 = .ok (.ifCond .eq 16, 3) := by decide +kernel
theorem dX7_allow_41 : decode cX7_allow 41 = .ok (.aload_n 0, 1) := by decide +kernel
theorem dX7_allow_42 : decode cX7_allow 42 = .ok (.getfield 32, 3) := by decide +kernel
theorem dX7_allow_45 : decode cX7_allow 45 = .ok (.iload_n 1, 1) := by decide +kernel
theorem dX7_allow_46 : decode cX7_allow 46 = .ok (.iaload, 1) := by decide +kernel
theorem dX7_allow_47 : decode cX7_allow 47 = .ok (.iconst 1, 1) := by decide +kernel
theorem dX7_allow_48 : decode cX7_allow 48 = .ok (.iload_n 2, 1) := by decide +kernel
theorem dX7_allow_49 : decode cX7_allow 49 = .ok (.ishl, 1) := by decide +kernel
theorem dX7_allow_50 : decode cX7_allow 50 = .ok (.ior, 1) := by decide +kernel
theorem dX7_allow_51 : decode cX7_allow 51 = .ok (.goto 15, 3) := by decide +kernel
theorem dX7_allow_54 : decode cX7_allow 54 = .ok (.aload_n 0, 1) := by decide +kernel
theorem dX7_allow_55 : decode cX7_allow 55 = .ok (.getfield 32, 3) := by decide +kernel
theorem dX7_allow_58 : decode cX7_allow 58 = .ok (.iload_n 1, 1) := by decide +kernel
theorem dX7_allow_59 : decode cX7_allow 59 = .ok (.iaload, 1) := by decide +kernel
theorem dX7_allow_60 : decode cX7_allow 60 = .ok (.iconst 1, 1) := by decide +kernel
theorem dX7_allow_61 : decode cX7_allow 61 = .ok (.iload_n 2, 1) := by decide +kernel
theorem dX7_allow_62 : decode cX7_allow 62 = .ok (.ishl, 1) := by decide +kernel
theorem dX7_allow_63 : decode cX7_allow 63 = .ok (.iconst (-1), 1) := by decide +kernel
theorem dX7_allow_64 : decode cX7_allow 64 = .ok (.ixor, 1) := by decide +kernel
theorem dX7_allow_65 : decode cX7_allow 65 = .ok (.iand, 1) := by decide +kernel
theorem dX7_allow_66 : decode cX7_allow 66 = .ok (.iastore, 1) := by decide +kernel
theorem dX7_allow_67 : decode cX7_allow 67 = .ok (.iload 4, 2) := by decide +kernel
theorem dX7_allow_69 : decode cX7_allow 69 = .ok (.ireturn, 1) := by decide +kernel
theorem dX7_rule_0 : decode cX7_rule 0 = .ok (.iload_n 1, 1) := by decide +kernel
theorem dX7_rule_1 : decode cX7_rule 1 = .ok (.ifCond .ne 15, 3) := by decide +kernel
theorem dX7_rule_4 : decode cX7_rule 4 = .ok (.iload_n 2, 1) := by decide +kernel
theorem dX7_rule_5 : decode cX7_rule 5 = .ok (.i2l, 1) := by decide +kernel
theorem dX7_rule_6 : decode cX7_rule 6 = .ok (.lconst 1, 1) := by decide +kernel
theorem dX7_rule_7 : decode cX7_rule 7 = .ok (.ldc2_w 100, 3) := by decide +kernel
theorem dX7_rule_10 : decode cX7_rule 10 = .ok (.invokestatic 77, 3) := by decide +kernel
theorem dX7_rule_13 : decode cX7_rule 13 = .ok (.ifCond .ne 23, 3) := by decide +kernel
theorem dX7_rule_16 : decode cX7_rule 16 = .ok (.iload_n 1, 1) := by decide +kernel
theorem dX7_rule_17 : decode cX7_rule 17 = .ok (.iconst 1, 1) := by decide +kernel
theorem dX7_rule_18 : decode cX7_rule 18 = .ok (.if_icmp .ne 15, 3) := by decide +kernel
theorem dX7_rule_21 : decode cX7_rule 21 = .ok (.iload_n 2, 1) := by decide +kernel
theorem dX7_rule_22 : decode cX7_rule 22 = .ok (.i2l, 1) := by decide +kernel
theorem dX7_rule_23 : decode cX7_rule 23 = .ok (.lconst 0, 1) := by decide +kernel
theorem dX7_rule_24 : decode cX7_rule 24 = .ok (.ldc2_w 89, 3) := by decide +kernel
theorem dX7_rule_27 : decode cX7_rule 27 = .ok (.invokestatic 77, 3) := by decide +kernel
theorem dX7_rule_30 : decode cX7_rule 30 = .ok (.ifCond .ne 6, 3) := by decide +kernel
theorem dX7_rule_33 : decode cX7_rule 33 = .ok (.bipush (-2), 2) := by decide +kernel
theorem dX7_rule_35 : decode cX7_rule 35 = .ok (.ireturn, 1) := by decide +kernel
theorem dX7_rule_36 : decode cX7_rule 36 = .ok (.iload_n 1, 1) := by decide +kernel
theorem dX7_rule_37 : decode cX7_rule 37 = .ok (.ifCond .ne 10, 3) := by decide +kernel
theorem dX7_rule_40 : decode cX7_rule 40 = .ok (.aload_n 0, 1) := by decide +kernel
theorem dX7_rule_41 : decode cX7_rule 41 = .ok (.getfield 38, 3) := by decide +kernel
theorem dX7_rule_44 : decode cX7_rule 44 = .ok (.goto 7, 3) := by decide +kernel
theorem dX7_rule_47 : decode cX7_rule 47 = .ok (.aload_n 0, 1) := by decide +kernel
theorem dX7_rule_48 : decode cX7_rule 48 = .ok (.getfield 102, 3) := by decide +kernel
theorem dX7_rule_51 : decode cX7_rule 51 = .ok (.istore_n 3, 1) := by decide +kernel
theorem dX7_rule_52 : decode cX7_rule 52 = .ok (.aload_n 0, 1) := by decide +kernel
theorem dX7_rule_53 : decode cX7_rule 53 = .ok (.iload_n 1, 1) := by decide +kernel
theorem dX7_rule_54 : decode cX7_rule 54 = .ok (.ifCond .ne 7, 3) := by decide +kernel
theorem dX7_rule_57 : decode cX7_rule 57 = .ok (.iload_n 2, 1) := by decide +kernel
theorem dX7_rule_58 : decode cX7_rule 58 = .ok (.goto 7, 3) := by decide +kernel
theorem dX7_rule_61 : decode cX7_rule 61 = .ok (.aload_n 0, 1) := by decide +kernel
theorem dX7_rule_62 : decode cX7_rule 62 = .ok (.getfield 38, 3) := by decide +kernel
theorem dX7_rule_65 : decode cX7_rule 65 = .ok (.putfield 38, 3) := by decide +kernel
theorem dX7_rule_68 : decode cX7_rule 68 = .ok (.aload_n 0, 1) := by decide +kernel
theorem dX7_rule_69 : decode cX7_rule 69 = .ok (.iload_n 1, 1) := by decide +kernel
theorem dX7_rule_70 : decode cX7_rule 70 = .ok (.iconst 1, 1) := by decide +kernel
theorem dX7_rule_71 : decode cX7_rule 71 = .ok (.if_icmp .ne 7, 3) := by decide +kernel
theorem dX7_rule_74 : decode cX7_rule 74 = .ok (.iload_n 2, 1) := by decide +kernel
theorem dX7_rule_75 : decode cX7_rule 75 = .ok (.goto 7, 3) := by decide +kernel
theorem dX7_rule_78 : decode cX7_rule 78 = .ok (.aload_n 0, 1) := by decide +kernel
theorem dX7_rule_79 : decode cX7_rule 79 = .ok (.getfield 102, 3) := by decide +kernel
theorem dX7_rule_82 : decode cX7_rule 82 = .ok (.putfield 102, 3) := by decide +kernel
theorem dX7_rule_85 : decode cX7_rule 85 = .ok (.iload_n 3, 1) := by decide +kernel
theorem dX7_rule_86 : decode cX7_rule 86 = .ok (.ireturn, 1) := by decide +kernel
theorem dX7_boxed_0 : decode cX7_boxed 0 = .ok (.iload_n 1, 1) := by decide +kernel
theorem dX7_boxed_1 : decode cX7_boxed 1 = .ok (.aload_n 0, 1) := by decide +kernel
theorem dX7_boxed_2 : decode cX7_boxed 2 = .ok (.getfield 38, 3) := by decide +kernel
theorem dX7_boxed_5 : decode cX7_boxed 5 = .ok (.imul, 1) := by decide +kernel
theorem dX7_boxed_6 : decode cX7_boxed 6 = .ok (.bipush 10, 2) := by decide +kernel
theorem dX7_boxed_8 : decode cX7_boxed 8 = .ok (.idiv, 1) := by decide +kernel
theorem dX7_boxed_9 : decode cX7_boxed 9 = .ok (.istore_n 2, 1) := by decide +kernel
theorem dX7_boxed_10 : decode cX7_boxed 10 = .ok (.iload_n 2, 1) := by decide +kernel
theorem dX7_boxed_11 : decode cX7_boxed 11 = .ok (.iconst 1, 1) := by decide +kernel
theorem dX7_boxed_12 : decode cX7_boxed 12 = .ok (.if_icmp .ge 7, 3) := by decide +kernel
theorem dX7_boxed_15 : decode cX7_boxed 15 = .ok (.iconst 1, 1) := by decide +kernel
theorem dX7_boxed_16 : decode cX7_boxed 16 = .ok (.goto 4, 3) := by decide +kernel
theorem dX7_boxed_19 : decode cX7_boxed 19 = .ok (.iload_n 2, 1) := by decide +kernel
theorem dX7_boxed_20 : decode cX7_boxed 20 = .ok (.ireturn, 1) := by decide +kernel
theorem dX7_about_0 : decode cX7_about 0 = .ok (.aload_n 0, 1) := by decide +kernel
theorem dX7_about_1 : decode cX7_about 1 = .ok (.iload_n 1, 1) := by decide +kernel
theorem dX7_about_2 : decode cX7_about 2 = .ok (.invokevirtual 93, 3) := by decide +kernel
theorem dX7_about_5 : decode cX7_about 5 = .ok (.ifCond .ne 5, 3) := by decide +kernel
theorem dX7_about_8 : decode cX7_about 8 = .ok (.iconst (-1), 1) := by decide +kernel
theorem dX7_about_9 : decode cX7_about 9 = .ok (.ireturn, 1) := by decide +kernel
theorem dX7_about_10 : decode cX7_about 10 = .ok (.iload_n 2, 1) := by decide +kernel
theorem dX7_about_11 : decode cX7_about 11 = .ok (.tableswitch 98 0 6 #[41, 48, 55, 62, 69, 76, 87], 41) := by decide +kernel
theorem dX7_about_52 : decode cX7_about 52 = .ok (.aload_n 0, 1) := by decide +kernel
theorem dX7_about_53 : decode cX7_about 53 = .ok (.getfield 16, 3) := by decide +kernel
theorem dX7_about_56 : decode cX7_about 56 = .ok (.iload_n 1, 1) := by decide +kernel
theorem dX7_about_57 : decode cX7_about 57 = .ok (.iaload, 1) := by decide +kernel
theorem dX7_about_58 : decode cX7_about 58 = .ok (.ireturn, 1) := by decide +kernel
theorem dX7_about_59 : decode cX7_about 59 = .ok (.aload_n 0, 1) := by decide +kernel
theorem dX7_about_60 : decode cX7_about 60 = .ok (.getfield 20, 3) := by decide +kernel
theorem dX7_about_63 : decode cX7_about 63 = .ok (.iload_n 1, 1) := by decide +kernel
theorem dX7_about_64 : decode cX7_about 64 = .ok (.iaload, 1) := by decide +kernel
theorem dX7_about_65 : decode cX7_about 65 = .ok (.ireturn, 1) := by decide +kernel
theorem dX7_about_66 : decode cX7_about 66 = .ok (.aload_n 0, 1) := by decide +kernel
theorem dX7_about_67 : decode cX7_about 67 = .ok (.getfield 23, 3) := by decide +kernel
theorem dX7_about_70 : decode cX7_about 70 = .ok (.iload_n 1, 1) := by decide +kernel
theorem dX7_about_71 : decode cX7_about 71 = .ok (.iaload, 1) := by decide +kernel
theorem dX7_about_72 : decode cX7_about 72 = .ok (.ireturn, 1) := by decide +kernel
theorem dX7_about_73 : decode cX7_about 73 = .ok (.aload_n 0, 1) := by decide +kernel
theorem dX7_about_74 : decode cX7_about 74 = .ok (.getfield 26, 3) := by decide +kernel
theorem dX7_about_77 : decode cX7_about 77 = .ok (.iload_n 1, 1) := by decide +kernel
theorem dX7_about_78 : decode cX7_about 78 = .ok (.iaload, 1) := by decide +kernel
theorem dX7_about_79 : decode cX7_about 79 = .ok (.ireturn, 1) := by decide +kernel
theorem dX7_about_80 : decode cX7_about 80 = .ok (.aload_n 0, 1) := by decide +kernel
theorem dX7_about_81 : decode cX7_about 81 = .ok (.getfield 29, 3) := by decide +kernel
theorem dX7_about_84 : decode cX7_about 84 = .ok (.iload_n 1, 1) := by decide +kernel
theorem dX7_about_85 : decode cX7_about 85 = .ok (.iaload, 1) := by decide +kernel
theorem dX7_about_86 : decode cX7_about 86 = .ok (.ireturn, 1) := by decide +kernel
theorem dX7_about_87 : decode cX7_about 87 = .ok (.aload_n 0, 1) := by decide +kernel
theorem dX7_about_88 : decode cX7_about 88 = .ok (.aload_n 0, 1) := by decide +kernel
theorem dX7_about_89 : decode cX7_about 89 = .ok (.getfield 23, 3) := by decide +kernel
theorem dX7_about_92 : decode cX7_about 92 = .ok (.iload_n 1, 1) := by decide +kernel
theorem dX7_about_93 : decode cX7_about 93 = .ok (.iaload, 1) := by decide +kernel
theorem dX7_about_94 : decode cX7_about 94 = .ok (.invokevirtual 105, 3) := by decide +kernel
theorem dX7_about_97 : decode cX7_about 97 = .ok (.ireturn, 1) := by decide +kernel
theorem dX7_about_98 : decode cX7_about 98 = .ok (.aload_n 0, 1) := by decide +kernel
theorem dX7_about_99 : decode cX7_about 99 = .ok (.aload_n 0, 1) := by decide +kernel
theorem dX7_about_100 : decode cX7_about 100 = .ok (.getfield 26, 3) := by decide +kernel
theorem dX7_about_103 : decode cX7_about 103 = .ok (.iload_n 1, 1) := by decide +kernel
theorem dX7_about_104 : decode cX7_about 104 = .ok (.iaload, 1) := by decide +kernel
theorem dX7_about_105 : decode cX7_about 105 = .ok (.invokevirtual 105, 3) := by decide +kernel
theorem dX7_about_108 : decode cX7_about 108 = .ok (.ireturn, 1) := by decide +kernel
theorem dX7_about_109 : decode cX7_about 109 = .ok (.bipush (-2), 2) := by decide +kernel
theorem dX7_about_111 : decode cX7_about 111 = .ok (.ireturn, 1) := by decide +kernel
theorem dX7_left_0 : decode cX7_left 0 = .ok (.aload_n 0, 1) := by decide +kernel
theorem dX7_left_1 : decode cX7_left 1 = .ok (.getfield 16, 3) := by decide +kernel
theorem dX7_left_4 : decode cX7_left 4 = .ok (.iload_n 1, 1) := by decide +kernel
theorem dX7_left_5 : decode cX7_left 5 = .ok (.iaload, 1) := by decide +kernel
theorem dX7_left_6 : decode cX7_left 6 = .ok (.aload_n 0, 1) := by decide +kernel
theorem dX7_left_7 : decode cX7_left 7 = .ok (.getfield 41, 3) := by decide +kernel
theorem dX7_left_10 : decode cX7_left 10 = .ok (.imul, 1) := by decide +kernel
theorem dX7_left_11 : decode cX7_left 11 = .ok (.iload_n 2, 1) := by decide +kernel
theorem dX7_left_12 : decode cX7_left 12 = .ok (.iconst 1, 1) := by decide +kernel
theorem dX7_left_13 : decode cX7_left 13 = .ok (.if_icmp .eq 8, 3) := by decide +kernel
theorem dX7_left_16 : decode cX7_left 16 = .ok (.iload_n 2, 1) := by decide +kernel
theorem dX7_left_17 : decode cX7_left 17 = .ok (.iconst 2, 1) := by decide +kernel
theorem dX7_left_18 : decode cX7_left 18 = .ok (.if_icmp .ne 16, 3) := by decide +kernel
theorem dX7_left_21 : decode cX7_left 21 = .ok (.aload_n 0, 1) := by decide +kernel
theorem dX7_left_22 : decode cX7_left 22 = .ok (.aload_n 0, 1) := by decide +kernel
theorem dX7_left_23 : decode cX7_left 23 = .ok (.getfield 23, 3) := by decide +kernel
theorem dX7_left_26 : decode cX7_left 26 = .ok (.iload_n 1, 1) := by decide +kernel
theorem dX7_left_27 : decode cX7_left 27 = .ok (.iaload, 1) := by decide +kernel
theorem dX7_left_28 : decode cX7_left 28 = .ok (.invokevirtual 105, 3) := by decide +kernel
theorem dX7_left_31 : decode cX7_left 31 = .ok (.goto 4, 3) := by decide +kernel
theorem dX7_left_34 : decode cX7_left 34 = .ok (.iconst 0, 1) := by decide +kernel
theorem dX7_left_35 : decode cX7_left 35 = .ok (.isub, 1) := by decide +kernel
theorem dX7_left_36 : decode cX7_left 36 = .ok (.ireturn, 1) := by decide +kernel
theorem dX7_low_0 : decode cX7_low 0 = .ok (.aload_n 0, 1) := by decide +kernel
theorem dX7_low_1 : decode cX7_low 1 = .ok (.getfield 20, 3) := by decide +kernel
theorem dX7_low_4 : decode cX7_low 4 = .ok (.iload_n 1, 1) := by decide +kernel
theorem dX7_low_5 : decode cX7_low 5 = .ok (.iaload, 1) := by decide +kernel
theorem dX7_low_6 : decode cX7_low 6 = .ok (.aload_n 0, 1) := by decide +kernel
theorem dX7_low_7 : decode cX7_low 7 = .ok (.getfield 41, 3) := by decide +kernel
theorem dX7_low_10 : decode cX7_low 10 = .ok (.imul, 1) := by decide +kernel
theorem dX7_low_11 : decode cX7_low 11 = .ok (.iload_n 2, 1) := by decide +kernel
theorem dX7_low_12 : decode cX7_low 12 = .ok (.iconst 1, 1) := by decide +kernel
theorem dX7_low_13 : decode cX7_low 13 = .ok (.if_icmp .le 16, 3) := by decide +kernel
theorem dX7_low_16 : decode cX7_low 16 = .ok (.aload_n 0, 1) := by decide +kernel
theorem dX7_low_17 : decode cX7_low 17 = .ok (.aload_n 0, 1) := by decide +kernel
theorem dX7_low_18 : decode cX7_low 18 = .ok (.getfield 26, 3) := by decide +kernel
theorem dX7_low_21 : decode cX7_low 21 = .ok (.iload_n 1, 1) := by decide +kernel
theorem dX7_low_22 : decode cX7_low 22 = .ok (.iaload, 1) := by decide +kernel
theorem dX7_low_23 : decode cX7_low 23 = .ok (.invokevirtual 105, 3) := by decide +kernel
theorem dX7_low_26 : decode cX7_low 26 = .ok (.goto 4, 3) := by decide +kernel
theorem dX7_low_29 : decode cX7_low 29 = .ok (.iconst 0, 1) := by decide +kernel
theorem dX7_low_30 : decode cX7_low 30 = .ok (.isub, 1) := by decide +kernel
theorem dX7_low_31 : decode cX7_low 31 = .ok (.ireturn, 1) := by decide +kernel
theorem dX7_isFree_0 : decode cX7_isFree 0 = .ok (.aload_n 0, 1) := by decide +kernel
theorem dX7_isFree_1 : decode cX7_isFree 1 = .ok (.iload_n 1, 1) := by decide +kernel
theorem dX7_isFree_2 : decode cX7_isFree 2 = .ok (.iload_n 2, 1) := by decide +kernel
theorem dX7_isFree_3 : decode cX7_isFree 3 = .ok (.invokevirtual 109, 3) := by decide +kernel
theorem dX7_isFree_6 : decode cX7_isFree 6 = .ok (.istore_n 3, 1) := by decide +kernel
theorem dX7_isFree_7 : decode cX7_isFree 7 = .ok (.aload_n 0, 1) := by decide +kernel
theorem dX7_isFree_8 : decode cX7_isFree 8 = .ok (.iload_n 1, 1) := by decide +kernel
theorem dX7_isFree_9 : decode cX7_isFree 9 = .ok (.iload_n 2, 1) := by decide +kernel
theorem dX7_isFree_10 : decode cX7_isFree 10 = .ok (.invokevirtual 113, 3) := by decide +kernel
theorem dX7_isFree_13 : decode cX7_isFree 13 = .ok (.istore 4, 2) := by decide +kernel
theorem dX7_isFree_15 : decode cX7_isFree 15 = .ok (.iload_n 3, 1) := by decide +kernel
theorem dX7_isFree_16 : decode cX7_isFree 16 = .ok (.aload_n 0, 1) := by decide +kernel
theorem dX7_isFree_17 : decode cX7_isFree 17 = .ok (.aload_n 0, 1) := by decide +kernel
theorem dX7_isFree_18 : decode cX7_isFree 18 = .ok (.getfield 23, 3) := by decide +kernel
theorem dX7_isFree_21 : decode cX7_isFree 21 = .ok (.iload_n 1, 1) := by decide +kernel
theorem dX7_isFree_22 : decode cX7_isFree 22 = .ok (.iaload, 1) := by decide +kernel
theorem dX7_isFree_23 : decode cX7_isFree 23 = .ok (.invokevirtual 105, 3) := by decide +kernel
theorem dX7_isFree_26 : decode cX7_isFree 26 = .ok (.iadd, 1) := by decide +kernel
theorem dX7_isFree_27 : decode cX7_isFree 27 = .ok (.istore 5, 2) := by decide +kernel
theorem dX7_isFree_29 : decode cX7_isFree 29 = .ok (.iload 4, 2) := by decide +kernel
theorem dX7_isFree_31 : decode cX7_isFree 31 = .ok (.aload_n 0, 1) := by decide +kernel
theorem dX7_isFree_32 : decode cX7_isFree 32 = .ok (.aload_n 0, 1) := by decide +kernel
theorem dX7_isFree_33 : decode cX7_isFree 33 = .ok (.getfield 26, 3) := by decide +kernel
theorem dX7_isFree_36 : decode cX7_isFree 36 = .ok (.iload_n 1, 1) := by decide +kernel
theorem dX7_isFree_37 : decode cX7_isFree 37 = .ok (.iaload, 1) := by decide +kernel
theorem dX7_isFree_38 : decode cX7_isFree 38 = .ok (.invokevirtual 105, 3) := by decide +kernel
theorem dX7_isFree_41 : decode cX7_isFree 41 = .ok (.iadd, 1) := by decide +kernel
theorem dX7_isFree_42 : decode cX7_isFree 42 = .ok (.istore 6, 2) := by decide +kernel
theorem dX7_isFree_44 : decode cX7_isFree 44 = .ok (.aload_n 0, 1) := by decide +kernel
theorem dX7_isFree_45 : decode cX7_isFree 45 = .ok (.getfield 32, 3) := by decide +kernel
theorem dX7_isFree_48 : decode cX7_isFree 48 = .ok (.iload_n 1, 1) := by decide +kernel
theorem dX7_isFree_49 : decode cX7_isFree 49 = .ok (.iaload, 1) := by decide +kernel
theorem dX7_isFree_50 : decode cX7_isFree 50 = .ok (.iload_n 2, 1) := by decide +kernel
theorem dX7_isFree_51 : decode cX7_isFree 51 = .ok (.ishr, 1) := by decide +kernel
theorem dX7_isFree_52 : decode cX7_isFree 52 = .ok (.iconst 1, 1) := by decide +kernel
theorem dX7_isFree_53 : decode cX7_isFree 53 = .ok (.iand, 1) := by decide +kernel
theorem dX7_isFree_54 : decode cX7_isFree 54 = .ok (.iconst 1, 1) := by decide +kernel
theorem dX7_isFree_55 : decode cX7_isFree 55 = .ok (.if_icmp .ne 44, 3) := by decide +kernel
theorem dX7_isFree_58 : decode cX7_isFree 58 = .ok (.iload_n 3, 1) := by decide +kernel
theorem dX7_isFree_59 : decode cX7_isFree 59 = .ok (.ifCond .lt 40, 3) := by decide +kernel
theorem dX7_isFree_62 : decode cX7_isFree 62 = .ok (.iload 4, 2) := by decide +kernel
theorem dX7_isFree_64 : decode cX7_isFree 64 = .ok (.ifCond .lt 35, 3) := by decide +kernel
theorem dX7_isFree_67 : decode cX7_isFree 67 = .ok (.iload 5, 2) := by decide +kernel
theorem dX7_isFree_69 : decode cX7_isFree 69 = .ok (.aload_n 0, 1) := by decide +kernel
theorem dX7_isFree_70 : decode cX7_isFree 70 = .ok (.getfield 7, 3) := by decide +kernel
theorem dX7_isFree_73 : decode cX7_isFree 73 = .ok (.aload_n 0, 1) := by decide +kernel
theorem dX7_isFree_74 : decode cX7_isFree 74 = .ok (.getfield 41, 3) := by decide +kernel
theorem dX7_isFree_77 : decode cX7_isFree 77 = .ok (.imul, 1) := by decide +kernel
theorem dX7_isFree_78 : decode cX7_isFree 78 = .ok (.if_icmp .gt 21, 3) := by decide +kernel
theorem dX7_isFree_81 : decode cX7_isFree 81 = .ok (.iload 6, 2) := by decide +kernel
theorem dX7_isFree_83 : decode cX7_isFree 83 = .ok (.aload_n 0, 1) := by decide +kernel
theorem dX7_isFree_84 : decode cX7_isFree 84 = .ok (.getfield 13, 3) := by decide +kernel
theorem dX7_isFree_87 : decode cX7_isFree 87 = .ok (.aload_n 0, 1) := by decide +kernel
theorem dX7_isFree_88 : decode cX7_isFree 88 = .ok (.getfield 41, 3) := by decide +kernel
theorem dX7_isFree_91 : decode cX7_isFree 91 = .ok (.imul, 1) := by decide +kernel
theorem dX7_isFree_92 : decode cX7_isFree 92 = .ok (.if_icmp .gt 7, 3) := by decide +kernel
theorem dX7_isFree_95 : decode cX7_isFree 95 = .ok (.iconst 1, 1) := by decide +kernel
theorem dX7_isFree_96 : decode cX7_isFree 96 = .ok (.goto 4, 3) := by decide +kernel
theorem dX7_isFree_99 : decode cX7_isFree 99 = .ok (.iconst 0, 1) := by decide +kernel
theorem dX7_isFree_100 : decode cX7_isFree 100 = .ok (.istore 7, 2) := by decide +kernel
theorem dX7_isFree_102 : decode cX7_isFree 102 = .ok (.iconst 0, 1) := by decide +kernel
theorem dX7_isFree_103 : decode cX7_isFree 103 = .ok (.istore 8, 2) := by decide +kernel
theorem dX7_isFree_105 : decode cX7_isFree 105 = .ok (.iload 8, 2) := by decide +kernel
theorem dX7_isFree_107 : decode cX7_isFree 107 = .ok (.aload_n 0, 1) := by decide +kernel
theorem dX7_isFree_108 : decode cX7_isFree 108 = .ok (.getfield 74, 3) := by decide +kernel
theorem dX7_isFree_111 : decode cX7_isFree 111 = .ok (.if_icmp .ge 108, 3) := by decide +kernel
theorem dX7_isFree_114 : decode cX7_isFree 114 = .ok (.iload 7, 2) := by decide +kernel
theorem dX7_isFree_116 : decode cX7_isFree 116 = .ok (.ifCond .eq 103, 3) := by decide +kernel
theorem dX7_isFree_119 : decode cX7_isFree 119 = .ok (.iload 8, 2) := by decide +kernel
theorem dX7_isFree_121 : decode cX7_isFree 121 = .ok (.iload_n 1, 1) := by decide +kernel
theorem dX7_isFree_122 : decode cX7_isFree 122 = .ok (.if_icmp .eq 19, 3) := by decide +kernel
theorem dX7_isFree_125 : decode cX7_isFree 125 = .ok (.aload_n 0, 1) := by decide +kernel
theorem dX7_isFree_126 : decode cX7_isFree 126 = .ok (.getfield 116, 3) := by decide +kernel
theorem dX7_isFree_129 : decode cX7_isFree 129 = .ok (.iload 8, 2) := by decide +kernel
theorem dX7_isFree_131 : decode cX7_isFree 131 = .ok (.ishr, 1) := by decide +kernel
theorem dX7_isFree_132 : decode cX7_isFree 132 = .ok (.iconst 1, 1) := by decide +kernel
theorem dX7_isFree_133 : decode cX7_isFree 133 = .ok (.iand, 1) := by decide +kernel
theorem dX7_isFree_134 : decode cX7_isFree 134 = .ok (.ifCond .ne 7, 3) := by decide +kernel
theorem dX7_isFree_137 : decode cX7_isFree 137 = .ok (.iconst 1, 1) := by decide +kernel
theorem dX7_isFree_138 : decode cX7_isFree 138 = .ok (.goto 4, 3) := by decide +kernel
theorem dX7_isFree_141 : decode cX7_isFree 141 = .ok (.iconst 0, 1) := by decide +kernel
theorem dX7_isFree_142 : decode cX7_isFree 142 = .ok (.istore 9, 2) := by decide +kernel
theorem dX7_isFree_144 : decode cX7_isFree 144 = .ok (.iload 9, 2) := by decide +kernel
theorem dX7_isFree_146 : decode cX7_isFree 146 = .ok (.ifCond .eq 60, 3) := by decide +kernel
theorem dX7_isFree_149 : decode cX7_isFree 149 = .ok (.aload_n 0, 1) := by decide +kernel
theorem dX7_isFree_150 : decode cX7_isFree 150 = .ok (.getfield 16, 3) := by decide +kernel
theorem dX7_isFree_153 : decode cX7_isFree 153 = .ok (.iload 8, 2) := by decide +kernel
theorem dX7_isFree_155 : decode cX7_isFree 155 = .ok (.iaload, 1) := by decide +kernel
theorem dX7_isFree_156 : decode cX7_isFree 156 = .ok (.aload_n 0, 1) := by decide +kernel
theorem dX7_isFree_157 : decode cX7_isFree 157 = .ok (.getfield 41, 3) := by decide +kernel
theorem dX7_isFree_160 : decode cX7_isFree 160 = .ok (.imul, 1) := by decide +kernel
theorem dX7_isFree_161 : decode cX7_isFree 161 = .ok (.i2l, 1) := by decide +kernel
theorem dX7_isFree_162 : decode cX7_isFree 162 = .ok (.iload_n 3, 1) := by decide +kernel
theorem dX7_isFree_163 : decode cX7_isFree 163 = .ok (.iconst 1, 1) := by decide +kernel
theorem dX7_isFree_164 : decode cX7_isFree 164 = .ok (.iadd, 1) := by decide +kernel
theorem dX7_isFree_165 : decode cX7_isFree 165 = .ok (.i2l, 1) := by decide +kernel
theorem dX7_isFree_166 : decode cX7_isFree 166 = .ok (.iload 5, 2) := by decide +kernel
theorem dX7_isFree_168 : decode cX7_isFree 168 = .ok (.iconst 1, 1) := by decide +kernel
theorem dX7_isFree_169 : decode cX7_isFree 169 = .ok (.isub, 1) := by decide +kernel
theorem dX7_isFree_170 : decode cX7_isFree 170 = .ok (.i2l, 1) := by decide +kernel
theorem dX7_isFree_171 : decode cX7_isFree 171 = .ok (.invokestatic 77, 3) := by decide +kernel
theorem dX7_isFree_174 : decode cX7_isFree 174 = .ok (.ifCond .eq 32, 3) := by decide +kernel
theorem dX7_isFree_177 : decode cX7_isFree 177 = .ok (.aload_n 0, 1) := by decide +kernel
theorem dX7_isFree_178 : decode cX7_isFree 178 = .ok (.getfield 20, 3) := by decide +kernel
theorem dX7_isFree_181 : decode cX7_isFree 181 = .ok (.iload 8, 2) := by decide +kernel
theorem dX7_isFree_183 : decode cX7_isFree 183 = .ok (.iaload, 1) := by decide +kernel
theorem dX7_isFree_184 : decode cX7_isFree 184 = .ok (.aload_n 0, 1) := by decide +kernel
theorem dX7_isFree_185 : decode cX7_isFree 185 = .ok (.getfield 41, 3) := by decide +kernel
theorem dX7_isFree_188 : decode cX7_isFree 188 = .ok (.imul, 1) := by decide +kernel
theorem dX7_isFree_189 : decode cX7_isFree 189 = .ok (.i2l, 1) := by decide +kernel
theorem dX7_isFree_190 : decode cX7_isFree 190 = .ok (.iload 4, 2) := by decide +kernel
theorem dX7_isFree_192 : decode cX7_isFree 192 = .ok (.iconst 1, 1) := by decide +kernel
theorem dX7_isFree_193 : decode cX7_isFree 193 = .ok (.iadd, 1) := by decide +kernel
theorem dX7_isFree_194 : decode cX7_isFree 194 = .ok (.i2l, 1) := by decide +kernel
theorem dX7_isFree_195 : decode cX7_isFree 195 = .ok (.iload 6, 2) := by decide +kernel
theorem dX7_isFree_197 : decode cX7_isFree 197 = .ok (.iconst 1, 1) := by decide +kernel
theorem dX7_isFree_198 : decode cX7_isFree 198 = .ok (.isub, 1) := by decide +kernel
theorem dX7_isFree_199 : decode cX7_isFree 199 = .ok (.i2l, 1) := by decide +kernel
theorem dX7_isFree_200 : decode cX7_isFree 200 = .ok (.invokestatic 77, 3) := by decide +kernel
theorem dX7_isFree_203 : decode cX7_isFree 203 = .ok (.ifCond .ne 7, 3) := by decide +kernel
theorem dX7_isFree_206 : decode cX7_isFree 206 = .ok (.iconst 1, 1) := by decide +kernel
theorem dX7_isFree_207 : decode cX7_isFree 207 = .ok (.goto 4, 3) := by decide +kernel
theorem dX7_isFree_210 : decode cX7_isFree 210 = .ok (.iconst 0, 1) := by decide +kernel
theorem dX7_isFree_211 : decode cX7_isFree 211 = .ok (.istore 7, 2) := by decide +kernel
theorem dX7_isFree_213 : decode cX7_isFree 213 = .ok (.iinc 8 1, 3) := by decide +kernel
theorem dX7_isFree_216 : decode cX7_isFree 216 = .ok (.goto (-111), 3) := by decide +kernel
theorem dX7_isFree_219 : decode cX7_isFree 219 = .ok (.iload 7, 2) := by decide +kernel
theorem dX7_isFree_221 : decode cX7_isFree 221 = .ok (.ireturn, 1) := by decide +kernel
theorem dX7_clashes_0 : decode cX7_clashes 0 = .ok (.aload_n 0, 1) := by decide +kernel
theorem dX7_clashes_1 : decode cX7_clashes 1 = .ok (.iload_n 1, 1) := by decide +kernel
theorem dX7_clashes_2 : decode cX7_clashes 2 = .ok (.iload_n 2, 1) := by decide +kernel
theorem dX7_clashes_3 : decode cX7_clashes 3 = .ok (.invokevirtual 109, 3) := by decide +kernel
theorem dX7_clashes_6 : decode cX7_clashes 6 = .ok (.istore 5, 2) := by decide +kernel
theorem dX7_clashes_8 : decode cX7_clashes 8 = .ok (.aload_n 0, 1) := by decide +kernel
theorem dX7_clashes_9 : decode cX7_clashes 9 = .ok (.iload_n 1, 1) := by decide +kernel
theorem dX7_clashes_10 : decode cX7_clashes 10 = .ok (.iload_n 2, 1) := by decide +kernel
theorem dX7_clashes_11 : decode cX7_clashes 11 = .ok (.invokevirtual 113, 3) := by decide +kernel
theorem dX7_clashes_14 : decode cX7_clashes 14 = .ok (.istore 6, 2) := by decide +kernel
theorem dX7_clashes_16 : decode cX7_clashes 16 = .ok (.aload_n 0, 1) := by decide +kernel
theorem dX7_clashes_17 : decode cX7_clashes 17 = .ok (.iload_n 3, 1) := by decide +kernel
theorem dX7_clashes_18 : decode cX7_clashes 18 = .ok (.iload 4, 2) := by decide +kernel
theorem dX7_clashes_20 : decode cX7_clashes 20 = .ok (.invokevirtual 109, 3) := by decide +kernel
theorem dX7_clashes_23 : decode cX7_clashes 23 = .ok (.istore 7, 2) := by decide +kernel
theorem dX7_clashes_25 : decode cX7_clashes 25 = .ok (.aload_n 0, 1) := by decide +kernel
theorem dX7_clashes_26 : decode cX7_clashes 26 = .ok (.iload_n 3, 1) := by decide +kernel
theorem dX7_clashes_27 : decode cX7_clashes 27 = .ok (.iload 4, 2) := by decide +kernel
theorem dX7_clashes_29 : decode cX7_clashes 29 = .ok (.invokevirtual 113, 3) := by decide +kernel
theorem dX7_clashes_32 : decode cX7_clashes 32 = .ok (.istore 8, 2) := by decide +kernel
theorem dX7_clashes_34 : decode cX7_clashes 34 = .ok (.iload 5, 2) := by decide +kernel
theorem dX7_clashes_36 : decode cX7_clashes 36 = .ok (.iload 7, 2) := by decide +kernel
theorem dX7_clashes_38 : decode cX7_clashes 38 = .ok (.aload_n 0, 1) := by decide +kernel
theorem dX7_clashes_39 : decode cX7_clashes 39 = .ok (.aload_n 0, 1) := by decide +kernel
theorem dX7_clashes_40 : decode cX7_clashes 40 = .ok (.getfield 23, 3) := by decide +kernel
theorem dX7_clashes_43 : decode cX7_clashes 43 = .ok (.iload_n 3, 1) := by decide +kernel
theorem dX7_clashes_44 : decode cX7_clashes 44 = .ok (.iaload, 1) := by decide +kernel
theorem dX7_clashes_45 : decode cX7_clashes 45 = .ok (.invokevirtual 105, 3) := by decide +kernel
theorem dX7_clashes_48 : decode cX7_clashes 48 = .ok (.iadd, 1) := by decide +kernel
theorem dX7_clashes_49 : decode cX7_clashes 49 = .ok (.aload_n 0, 1) := by decide +kernel
theorem dX7_clashes_50 : decode cX7_clashes 50 = .ok (.getfield 102, 3) := by decide +kernel
theorem dX7_clashes_53 : decode cX7_clashes 53 = .ok (.iadd, 1) := by decide +kernel
theorem dX7_clashes_54 : decode cX7_clashes 54 = .ok (.if_icmp .ge 30, 3) := by decide +kernel
theorem dX7_clashes_57 : decode cX7_clashes 57 = .ok (.iload 7, 2) := by decide +kernel
theorem dX7_clashes_59 : decode cX7_clashes 59 = .ok (.iload 5, 2) := by decide +kernel
theorem dX7_clashes_61 : decode cX7_clashes 61 = .ok (.aload_n 0, 1) := by decide +kernel
theorem dX7_clashes_62 : decode cX7_clashes 62 = .ok (.aload_n 0, 1) := by decide +kernel
theorem dX7_clashes_63 : decode cX7_clashes 63 = .ok (.getfield 23, 3) := by decide +kernel
theorem dX7_clashes_66 : decode cX7_clashes 66 = .ok (.iload_n 1, 1) := by decide +kernel
theorem dX7_clashes_67 : decode cX7_clashes 67 = .ok (.iaload, 1) := by decide +kernel
theorem dX7_clashes_68 : decode cX7_clashes 68 = .ok (.invokevirtual 105, 3) := by decide +kernel
theorem dX7_clashes_71 : decode cX7_clashes 71 = .ok (.iadd, 1) := by decide +kernel
theorem dX7_clashes_72 : decode cX7_clashes 72 = .ok (.aload_n 0, 1) := by decide +kernel
theorem dX7_clashes_73 : decode cX7_clashes 73 = .ok (.getfield 102, 3) := by decide +kernel
theorem dX7_clashes_76 : decode cX7_clashes 76 = .ok (.iadd, 1) := by decide +kernel
theorem dX7_clashes_77 : decode cX7_clashes 77 = .ok (.if_icmp .ge 7, 3) := by decide +kernel
theorem dX7_clashes_80 : decode cX7_clashes 80 = .ok (.iconst 1, 1) := by decide +kernel
theorem dX7_clashes_81 : decode cX7_clashes 81 = .ok (.goto 4, 3) := by decide +kernel
theorem dX7_clashes_84 : decode cX7_clashes 84 = .ok (.iconst 0, 1) := by decide +kernel
theorem dX7_clashes_85 : decode cX7_clashes 85 = .ok (.istore 9, 2) := by decide +kernel
theorem dX7_clashes_87 : decode cX7_clashes 87 = .ok (.iload 6, 2) := by decide +kernel
theorem dX7_clashes_89 : decode cX7_clashes 89 = .ok (.iload 8, 2) := by decide +kernel
theorem dX7_clashes_91 : decode cX7_clashes 91 = .ok (.aload_n 0, 1) := by decide +kernel
theorem dX7_clashes_92 : decode cX7_clashes 92 = .ok (.aload_n 0, 1) := by decide +kernel
theorem dX7_clashes_93 : decode cX7_clashes 93 = .ok (.getfield 26, 3) := by decide +kernel
theorem dX7_clashes_96 : decode cX7_clashes 96 = .ok (.iload_n 3, 1) := by decide +kernel
theorem dX7_clashes_97 : decode cX7_clashes 97 = .ok (.iaload, 1) := by decide +kernel
theorem dX7_clashes_98 : decode cX7_clashes 98 = .ok (.invokevirtual 105, 3) := by decide +kernel
theorem dX7_clashes_101 : decode cX7_clashes 101 = .ok (.iadd, 1) := by decide +kernel
theorem dX7_clashes_102 : decode cX7_clashes 102 = .ok (.aload_n 0, 1) := by decide +kernel
theorem dX7_clashes_103 : decode cX7_clashes 103 = .ok (.getfield 102, 3) := by decide +kernel
theorem dX7_clashes_106 : decode cX7_clashes 106 = .ok (.iadd, 1) := by decide +kernel
theorem dX7_clashes_107 : decode cX7_clashes 107 = .ok (.if_icmp .ge 30, 3) := by decide +kernel
theorem dX7_clashes_110 : decode cX7_clashes 110 = .ok (.iload 8, 2) := by decide +kernel
theorem dX7_clashes_112 : decode cX7_clashes 112 = .ok (.iload 6, 2) := by decide +kernel
theorem dX7_clashes_114 : decode cX7_clashes 114 = .ok (.aload_n 0, 1) := by decide +kernel
theorem dX7_clashes_115 : decode cX7_clashes 115 = .ok (.aload_n 0, 1) := by decide +kernel
theorem dX7_clashes_116 : decode cX7_clashes 116 = .ok (.getfield 26, 3) := by decide +kernel
theorem dX7_clashes_119 : decode cX7_clashes 119 = .ok (.iload_n 1, 1) := by decide +kernel
theorem dX7_clashes_120 : decode cX7_clashes 120 = .ok (.iaload, 1) := by decide +kernel
theorem dX7_clashes_121 : decode cX7_clashes 121 = .ok (.invokevirtual 105, 3) := by decide +kernel
theorem dX7_clashes_124 : decode cX7_clashes 124 = .ok (.iadd, 1) := by decide +kernel
theorem dX7_clashes_125 : decode cX7_clashes 125 = .ok (.aload_n 0, 1) := by decide +kernel
theorem dX7_clashes_126 : decode cX7_clashes 126 = .ok (.getfield 102, 3) := by decide +kernel
theorem dX7_clashes_129 : decode cX7_clashes 129 = .ok (.iadd, 1) := by decide +kernel
theorem dX7_clashes_130 : decode cX7_clashes 130 = .ok (.if_icmp .ge 7, 3) := by decide +kernel
theorem dX7_clashes_133 : decode cX7_clashes 133 = .ok (.iconst 1, 1) := by decide +kernel
theorem dX7_clashes_134 : decode cX7_clashes 134 = .ok (.goto 4, 3) := by decide +kernel
theorem dX7_clashes_137 : decode cX7_clashes 137 = .ok (.iconst 0, 1) := by decide +kernel
theorem dX7_clashes_138 : decode cX7_clashes 138 = .ok (.istore 10, 2) := by decide +kernel
theorem dX7_clashes_140 : decode cX7_clashes 140 = .ok (.iload 9, 2) := by decide +kernel
theorem dX7_clashes_142 : decode cX7_clashes 142 = .ok (.ifCond .eq 12, 3) := by decide +kernel
theorem dX7_clashes_145 : decode cX7_clashes 145 = .ok (.iload 10, 2) := by decide +kernel
theorem dX7_clashes_147 : decode cX7_clashes 147 = .ok (.ifCond .eq 7, 3) := by decide +kernel
theorem dX7_clashes_150 : decode cX7_clashes 150 = .ok (.iconst 1, 1) := by decide +kernel
theorem dX7_clashes_151 : decode cX7_clashes 151 = .ok (.goto 4, 3) := by decide +kernel
theorem dX7_clashes_154 : decode cX7_clashes 154 = .ok (.iconst 0, 1) := by decide +kernel
theorem dX7_clashes_155 : decode cX7_clashes 155 = .ok (.ireturn, 1) := by decide +kernel
theorem dX7_free_0 : decode cX7_free 0 = .ok (.aload_n 0, 1) := by decide +kernel
theorem dX7_free_1 : decode cX7_free 1 = .ok (.iload_n 1, 1) := by decide +kernel
theorem dX7_free_2 : decode cX7_free 2 = .ok (.invokevirtual 93, 3) := by decide +kernel
theorem dX7_free_5 : decode cX7_free 5 = .ok (.ifCond .ne 5, 3) := by decide +kernel
theorem dX7_free_8 : decode cX7_free 8 = .ok (.iconst (-1), 1) := by decide +kernel
theorem dX7_free_9 : decode cX7_free 9 = .ok (.ireturn, 1) := by decide +kernel
theorem dX7_free_10 : decode cX7_free 10 = .ok (.iload_n 2, 1) := by decide +kernel
theorem dX7_free_11 : decode cX7_free 11 = .ok (.invokestatic 97, 3) := by decide +kernel
theorem dX7_free_14 : decode cX7_free 14 = .ok (.ifCond .ne 8, 3) := by decide +kernel
theorem dX7_free_17 : decode cX7_free 17 = .ok (.bipush (-2), 2) := by decide +kernel
theorem dX7_free_19 : decode cX7_free 19 = .ok (.goto 17, 3) := by decide +kernel
theorem dX7_free_22 : decode cX7_free 22 = .ok (.aload_n 0, 1) := by decide +kernel
theorem dX7_free_23 : decode cX7_free 23 = .ok (.iload_n 1, 1) := by decide +kernel
theorem dX7_free_24 : decode cX7_free 24 = .ok (.iload_n 2, 1) := by decide +kernel
theorem dX7_free_25 : decode cX7_free 25 = .ok (.invokevirtual 119, 3) := by decide +kernel
theorem dX7_free_28 : decode cX7_free 28 = .ok (.ifCond .eq 7, 3) := by decide +kernel
theorem dX7_free_31 : decode cX7_free 31 = .ok (.iconst 1, 1) := by decide +kernel
theorem dX7_free_32 : decode cX7_free 32 = .ok (.goto 4, 3) := by decide +kernel
theorem dX7_free_35 : decode cX7_free 35 = .ok (.iconst 0, 1) := by decide +kernel
theorem dX7_free_36 : decode cX7_free 36 = .ok (.ireturn, 1) := by decide +kernel
theorem dX7_clash_0 : decode cX7_clash 0 = .ok (.aload_n 0, 1) := by decide +kernel
theorem dX7_clash_1 : decode cX7_clash 1 = .ok (.iload_n 1, 1) := by decide +kernel
theorem dX7_clash_2 : decode cX7_clash 2 = .ok (.invokevirtual 93, 3) := by decide +kernel
theorem dX7_clash_5 : decode cX7_clash 5 = .ok (.ifCond .eq 11, 3) := by decide +kernel
theorem dX7_clash_8 : decode cX7_clash 8 = .ok (.aload_n 0, 1) := by decide +kernel
theorem dX7_clash_9 : decode cX7_clash 9 = .ok (.iload_n 3, 1) := by decide +kernel
theorem dX7_clash_10 : decode cX7_clash 10 = .ok (.invokevirtual 93, 3) := by decide +kernel
theorem dX7_clash_13 : decode cX7_clash 13 = .ok (.ifCond .ne 5, 3) := by decide +kernel
theorem dX7_clash_16 : decode cX7_clash 16 = .ok (.iconst (-1), 1) := by decide +kernel
theorem dX7_clash_17 : decode cX7_clash 17 = .ok (.ireturn, 1) := by decide +kernel
theorem dX7_clash_18 : decode cX7_clash 18 = .ok (.iload_n 2, 1) := by decide +kernel
theorem dX7_clash_19 : decode cX7_clash 19 = .ok (.invokestatic 97, 3) := by decide +kernel
theorem dX7_clash_22 : decode cX7_clash 22 = .ok (.ifCond .eq 11, 3) := by decide +kernel
theorem dX7_clash_25 : decode cX7_clash 25 = .ok (.iload 4, 2) := by decide +kernel
theorem dX7_clash_27 : decode cX7_clash 27 = .ok (.invokestatic 97, 3) := by decide +kernel
theorem dX7_clash_30 : decode cX7_clash 30 = .ok (.ifCond .ne 6, 3) := by decide +kernel
theorem dX7_clash_33 : decode cX7_clash 33 = .ok (.bipush (-2), 2) := by decide +kernel
theorem dX7_clash_35 : decode cX7_clash 35 = .ok (.ireturn, 1) := by decide +kernel
theorem dX7_clash_36 : decode cX7_clash 36 = .ok (.iload_n 1, 1) := by decide +kernel
theorem dX7_clash_37 : decode cX7_clash 37 = .ok (.iload_n 3, 1) := by decide +kernel
theorem dX7_clash_38 : decode cX7_clash 38 = .ok (.if_icmp .ne 8, 3) := by decide +kernel
theorem dX7_clash_41 : decode cX7_clash 41 = .ok (.bipush (-3), 2) := by decide +kernel
theorem dX7_clash_43 : decode cX7_clash 43 = .ok (.goto 20, 3) := by decide +kernel
theorem dX7_clash_46 : decode cX7_clash 46 = .ok (.aload_n 0, 1) := by decide +kernel
theorem dX7_clash_47 : decode cX7_clash 47 = .ok (.iload_n 1, 1) := by decide +kernel
theorem dX7_clash_48 : decode cX7_clash 48 = .ok (.iload_n 2, 1) := by decide +kernel
theorem dX7_clash_49 : decode cX7_clash 49 = .ok (.iload_n 3, 1) := by decide +kernel
theorem dX7_clash_50 : decode cX7_clash 50 = .ok (.iload 4, 2) := by decide +kernel
theorem dX7_clash_52 : decode cX7_clash 52 = .ok (.invokevirtual 123, 3) := by decide +kernel
theorem dX7_clash_55 : decode cX7_clash 55 = .ok (.ifCond .eq 7, 3) := by decide +kernel
theorem dX7_clash_58 : decode cX7_clash 58 = .ok (.iconst 1, 1) := by decide +kernel
theorem dX7_clash_59 : decode cX7_clash 59 = .ok (.goto 4, 3) := by decide +kernel
theorem dX7_clash_62 : decode cX7_clash 62 = .ok (.iconst 0, 1) := by decide +kernel
theorem dX7_clash_63 : decode cX7_clash 63 = .ok (.ireturn, 1) := by decide +kernel
theorem dX7_layBits_0 : decode cX7_layBits 0 = .ok (.aload_n 0, 1) := by decide +kernel
theorem dX7_layBits_1 : decode cX7_layBits 1 = .ok (.iconst 0, 1) := by decide +kernel
theorem dX7_layBits_2 : decode cX7_layBits 2 = .ok (.putfield 127, 3) := by decide +kernel
theorem dX7_layBits_5 : decode cX7_layBits 5 = .ok (.iconst 0, 1) := by decide +kernel
theorem dX7_layBits_6 : decode cX7_layBits 6 = .ok (.istore_n 1, 1) := by decide +kernel
theorem dX7_layBits_7 : decode cX7_layBits 7 = .ok (.iload_n 1, 1) := by decide +kernel
theorem dX7_layBits_8 : decode cX7_layBits 8 = .ok (.bipush 32, 2) := by decide +kernel
theorem dX7_layBits_10 : decode cX7_layBits 10 = .ok (.if_icmp .ge 65, 3) := by decide +kernel
theorem dX7_layBits_13 : decode cX7_layBits 13 = .ok (.aload_n 0, 1) := by decide +kernel
theorem dX7_layBits_14 : decode cX7_layBits 14 = .ok (.getfield 50, 3) := by decide +kernel
theorem dX7_layBits_17 : decode cX7_layBits 17 = .ok (.iload_n 1, 1) := by decide +kernel
theorem dX7_layBits_18 : decode cX7_layBits 18 = .ok (.iconst 0, 1) := by decide +kernel
theorem dX7_layBits_19 : decode cX7_layBits 19 = .ok (.iastore, 1) := by decide +kernel
theorem dX7_layBits_20 : decode cX7_layBits 20 = .ok (.iload_n 1, 1) := by decide +kernel
theorem dX7_layBits_21 : decode cX7_layBits 21 = .ok (.iconst 4, 1) := by decide +kernel
theorem dX7_layBits_22 : decode cX7_layBits 22 = .ok (.idiv, 1) := by decide +kernel
theorem dX7_layBits_23 : decode cX7_layBits 23 = .ok (.aload_n 0, 1) := by decide +kernel
theorem dX7_layBits_24 : decode cX7_layBits 24 = .ok (.getfield 74, 3) := by decide +kernel
theorem dX7_layBits_27 : decode cX7_layBits 27 = .ok (.if_icmp .ge 20, 3) := by decide +kernel
theorem dX7_layBits_30 : decode cX7_layBits 30 = .ok (.aload_n 0, 1) := by decide +kernel
theorem dX7_layBits_31 : decode cX7_layBits 31 = .ok (.iload_n 1, 1) := by decide +kernel
theorem dX7_layBits_32 : decode cX7_layBits 32 = .ok (.iconst 4, 1) := by decide +kernel
theorem dX7_layBits_33 : decode cX7_layBits 33 = .ok (.idiv, 1) := by decide +kernel
theorem dX7_layBits_34 : decode cX7_layBits 34 = .ok (.iload_n 1, 1) := by decide +kernel
theorem dX7_layBits_35 : decode cX7_layBits 35 = .ok (.iconst 4, 1) := by decide +kernel
theorem dX7_layBits_36 : decode cX7_layBits 36 = .ok (.irem, 1) := by decide +kernel
theorem dX7_layBits_37 : decode cX7_layBits 37 = .ok (.invokevirtual 119, 3) := by decide +kernel
theorem dX7_layBits_40 : decode cX7_layBits 40 = .ok (.ifCond .eq 7, 3) := by decide +kernel
theorem dX7_layBits_43 : decode cX7_layBits 43 = .ok (.iconst 1, 1) := by decide +kernel
theorem dX7_layBits_44 : decode cX7_layBits 44 = .ok (.goto 4, 3) := by decide +kernel
theorem dX7_layBits_47 : decode cX7_layBits 47 = .ok (.iconst 0, 1) := by decide +kernel
theorem dX7_layBits_48 : decode cX7_layBits 48 = .ok (.istore_n 2, 1) := by decide +kernel
theorem dX7_layBits_49 : decode cX7_layBits 49 = .ok (.aload_n 0, 1) := by decide +kernel
theorem dX7_layBits_50 : decode cX7_layBits 50 = .ok (.dup, 1) := by decide +kernel
theorem dX7_layBits_51 : decode cX7_layBits 51 = .ok (.getfield 127, 3) := by decide +kernel
theorem dX7_layBits_54 : decode cX7_layBits 54 = .ok (.iload_n 2, 1) := by decide +kernel
theorem dX7_layBits_55 : decode cX7_layBits 55 = .ok (.ifCond .eq 9, 3) := by decide +kernel
theorem dX7_layBits_58 : decode cX7_layBits 58 = .ok (.iconst 1, 1) := by decide +kernel
theorem dX7_layBits_59 : decode cX7_layBits 59 = .ok (.iload_n 1, 1) := by decide +kernel
theorem dX7_layBits_60 : decode cX7_layBits 60 = .ok (.ishl, 1) := by decide +kernel
theorem dX7_layBits_61 : decode cX7_layBits 61 = .ok (.goto 4, 3) := by decide +kernel
theorem dX7_layBits_64 : decode cX7_layBits 64 = .ok (.iconst 0, 1) := by decide +kernel
theorem dX7_layBits_65 : decode cX7_layBits 65 = .ok (.ior, 1) := by decide +kernel
theorem dX7_layBits_66 : decode cX7_layBits 66 = .ok (.putfield 127, 3) := by decide +kernel
theorem dX7_layBits_69 : decode cX7_layBits 69 = .ok (.iinc 1 1, 3) := by decide +kernel
theorem dX7_layBits_72 : decode cX7_layBits 72 = .ok (.goto (-65), 3) := by decide +kernel
theorem dX7_layBits_75 : decode cX7_layBits 75 = .ok (.iconst 0, 1) := by decide +kernel
theorem dX7_layBits_76 : decode cX7_layBits 76 = .ok (.istore_n 1, 1) := by decide +kernel
theorem dX7_layBits_77 : decode cX7_layBits 77 = .ok (.iload_n 1, 1) := by decide +kernel
theorem dX7_layBits_78 : decode cX7_layBits 78 = .ok (.sipush 1024, 3) := by decide +kernel
theorem dX7_layBits_81 : decode cX7_layBits 81 = .ok (.if_icmp .ge 95, 3) := by decide +kernel
theorem dX7_layBits_84 : decode cX7_layBits 84 = .ok (.iload_n 1, 1) := by decide +kernel
theorem dX7_layBits_85 : decode cX7_layBits 85 = .ok (.bipush 32, 2) := by decide +kernel
theorem dX7_layBits_87 : decode cX7_layBits 87 = .ok (.idiv, 1) := by decide +kernel
theorem dX7_layBits_88 : decode cX7_layBits 88 = .ok (.istore_n 2, 1) := by decide +kernel
theorem dX7_layBits_89 : decode cX7_layBits 89 = .ok (.iload_n 1, 1) := by decide +kernel
theorem dX7_layBits_90 : decode cX7_layBits 90 = .ok (.bipush 32, 2) := by decide +kernel
theorem dX7_layBits_92 : decode cX7_layBits 92 = .ok (.irem, 1) := by decide +kernel
theorem dX7_layBits_93 : decode cX7_layBits 93 = .ok (.istore_n 3, 1) := by decide +kernel
theorem dX7_layBits_94 : decode cX7_layBits 94 = .ok (.iload_n 2, 1) := by decide +kernel
theorem dX7_layBits_95 : decode cX7_layBits 95 = .ok (.iconst 4, 1) := by decide +kernel
theorem dX7_layBits_96 : decode cX7_layBits 96 = .ok (.idiv, 1) := by decide +kernel
theorem dX7_layBits_97 : decode cX7_layBits 97 = .ok (.aload_n 0, 1) := by decide +kernel
theorem dX7_layBits_98 : decode cX7_layBits 98 = .ok (.getfield 74, 3) := by decide +kernel
theorem dX7_layBits_101 : decode cX7_layBits 101 = .ok (.if_icmp .ge 26, 3) := by decide +kernel
theorem dX7_layBits_104 : decode cX7_layBits 104 = .ok (.iload_n 3, 1) := by decide +kernel
theorem dX7_layBits_105 : decode cX7_layBits 105 = .ok (.iconst 4, 1) := by decide +kernel
theorem dX7_layBits_106 : decode cX7_layBits 106 = .ok (.idiv, 1) := by decide +kernel
theorem dX7_layBits_107 : decode cX7_layBits 107 = .ok (.aload_n 0, 1) := by decide +kernel
theorem dX7_layBits_108 : decode cX7_layBits 108 = .ok (.getfield 74, 3) := by decide +kernel
theorem dX7_layBits_111 : decode cX7_layBits 111 = .ok (.if_icmp .ge 16, 3) := by decide +kernel
theorem dX7_layBits_114 : decode cX7_layBits 114 = .ok (.iload_n 2, 1) := by decide +kernel
theorem dX7_layBits_115 : decode cX7_layBits 115 = .ok (.iconst 4, 1) := by decide +kernel
theorem dX7_layBits_116 : decode cX7_layBits 116 = .ok (.idiv, 1) := by decide +kernel
theorem dX7_layBits_117 : decode cX7_layBits 117 = .ok (.iload_n 3, 1) := by decide +kernel
theorem dX7_layBits_118 : decode cX7_layBits 118 = .ok (.iconst 4, 1) := by decide +kernel
theorem dX7_layBits_119 : decode cX7_layBits 119 = .ok (.idiv, 1) := by decide +kernel
theorem dX7_layBits_120 : decode cX7_layBits 120 = .ok (.if_icmp .eq 7, 3) := by decide +kernel
theorem dX7_layBits_123 : decode cX7_layBits 123 = .ok (.iconst 1, 1) := by decide +kernel
theorem dX7_layBits_124 : decode cX7_layBits 124 = .ok (.goto 4, 3) := by decide +kernel
theorem dX7_layBits_127 : decode cX7_layBits 127 = .ok (.iconst 0, 1) := by decide +kernel
theorem dX7_layBits_128 : decode cX7_layBits 128 = .ok (.istore 4, 2) := by decide +kernel
theorem dX7_layBits_130 : decode cX7_layBits 130 = .ok (.aload_n 0, 1) := by decide +kernel
theorem dX7_layBits_131 : decode cX7_layBits 131 = .ok (.getfield 50, 3) := by decide +kernel
theorem dX7_layBits_134 : decode cX7_layBits 134 = .ok (.iload_n 2, 1) := by decide +kernel
theorem dX7_layBits_135 : decode cX7_layBits 135 = .ok (.dup2, 1) := by decide +kernel
theorem dX7_layBits_136 : decode cX7_layBits 136 = .ok (.iaload, 1) := by decide +kernel
theorem dX7_layBits_137 : decode cX7_layBits 137 = .ok (.iload 4, 2) := by decide +kernel
theorem dX7_layBits_139 : decode cX7_layBits 139 = .ok (.ifCond .eq 28, 3) := by decide +kernel
theorem dX7_layBits_142 : decode cX7_layBits 142 = .ok (.aload_n 0, 1) := by decide +kernel
theorem dX7_layBits_143 : decode cX7_layBits 143 = .ok (.iload_n 2, 1) := by decide +kernel
theorem dX7_layBits_144 : decode cX7_layBits 144 = .ok (.iconst 4, 1) := by decide +kernel
theorem dX7_layBits_145 : decode cX7_layBits 145 = .ok (.idiv, 1) := by decide +kernel
theorem dX7_layBits_146 : decode cX7_layBits 146 = .ok (.iload_n 2, 1) := by decide +kernel
theorem dX7_layBits_147 : decode cX7_layBits 147 = .ok (.iconst 4, 1) := by decide +kernel
theorem dX7_layBits_148 : decode cX7_layBits 148 = .ok (.irem, 1) := by decide +kernel
theorem dX7_layBits_149 : decode cX7_layBits 149 = .ok (.iload_n 3, 1) := by decide +kernel
theorem dX7_layBits_150 : decode cX7_layBits 150 = .ok (.iconst 4, 1) := by decide +kernel
theorem dX7_layBits_151 : decode cX7_layBits 151 = .ok (.idiv, 1) := by decide +kernel
theorem dX7_layBits_152 : decode cX7_layBits 152 = .ok (.iload_n 3, 1) := by decide +kernel
theorem dX7_layBits_153 : decode cX7_layBits 153 = .ok (.iconst 4, 1) := by decide +kernel
theorem dX7_layBits_154 : decode cX7_layBits 154 = .ok (.irem, 1) := by decide +kernel
theorem dX7_layBits_155 : decode cX7_layBits 155 = .ok (.invokevirtual 123, 3) := by decide +kernel
theorem dX7_layBits_158 : decode cX7_layBits 158 = .ok (.ifCond .eq 9, 3) := by decide +kernel
theorem dX7_layBits_161 : decode cX7_layBits 161 = .ok (.iconst 1, 1) := by decide +kernel
theorem dX7_layBits_162 : decode cX7_layBits 162 = .ok (.iload_n 3, 1) := by decide +kernel
theorem dX7_layBits_163 : decode cX7_layBits 163 = .ok (.ishl, 1) := by decide +kernel
theorem dX7_layBits_164 : decode cX7_layBits 164 = .ok (.goto 4, 3) := by decide +kernel
theorem dX7_layBits_167 : decode cX7_layBits 167 = .ok (.iconst 0, 1) := by decide +kernel
theorem dX7_layBits_168 : decode cX7_layBits 168 = .ok (.ior, 1) := by decide +kernel
theorem dX7_layBits_169 : decode cX7_layBits 169 = .ok (.iastore, 1) := by decide +kernel
theorem dX7_layBits_170 : decode cX7_layBits 170 = .ok (.iinc 1 1, 3) := by decide +kernel
theorem dX7_layBits_173 : decode cX7_layBits 173 = .ok (.goto (-96), 3) := by decide +kernel
theorem dX7_layBits_176 : decode cX7_layBits 176 = .ok (.return_, 1) := by decide +kernel
theorem dX7_nextCorner_0 : decode cX7_nextCorner 0 = .ok (.aload_n 0, 1) := by decide +kernel
theorem dX7_nextCorner_1 : decode cX7_nextCorner 1 = .ok (.getfield 44, 3) := by decide +kernel
theorem dX7_nextCorner_4 : decode cX7_nextCorner 4 = .ok (.iload_n 1, 1) := by decide +kernel
theorem dX7_nextCorner_5 : decode cX7_nextCorner 5 = .ok (.iaload, 1) := by decide +kernel
theorem dX7_nextCorner_6 : decode cX7_nextCorner 6 = .ok (.iconst 1, 1) := by decide +kernel
theorem dX7_nextCorner_7 : decode cX7_nextCorner 7 = .ok (.iadd, 1) := by decide +kernel
theorem dX7_nextCorner_8 : decode cX7_nextCorner 8 = .ok (.istore_n 3, 1) := by decide +kernel
theorem dX7_nextCorner_9 : decode cX7_nextCorner 9 = .ok (.iload_n 3, 1) := by decide +kernel
theorem dX7_nextCorner_10 : decode cX7_nextCorner 10 = .ok (.iconst 4, 1) := by decide +kernel
theorem dX7_nextCorner_11 : decode cX7_nextCorner 11 = .ok (.if_icmp .ge 39, 3) := by decide +kernel
theorem dX7_nextCorner_14 : decode cX7_nextCorner 14 = .ok (.aload_n 0, 1) := by decide +kernel
theorem dX7_nextCorner_15 : decode cX7_nextCorner 15 = .ok (.getfield 127, 3) := by decide +kernel
theorem dX7_nextCorner_18 : decode cX7_nextCorner 18 = .ok (.iconst 4, 1) := by decide +kernel
theorem dX7_nextCorner_19 : decode cX7_nextCorner 19 = .ok (.iload_n 1, 1) := by decide +kernel
theorem dX7_nextCorner_20 : decode cX7_nextCorner 20 = .ok (.imul, 1) := by decide +kernel
theorem dX7_nextCorner_21 : decode cX7_nextCorner 21 = .ok (.iload_n 3, 1) := by decide +kernel
theorem dX7_nextCorner_22 : decode cX7_nextCorner 22 = .ok (.iadd, 1) := by decide +kernel
theorem dX7_nextCorner_23 : decode cX7_nextCorner 23 = .ok (.ishr, 1) := by decide +kernel
theorem dX7_nextCorner_24 : decode cX7_nextCorner 24 = .ok (.iconst 1, 1) := by decide +kernel
theorem dX7_nextCorner_25 : decode cX7_nextCorner 25 = .ok (.iand, 1) := by decide +kernel
theorem dX7_nextCorner_26 : decode cX7_nextCorner 26 = .ok (.aload_n 0, 1) := by decide +kernel
theorem dX7_nextCorner_27 : decode cX7_nextCorner 27 = .ok (.getfield 53, 3) := by decide +kernel
theorem dX7_nextCorner_30 : decode cX7_nextCorner 30 = .ok (.iload_n 1, 1) := by decide +kernel
theorem dX7_nextCorner_31 : decode cX7_nextCorner 31 = .ok (.iaload, 1) := by decide +kernel
theorem dX7_nextCorner_32 : decode cX7_nextCorner 32 = .ok (.iconst 4, 1) := by decide +kernel
theorem dX7_nextCorner_33 : decode cX7_nextCorner 33 = .ok (.iload_n 1, 1) := by decide +kernel
theorem dX7_nextCorner_34 : decode cX7_nextCorner 34 = .ok (.imul, 1) := by decide +kernel
theorem dX7_nextCorner_35 : decode cX7_nextCorner 35 = .ok (.iload_n 3, 1) := by decide +kernel
theorem dX7_nextCorner_36 : decode cX7_nextCorner 36 = .ok (.iadd, 1) := by decide +kernel
theorem dX7_nextCorner_37 : decode cX7_nextCorner 37 = .ok (.ishr, 1) := by decide +kernel
theorem dX7_nextCorner_38 : decode cX7_nextCorner 38 = .ok (.iconst (-1), 1) := by decide +kernel
theorem dX7_nextCorner_39 : decode cX7_nextCorner 39 = .ok (.ixor, 1) := by decide +kernel
theorem dX7_nextCorner_40 : decode cX7_nextCorner 40 = .ok (.iand, 1) := by decide +kernel
theorem dX7_nextCorner_41 : decode cX7_nextCorner 41 = .ok (.ifCond .ne 9, 3) := by decide +kernel
theorem dX7_nextCorner_44 : decode cX7_nextCorner 44 = .ok (.iinc 3 1, 3) := by decide +kernel
theorem dX7_nextCorner_47 : decode cX7_nextCorner 47 = .ok (.goto (-38), 3) := by decide +kernel
theorem dX7_nextCorner_50 : decode cX7_nextCorner 50 = .ok (.iload_n 3, 1) := by decide +kernel
theorem dX7_nextCorner_51 : decode cX7_nextCorner 51 = .ok (.iconst 4, 1) := by decide +kernel
theorem dX7_nextCorner_52 : decode cX7_nextCorner 52 = .ok (.if_icmp .ne 22, 3) := by decide +kernel
theorem dX7_nextCorner_55 : decode cX7_nextCorner 55 = .ok (.iload_n 2, 1) := by decide +kernel
theorem dX7_nextCorner_56 : decode cX7_nextCorner 56 = .ok (.ifCond .eq 18, 3) := by decide +kernel
theorem dX7_nextCorner_59 : decode cX7_nextCorner 59 = .ok (.aload_n 0, 1) := by decide +kernel
theorem dX7_nextCorner_60 : decode cX7_nextCorner 60 = .ok (.getfield 116, 3) := by decide +kernel
theorem dX7_nextCorner_63 : decode cX7_nextCorner 63 = .ok (.iload_n 1, 1) := by decide +kernel
theorem dX7_nextCorner_64 : decode cX7_nextCorner 64 = .ok (.ishr, 1) := by decide +kernel
theorem dX7_nextCorner_65 : decode cX7_nextCorner 65 = .ok (.iconst 1, 1) := by decide +kernel
theorem dX7_nextCorner_66 : decode cX7_nextCorner 66 = .ok (.iand, 1) := by decide +kernel
theorem dX7_nextCorner_67 : decode cX7_nextCorner 67 = .ok (.ifCond .ne 7, 3) := by decide +kernel
theorem dX7_nextCorner_70 : decode cX7_nextCorner 70 = .ok (.iconst 5, 1) := by decide +kernel
theorem dX7_nextCorner_71 : decode cX7_nextCorner 71 = .ok (.goto 4, 3) := by decide +kernel
theorem dX7_nextCorner_74 : decode cX7_nextCorner 74 = .ok (.iload_n 3, 1) := by decide +kernel
theorem dX7_nextCorner_75 : decode cX7_nextCorner 75 = .ok (.ireturn, 1) := by decide +kernel
theorem dX7_layFull_0 : decode cX7_layFull 0 = .ok (.aload_n 0, 1) := by decide +kernel
theorem dX7_layFull_1 : decode cX7_layFull 1 = .ok (.invokevirtual 130, 3) := by decide +kernel
theorem dX7_layFull_4 : decode cX7_layFull 4 = .ok (.aload_n 0, 1) := by decide +kernel
theorem dX7_layFull_5 : decode cX7_layFull 5 = .ok (.iconst 0, 1) := by decide +kernel
theorem dX7_layFull_6 : decode cX7_layFull 6 = .ok (.putfield 133, 3) := by decide +kernel
theorem dX7_layFull_9 : decode cX7_layFull 9 = .ok (.iconst 0, 1) := by decide +kernel
theorem dX7_layFull_10 : decode cX7_layFull 10 = .ok (.istore_n 2, 1) := by decide +kernel
theorem dX7_layFull_11 : decode cX7_layFull 11 = .ok (.iload_n 2, 1) := by decide +kernel
theorem dX7_layFull_12 : decode cX7_layFull 12 = .ok (.bipush 32, 2) := by decide +kernel
theorem dX7_layFull_14 : decode cX7_layFull 14 = .ok (.if_icmp .ge 16, 3) := by decide +kernel
theorem dX7_layFull_17 : decode cX7_layFull 17 = .ok (.aload_n 0, 1) := by decide +kernel
theorem dX7_layFull_18 : decode cX7_layFull 18 = .ok (.getfield 56, 3) := by decide +kernel
theorem dX7_layFull_21 : decode cX7_layFull 21 = .ok (.iload_n 2, 1) := by decide +kernel
theorem dX7_layFull_22 : decode cX7_layFull 22 = .ok (.iconst 0, 1) := by decide +kernel
theorem dX7_layFull_23 : decode cX7_layFull 23 = .ok (.iastore, 1) := by decide +kernel
theorem dX7_layFull_24 : decode cX7_layFull 24 = .ok (.iinc 2 1, 3) := by decide +kernel
theorem dX7_layFull_27 : decode cX7_layFull 27 = .ok (.goto (-16), 3) := by decide +kernel
theorem dX7_layFull_30 : decode cX7_layFull 30 = .ok (.iconst 0, 1) := by decide +kernel
theorem dX7_layFull_31 : decode cX7_layFull 31 = .ok (.istore_n 2, 1) := by decide +kernel
theorem dX7_layFull_32 : decode cX7_layFull 32 = .ok (.aload_n 0, 1) := by decide +kernel
theorem dX7_layFull_33 : decode cX7_layFull 33 = .ok (.getfield 44, 3) := by decide +kernel
theorem dX7_layFull_36 : decode cX7_layFull 36 = .ok (.iconst 0, 1) := by decide +kernel
theorem dX7_layFull_37 : decode cX7_layFull 37 = .ok (.iconst (-1), 1) := by decide +kernel
theorem dX7_layFull_38 : decode cX7_layFull 38 = .ok (.iastore, 1) := by decide +kernel
theorem dX7_layFull_39 : decode cX7_layFull 39 = .ok (.aload_n 0, 1) := by decide +kernel
theorem dX7_layFull_40 : decode cX7_layFull 40 = .ok (.getfield 53, 3) := by decide +kernel
theorem dX7_layFull_43 : decode cX7_layFull 43 = .ok (.iconst 0, 1) := by decide +kernel
theorem dX7_layFull_44 : decode cX7_layFull 44 = .ok (.iconst 0, 1) := by decide +kernel
theorem dX7_layFull_45 : decode cX7_layFull 45 = .ok (.iastore, 1) := by decide +kernel
theorem dX7_layFull_46 : decode cX7_layFull 46 = .ok (.iload_n 2, 1) := by decide +kernel
theorem dX7_layFull_47 : decode cX7_layFull 47 = .ok (.ifCond .lt 140, 3) := by decide +kernel
theorem dX7_layFull_50 : decode cX7_layFull 50 = .ok (.iload_n 1, 1) := by decide +kernel
theorem dX7_layFull_51 : decode cX7_layFull 51 = .ok (.ifCond .eq 10, 3) := by decide +kernel
theorem dX7_layFull_54 : decode cX7_layFull 54 = .ok (.aload_n 0, 1) := by decide +kernel
theorem dX7_layFull_55 : decode cX7_layFull 55 = .ok (.getfield 133, 3) := by decide +kernel
theorem dX7_layFull_58 : decode cX7_layFull 58 = .ok (.ifCond .gt 129, 3) := by decide +kernel
theorem dX7_layFull_61 : decode cX7_layFull 61 = .ok (.iload_n 2, 1) := by decide +kernel
theorem dX7_layFull_62 : decode cX7_layFull 62 = .ok (.aload_n 0, 1) := by decide +kernel
theorem dX7_layFull_63 : decode cX7_layFull 63 = .ok (.getfield 74, 3) := by decide +kernel
theorem dX7_layFull_66 : decode cX7_layFull 66 = .ok (.if_icmp .ne 70, 3) := by decide +kernel
theorem dX7_layFull_69 : decode cX7_layFull 69 = .ok (.aload_n 0, 1) := by decide +kernel
theorem dX7_layFull_70 : decode cX7_layFull 70 = .ok (.dup, 1) := by decide +kernel
theorem dX7_layFull_71 : decode cX7_layFull 71 = .ok (.getfield 133, 3) := by decide +kernel
theorem dX7_layFull_74 : decode cX7_layFull 74 = .ok (.iconst 1, 1) := by decide +kernel
theorem dX7_layFull_75 : decode cX7_layFull 75 = .ok (.iadd, 1) := by decide +kernel
theorem dX7_layFull_76 : decode cX7_layFull 76 = .ok (.putfield 133, 3) := by decide +kernel
theorem dX7_layFull_79 : decode cX7_layFull 79 = .ok (.iconst 0, 1) := by decide +kernel
theorem dX7_layFull_80 : decode cX7_layFull 80 = .ok (.istore_n 3, 1) := by decide +kernel
theorem dX7_layFull_81 : decode cX7_layFull 81 = .ok (.iload_n 3, 1) := by decide +kernel
theorem dX7_layFull_82 : decode cX7_layFull 82 = .ok (.aload_n 0, 1) := by decide +kernel
theorem dX7_layFull_83 : decode cX7_layFull 83 = .ok (.getfield 74, 3) := by decide +kernel
theorem dX7_layFull_86 : decode cX7_layFull 86 = .ok (.if_icmp .ge 44, 3) := by decide +kernel
theorem dX7_layFull_89 : decode cX7_layFull 89 = .ok (.aload_n 0, 1) := by decide +kernel
theorem dX7_layFull_90 : decode cX7_layFull 90 = .ok (.getfield 56, 3) := by decide +kernel
theorem dX7_layFull_93 : decode cX7_layFull 93 = .ok (.iconst 4, 1) := by decide +kernel
theorem dX7_layFull_94 : decode cX7_layFull 94 = .ok (.iload_n 3, 1) := by decide +kernel
theorem dX7_layFull_95 : decode cX7_layFull 95 = .ok (.imul, 1) := by decide +kernel
theorem dX7_layFull_96 : decode cX7_layFull 96 = .ok (.aload_n 0, 1) := by decide +kernel
theorem dX7_layFull_97 : decode cX7_layFull 97 = .ok (.getfield 44, 3) := by decide +kernel
theorem dX7_layFull_100 : decode cX7_layFull 100 = .ok (.iload_n 3, 1) := by decide +kernel
theorem dX7_layFull_101 : decode cX7_layFull 101 = .ok (.iaload, 1) := by decide +kernel
theorem dX7_layFull_102 : decode cX7_layFull 102 = .ok (.iconst 4, 1) := by decide +kernel
theorem dX7_layFull_103 : decode cX7_layFull 103 = .ok (.irem, 1) := by decide +kernel
theorem dX7_layFull_104 : decode cX7_layFull 104 = .ok (.iadd, 1) := by decide +kernel
theorem dX7_layFull_105 : decode cX7_layFull 105 = .ok (.dup2, 1) := by decide +kernel
theorem dX7_layFull_106 : decode cX7_layFull 106 = .ok (.iaload, 1) := by decide +kernel
theorem dX7_layFull_107 : decode cX7_layFull 107 = .ok (.aload_n 0, 1) := by decide +kernel
theorem dX7_layFull_108 : decode cX7_layFull 108 = .ok (.getfield 44, 3) := by decide +kernel
theorem dX7_layFull_111 : decode cX7_layFull 111 = .ok (.iload_n 3, 1) := by decide +kernel
theorem dX7_layFull_112 : decode cX7_layFull 112 = .ok (.iaload, 1) := by decide +kernel
theorem dX7_layFull_113 : decode cX7_layFull 113 = .ok (.iconst 4, 1) := by decide +kernel
theorem dX7_layFull_114 : decode cX7_layFull 114 = .ok (.if_icmp .ge 7, 3) := by decide +kernel
theorem dX7_layFull_117 : decode cX7_layFull 117 = .ok (.iconst 1, 1) := by decide +kernel
theorem dX7_layFull_118 : decode cX7_layFull 118 = .ok (.goto 4, 3) := by decide +kernel
theorem dX7_layFull_121 : decode cX7_layFull 121 = .ok (.iconst 0, 1) := by decide +kernel
theorem dX7_layFull_122 : decode cX7_layFull 122 = .ok (.iadd, 1) := by decide +kernel
theorem dX7_layFull_123 : decode cX7_layFull 123 = .ok (.iastore, 1) := by decide +kernel
theorem dX7_layFull_124 : decode cX7_layFull 124 = .ok (.iinc 3 1, 3) := by decide +kernel
theorem dX7_layFull_127 : decode cX7_layFull 127 = .ok (.goto (-46), 3) := by decide +kernel
theorem dX7_layFull_130 : decode cX7_layFull 130 = .ok (.iinc 2 (-1), 3) := by decide +kernel
theorem dX7_layFull_133 : decode cX7_layFull 133 = .ok (.goto (-87), 3) := by decide +kernel
theorem dX7_layFull_136 : decode cX7_layFull 136 = .ok (.aload_n 0, 1) := by decide +kernel
theorem dX7_layFull_137 : decode cX7_layFull 137 = .ok (.getfield 44, 3) := by decide +kernel
theorem dX7_layFull_140 : decode cX7_layFull 140 = .ok (.iload_n 2, 1) := by decide +kernel
theorem dX7_layFull_141 : decode cX7_layFull 141 = .ok (.aload_n 0, 1) := by decide +kernel
theorem dX7_layFull_142 : decode cX7_layFull 142 = .ok (.getfield 116, 3) := by decide +kernel
theorem dX7_layFull_145 : decode cX7_layFull 145 = .ok (.iload_n 2, 1) := by decide +kernel
theorem dX7_layFull_146 : decode cX7_layFull 146 = .ok (.ishr, 1) := by decide +kernel
theorem dX7_layFull_147 : decode cX7_layFull 147 = .ok (.iconst 1, 1) := by decide +kernel
theorem dX7_layFull_148 : decode cX7_layFull 148 = .ok (.iand, 1) := by decide +kernel
theorem dX7_layFull_149 : decode cX7_layFull 149 = .ok (.iconst 1, 1) := by decide +kernel
theorem dX7_layFull_150 : decode cX7_layFull 150 = .ok (.if_icmp .ne 21, 3) := by decide +kernel
theorem dX7_layFull_153 : decode cX7_layFull 153 = .ok (.aload_n 0, 1) := by decide +kernel
theorem dX7_layFull_154 : decode cX7_layFull 154 = .ok (.getfield 44, 3) := by decide +kernel
theorem dX7_layFull_157 : decode cX7_layFull 157 = .ok (.iload_n 2, 1) := by decide +kernel
theorem dX7_layFull_158 : decode cX7_layFull 158 = .ok (.iaload, 1) := by decide +kernel
theorem dX7_layFull_159 : decode cX7_layFull 159 = .ok (.iconst 4, 1) := by decide +kernel
theorem dX7_layFull_160 : decode cX7_layFull 160 = .ok (.if_icmp .ge 7, 3) := by decide +kernel
theorem dX7_layFull_163 : decode cX7_layFull 163 = .ok (.iconst 4, 1) := by decide +kernel
theorem dX7_layFull_164 : decode cX7_layFull 164 = .ok (.goto 13, 3) := by decide +kernel
theorem dX7_layFull_167 : decode cX7_layFull 167 = .ok (.iconst 5, 1) := by decide +kernel
theorem dX7_layFull_168 : decode cX7_layFull 168 = .ok (.goto 9, 3) := by decide +kernel
theorem dX7_layFull_171 : decode cX7_layFull 171 = .ok (.aload_n 0, 1) := by decide +kernel
theorem dX7_layFull_172 : decode cX7_layFull 172 = .ok (.iload_n 2, 1) := by decide +kernel
theorem dX7_layFull_173 : decode cX7_layFull 173 = .ok (.iconst 1, 1) := by decide +kernel
theorem dX7_layFull_174 : decode cX7_layFull 174 = .ok (.invokevirtual 136, 3) := by decide +kernel
theorem dX7_layFull_177 : decode cX7_layFull 177 = .ok (.iastore, 1) := by decide +kernel
theorem dX7_layFull_178 : decode cX7_layFull 178 = .ok (.aload_n 0, 1) := by decide +kernel
theorem dX7_layFull_179 : decode cX7_layFull 179 = .ok (.iload_n 2, 1) := by decide +kernel
theorem dX7_layFull_180 : decode cX7_layFull 180 = .ok (.invokevirtual 140, 3) := by decide +kernel
theorem dX7_layFull_183 : decode cX7_layFull 183 = .ok (.istore_n 2, 1) := by decide +kernel
theorem dX7_layFull_184 : decode cX7_layFull 184 = .ok (.goto (-138), 3) := by decide +kernel
theorem dX7_layFull_187 : decode cX7_layFull 187 = .ok (.aload_n 0, 1) := by decide +kernel
theorem dX7_layFull_188 : decode cX7_layFull 188 = .ok (.getfield 133, 3) := by decide +kernel
theorem dX7_layFull_191 : decode cX7_layFull 191 = .ok (.ifCond .le 7, 3) := by decide +kernel
theorem dX7_layFull_194 : decode cX7_layFull 194 = .ok (.iconst 1, 1) := by decide +kernel
theorem dX7_layFull_195 : decode cX7_layFull 195 = .ok (.goto 4, 3) := by decide +kernel
theorem dX7_layFull_198 : decode cX7_layFull 198 = .ok (.iconst 0, 1) := by decide +kernel
theorem dX7_layFull_199 : decode cX7_layFull 199 = .ok (.ireturn, 1) := by decide +kernel
theorem dX7_step_0 : decode cX7_step 0 = .ok (.aload_n 0, 1) := by decide +kernel
theorem dX7_step_1 : decode cX7_step 1 = .ok (.getfield 44, 3) := by decide +kernel
theorem dX7_step_4 : decode cX7_step 4 = .ok (.iload_n 1, 1) := by decide +kernel
theorem dX7_step_5 : decode cX7_step 5 = .ok (.iaload, 1) := by decide +kernel
theorem dX7_step_6 : decode cX7_step 6 = .ok (.iconst 4, 1) := by decide +kernel
theorem dX7_step_7 : decode cX7_step 7 = .ok (.if_icmp .le 7, 3) := by decide +kernel
theorem dX7_step_10 : decode cX7_step 10 = .ok (.iload_n 1, 1) := by decide +kernel
theorem dX7_step_11 : decode cX7_step 11 = .ok (.iconst 1, 1) := by decide +kernel
theorem dX7_step_12 : decode cX7_step 12 = .ok (.isub, 1) := by decide +kernel
theorem dX7_step_13 : decode cX7_step 13 = .ok (.ireturn, 1) := by decide +kernel
theorem dX7_step_14 : decode cX7_step 14 = .ok (.aload_n 0, 1) := by decide +kernel
theorem dX7_step_15 : decode cX7_step 15 = .ok (.getfield 53, 3) := by decide +kernel
theorem dX7_step_18 : decode cX7_step 18 = .ok (.iload_n 1, 1) := by decide +kernel
theorem dX7_step_19 : decode cX7_step 19 = .ok (.iconst 1, 1) := by decide +kernel
theorem dX7_step_20 : decode cX7_step 20 = .ok (.iadd, 1) := by decide +kernel
theorem dX7_step_21 : decode cX7_step 21 = .ok (.aload_n 0, 1) := by decide +kernel
theorem dX7_step_22 : decode cX7_step 22 = .ok (.getfield 53, 3) := by decide +kernel
theorem dX7_step_25 : decode cX7_step 25 = .ok (.iload_n 1, 1) := by decide +kernel
theorem dX7_step_26 : decode cX7_step 26 = .ok (.iaload, 1) := by decide +kernel
theorem dX7_step_27 : decode cX7_step 27 = .ok (.aload_n 0, 1) := by decide +kernel
theorem dX7_step_28 : decode cX7_step 28 = .ok (.getfield 44, 3) := by decide +kernel
theorem dX7_step_31 : decode cX7_step 31 = .ok (.iload_n 1, 1) := by decide +kernel
theorem dX7_step_32 : decode cX7_step 32 = .ok (.iaload, 1) := by decide +kernel
theorem dX7_step_33 : decode cX7_step 33 = .ok (.iconst 4, 1) := by decide +kernel
theorem dX7_step_34 : decode cX7_step 34 = .ok (.if_icmp .ge 21, 3) := by decide +kernel
theorem dX7_step_37 : decode cX7_step 37 = .ok (.aload_n 0, 1) := by decide +kernel
theorem dX7_step_38 : decode cX7_step 38 = .ok (.getfield 50, 3) := by decide +kernel
theorem dX7_step_41 : decode cX7_step 41 = .ok (.iconst 4, 1) := by decide +kernel
theorem dX7_step_42 : decode cX7_step 42 = .ok (.iload_n 1, 1) := by decide +kernel
theorem dX7_step_43 : decode cX7_step 43 = .ok (.imul, 1) := by decide +kernel
theorem dX7_step_44 : decode cX7_step 44 = .ok (.aload_n 0, 1) := by decide +kernel
theorem dX7_step_45 : decode cX7_step 45 = .ok (.getfield 44, 3) := by decide +kernel
theorem dX7_step_48 : decode cX7_step 48 = .ok (.iload_n 1, 1) := by decide +kernel
theorem dX7_step_49 : decode cX7_step 49 = .ok (.iaload, 1) := by decide +kernel
theorem dX7_step_50 : decode cX7_step 50 = .ok (.iadd, 1) := by decide +kernel
theorem dX7_step_51 : decode cX7_step 51 = .ok (.iaload, 1) := by decide +kernel
theorem dX7_step_52 : decode cX7_step 52 = .ok (.goto 4, 3) := by decide +kernel
theorem dX7_step_55 : decode cX7_step 55 = .ok (.iconst 0, 1) := by decide +kernel
theorem dX7_step_56 : decode cX7_step 56 = .ok (.ior, 1) := by decide +kernel
theorem dX7_step_57 : decode cX7_step 57 = .ok (.iastore, 1) := by decide +kernel
theorem dX7_step_58 : decode cX7_step 58 = .ok (.iload_n 1, 1) := by decide +kernel
theorem dX7_step_59 : decode cX7_step 59 = .ok (.iconst 1, 1) := by decide +kernel
theorem dX7_step_60 : decode cX7_step 60 = .ok (.iadd, 1) := by decide +kernel
theorem dX7_step_61 : decode cX7_step 61 = .ok (.aload_n 0, 1) := by decide +kernel
theorem dX7_step_62 : decode cX7_step 62 = .ok (.getfield 74, 3) := by decide +kernel
theorem dX7_step_65 : decode cX7_step 65 = .ok (.if_icmp .ge 12, 3) := by decide +kernel
theorem dX7_step_68 : decode cX7_step 68 = .ok (.aload_n 0, 1) := by decide +kernel
theorem dX7_step_69 : decode cX7_step 69 = .ok (.getfield 44, 3) := by decide +kernel
theorem dX7_step_72 : decode cX7_step 72 = .ok (.iload_n 1, 1) := by decide +kernel
theorem dX7_step_73 : decode cX7_step 73 = .ok (.iconst 1, 1) := by decide +kernel
theorem dX7_step_74 : decode cX7_step 74 = .ok (.iadd, 1) := by decide +kernel
theorem dX7_step_75 : decode cX7_step 75 = .ok (.iconst (-1), 1) := by decide +kernel
theorem dX7_step_76 : decode cX7_step 76 = .ok (.iastore, 1) := by decide +kernel
theorem dX7_step_77 : decode cX7_step 77 = .ok (.iload_n 1, 1) := by decide +kernel
theorem dX7_step_78 : decode cX7_step 78 = .ok (.iconst 1, 1) := by decide +kernel
theorem dX7_step_79 : decode cX7_step 79 = .ok (.iadd, 1) := by decide +kernel
theorem dX7_step_80 : decode cX7_step 80 = .ok (.ireturn, 1) := by decide +kernel
theorem dX7_layBest_0 : decode cX7_layBest 0 = .ok (.aload_n 0, 1) := by decide +kernel
theorem dX7_layBest_1 : decode cX7_layBest 1 = .ok (.invokevirtual 130, 3) := by decide +kernel
theorem dX7_layBest_4 : decode cX7_layBest 4 = .ok (.aload_n 0, 1) := by decide +kernel
theorem dX7_layBest_5 : decode cX7_layBest 5 = .ok (.iconst (-1), 1) := by decide +kernel
theorem dX7_layBest_6 : decode cX7_layBest 6 = .ok (.putfield 143, 3) := by decide +kernel
theorem dX7_layBest_9 : decode cX7_layBest 9 = .ok (.iconst 0, 1) := by decide +kernel
theorem dX7_layBest_10 : decode cX7_layBest 10 = .ok (.istore_n 1, 1) := by decide +kernel
theorem dX7_layBest_11 : decode cX7_layBest 11 = .ok (.aload_n 0, 1) := by decide +kernel
theorem dX7_layBest_12 : decode cX7_layBest 12 = .ok (.getfield 44, 3) := by decide +kernel
theorem dX7_layBest_15 : decode cX7_layBest 15 = .ok (.iconst 0, 1) := by decide +kernel
theorem dX7_layBest_16 : decode cX7_layBest 16 = .ok (.iconst (-1), 1) := by decide +kernel
theorem dX7_layBest_17 : decode cX7_layBest 17 = .ok (.iastore, 1) := by decide +kernel
theorem dX7_layBest_18 : decode cX7_layBest 18 = .ok (.aload_n 0, 1) := by decide +kernel
theorem dX7_layBest_19 : decode cX7_layBest 19 = .ok (.getfield 53, 3) := by decide +kernel
theorem dX7_layBest_22 : decode cX7_layBest 22 = .ok (.iconst 0, 1) := by decide +kernel
theorem dX7_layBest_23 : decode cX7_layBest 23 = .ok (.iconst 0, 1) := by decide +kernel
theorem dX7_layBest_24 : decode cX7_layBest 24 = .ok (.iastore, 1) := by decide +kernel
theorem dX7_layBest_25 : decode cX7_layBest 25 = .ok (.iload_n 1, 1) := by decide +kernel
theorem dX7_layBest_26 : decode cX7_layBest 26 = .ok (.ifCond .lt 164, 3) := by decide +kernel
theorem dX7_layBest_29 : decode cX7_layBest 29 = .ok (.iload_n 1, 1) := by decide +kernel
theorem dX7_layBest_30 : decode cX7_layBest 30 = .ok (.aload_n 0, 1) := by decide +kernel
theorem dX7_layBest_31 : decode cX7_layBest 31 = .ok (.getfield 74, 3) := by decide +kernel
theorem dX7_layBest_34 : decode cX7_layBest 34 = .ok (.if_icmp .ne 121, 3) := by decide +kernel
theorem dX7_layBest_37 : decode cX7_layBest 37 = .ok (.iconst 0, 1) := by decide +kernel
theorem dX7_layBest_38 : decode cX7_layBest 38 = .ok (.istore_n 2, 1) := by decide +kernel
theorem dX7_layBest_39 : decode cX7_layBest 39 = .ok (.iconst 0, 1) := by decide +kernel
theorem dX7_layBest_40 : decode cX7_layBest 40 = .ok (.istore_n 3, 1) := by decide +kernel
theorem dX7_layBest_41 : decode cX7_layBest 41 = .ok (.iload_n 3, 1) := by decide +kernel
theorem dX7_layBest_42 : decode cX7_layBest 42 = .ok (.aload_n 0, 1) := by decide +kernel
theorem dX7_layBest_43 : decode cX7_layBest 43 = .ok (.getfield 74, 3) := by decide +kernel
theorem dX7_layBest_46 : decode cX7_layBest 46 = .ok (.if_icmp .ge 32, 3) := by decide +kernel
theorem dX7_layBest_49 : decode cX7_layBest 49 = .ok (.iload_n 2, 1) := by decide +kernel
theorem dX7_layBest_50 : decode cX7_layBest 50 = .ok (.aload_n 0, 1) := by decide +kernel
theorem dX7_layBest_51 : decode cX7_layBest 51 = .ok (.getfield 44, 3) := by decide +kernel
theorem dX7_layBest_54 : decode cX7_layBest 54 = .ok (.iload_n 3, 1) := by decide +kernel
theorem dX7_layBest_55 : decode cX7_layBest 55 = .ok (.iaload, 1) := by decide +kernel
theorem dX7_layBest_56 : decode cX7_layBest 56 = .ok (.iconst 4, 1) := by decide +kernel
theorem dX7_layBest_57 : decode cX7_layBest 57 = .ok (.if_icmp .ge 12, 3) := by decide +kernel
theorem dX7_layBest_60 : decode cX7_layBest 60 = .ok (.aload_n 0, 1) := by decide +kernel
theorem dX7_layBest_61 : decode cX7_layBest 61 = .ok (.getfield 29, 3) := by decide +kernel
theorem dX7_layBest_64 : decode cX7_layBest 64 = .ok (.iload_n 3, 1) := by decide +kernel
theorem dX7_layBest_65 : decode cX7_layBest 65 = .ok (.iaload, 1) := by decide +kernel
theorem dX7_layBest_66 : decode cX7_layBest 66 = .ok (.goto 4, 3) := by decide +kernel
theorem dX7_layBest_69 : decode cX7_layBest 69 = .ok (.iconst 0, 1) := by decide +kernel
theorem dX7_layBest_70 : decode cX7_layBest 70 = .ok (.iadd, 1) := by decide +kernel
theorem dX7_layBest_71 : decode cX7_layBest 71 = .ok (.istore_n 2, 1) := by decide +kernel
theorem dX7_layBest_72 : decode cX7_layBest 72 = .ok (.iinc 3 1, 3) := by decide +kernel
theorem dX7_layBest_75 : decode cX7_layBest 75 = .ok (.goto (-34), 3) := by decide +kernel
theorem dX7_layBest_78 : decode cX7_layBest 78 = .ok (.iconst 0, 1) := by decide +kernel
theorem dX7_layBest_79 : decode cX7_layBest 79 = .ok (.istore_n 3, 1) := by decide +kernel
theorem dX7_layBest_80 : decode cX7_layBest 80 = .ok (.iload_n 3, 1) := by decide +kernel
theorem dX7_layBest_81 : decode cX7_layBest 81 = .ok (.aload_n 0, 1) := by decide +kernel
theorem dX7_layBest_82 : decode cX7_layBest 82 = .ok (.getfield 74, 3) := by decide +kernel
theorem dX7_layBest_85 : decode cX7_layBest 85 = .ok (.if_icmp .ge 44, 3) := by decide +kernel
theorem dX7_layBest_88 : decode cX7_layBest 88 = .ok (.iload_n 2, 1) := by decide +kernel
theorem dX7_layBest_89 : decode cX7_layBest 89 = .ok (.aload_n 0, 1) := by decide +kernel
theorem dX7_layBest_90 : decode cX7_layBest 90 = .ok (.getfield 143, 3) := by decide +kernel
theorem dX7_layBest_93 : decode cX7_layBest 93 = .ok (.if_icmp .le 36, 3) := by decide +kernel
theorem dX7_layBest_96 : decode cX7_layBest 96 = .ok (.aload_n 0, 1) := by decide +kernel
theorem dX7_layBest_97 : decode cX7_layBest 97 = .ok (.getfield 47, 3) := by decide +kernel
theorem dX7_layBest_100 : decode cX7_layBest 100 = .ok (.iload_n 3, 1) := by decide +kernel
theorem dX7_layBest_101 : decode cX7_layBest 101 = .ok (.aload_n 0, 1) := by decide +kernel
theorem dX7_layBest_102 : decode cX7_layBest 102 = .ok (.getfield 44, 3) := by decide +kernel
theorem dX7_layBest_105 : decode cX7_layBest 105 = .ok (.iload_n 3, 1) := by decide +kernel
theorem dX7_layBest_106 : decode cX7_layBest 106 = .ok (.iaload, 1) := by decide +kernel
theorem dX7_layBest_107 : decode cX7_layBest 107 = .ok (.iconst 4, 1) := by decide +kernel
theorem dX7_layBest_108 : decode cX7_layBest 108 = .ok (.if_icmp .ge 12, 3) := by decide +kernel
theorem dX7_layBest_111 : decode cX7_layBest 111 = .ok (.aload_n 0, 1) := by decide +kernel
theorem dX7_layBest_112 : decode cX7_layBest 112 = .ok (.getfield 44, 3) := by decide +kernel
theorem dX7_layBest_115 : decode cX7_layBest 115 = .ok (.iload_n 3, 1) := by decide +kernel
theorem dX7_layBest_116 : decode cX7_layBest 116 = .ok (.iaload, 1) := by decide +kernel
theorem dX7_layBest_117 : decode cX7_layBest 117 = .ok (.goto 5, 3) := by decide +kernel
theorem dX7_layBest_120 : decode cX7_layBest 120 = .ok (.bipush (-9), 2) := by decide +kernel
theorem dX7_layBest_122 : decode cX7_layBest 122 = .ok (.iastore, 1) := by decide +kernel
theorem dX7_layBest_123 : decode cX7_layBest 123 = .ok (.iinc 3 1, 3) := by decide +kernel
theorem dX7_layBest_126 : decode cX7_layBest 126 = .ok (.goto (-46), 3) := by decide +kernel
theorem dX7_layBest_129 : decode cX7_layBest 129 = .ok (.aload_n 0, 1) := by decide +kernel
theorem dX7_layBest_130 : decode cX7_layBest 130 = .ok (.iload_n 2, 1) := by decide +kernel
theorem dX7_layBest_131 : decode cX7_layBest 131 = .ok (.aload_n 0, 1) := by decide +kernel
theorem dX7_layBest_132 : decode cX7_layBest 132 = .ok (.getfield 143, 3) := by decide +kernel
theorem dX7_layBest_135 : decode cX7_layBest 135 = .ok (.if_icmp .le 7, 3) := by decide +kernel
theorem dX7_layBest_138 : decode cX7_layBest 138 = .ok (.iload_n 2, 1) := by decide +kernel
theorem dX7_layBest_139 : decode cX7_layBest 139 = .ok (.goto 7, 3) := by decide +kernel
theorem dX7_layBest_142 : decode cX7_layBest 142 = .ok (.aload_n 0, 1) := by decide +kernel
theorem dX7_layBest_143 : decode cX7_layBest 143 = .ok (.getfield 143, 3) := by decide +kernel
theorem dX7_layBest_146 : decode cX7_layBest 146 = .ok (.putfield 143, 3) := by decide +kernel
theorem dX7_layBest_149 : decode cX7_layBest 149 = .ok (.iinc 1 (-1), 3) := by decide +kernel
theorem dX7_layBest_152 : decode cX7_layBest 152 = .ok (.goto (-127), 3) := by decide +kernel
theorem dX7_layBest_155 : decode cX7_layBest 155 = .ok (.aload_n 0, 1) := by decide +kernel
theorem dX7_layBest_156 : decode cX7_layBest 156 = .ok (.getfield 44, 3) := by decide +kernel
theorem dX7_layBest_159 : decode cX7_layBest 159 = .ok (.iload_n 1, 1) := by decide +kernel
theorem dX7_layBest_160 : decode cX7_layBest 160 = .ok (.aload_n 0, 1) := by decide +kernel
theorem dX7_layBest_161 : decode cX7_layBest 161 = .ok (.getfield 44, 3) := by decide +kernel
theorem dX7_layBest_164 : decode cX7_layBest 164 = .ok (.iload_n 1, 1) := by decide +kernel
theorem dX7_layBest_165 : decode cX7_layBest 165 = .ok (.iaload, 1) := by decide +kernel
theorem dX7_layBest_166 : decode cX7_layBest 166 = .ok (.iconst 4, 1) := by decide +kernel
theorem dX7_layBest_167 : decode cX7_layBest 167 = .ok (.if_icmp .ne 7, 3) := by decide +kernel
theorem dX7_layBest_170 : decode cX7_layBest 170 = .ok (.iconst 5, 1) := by decide +kernel
theorem dX7_layBest_171 : decode cX7_layBest 171 = .ok (.goto 9, 3) := by decide +kernel
theorem dX7_layBest_174 : decode cX7_layBest 174 = .ok (.aload_n 0, 1) := by decide +kernel
theorem dX7_layBest_175 : decode cX7_layBest 175 = .ok (.iload_n 1, 1) := by decide +kernel
theorem dX7_layBest_176 : decode cX7_layBest 176 = .ok (.iconst 0, 1) := by decide +kernel
theorem dX7_layBest_177 : decode cX7_layBest 177 = .ok (.invokevirtual 136, 3) := by decide +kernel
theorem dX7_layBest_180 : decode cX7_layBest 180 = .ok (.iastore, 1) := by decide +kernel
theorem dX7_layBest_181 : decode cX7_layBest 181 = .ok (.aload_n 0, 1) := by decide +kernel
theorem dX7_layBest_182 : decode cX7_layBest 182 = .ok (.iload_n 1, 1) := by decide +kernel
theorem dX7_layBest_183 : decode cX7_layBest 183 = .ok (.invokevirtual 140, 3) := by decide +kernel
theorem dX7_layBest_186 : decode cX7_layBest 186 = .ok (.istore_n 1, 1) := by decide +kernel
theorem dX7_layBest_187 : decode cX7_layBest 187 = .ok (.goto (-162), 3) := by decide +kernel
theorem dX7_layBest_190 : decode cX7_layBest 190 = .ok (.return_, 1) := by decide +kernel
theorem dX7_best_0 : decode cX7_best 0 = .ok (.aload_n 0, 1) := by decide +kernel
theorem dX7_best_1 : decode cX7_best 1 = .ok (.invokevirtual 146, 3) := by decide +kernel
theorem dX7_best_4 : decode cX7_best 4 = .ok (.aload_n 0, 1) := by decide +kernel
theorem dX7_best_5 : decode cX7_best 5 = .ok (.getfield 143, 3) := by decide +kernel
theorem dX7_best_8 : decode cX7_best 8 = .ok (.ireturn, 1) := by decide +kernel
theorem dX7_at_0 : decode cX7_at 0 = .ok (.aload_n 0, 1) := by decide +kernel
theorem dX7_at_1 : decode cX7_at 1 = .ok (.iload_n 1, 1) := by decide +kernel
theorem dX7_at_2 : decode cX7_at 2 = .ok (.invokevirtual 93, 3) := by decide +kernel
theorem dX7_at_5 : decode cX7_at 5 = .ok (.ifCond .ne 5, 3) := by decide +kernel
theorem dX7_at_8 : decode cX7_at 8 = .ok (.iconst (-1), 1) := by decide +kernel
theorem dX7_at_9 : decode cX7_at 9 = .ok (.ireturn, 1) := by decide +kernel
theorem dX7_at_10 : decode cX7_at 10 = .ok (.aload_n 0, 1) := by decide +kernel
theorem dX7_at_11 : decode cX7_at 11 = .ok (.invokevirtual 146, 3) := by decide +kernel
theorem dX7_at_14 : decode cX7_at 14 = .ok (.aload_n 0, 1) := by decide +kernel
theorem dX7_at_15 : decode cX7_at 15 = .ok (.getfield 47, 3) := by decide +kernel
theorem dX7_at_18 : decode cX7_at 18 = .ok (.iload_n 1, 1) := by decide +kernel
theorem dX7_at_19 : decode cX7_at 19 = .ok (.iaload, 1) := by decide +kernel
theorem dX7_at_20 : decode cX7_at 20 = .ok (.ireturn, 1) := by decide +kernel
theorem dX7_named_0 : decode cX7_named 0 = .ok (.aload_n 0, 1) := by decide +kernel
theorem dX7_named_1 : decode cX7_named 1 = .ok (.invokevirtual 146, 3) := by decide +kernel
theorem dX7_named_4 : decode cX7_named 4 = .ok (.iconst 0, 1) := by decide +kernel
theorem dX7_named_5 : decode cX7_named 5 = .ok (.istore_n 1, 1) := by decide +kernel
theorem dX7_named_6 : decode cX7_named 6 = .ok (.iconst 0, 1) := by decide +kernel
theorem dX7_named_7 : decode cX7_named 7 = .ok (.istore_n 2, 1) := by decide +kernel
theorem dX7_named_8 : decode cX7_named 8 = .ok (.iload_n 2, 1) := by decide +kernel
theorem dX7_named_9 : decode cX7_named 9 = .ok (.aload_n 0, 1) := by decide +kernel
theorem dX7_named_10 : decode cX7_named 10 = .ok (.getfield 74, 3) := by decide +kernel
theorem dX7_named_13 : decode cX7_named 13 = .ok (.if_icmp .ge 28, 3) := by decide +kernel
theorem dX7_named_16 : decode cX7_named 16 = .ok (.iload_n 1, 1) := by decide +kernel
theorem dX7_named_17 : decode cX7_named 17 = .ok (.aload_n 0, 1) := by decide +kernel
theorem dX7_named_18 : decode cX7_named 18 = .ok (.getfield 47, 3) := by decide +kernel
theorem dX7_named_21 : decode cX7_named 21 = .ok (.iload_n 2, 1) := by decide +kernel
theorem dX7_named_22 : decode cX7_named 22 = .ok (.iaload, 1) := by decide +kernel
theorem dX7_named_23 : decode cX7_named 23 = .ok (.bipush (-9), 2) := by decide +kernel
theorem dX7_named_25 : decode cX7_named 25 = .ok (.if_icmp .ne 7, 3) := by decide +kernel
theorem dX7_named_28 : decode cX7_named 28 = .ok (.iconst 0, 1) := by decide +kernel
theorem dX7_named_29 : decode cX7_named 29 = .ok (.goto 4, 3) := by decide +kernel
theorem dX7_named_32 : decode cX7_named 32 = .ok (.iconst 1, 1) := by decide +kernel
theorem dX7_named_33 : decode cX7_named 33 = .ok (.iadd, 1) := by decide +kernel
theorem dX7_named_34 : decode cX7_named 34 = .ok (.istore_n 1, 1) := by decide +kernel
theorem dX7_named_35 : decode cX7_named 35 = .ok (.iinc 2 1, 3) := by decide +kernel
theorem dX7_named_38 : decode cX7_named 38 = .ok (.goto (-30), 3) := by decide +kernel
theorem dX7_named_41 : decode cX7_named 41 = .ok (.iload_n 1, 1) := by decide +kernel
theorem dX7_named_42 : decode cX7_named 42 = .ok (.ireturn, 1) := by decide +kernel
theorem dX7_full_0 : decode cX7_full 0 = .ok (.aload_n 0, 1) := by decide +kernel
theorem dX7_full_1 : decode cX7_full 1 = .ok (.iconst 0, 1) := by decide +kernel
theorem dX7_full_2 : decode cX7_full 2 = .ok (.invokevirtual 149, 3) := by decide +kernel
theorem dX7_full_5 : decode cX7_full 5 = .ok (.istore_n 1, 1) := by decide +kernel
theorem dX7_full_6 : decode cX7_full 6 = .ok (.aload_n 0, 1) := by decide +kernel
theorem dX7_full_7 : decode cX7_full 7 = .ok (.getfield 133, 3) := by decide +kernel
theorem dX7_full_10 : decode cX7_full 10 = .ok (.ireturn, 1) := by decide +kernel
theorem dX7_with_0 : decode cX7_with 0 = .ok (.aload_n 0, 1) := by decide +kernel
theorem dX7_with_1 : decode cX7_with 1 = .ok (.iload_n 1, 1) := by decide +kernel
theorem dX7_with_2 : decode cX7_with 2 = .ok (.invokevirtual 93, 3) := by decide +kernel
theorem dX7_with_5 : decode cX7_with 5 = .ok (.ifCond .ne 5, 3) := by decide +kernel
theorem dX7_with_8 : decode cX7_with 8 = .ok (.iconst (-1), 1) := by decide +kernel
theorem dX7_with_9 : decode cX7_with 9 = .ok (.ireturn, 1) := by decide +kernel
theorem dX7_with_10 : decode cX7_with 10 = .ok (.iload_n 2, 1) := by decide +kernel
theorem dX7_with_11 : decode cX7_with 11 = .ok (.invokestatic 97, 3) := by decide +kernel
theorem dX7_with_14 : decode cX7_with 14 = .ok (.ifCond .ne 6, 3) := by decide +kernel
theorem dX7_with_17 : decode cX7_with 17 = .ok (.bipush (-2), 2) := by decide +kernel
theorem dX7_with_19 : decode cX7_with 19 = .ok (.ireturn, 1) := by decide +kernel
theorem dX7_with_20 : decode cX7_with 20 = .ok (.aload_n 0, 1) := by decide +kernel
theorem dX7_with_21 : decode cX7_with 21 = .ok (.iconst 0, 1) := by decide +kernel
theorem dX7_with_22 : decode cX7_with 22 = .ok (.invokevirtual 149, 3) := by decide +kernel
theorem dX7_with_25 : decode cX7_with 25 = .ok (.istore_n 3, 1) := by decide +kernel
theorem dX7_with_26 : decode cX7_with 26 = .ok (.aload_n 0, 1) := by decide +kernel
theorem dX7_with_27 : decode cX7_with 27 = .ok (.getfield 56, 3) := by decide +kernel
theorem dX7_with_30 : decode cX7_with 30 = .ok (.iconst 4, 1) := by decide +kernel
theorem dX7_with_31 : decode cX7_with 31 = .ok (.iload_n 1, 1) := by decide +kernel
theorem dX7_with_32 : decode cX7_with 32 = .ok (.imul, 1) := by decide +kernel
theorem dX7_with_33 : decode cX7_with 33 = .ok (.iload_n 2, 1) := by decide +kernel
theorem dX7_with_34 : decode cX7_with 34 = .ok (.iadd, 1) := by decide +kernel
theorem dX7_with_35 : decode cX7_with 35 = .ok (.iaload, 1) := by decide +kernel
theorem dX7_with_36 : decode cX7_with 36 = .ok (.ireturn, 1) := by decide +kernel
theorem dX7_sure_0 : decode cX7_sure 0 = .ok (.aload_n 0, 1) := by decide +kernel
theorem dX7_sure_1 : decode cX7_sure 1 = .ok (.iload_n 1, 1) := by decide +kernel
theorem dX7_sure_2 : decode cX7_sure 2 = .ok (.invokevirtual 93, 3) := by decide +kernel
theorem dX7_sure_5 : decode cX7_sure 5 = .ok (.ifCond .ne 5, 3) := by decide +kernel
theorem dX7_sure_8 : decode cX7_sure 8 = .ok (.iconst (-1), 1) := by decide +kernel
theorem dX7_sure_9 : decode cX7_sure 9 = .ok (.ireturn, 1) := by decide +kernel
theorem dX7_sure_10 : decode cX7_sure 10 = .ok (.aload_n 0, 1) := by decide +kernel
theorem dX7_sure_11 : decode cX7_sure 11 = .ok (.iconst 0, 1) := by decide +kernel
theorem dX7_sure_12 : decode cX7_sure 12 = .ok (.invokevirtual 149, 3) := by decide +kernel
theorem dX7_sure_15 : decode cX7_sure 15 = .ok (.ifCond .ne 6, 3) := by decide +kernel
theorem dX7_sure_18 : decode cX7_sure 18 = .ok (.bipush (-9), 2) := by decide +kernel
theorem dX7_sure_20 : decode cX7_sure 20 = .ok (.ireturn, 1) := by decide +kernel
theorem dX7_sure_21 : decode cX7_sure 21 = .ok (.iconst 0, 1) := by decide +kernel
theorem dX7_sure_22 : decode cX7_sure 22 = .ok (.istore_n 2, 1) := by decide +kernel
theorem dX7_sure_23 : decode cX7_sure 23 = .ok (.iload_n 2, 1) := by decide +kernel
theorem dX7_sure_24 : decode cX7_sure 24 = .ok (.iconst 4, 1) := by decide +kernel
theorem dX7_sure_25 : decode cX7_sure 25 = .ok (.if_icmp .ge 28, 3) := by decide +kernel
theorem dX7_sure_28 : decode cX7_sure 28 = .ok (.aload_n 0, 1) := by decide +kernel
theorem dX7_sure_29 : decode cX7_sure 29 = .ok (.getfield 56, 3) := by decide +kernel
theorem dX7_sure_32 : decode cX7_sure 32 = .ok (.iconst 4, 1) := by decide +kernel
theorem dX7_sure_33 : decode cX7_sure 33 = .ok (.iload_n 1, 1) := by decide +kernel
theorem dX7_sure_34 : decode cX7_sure 34 = .ok (.imul, 1) := by decide +kernel
theorem dX7_sure_35 : decode cX7_sure 35 = .ok (.iload_n 2, 1) := by decide +kernel
theorem dX7_sure_36 : decode cX7_sure 36 = .ok (.iadd, 1) := by decide +kernel
theorem dX7_sure_37 : decode cX7_sure 37 = .ok (.iaload, 1) := by decide +kernel
theorem dX7_sure_38 : decode cX7_sure 38 = .ok (.aload_n 0, 1) := by decide +kernel
theorem dX7_sure_39 : decode cX7_sure 39 = .ok (.getfield 133, 3) := by decide +kernel
theorem dX7_sure_42 : decode cX7_sure 42 = .ok (.if_icmp .ne 5, 3) := by decide +kernel
theorem dX7_sure_45 : decode cX7_sure 45 = .ok (.iload_n 2, 1) := by decide +kernel
theorem dX7_sure_46 : decode cX7_sure 46 = .ok (.ireturn, 1) := by decide +kernel
theorem dX7_sure_47 : decode cX7_sure 47 = .ok (.iinc 2 1, 3) := by decide +kernel
theorem dX7_sure_50 : decode cX7_sure 50 = .ok (.goto (-27), 3) := by decide +kernel
theorem dX7_sure_53 : decode cX7_sure 53 = .ok (.bipush (-9), 2) := by decide +kernel
theorem dX7_sure_55 : decode cX7_sure 55 = .ok (.ireturn, 1) := by decide +kernel
theorem dX7_greatest_0 : decode cX7_greatest 0 = .ok (.aload_n 0, 1) := by decide +kernel
theorem dX7_greatest_1 : decode cX7_greatest 1 = .ok (.getfield 38, 3) := by decide +kernel
theorem dX7_greatest_4 : decode cX7_greatest 4 = .ok (.istore_n 1, 1) := by decide +kernel
theorem dX7_greatest_5 : decode cX7_greatest 5 = .ok (.bipush (-9), 2) := by decide +kernel
theorem dX7_greatest_7 : decode cX7_greatest 7 = .ok (.istore_n 2, 1) := by decide +kernel
theorem dX7_greatest_8 : decode cX7_greatest 8 = .ok (.bipush 40, 2) := by decide +kernel
theorem dX7_greatest_10 : decode cX7_greatest 10 = .ok (.istore_n 3, 1) := by decide +kernel
theorem dX7_greatest_11 : decode cX7_greatest 11 = .ok (.iload_n 3, 1) := by decide +kernel
theorem dX7_greatest_12 : decode cX7_greatest 12 = .ok (.ifCond .le 35, 3) := by decide +kernel
theorem dX7_greatest_15 : decode cX7_greatest 15 = .ok (.iload_n 2, 1) := by decide +kernel
theorem dX7_greatest_16 : decode cX7_greatest 16 = .ok (.bipush (-9), 2) := by decide +kernel
theorem dX7_greatest_18 : decode cX7_greatest 18 = .ok (.if_icmp .ne 29, 3) := by decide +kernel
theorem dX7_greatest_21 : decode cX7_greatest 21 = .ok (.aload_n 0, 1) := by decide +kernel
theorem dX7_greatest_22 : decode cX7_greatest 22 = .ok (.iload_n 3, 1) := by decide +kernel
theorem dX7_greatest_23 : decode cX7_greatest 23 = .ok (.putfield 38, 3) := by decide +kernel
theorem dX7_greatest_26 : decode cX7_greatest 26 = .ok (.aload_n 0, 1) := by decide +kernel
theorem dX7_greatest_27 : decode cX7_greatest 27 = .ok (.iconst 1, 1) := by decide +kernel
theorem dX7_greatest_28 : decode cX7_greatest 28 = .ok (.invokevirtual 149, 3) := by decide +kernel
theorem dX7_greatest_31 : decode cX7_greatest 31 = .ok (.ifCond .eq 7, 3) := by decide +kernel
theorem dX7_greatest_34 : decode cX7_greatest 34 = .ok (.iload_n 3, 1) := by decide +kernel
theorem dX7_greatest_35 : decode cX7_greatest 35 = .ok (.goto 5, 3) := by decide +kernel
theorem dX7_greatest_38 : decode cX7_greatest 38 = .ok (.bipush (-9), 2) := by decide +kernel
theorem dX7_greatest_40 : decode cX7_greatest 40 = .ok (.istore_n 2, 1) := by decide +kernel
theorem dX7_greatest_41 : decode cX7_greatest 41 = .ok (.iinc 3 (-1), 3) := by decide +kernel
theorem dX7_greatest_44 : decode cX7_greatest 44 = .ok (.goto (-33), 3) := by decide +kernel
theorem dX7_greatest_47 : decode cX7_greatest 47 = .ok (.aload_n 0, 1) := by decide +kernel
theorem dX7_greatest_48 : decode cX7_greatest 48 = .ok (.iload_n 1, 1) := by decide +kernel
theorem dX7_greatest_49 : decode cX7_greatest 49 = .ok (.putfield 38, 3) := by decide +kernel
theorem dX7_greatest_52 : decode cX7_greatest 52 = .ok (.iload_n 2, 1) := by decide +kernel
theorem dX7_greatest_53 : decode cX7_greatest 53 = .ok (.ireturn, 1) := by decide +kernel
theorem dX7_least_0 : decode cX7_least 0 = .ok (.sipush 10000, 3) := by decide +kernel
theorem dX7_least_3 : decode cX7_least 3 = .ok (.istore_n 1, 1) := by decide +kernel
theorem dX7_least_4 : decode cX7_least 4 = .ok (.iconst 0, 1) := by decide +kernel
theorem dX7_least_5 : decode cX7_least 5 = .ok (.istore_n 2, 1) := by decide +kernel
theorem dX7_least_6 : decode cX7_least 6 = .ok (.iload_n 2, 1) := by decide +kernel
theorem dX7_least_7 : decode cX7_least 7 = .ok (.iconst 1, 1) := by decide +kernel
theorem dX7_least_8 : decode cX7_least 8 = .ok (.aload_n 0, 1) := by decide +kernel
theorem dX7_least_9 : decode cX7_least 9 = .ok (.getfield 74, 3) := by decide +kernel
theorem dX7_least_12 : decode cX7_least 12 = .ok (.ishl, 1) := by decide +kernel
theorem dX7_least_13 : decode cX7_least 13 = .ok (.if_icmp .ge 77, 3) := by decide +kernel
theorem dX7_least_16 : decode cX7_least 16 = .ok (.iconst 0, 1) := by decide +kernel
theorem dX7_least_17 : decode cX7_least 17 = .ok (.istore_n 3, 1) := by decide +kernel
theorem dX7_least_18 : decode cX7_least 18 = .ok (.iconst 0, 1) := by decide +kernel
theorem dX7_least_19 : decode cX7_least 19 = .ok (.istore 4, 2) := by decide +kernel
theorem dX7_least_21 : decode cX7_least 21 = .ok (.iload 4, 2) := by decide +kernel
theorem dX7_least_23 : decode cX7_least 23 = .ok (.aload_n 0, 1) := by decide +kernel
theorem dX7_least_24 : decode cX7_least 24 = .ok (.getfield 74, 3) := by decide +kernel
theorem dX7_least_27 : decode cX7_least 27 = .ok (.if_icmp .ge 33, 3) := by decide +kernel
theorem dX7_least_30 : decode cX7_least 30 = .ok (.iload_n 3, 1) := by decide +kernel
theorem dX7_least_31 : decode cX7_least 31 = .ok (.iload_n 2, 1) := by decide +kernel
theorem dX7_least_32 : decode cX7_least 32 = .ok (.iload 4, 2) := by decide +kernel
theorem dX7_least_34 : decode cX7_least 34 = .ok (.ishr, 1) := by decide +kernel
theorem dX7_least_35 : decode cX7_least 35 = .ok (.iconst 1, 1) := by decide +kernel
theorem dX7_least_36 : decode cX7_least 36 = .ok (.iand, 1) := by decide +kernel
theorem dX7_least_37 : decode cX7_least 37 = .ok (.iconst 1, 1) := by decide +kernel
theorem dX7_least_38 : decode cX7_least 38 = .ok (.if_icmp .ne 13, 3) := by decide +kernel
theorem dX7_least_41 : decode cX7_least 41 = .ok (.aload_n 0, 1) := by decide +kernel
theorem dX7_least_42 : decode cX7_least 42 = .ok (.getfield 29, 3) := by decide +kernel
theorem dX7_least_45 : decode cX7_least 45 = .ok (.iload 4, 2) := by decide +kernel
theorem dX7_least_47 : decode cX7_least 47 = .ok (.iaload, 1) := by decide +kernel
theorem dX7_least_48 : decode cX7_least 48 = .ok (.goto 4, 3) := by decide +kernel
theorem dX7_least_51 : decode cX7_least 51 = .ok (.iconst 0, 1) := by decide +kernel
theorem dX7_least_52 : decode cX7_least 52 = .ok (.iadd, 1) := by decide +kernel
theorem dX7_least_53 : decode cX7_least 53 = .ok (.istore_n 3, 1) := by decide +kernel
theorem dX7_least_54 : decode cX7_least 54 = .ok (.iinc 4 1, 3) := by decide +kernel
theorem dX7_least_57 : decode cX7_least 57 = .ok (.goto (-36), 3) := by decide +kernel
theorem dX7_least_60 : decode cX7_least 60 = .ok (.aload_n 0, 1) := by decide +kernel
theorem dX7_least_61 : decode cX7_least 61 = .ok (.iload_n 2, 1) := by decide +kernel
theorem dX7_least_62 : decode cX7_least 62 = .ok (.putfield 116, 3) := by decide +kernel
theorem dX7_least_65 : decode cX7_least 65 = .ok (.iload_n 3, 1) := by decide +kernel
theorem dX7_least_66 : decode cX7_least 66 = .ok (.iload_n 1, 1) := by decide +kernel
theorem dX7_least_67 : decode cX7_least 67 = .ok (.if_icmp .ge 15, 3) := by decide +kernel
theorem dX7_least_70 : decode cX7_least 70 = .ok (.aload_n 0, 1) := by decide +kernel
theorem dX7_least_71 : decode cX7_least 71 = .ok (.iconst 1, 1) := by decide +kernel
theorem dX7_least_72 : decode cX7_least 72 = .ok (.invokevirtual 149, 3) := by decide +kernel
theorem dX7_least_75 : decode cX7_least 75 = .ok (.ifCond .eq 7, 3) := by decide +kernel
theorem dX7_least_78 : decode cX7_least 78 = .ok (.iload_n 3, 1) := by decide +kernel
theorem dX7_least_79 : decode cX7_least 79 = .ok (.goto 4, 3) := by decide +kernel
theorem dX7_least_82 : decode cX7_least 82 = .ok (.iload_n 1, 1) := by decide +kernel
theorem dX7_least_83 : decode cX7_least 83 = .ok (.istore_n 1, 1) := by decide +kernel
theorem dX7_least_84 : decode cX7_least 84 = .ok (.iinc 2 1, 3) := by decide +kernel
theorem dX7_least_87 : decode cX7_least 87 = .ok (.goto (-81), 3) := by decide +kernel
theorem dX7_least_90 : decode cX7_least 90 = .ok (.aload_n 0, 1) := by decide +kernel
theorem dX7_least_91 : decode cX7_least 91 = .ok (.iconst 0, 1) := by decide +kernel
theorem dX7_least_92 : decode cX7_least 92 = .ok (.putfield 116, 3) := by decide +kernel
theorem dX7_least_95 : decode cX7_least 95 = .ok (.iload_n 1, 1) := by decide +kernel
theorem dX7_least_96 : decode cX7_least 96 = .ok (.ireturn, 1) := by decide +kernel
theorem dX7_put_0 : decode cX7_put 0 = .ok (.aload_n 0, 1) := by decide +kernel
theorem dX7_put_1 : decode cX7_put 1 = .ok (.iload_n 1, 1) := by decide +kernel
theorem dX7_put_2 : decode cX7_put 2 = .ok (.invokevirtual 93, 3) := by decide +kernel
theorem dX7_put_5 : decode cX7_put 5 = .ok (.ifCond .ne 5, 3) := by decide +kernel
theorem dX7_put_8 : decode cX7_put 8 = .ok (.iconst (-1), 1) := by decide +kernel
theorem dX7_put_9 : decode cX7_put 9 = .ok (.ireturn, 1) := by decide +kernel
theorem dX7_put_10 : decode cX7_put 10 = .ok (.iload_n 2, 1) := by decide +kernel
theorem dX7_put_11 : decode cX7_put 11 = .ok (.bipush (-9), 2) := by decide +kernel
theorem dX7_put_13 : decode cX7_put 13 = .ok (.if_icmp .eq 13, 3) := by decide +kernel
theorem dX7_put_16 : decode cX7_put 16 = .ok (.iload_n 2, 1) := by decide +kernel
theorem dX7_put_17 : decode cX7_put 17 = .ok (.invokestatic 97, 3) := by decide +kernel
theorem dX7_put_20 : decode cX7_put 20 = .ok (.ifCond .ne 6, 3) := by decide +kernel
theorem dX7_put_23 : decode cX7_put 23 = .ok (.bipush (-2), 2) := by decide +kernel
theorem dX7_put_25 : decode cX7_put 25 = .ok (.ireturn, 1) := by decide +kernel
theorem dX7_put_26 : decode cX7_put 26 = .ok (.aload_n 0, 1) := by decide +kernel
theorem dX7_put_27 : decode cX7_put 27 = .ok (.getfield 35, 3) := by decide +kernel
theorem dX7_put_30 : decode cX7_put 30 = .ok (.iload_n 1, 1) := by decide +kernel
theorem dX7_put_31 : decode cX7_put 31 = .ok (.iaload, 1) := by decide +kernel
theorem dX7_put_32 : decode cX7_put 32 = .ok (.istore_n 3, 1) := by decide +kernel
theorem dX7_put_33 : decode cX7_put 33 = .ok (.aload_n 0, 1) := by decide +kernel
theorem dX7_put_34 : decode cX7_put 34 = .ok (.getfield 35, 3) := by decide +kernel
theorem dX7_put_37 : decode cX7_put 37 = .ok (.iload_n 1, 1) := by decide +kernel
theorem dX7_put_38 : decode cX7_put 38 = .ok (.iload_n 2, 1) := by decide +kernel
theorem dX7_put_39 : decode cX7_put 39 = .ok (.iastore, 1) := by decide +kernel
theorem dX7_put_40 : decode cX7_put 40 = .ok (.iload_n 3, 1) := by decide +kernel
theorem dX7_put_41 : decode cX7_put 41 = .ok (.ireturn, 1) := by decide +kernel
theorem dX7_hand_0 : decode cX7_hand 0 = .ok (.aload_n 0, 1) := by decide +kernel
theorem dX7_hand_1 : decode cX7_hand 1 = .ok (.iload_n 1, 1) := by decide +kernel
theorem dX7_hand_2 : decode cX7_hand 2 = .ok (.invokevirtual 93, 3) := by decide +kernel
theorem dX7_hand_5 : decode cX7_hand 5 = .ok (.ifCond .eq 12, 3) := by decide +kernel
theorem dX7_hand_8 : decode cX7_hand 8 = .ok (.aload_n 0, 1) := by decide +kernel
theorem dX7_hand_9 : decode cX7_hand 9 = .ok (.getfield 35, 3) := by decide +kernel
theorem dX7_hand_12 : decode cX7_hand 12 = .ok (.iload_n 1, 1) := by decide +kernel
theorem dX7_hand_13 : decode cX7_hand 13 = .ok (.iaload, 1) := by decide +kernel
theorem dX7_hand_14 : decode cX7_hand 14 = .ok (.goto 4, 3) := by decide +kernel
theorem dX7_hand_17 : decode cX7_hand 17 = .ok (.iconst (-1), 1) := by decide +kernel
theorem dX7_hand_18 : decode cX7_hand 18 = .ok (.ireturn, 1) := by decide +kernel
theorem dX7_take_0 : decode cX7_take 0 = .ok (.aload_n 0, 1) := by decide +kernel
theorem dX7_take_1 : decode cX7_take 1 = .ok (.invokevirtual 146, 3) := by decide +kernel
theorem dX7_take_4 : decode cX7_take 4 = .ok (.iconst 0, 1) := by decide +kernel
theorem dX7_take_5 : decode cX7_take 5 = .ok (.istore_n 1, 1) := by decide +kernel
theorem dX7_take_6 : decode cX7_take 6 = .ok (.iconst 0, 1) := by decide +kernel
theorem dX7_take_7 : decode cX7_take 7 = .ok (.istore_n 2, 1) := by decide +kernel
theorem dX7_take_8 : decode cX7_take 8 = .ok (.iload_n 2, 1) := by decide +kernel
theorem dX7_take_9 : decode cX7_take 9 = .ok (.aload_n 0, 1) := by decide +kernel
theorem dX7_take_10 : decode cX7_take 10 = .ok (.getfield 74, 3) := by decide +kernel
theorem dX7_take_13 : decode cX7_take 13 = .ok (.if_icmp .ge 44, 3) := by decide +kernel
theorem dX7_take_16 : decode cX7_take 16 = .ok (.iload_n 1, 1) := by decide +kernel
theorem dX7_take_17 : decode cX7_take 17 = .ok (.aload_n 0, 1) := by decide +kernel
theorem dX7_take_18 : decode cX7_take 18 = .ok (.getfield 35, 3) := by decide +kernel
theorem dX7_take_21 : decode cX7_take 21 = .ok (.iload_n 2, 1) := by decide +kernel
theorem dX7_take_22 : decode cX7_take 22 = .ok (.iaload, 1) := by decide +kernel
theorem dX7_take_23 : decode cX7_take 23 = .ok (.aload_n 0, 1) := by decide +kernel
theorem dX7_take_24 : decode cX7_take 24 = .ok (.getfield 47, 3) := by decide +kernel
theorem dX7_take_27 : decode cX7_take 27 = .ok (.iload_n 2, 1) := by decide +kernel
theorem dX7_take_28 : decode cX7_take 28 = .ok (.iaload, 1) := by decide +kernel
theorem dX7_take_29 : decode cX7_take 29 = .ok (.if_icmp .eq 7, 3) := by decide +kernel
theorem dX7_take_32 : decode cX7_take 32 = .ok (.iconst 1, 1) := by decide +kernel
theorem dX7_take_33 : decode cX7_take 33 = .ok (.goto 4, 3) := by decide +kernel
theorem dX7_take_36 : decode cX7_take 36 = .ok (.iconst 0, 1) := by decide +kernel
theorem dX7_take_37 : decode cX7_take 37 = .ok (.iadd, 1) := by decide +kernel
theorem dX7_take_38 : decode cX7_take 38 = .ok (.istore_n 1, 1) := by decide +kernel
theorem dX7_take_39 : decode cX7_take 39 = .ok (.aload_n 0, 1) := by decide +kernel
theorem dX7_take_40 : decode cX7_take 40 = .ok (.getfield 35, 3) := by decide +kernel
theorem dX7_take_43 : decode cX7_take 43 = .ok (.iload_n 2, 1) := by decide +kernel
theorem dX7_take_44 : decode cX7_take 44 = .ok (.aload_n 0, 1) := by decide +kernel
theorem dX7_take_45 : decode cX7_take 45 = .ok (.getfield 47, 3) := by decide +kernel
theorem dX7_take_48 : decode cX7_take 48 = .ok (.iload_n 2, 1) := by decide +kernel
theorem dX7_take_49 : decode cX7_take 49 = .ok (.iaload, 1) := by decide +kernel
theorem dX7_take_50 : decode cX7_take 50 = .ok (.iastore, 1) := by decide +kernel
theorem dX7_take_51 : decode cX7_take 51 = .ok (.iinc 2 1, 3) := by decide +kernel
theorem dX7_take_54 : decode cX7_take 54 = .ok (.goto (-46), 3) := by decide +kernel
theorem dX7_take_57 : decode cX7_take 57 = .ok (.iload_n 1, 1) := by decide +kernel
theorem dX7_take_58 : decode cX7_take 58 = .ok (.ireturn, 1) := by decide +kernel
theorem dX7_faultsWith_0 : decode cX7_faultsWith 0 = .ok (.aload_n 0, 1) := by decide +kernel
theorem dX7_faultsWith_1 : decode cX7_faultsWith 1 = .ok (.getfield 35, 3) := by decide +kernel
theorem dX7_faultsWith_4 : decode cX7_faultsWith 4 = .ok (.iload_n 1, 1) := by decide +kernel
theorem dX7_faultsWith_5 : decode cX7_faultsWith 5 = .ok (.iaload, 1) := by decide +kernel
theorem dX7_faultsWith_6 : decode cX7_faultsWith 6 = .ok (.bipush (-9), 2) := by decide +kernel
theorem dX7_faultsWith_8 : decode cX7_faultsWith 8 = .ok (.if_icmp .ne 5, 3) := by decide +kernel
theorem dX7_faultsWith_11 : decode cX7_faultsWith 11 = .ok (.iconst 0, 1) := by decide +kernel
theorem dX7_faultsWith_12 : decode cX7_faultsWith 12 = .ok (.ireturn, 1) := by decide +kernel
theorem dX7_faultsWith_13 : decode cX7_faultsWith 13 = .ok (.aload_n 0, 1) := by decide +kernel
theorem dX7_faultsWith_14 : decode cX7_faultsWith 14 = .ok (.iload_n 1, 1) := by decide +kernel
theorem dX7_faultsWith_15 : decode cX7_faultsWith 15 = .ok (.aload_n 0, 1) := by decide +kernel
theorem dX7_faultsWith_16 : decode cX7_faultsWith 16 = .ok (.getfield 35, 3) := by decide +kernel
theorem dX7_faultsWith_19 : decode cX7_faultsWith 19 = .ok (.iload_n 1, 1) := by decide +kernel
theorem dX7_faultsWith_20 : decode cX7_faultsWith 20 = .ok (.iaload, 1) := by decide +kernel
theorem dX7_faultsWith_21 : decode cX7_faultsWith 21 = .ok (.invokevirtual 119, 3) := by decide +kernel
theorem dX7_faultsWith_24 : decode cX7_faultsWith 24 = .ok (.ifCond .eq 7, 3) := by decide +kernel
theorem dX7_faultsWith_27 : decode cX7_faultsWith 27 = .ok (.iconst 0, 1) := by decide +kernel
theorem dX7_faultsWith_28 : decode cX7_faultsWith 28 = .ok (.goto 4, 3) := by decide +kernel
theorem dX7_faultsWith_31 : decode cX7_faultsWith 31 = .ok (.iconst 1, 1) := by decide +kernel
theorem dX7_faultsWith_32 : decode cX7_faultsWith 32 = .ok (.istore_n 2, 1) := by decide +kernel
theorem dX7_faultsWith_33 : decode cX7_faultsWith 33 = .ok (.iconst 0, 1) := by decide +kernel
theorem dX7_faultsWith_34 : decode cX7_faultsWith 34 = .ok (.istore_n 3, 1) := by decide +kernel
theorem dX7_faultsWith_35 : decode cX7_faultsWith 35 = .ok (.iload_n 3, 1) := by decide +kernel
theorem dX7_faultsWith_36 : decode cX7_faultsWith 36 = .ok (.aload_n 0, 1) := by decide +kernel
theorem dX7_faultsWith_37 : decode cX7_faultsWith 37 = .ok (.getfield 74, 3) := by decide +kernel
theorem dX7_faultsWith_40 : decode cX7_faultsWith 40 = .ok (.if_icmp .ge 54, 3) := by decide +kernel
theorem dX7_faultsWith_43 : decode cX7_faultsWith 43 = .ok (.iload_n 2, 1) := by decide +kernel
theorem dX7_faultsWith_44 : decode cX7_faultsWith 44 = .ok (.iload_n 3, 1) := by decide +kernel
theorem dX7_faultsWith_45 : decode cX7_faultsWith 45 = .ok (.iload_n 1, 1) := by decide +kernel
theorem dX7_faultsWith_46 : decode cX7_faultsWith 46 = .ok (.if_icmp .eq 39, 3) := by decide +kernel
theorem dX7_faultsWith_49 : decode cX7_faultsWith 49 = .ok (.aload_n 0, 1) := by decide +kernel
theorem dX7_faultsWith_50 : decode cX7_faultsWith 50 = .ok (.getfield 35, 3) := by decide +kernel
theorem dX7_faultsWith_53 : decode cX7_faultsWith 53 = .ok (.iload_n 3, 1) := by decide +kernel
theorem dX7_faultsWith_54 : decode cX7_faultsWith 54 = .ok (.iaload, 1) := by decide +kernel
theorem dX7_faultsWith_55 : decode cX7_faultsWith 55 = .ok (.bipush (-9), 2) := by decide +kernel
theorem dX7_faultsWith_57 : decode cX7_faultsWith 57 = .ok (.if_icmp .eq 28, 3) := by decide +kernel
theorem dX7_faultsWith_60 : decode cX7_faultsWith 60 = .ok (.aload_n 0, 1) := by decide +kernel
theorem dX7_faultsWith_61 : decode cX7_faultsWith 61 = .ok (.iload_n 1, 1) := by decide +kernel
theorem dX7_faultsWith_62 : decode cX7_faultsWith 62 = .ok (.aload_n 0, 1) := by decide +kernel
theorem dX7_faultsWith_63 : decode cX7_faultsWith 63 = .ok (.getfield 35, 3) := by decide +kernel
theorem dX7_faultsWith_66 : decode cX7_faultsWith 66 = .ok (.iload_n 1, 1) := by decide +kernel
theorem dX7_faultsWith_67 : decode cX7_faultsWith 67 = .ok (.iaload, 1) := by decide +kernel
theorem dX7_faultsWith_68 : decode cX7_faultsWith 68 = .ok (.iload_n 3, 1) := by decide +kernel
theorem dX7_faultsWith_69 : decode cX7_faultsWith 69 = .ok (.aload_n 0, 1) := by decide +kernel
theorem dX7_faultsWith_70 : decode cX7_faultsWith 70 = .ok (.getfield 35, 3) := by decide +kernel
theorem dX7_faultsWith_73 : decode cX7_faultsWith 73 = .ok (.iload_n 3, 1) := by decide +kernel
theorem dX7_faultsWith_74 : decode cX7_faultsWith 74 = .ok (.iaload, 1) := by decide +kernel
theorem dX7_faultsWith_75 : decode cX7_faultsWith 75 = .ok (.invokevirtual 123, 3) := by decide +kernel
theorem dX7_faultsWith_78 : decode cX7_faultsWith 78 = .ok (.ifCond .eq 7, 3) := by decide +kernel
theorem dX7_faultsWith_81 : decode cX7_faultsWith 81 = .ok (.iconst 1, 1) := by decide +kernel
theorem dX7_faultsWith_82 : decode cX7_faultsWith 82 = .ok (.goto 4, 3) := by decide +kernel
theorem dX7_faultsWith_85 : decode cX7_faultsWith 85 = .ok (.iconst 0, 1) := by decide +kernel
theorem dX7_faultsWith_86 : decode cX7_faultsWith 86 = .ok (.iadd, 1) := by decide +kernel
theorem dX7_faultsWith_87 : decode cX7_faultsWith 87 = .ok (.istore_n 2, 1) := by decide +kernel
theorem dX7_faultsWith_88 : decode cX7_faultsWith 88 = .ok (.iinc 3 1, 3) := by decide +kernel
theorem dX7_faultsWith_91 : decode cX7_faultsWith 91 = .ok (.goto (-56), 3) := by decide +kernel
theorem dX7_faultsWith_94 : decode cX7_faultsWith 94 = .ok (.iload_n 2, 1) := by decide +kernel
theorem dX7_faultsWith_95 : decode cX7_faultsWith 95 = .ok (.ireturn, 1) := by decide +kernel
theorem dX7_faultsNow_0 : decode cX7_faultsNow 0 = .ok (.iconst 0, 1) := by decide +kernel
theorem dX7_faultsNow_1 : decode cX7_faultsNow 1 = .ok (.istore_n 1, 1) := by decide +kernel
theorem dX7_faultsNow_2 : decode cX7_faultsNow 2 = .ok (.iconst 0, 1) := by decide +kernel
theorem dX7_faultsNow_3 : decode cX7_faultsNow 3 = .ok (.istore_n 2, 1) := by decide +kernel
theorem dX7_faultsNow_4 : decode cX7_faultsNow 4 = .ok (.iload_n 2, 1) := by decide +kernel
theorem dX7_faultsNow_5 : decode cX7_faultsNow 5 = .ok (.aload_n 0, 1) := by decide +kernel
theorem dX7_faultsNow_6 : decode cX7_faultsNow 6 = .ok (.getfield 74, 3) := by decide +kernel
theorem dX7_faultsNow_9 : decode cX7_faultsNow 9 = .ok (.if_icmp .ge 50, 3) := by decide +kernel
theorem dX7_faultsNow_12 : decode cX7_faultsNow 12 = .ok (.aload_n 0, 1) := by decide +kernel
theorem dX7_faultsNow_13 : decode cX7_faultsNow 13 = .ok (.getfield 35, 3) := by decide +kernel
theorem dX7_faultsNow_16 : decode cX7_faultsNow 16 = .ok (.iload_n 2, 1) := by decide +kernel
theorem dX7_faultsNow_17 : decode cX7_faultsNow 17 = .ok (.iaload, 1) := by decide +kernel
theorem dX7_faultsNow_18 : decode cX7_faultsNow 18 = .ok (.bipush (-9), 2) := by decide +kernel
theorem dX7_faultsNow_20 : decode cX7_faultsNow 20 = .ok (.if_icmp .eq 17, 3) := by decide +kernel
theorem dX7_faultsNow_23 : decode cX7_faultsNow 23 = .ok (.aload_n 0, 1) := by decide +kernel
theorem dX7_faultsNow_24 : decode cX7_faultsNow 24 = .ok (.iload_n 2, 1) := by decide +kernel
theorem dX7_faultsNow_25 : decode cX7_faultsNow 25 = .ok (.aload_n 0, 1) := by decide +kernel
theorem dX7_faultsNow_26 : decode cX7_faultsNow 26 = .ok (.getfield 35, 3) := by decide +kernel
theorem dX7_faultsNow_29 : decode cX7_faultsNow 29 = .ok (.iload_n 2, 1) := by decide +kernel
theorem dX7_faultsNow_30 : decode cX7_faultsNow 30 = .ok (.iaload, 1) := by decide +kernel
theorem dX7_faultsNow_31 : decode cX7_faultsNow 31 = .ok (.invokevirtual 119, 3) := by decide +kernel
theorem dX7_faultsNow_34 : decode cX7_faultsNow 34 = .ok (.ifCond .eq 7, 3) := by decide +kernel
theorem dX7_faultsNow_37 : decode cX7_faultsNow 37 = .ok (.iconst 0, 1) := by decide +kernel
theorem dX7_faultsNow_38 : decode cX7_faultsNow 38 = .ok (.goto 4, 3) := by decide +kernel
theorem dX7_faultsNow_41 : decode cX7_faultsNow 41 = .ok (.iconst 1, 1) := by decide +kernel
theorem dX7_faultsNow_42 : decode cX7_faultsNow 42 = .ok (.istore_n 3, 1) := by decide +kernel
theorem dX7_faultsNow_43 : decode cX7_faultsNow 43 = .ok (.iload_n 1, 1) := by decide +kernel
theorem dX7_faultsNow_44 : decode cX7_faultsNow 44 = .ok (.aload_n 0, 1) := by decide +kernel
theorem dX7_faultsNow_45 : decode cX7_faultsNow 45 = .ok (.iload_n 2, 1) := by decide +kernel
theorem dX7_faultsNow_46 : decode cX7_faultsNow 46 = .ok (.invokevirtual 153, 3) := by decide +kernel
theorem dX7_faultsNow_49 : decode cX7_faultsNow 49 = .ok (.iload_n 3, 1) := by decide +kernel
theorem dX7_faultsNow_50 : decode cX7_faultsNow 50 = .ok (.iadd, 1) := by decide +kernel
theorem dX7_faultsNow_51 : decode cX7_faultsNow 51 = .ok (.iadd, 1) := by decide +kernel
theorem dX7_faultsNow_52 : decode cX7_faultsNow 52 = .ok (.istore_n 1, 1) := by decide +kernel
theorem dX7_faultsNow_53 : decode cX7_faultsNow 53 = .ok (.iinc 2 1, 3) := by decide +kernel
theorem dX7_faultsNow_56 : decode cX7_faultsNow 56 = .ok (.goto (-52), 3) := by decide +kernel
theorem dX7_faultsNow_59 : decode cX7_faultsNow 59 = .ok (.iload_n 1, 1) := by decide +kernel
theorem dX7_faultsNow_60 : decode cX7_faultsNow 60 = .ok (.iconst 2, 1) := by decide +kernel
theorem dX7_faultsNow_61 : decode cX7_faultsNow 61 = .ok (.idiv, 1) := by decide +kernel
theorem dX7_faultsNow_62 : decode cX7_faultsNow 62 = .ok (.ireturn, 1) := by decide +kernel
theorem dX7_faults_0 : decode cX7_faults 0 = .ok (.aload_n 0, 1) := by decide +kernel
theorem dX7_faults_1 : decode cX7_faults 1 = .ok (.invokevirtual 156, 3) := by decide +kernel
theorem dX7_faults_4 : decode cX7_faults 4 = .ok (.ireturn, 1) := by decide +kernel
theorem dX7_faultsOf_0 : decode cX7_faultsOf 0 = .ok (.aload_n 0, 1) := by decide +kernel
theorem dX7_faultsOf_1 : decode cX7_faultsOf 1 = .ok (.iload_n 1, 1) := by decide +kernel
theorem dX7_faultsOf_2 : decode cX7_faultsOf 2 = .ok (.invokevirtual 93, 3) := by decide +kernel
theorem dX7_faultsOf_5 : decode cX7_faultsOf 5 = .ok (.ifCond .eq 11, 3) := by decide +kernel
theorem dX7_faultsOf_8 : decode cX7_faultsOf 8 = .ok (.aload_n 0, 1) := by decide +kernel
theorem dX7_faultsOf_9 : decode cX7_faultsOf 9 = .ok (.iload_n 1, 1) := by decide +kernel
theorem dX7_faultsOf_10 : decode cX7_faultsOf 10 = .ok (.invokevirtual 153, 3) := by decide +kernel
theorem dX7_faultsOf_13 : decode cX7_faultsOf 13 = .ok (.goto 4, 3) := by decide +kernel
theorem dX7_faultsOf_16 : decode cX7_faultsOf 16 = .ok (.iconst (-1), 1) := by decide +kernel
theorem dX7_faultsOf_17 : decode cX7_faultsOf 17 = .ok (.ireturn, 1) := by decide +kernel
theorem dX7_stirOnce_0 : decode cX7_stirOnce 0 = .ok (.aload_n 0, 1) := by decide +kernel
theorem dX7_stirOnce_1 : decode cX7_stirOnce 1 = .ok (.invokevirtual 156, 3) := by decide +kernel
theorem dX7_stirOnce_4 : decode cX7_stirOnce 4 = .ok (.istore_n 1, 1) := by decide +kernel
theorem dX7_stirOnce_5 : decode cX7_stirOnce 5 = .ok (.bipush (-9), 2) := by decide +kernel
theorem dX7_stirOnce_7 : decode cX7_stirOnce 7 = .ok (.istore_n 2, 1) := by decide +kernel
theorem dX7_stirOnce_8 : decode cX7_stirOnce 8 = .ok (.iconst 0, 1) := by decide +kernel
theorem dX7_stirOnce_9 : decode cX7_stirOnce 9 = .ok (.istore_n 3, 1) := by decide +kernel
theorem dX7_stirOnce_10 : decode cX7_stirOnce 10 = .ok (.iload_n 3, 1) := by decide +kernel
theorem dX7_stirOnce_11 : decode cX7_stirOnce 11 = .ok (.aload_n 0, 1) := by decide +kernel
theorem dX7_stirOnce_12 : decode cX7_stirOnce 12 = .ok (.getfield 74, 3) := by decide +kernel
theorem dX7_stirOnce_15 : decode cX7_stirOnce 15 = .ok (.if_icmp .ge 92, 3) := by decide +kernel
theorem dX7_stirOnce_18 : decode cX7_stirOnce 18 = .ok (.aload_n 0, 1) := by decide +kernel
theorem dX7_stirOnce_19 : decode cX7_stirOnce 19 = .ok (.getfield 35, 3) := by decide +kernel
theorem dX7_stirOnce_22 : decode cX7_stirOnce 22 = .ok (.iload_n 3, 1) := by decide +kernel
theorem dX7_stirOnce_23 : decode cX7_stirOnce 23 = .ok (.iaload, 1) := by decide +kernel
theorem dX7_stirOnce_24 : decode cX7_stirOnce 24 = .ok (.istore 4, 2) := by decide +kernel
theorem dX7_stirOnce_26 : decode cX7_stirOnce 26 = .ok (.iconst 0, 1) := by decide +kernel
theorem dX7_stirOnce_27 : decode cX7_stirOnce 27 = .ok (.istore 5, 2) := by decide +kernel
theorem dX7_stirOnce_29 : decode cX7_stirOnce 29 = .ok (.iload 5, 2) := by decide +kernel
theorem dX7_stirOnce_31 : decode cX7_stirOnce 31 = .ok (.iconst 4, 1) := by decide +kernel
theorem dX7_stirOnce_32 : decode cX7_stirOnce 32 = .ok (.if_icmp .ge 61, 3) := by decide +kernel
theorem dX7_stirOnce_35 : decode cX7_stirOnce 35 = .ok (.iload 4, 2) := by decide +kernel
theorem dX7_stirOnce_37 : decode cX7_stirOnce 37 = .ok (.bipush (-9), 2) := by decide +kernel
theorem dX7_stirOnce_39 : decode cX7_stirOnce 39 = .ok (.if_icmp .eq 54, 3) := by decide +kernel
theorem dX7_stirOnce_42 : decode cX7_stirOnce 42 = .ok (.aload_n 0, 1) := by decide +kernel
theorem dX7_stirOnce_43 : decode cX7_stirOnce 43 = .ok (.getfield 35, 3) := by decide +kernel
theorem dX7_stirOnce_46 : decode cX7_stirOnce 46 = .ok (.iload_n 3, 1) := by decide +kernel
theorem dX7_stirOnce_47 : decode cX7_stirOnce 47 = .ok (.iload 5, 2) := by decide +kernel
theorem dX7_stirOnce_49 : decode cX7_stirOnce 49 = .ok (.iastore, 1) := by decide +kernel
theorem dX7_stirOnce_50 : decode cX7_stirOnce 50 = .ok (.aload_n 0, 1) := by decide +kernel
theorem dX7_stirOnce_51 : decode cX7_stirOnce 51 = .ok (.invokevirtual 156, 3) := by decide +kernel
theorem dX7_stirOnce_54 : decode cX7_stirOnce 54 = .ok (.istore 6, 2) := by decide +kernel
theorem dX7_stirOnce_56 : decode cX7_stirOnce 56 = .ok (.iload 6, 2) := by decide +kernel
theorem dX7_stirOnce_58 : decode cX7_stirOnce 58 = .ok (.iload_n 1, 1) := by decide +kernel
theorem dX7_stirOnce_59 : decode cX7_stirOnce 59 = .ok (.if_icmp .ge 13, 3) := by decide +kernel
theorem dX7_stirOnce_62 : decode cX7_stirOnce 62 = .ok (.bipush 10, 2) := by decide +kernel
theorem dX7_stirOnce_64 : decode cX7_stirOnce 64 = .ok (.iload_n 3, 1) := by decide +kernel
theorem dX7_stirOnce_65 : decode cX7_stirOnce 65 = .ok (.imul, 1) := by decide +kernel
theorem dX7_stirOnce_66 : decode cX7_stirOnce 66 = .ok (.iload 5, 2) := by decide +kernel
theorem dX7_stirOnce_68 : decode cX7_stirOnce 68 = .ok (.iadd, 1) := by decide +kernel
theorem dX7_stirOnce_69 : decode cX7_stirOnce 69 = .ok (.goto 4, 3) := by decide +kernel
theorem dX7_stirOnce_72 : decode cX7_stirOnce 72 = .ok (.iload_n 2, 1) := by decide +kernel
theorem dX7_stirOnce_73 : decode cX7_stirOnce 73 = .ok (.istore_n 2, 1) := by decide +kernel
theorem dX7_stirOnce_74 : decode cX7_stirOnce 74 = .ok (.iload 6, 2) := by decide +kernel
theorem dX7_stirOnce_76 : decode cX7_stirOnce 76 = .ok (.iload_n 1, 1) := by decide +kernel
theorem dX7_stirOnce_77 : decode cX7_stirOnce 77 = .ok (.if_icmp .ge 8, 3) := by decide +kernel
theorem dX7_stirOnce_80 : decode cX7_stirOnce 80 = .ok (.iload 6, 2) := by decide +kernel
theorem dX7_stirOnce_82 : decode cX7_stirOnce 82 = .ok (.goto 4, 3) := by decide +kernel
theorem dX7_stirOnce_85 : decode cX7_stirOnce 85 = .ok (.iload_n 1, 1) := by decide +kernel
theorem dX7_stirOnce_86 : decode cX7_stirOnce 86 = .ok (.istore_n 1, 1) := by decide +kernel
theorem dX7_stirOnce_87 : decode cX7_stirOnce 87 = .ok (.iinc 5 1, 3) := by decide +kernel
theorem dX7_stirOnce_90 : decode cX7_stirOnce 90 = .ok (.goto (-61), 3) := by decide +kernel
theorem dX7_stirOnce_93 : decode cX7_stirOnce 93 = .ok (.aload_n 0, 1) := by decide +kernel
theorem dX7_stirOnce_94 : decode cX7_stirOnce 94 = .ok (.getfield 35, 3) := by decide +kernel
theorem dX7_stirOnce_97 : decode cX7_stirOnce 97 = .ok (.iload_n 3, 1) := by decide +kernel
theorem dX7_stirOnce_98 : decode cX7_stirOnce 98 = .ok (.iload 4, 2) := by decide +kernel
theorem dX7_stirOnce_100 : decode cX7_stirOnce 100 = .ok (.iastore, 1) := by decide +kernel
theorem dX7_stirOnce_101 : decode cX7_stirOnce 101 = .ok (.iinc 3 1, 3) := by decide +kernel
theorem dX7_stirOnce_104 : decode cX7_stirOnce 104 = .ok (.goto (-94), 3) := by decide +kernel
theorem dX7_stirOnce_107 : decode cX7_stirOnce 107 = .ok (.iload_n 2, 1) := by decide +kernel
theorem dX7_stirOnce_108 : decode cX7_stirOnce 108 = .ok (.bipush (-9), 2) := by decide +kernel
theorem dX7_stirOnce_110 : decode cX7_stirOnce 110 = .ok (.if_icmp .eq 16, 3) := by decide +kernel
theorem dX7_stirOnce_113 : decode cX7_stirOnce 113 = .ok (.aload_n 0, 1) := by decide +kernel
theorem dX7_stirOnce_114 : decode cX7_stirOnce 114 = .ok (.getfield 35, 3) := by decide +kernel
theorem dX7_stirOnce_117 : decode cX7_stirOnce 117 = .ok (.iload_n 2, 1) := by decide +kernel
theorem dX7_stirOnce_118 : decode cX7_stirOnce 118 = .ok (.bipush 10, 2) := by decide +kernel
theorem dX7_stirOnce_120 : decode cX7_stirOnce 120 = .ok (.idiv, 1) := by decide +kernel
theorem dX7_stirOnce_121 : decode cX7_stirOnce 121 = .ok (.iload_n 2, 1) := by decide +kernel
theorem dX7_stirOnce_122 : decode cX7_stirOnce 122 = .ok (.bipush 10, 2) := by decide +kernel
theorem dX7_stirOnce_124 : decode cX7_stirOnce 124 = .ok (.irem, 1) := by decide +kernel
theorem dX7_stirOnce_125 : decode cX7_stirOnce 125 = .ok (.iastore, 1) := by decide +kernel
theorem dX7_stirOnce_126 : decode cX7_stirOnce 126 = .ok (.iload_n 2, 1) := by decide +kernel
theorem dX7_stirOnce_127 : decode cX7_stirOnce 127 = .ok (.ireturn, 1) := by decide +kernel
theorem dX7_stir_0 : decode cX7_stir 0 = .ok (.aload_n 0, 1) := by decide +kernel
theorem dX7_stir_1 : decode cX7_stir 1 = .ok (.invokevirtual 160, 3) := by decide +kernel
theorem dX7_stir_4 : decode cX7_stir 4 = .ok (.ireturn, 1) := by decide +kernel
theorem dX7_settle_0 : decode cX7_settle 0 = .ok (.iconst 0, 1) := by decide +kernel
theorem dX7_settle_1 : decode cX7_settle 1 = .ok (.istore_n 1, 1) := by decide +kernel
theorem dX7_settle_2 : decode cX7_settle 2 = .ok (.aload_n 0, 1) := by decide +kernel
theorem dX7_settle_3 : decode cX7_settle 3 = .ok (.invokevirtual 160, 3) := by decide +kernel
theorem dX7_settle_6 : decode cX7_settle 6 = .ok (.bipush (-9), 2) := by decide +kernel
theorem dX7_settle_8 : decode cX7_settle 8 = .ok (.if_icmp .eq 9, 3) := by decide +kernel
theorem dX7_settle_11 : decode cX7_settle 11 = .ok (.iinc 1 1, 3) := by decide +kernel
theorem dX7_settle_14 : decode cX7_settle 14 = .ok (.goto (-12), 3) := by decide +kernel
theorem dX7_settle_17 : decode cX7_settle 17 = .ok (.iload_n 1, 1) := by decide +kernel
theorem dX7_settle_18 : decode cX7_settle 18 = .ok (.ireturn, 1) := by decide +kernel
theorem dX7_stands_0 : decode cX7_stands 0 = .ok (.aload_n 0, 1) := by decide +kernel
theorem dX7_stands_1 : decode cX7_stands 1 = .ok (.invokevirtual 156, 3) := by decide +kernel
theorem dX7_stands_4 : decode cX7_stands 4 = .ok (.ifCond .ne 7, 3) := by decide +kernel
theorem dX7_stands_7 : decode cX7_stands 7 = .ok (.iconst 1, 1) := by decide +kernel
theorem dX7_stands_8 : decode cX7_stands 8 = .ok (.goto 4, 3) := by decide +kernel
theorem dX7_stands_11 : decode cX7_stands 11 = .ok (.iconst 0, 1) := by decide +kernel
theorem dX7_stands_12 : decode cX7_stands 12 = .ok (.ireturn, 1) := by decide +kernel
theorem dX7_mayShow_0 : decode cX7_mayShow 0 = .ok (.aload_n 0, 1) := by decide +kernel
theorem dX7_mayShow_1 : decode cX7_mayShow 1 = .ok (.iload_n 1, 1) := by decide +kernel
theorem dX7_mayShow_2 : decode cX7_mayShow 2 = .ok (.iload_n 2, 1) := by decide +kernel
theorem dX7_mayShow_3 : decode cX7_mayShow 3 = .ok (.invokevirtual 119, 3) := by decide +kernel
theorem dX7_mayShow_6 : decode cX7_mayShow 6 = .ok (.istore_n 3, 1) := by decide +kernel
theorem dX7_mayShow_7 : decode cX7_mayShow 7 = .ok (.iconst 0, 1) := by decide +kernel
theorem dX7_mayShow_8 : decode cX7_mayShow 8 = .ok (.istore 4, 2) := by decide +kernel
theorem dX7_mayShow_10 : decode cX7_mayShow 10 = .ok (.iload 4, 2) := by decide +kernel
theorem dX7_mayShow_12 : decode cX7_mayShow 12 = .ok (.aload_n 0, 1) := by decide +kernel
theorem dX7_mayShow_13 : decode cX7_mayShow 13 = .ok (.getfield 74, 3) := by decide +kernel
theorem dX7_mayShow_16 : decode cX7_mayShow 16 = .ok (.if_icmp .ge 49, 3) := by decide +kernel
theorem dX7_mayShow_19 : decode cX7_mayShow 19 = .ok (.iload_n 3, 1) := by decide +kernel
theorem dX7_mayShow_20 : decode cX7_mayShow 20 = .ok (.ifCond .eq 37, 3) := by decide +kernel
theorem dX7_mayShow_23 : decode cX7_mayShow 23 = .ok (.aload_n 0, 1) := by decide +kernel
theorem dX7_mayShow_24 : decode cX7_mayShow 24 = .ok (.getfield 59, 3) := by decide +kernel
theorem dX7_mayShow_27 : decode cX7_mayShow 27 = .ok (.iload 4, 2) := by decide +kernel
theorem dX7_mayShow_29 : decode cX7_mayShow 29 = .ok (.iaload, 1) := by decide +kernel
theorem dX7_mayShow_30 : decode cX7_mayShow 30 = .ok (.bipush (-9), 2) := by decide +kernel
theorem dX7_mayShow_32 : decode cX7_mayShow 32 = .ok (.if_icmp .eq 21, 3) := by decide +kernel
theorem dX7_mayShow_35 : decode cX7_mayShow 35 = .ok (.aload_n 0, 1) := by decide +kernel
theorem dX7_mayShow_36 : decode cX7_mayShow 36 = .ok (.iload_n 1, 1) := by decide +kernel
theorem dX7_mayShow_37 : decode cX7_mayShow 37 = .ok (.iload_n 2, 1) := by decide +kernel
theorem dX7_mayShow_38 : decode cX7_mayShow 38 = .ok (.iload 4, 2) := by decide +kernel
theorem dX7_mayShow_40 : decode cX7_mayShow 40 = .ok (.aload_n 0, 1) := by decide +kernel
theorem dX7_mayShow_41 : decode cX7_mayShow 41 = .ok (.getfield 62, 3) := by decide +kernel
theorem dX7_mayShow_44 : decode cX7_mayShow 44 = .ok (.iload 4, 2) := by decide +kernel
theorem dX7_mayShow_46 : decode cX7_mayShow 46 = .ok (.iaload, 1) := by decide +kernel
theorem dX7_mayShow_47 : decode cX7_mayShow 47 = .ok (.invokevirtual 123, 3) := by decide +kernel
theorem dX7_mayShow_50 : decode cX7_mayShow 50 = .ok (.ifCond .ne 7, 3) := by decide +kernel
theorem dX7_mayShow_53 : decode cX7_mayShow 53 = .ok (.iconst 1, 1) := by decide +kernel
theorem dX7_mayShow_54 : decode cX7_mayShow 54 = .ok (.goto 4, 3) := by decide +kernel
theorem dX7_mayShow_57 : decode cX7_mayShow 57 = .ok (.iconst 0, 1) := by decide +kernel
theorem dX7_mayShow_58 : decode cX7_mayShow 58 = .ok (.istore_n 3, 1) := by decide +kernel
theorem dX7_mayShow_59 : decode cX7_mayShow 59 = .ok (.iinc 4 1, 3) := by decide +kernel
theorem dX7_mayShow_62 : decode cX7_mayShow 62 = .ok (.goto (-52), 3) := by decide +kernel
theorem dX7_mayShow_65 : decode cX7_mayShow 65 = .ok (.iload_n 3, 1) := by decide +kernel
theorem dX7_mayShow_66 : decode cX7_mayShow 66 = .ok (.ireturn, 1) := by decide +kernel
theorem dX7_show_0 : decode cX7_show 0 = .ok (.iconst 0, 1) := by decide +kernel
theorem dX7_show_1 : decode cX7_show 1 = .ok (.istore_n 3, 1) := by decide +kernel
theorem dX7_show_2 : decode cX7_show 2 = .ok (.iload_n 3, 1) := by decide +kernel
theorem dX7_show_3 : decode cX7_show 3 = .ok (.iconst 4, 1) := by decide +kernel
theorem dX7_show_4 : decode cX7_show 4 = .ok (.if_icmp .ge 43, 3) := by decide +kernel
theorem dX7_show_7 : decode cX7_show 7 = .ok (.aload_n 0, 1) := by decide +kernel
theorem dX7_show_8 : decode cX7_show 8 = .ok (.getfield 59, 3) := by decide +kernel
theorem dX7_show_11 : decode cX7_show 11 = .ok (.iload_n 1, 1) := by decide +kernel
theorem dX7_show_12 : decode cX7_show 12 = .ok (.iaload, 1) := by decide +kernel
theorem dX7_show_13 : decode cX7_show 13 = .ok (.bipush (-9), 2) := by decide +kernel
theorem dX7_show_15 : decode cX7_show 15 = .ok (.if_icmp .ne 32, 3) := by decide +kernel
theorem dX7_show_18 : decode cX7_show 18 = .ok (.aload_n 0, 1) := by decide +kernel
theorem dX7_show_19 : decode cX7_show 19 = .ok (.iload_n 1, 1) := by decide +kernel
theorem dX7_show_20 : decode cX7_show 20 = .ok (.iload_n 3, 1) := by decide +kernel
theorem dX7_show_21 : decode cX7_show 21 = .ok (.invokevirtual 163, 3) := by decide +kernel
theorem dX7_show_24 : decode cX7_show 24 = .ok (.ifCond .eq 17, 3) := by decide +kernel
theorem dX7_show_27 : decode cX7_show 27 = .ok (.aload_n 0, 1) := by decide +kernel
theorem dX7_show_28 : decode cX7_show 28 = .ok (.getfield 59, 3) := by decide +kernel
theorem dX7_show_31 : decode cX7_show 31 = .ok (.iload_n 1, 1) := by decide +kernel
theorem dX7_show_32 : decode cX7_show 32 = .ok (.iload_n 2, 1) := by decide +kernel
theorem dX7_show_33 : decode cX7_show 33 = .ok (.iastore, 1) := by decide +kernel
theorem dX7_show_34 : decode cX7_show 34 = .ok (.aload_n 0, 1) := by decide +kernel
theorem dX7_show_35 : decode cX7_show 35 = .ok (.getfield 62, 3) := by decide +kernel
theorem dX7_show_38 : decode cX7_show 38 = .ok (.iload_n 1, 1) := by decide +kernel
theorem dX7_show_39 : decode cX7_show 39 = .ok (.iload_n 3, 1) := by decide +kernel
theorem dX7_show_40 : decode cX7_show 40 = .ok (.iastore, 1) := by decide +kernel
theorem dX7_show_41 : decode cX7_show 41 = .ok (.iinc 3 1, 3) := by decide +kernel
theorem dX7_show_44 : decode cX7_show 44 = .ok (.goto (-42), 3) := by decide +kernel
theorem dX7_show_47 : decode cX7_show 47 = .ok (.return_, 1) := by decide +kernel
theorem dX7_layLevels_0 : decode cX7_layLevels 0 = .ok (.iconst 0, 1) := by decide +kernel
theorem dX7_layLevels_1 : decode cX7_layLevels 1 = .ok (.istore_n 1, 1) := by decide +kernel
theorem dX7_layLevels_2 : decode cX7_layLevels 2 = .ok (.iload_n 1, 1) := by decide +kernel
theorem dX7_layLevels_3 : decode cX7_layLevels 3 = .ok (.aload_n 0, 1) := by decide +kernel
theorem dX7_layLevels_4 : decode cX7_layLevels 4 = .ok (.getfield 74, 3) := by decide +kernel
theorem dX7_layLevels_7 : decode cX7_layLevels 7 = .ok (.if_icmp .ge 25, 3) := by decide +kernel
theorem dX7_layLevels_10 : decode cX7_layLevels 10 = .ok (.aload_n 0, 1) := by decide +kernel
theorem dX7_layLevels_11 : decode cX7_layLevels 11 = .ok (.getfield 59, 3) := by decide +kernel
theorem dX7_layLevels_14 : decode cX7_layLevels 14 = .ok (.iload_n 1, 1) := by decide +kernel
theorem dX7_layLevels_15 : decode cX7_layLevels 15 = .ok (.bipush (-9), 2) := by decide +kernel
theorem dX7_layLevels_17 : decode cX7_layLevels 17 = .ok (.iastore, 1) := by decide +kernel
theorem dX7_layLevels_18 : decode cX7_layLevels 18 = .ok (.aload_n 0, 1) := by decide +kernel
theorem dX7_layLevels_19 : decode cX7_layLevels 19 = .ok (.getfield 62, 3) := by decide +kernel
theorem dX7_layLevels_22 : decode cX7_layLevels 22 = .ok (.iload_n 1, 1) := by decide +kernel
theorem dX7_layLevels_23 : decode cX7_layLevels 23 = .ok (.bipush (-9), 2) := by decide +kernel
theorem dX7_layLevels_25 : decode cX7_layLevels 25 = .ok (.iastore, 1) := by decide +kernel
theorem dX7_layLevels_26 : decode cX7_layLevels 26 = .ok (.iinc 1 1, 3) := by decide +kernel
theorem dX7_layLevels_29 : decode cX7_layLevels 29 = .ok (.goto (-27), 3) := by decide +kernel
theorem dX7_layLevels_32 : decode cX7_layLevels 32 = .ok (.iconst 0, 1) := by decide +kernel
theorem dX7_layLevels_33 : decode cX7_layLevels 33 = .ok (.istore_n 1, 1) := by decide +kernel
theorem dX7_layLevels_34 : decode cX7_layLevels 34 = .ok (.iload_n 1, 1) := by decide +kernel
theorem dX7_layLevels_35 : decode cX7_layLevels 35 = .ok (.bipush 6, 2) := by decide +kernel
theorem dX7_layLevels_37 : decode cX7_layLevels 37 = .ok (.if_icmp .ge 72, 3) := by decide +kernel
theorem dX7_layLevels_40 : decode cX7_layLevels 40 = .ok (.aload_n 0, 1) := by decide +kernel
theorem dX7_layLevels_41 : decode cX7_layLevels 41 = .ok (.iload_n 1, 1) := by decide +kernel
theorem dX7_layLevels_42 : decode cX7_layLevels 42 = .ok (.iconst 1, 1) := by decide +kernel
theorem dX7_layLevels_43 : decode cX7_layLevels 43 = .ok (.iadd, 1) := by decide +kernel
theorem dX7_layLevels_44 : decode cX7_layLevels 44 = .ok (.putfield 41, 3) := by decide +kernel
theorem dX7_layLevels_47 : decode cX7_layLevels 47 = .ok (.bipush 99, 2) := by decide +kernel
theorem dX7_layLevels_49 : decode cX7_layLevels 49 = .ok (.istore_n 2, 1) := by decide +kernel
theorem dX7_layLevels_50 : decode cX7_layLevels 50 = .ok (.iload_n 2, 1) := by decide +kernel
theorem dX7_layLevels_51 : decode cX7_layLevels 51 = .ok (.ifCond .le 52, 3) := by decide +kernel
theorem dX7_layLevels_54 : decode cX7_layLevels 54 = .ok (.iconst 0, 1) := by decide +kernel
theorem dX7_layLevels_55 : decode cX7_layLevels 55 = .ok (.istore_n 3, 1) := by decide +kernel
theorem dX7_layLevels_56 : decode cX7_layLevels 56 = .ok (.iload_n 3, 1) := by decide +kernel
theorem dX7_layLevels_57 : decode cX7_layLevels 57 = .ok (.aload_n 0, 1) := by decide +kernel
theorem dX7_layLevels_58 : decode cX7_layLevels 58 = .ok (.getfield 74, 3) := by decide +kernel
theorem dX7_layLevels_61 : decode cX7_layLevels 61 = .ok (.if_icmp .ge 36, 3) := by decide +kernel
theorem dX7_layLevels_64 : decode cX7_layLevels 64 = .ok (.aload_n 0, 1) := by decide +kernel
theorem dX7_layLevels_65 : decode cX7_layLevels 65 = .ok (.getfield 29, 3) := by decide +kernel
theorem dX7_layLevels_68 : decode cX7_layLevels 68 = .ok (.iload_n 3, 1) := by decide +kernel
theorem dX7_layLevels_69 : decode cX7_layLevels 69 = .ok (.iaload, 1) := by decide +kernel
theorem dX7_layLevels_70 : decode cX7_layLevels 70 = .ok (.iload_n 2, 1) := by decide +kernel
theorem dX7_layLevels_71 : decode cX7_layLevels 71 = .ok (.if_icmp .ne 20, 3) := by decide +kernel
theorem dX7_layLevels_74 : decode cX7_layLevels 74 = .ok (.aload_n 0, 1) := by decide +kernel
theorem dX7_layLevels_75 : decode cX7_layLevels 75 = .ok (.getfield 59, 3) := by decide +kernel
theorem dX7_layLevels_78 : decode cX7_layLevels 78 = .ok (.iload_n 3, 1) := by decide +kernel
theorem dX7_layLevels_79 : decode cX7_layLevels 79 = .ok (.iaload, 1) := by decide +kernel
theorem dX7_layLevels_80 : decode cX7_layLevels 80 = .ok (.bipush (-9), 2) := by decide +kernel
theorem dX7_layLevels_82 : decode cX7_layLevels 82 = .ok (.if_icmp .ne 9, 3) := by decide +kernel
theorem dX7_layLevels_85 : decode cX7_layLevels 85 = .ok (.aload_n 0, 1) := by decide +kernel
theorem dX7_layLevels_86 : decode cX7_layLevels 86 = .ok (.iload_n 3, 1) := by decide +kernel
theorem dX7_layLevels_87 : decode cX7_layLevels 87 = .ok (.iload_n 1, 1) := by decide +kernel
theorem dX7_layLevels_88 : decode cX7_layLevels 88 = .ok (.invokevirtual 166, 3) := by decide +kernel
theorem dX7_layLevels_91 : decode cX7_layLevels 91 = .ok (.iinc 3 1, 3) := by decide +kernel
theorem dX7_layLevels_94 : decode cX7_layLevels 94 = .ok (.goto (-38), 3) := by decide +kernel
theorem dX7_layLevels_97 : decode cX7_layLevels 97 = .ok (.iinc 2 (-1), 3) := by decide +kernel
theorem dX7_layLevels_100 : decode cX7_layLevels 100 = .ok (.goto (-50), 3) := by decide +kernel
theorem dX7_layLevels_103 : decode cX7_layLevels 103 = .ok (.iinc 1 1, 3) := by decide +kernel
theorem dX7_layLevels_106 : decode cX7_layLevels 106 = .ok (.goto (-72), 3) := by decide +kernel
theorem dX7_layLevels_109 : decode cX7_layLevels 109 = .ok (.aload_n 0, 1) := by decide +kernel
theorem dX7_layLevels_110 : decode cX7_layLevels 110 = .ok (.iconst 1, 1) := by decide +kernel
theorem dX7_layLevels_111 : decode cX7_layLevels 111 = .ok (.putfield 41, 3) := by decide +kernel
theorem dX7_layLevels_114 : decode cX7_layLevels 114 = .ok (.return_, 1) := by decide +kernel
theorem dX7_shown_0 : decode cX7_shown 0 = .ok (.iload_n 1, 1) := by decide +kernel
theorem dX7_shown_1 : decode cX7_shown 1 = .ok (.i2l, 1) := by decide +kernel
theorem dX7_shown_2 : decode cX7_shown 2 = .ok (.lconst 0, 1) := by decide +kernel
theorem dX7_shown_3 : decode cX7_shown 3 = .ok (.ldc2_w 170, 3) := by decide +kernel
theorem dX7_shown_6 : decode cX7_shown 6 = .ok (.invokestatic 77, 3) := by decide +kernel
theorem dX7_shown_9 : decode cX7_shown 9 = .ok (.ifCond .ne 6, 3) := by decide +kernel
theorem dX7_shown_12 : decode cX7_shown 12 = .ok (.bipush (-2), 2) := by decide +kernel
theorem dX7_shown_14 : decode cX7_shown 14 = .ok (.ireturn, 1) := by decide +kernel
theorem dX7_shown_15 : decode cX7_shown 15 = .ok (.aload_n 0, 1) := by decide +kernel
theorem dX7_shown_16 : decode cX7_shown 16 = .ok (.invokevirtual 172, 3) := by decide +kernel
theorem dX7_shown_19 : decode cX7_shown 19 = .ok (.iconst 0, 1) := by decide +kernel
theorem dX7_shown_20 : decode cX7_shown 20 = .ok (.istore_n 2, 1) := by decide +kernel
theorem dX7_shown_21 : decode cX7_shown 21 = .ok (.iconst 0, 1) := by decide +kernel
theorem dX7_shown_22 : decode cX7_shown 22 = .ok (.istore_n 3, 1) := by decide +kernel
theorem dX7_shown_23 : decode cX7_shown 23 = .ok (.iload_n 3, 1) := by decide +kernel
theorem dX7_shown_24 : decode cX7_shown 24 = .ok (.aload_n 0, 1) := by decide +kernel
theorem dX7_shown_25 : decode cX7_shown 25 = .ok (.getfield 74, 3) := by decide +kernel
theorem dX7_shown_28 : decode cX7_shown 28 = .ok (.if_icmp .ge 38, 3) := by decide +kernel
theorem dX7_shown_31 : decode cX7_shown 31 = .ok (.iload_n 2, 1) := by decide +kernel
theorem dX7_shown_32 : decode cX7_shown 32 = .ok (.aload_n 0, 1) := by decide +kernel
theorem dX7_shown_33 : decode cX7_shown 33 = .ok (.getfield 59, 3) := by decide +kernel
theorem dX7_shown_36 : decode cX7_shown 36 = .ok (.iload_n 3, 1) := by decide +kernel
theorem dX7_shown_37 : decode cX7_shown 37 = .ok (.iaload, 1) := by decide +kernel
theorem dX7_shown_38 : decode cX7_shown 38 = .ok (.bipush (-9), 2) := by decide +kernel
theorem dX7_shown_40 : decode cX7_shown 40 = .ok (.if_icmp .eq 17, 3) := by decide +kernel
theorem dX7_shown_43 : decode cX7_shown 43 = .ok (.aload_n 0, 1) := by decide +kernel
theorem dX7_shown_44 : decode cX7_shown 44 = .ok (.getfield 59, 3) := by decide +kernel
theorem dX7_shown_47 : decode cX7_shown 47 = .ok (.iload_n 3, 1) := by decide +kernel
theorem dX7_shown_48 : decode cX7_shown 48 = .ok (.iaload, 1) := by decide +kernel
theorem dX7_shown_49 : decode cX7_shown 49 = .ok (.iload_n 1, 1) := by decide +kernel
theorem dX7_shown_50 : decode cX7_shown 50 = .ok (.if_icmp .gt 7, 3) := by decide +kernel
theorem dX7_shown_53 : decode cX7_shown 53 = .ok (.iconst 1, 1) := by decide +kernel
theorem dX7_shown_54 : decode cX7_shown 54 = .ok (.goto 4, 3) := by decide +kernel
theorem dX7_shown_57 : decode cX7_shown 57 = .ok (.iconst 0, 1) := by decide +kernel
theorem dX7_shown_58 : decode cX7_shown 58 = .ok (.iadd, 1) := by decide +kernel
theorem dX7_shown_59 : decode cX7_shown 59 = .ok (.istore_n 2, 1) := by decide +kernel
theorem dX7_shown_60 : decode cX7_shown 60 = .ok (.iinc 3 1, 3) := by decide +kernel
theorem dX7_shown_63 : decode cX7_shown 63 = .ok (.goto (-40), 3) := by decide +kernel
theorem dX7_shown_66 : decode cX7_shown 66 = .ok (.iload_n 2, 1) := by decide +kernel
theorem dX7_shown_67 : decode cX7_shown 67 = .ok (.ireturn, 1) := by decide +kernel
theorem dX7_comes_0 : decode cX7_comes 0 = .ok (.aload_n 0, 1) := by decide +kernel
theorem dX7_comes_1 : decode cX7_comes 1 = .ok (.iload_n 1, 1) := by decide +kernel
theorem dX7_comes_2 : decode cX7_comes 2 = .ok (.invokevirtual 93, 3) := by decide +kernel
theorem dX7_comes_5 : decode cX7_comes 5 = .ok (.ifCond .ne 5, 3) := by decide +kernel
theorem dX7_comes_8 : decode cX7_comes 8 = .ok (.iconst (-1), 1) := by decide +kernel
theorem dX7_comes_9 : decode cX7_comes 9 = .ok (.ireturn, 1) := by decide +kernel
theorem dX7_comes_10 : decode cX7_comes 10 = .ok (.aload_n 0, 1) := by decide +kernel
theorem dX7_comes_11 : decode cX7_comes 11 = .ok (.invokevirtual 172, 3) := by decide +kernel
theorem dX7_comes_14 : decode cX7_comes 14 = .ok (.aload_n 0, 1) := by decide +kernel
theorem dX7_comes_15 : decode cX7_comes 15 = .ok (.getfield 59, 3) := by decide +kernel
theorem dX7_comes_18 : decode cX7_comes 18 = .ok (.iload_n 1, 1) := by decide +kernel
theorem dX7_comes_19 : decode cX7_comes 19 = .ok (.iaload, 1) := by decide +kernel
theorem dX7_comes_20 : decode cX7_comes 20 = .ok (.ireturn, 1) := by decide +kernel
theorem dX7_shownAt_0 : decode cX7_shownAt 0 = .ok (.aload_n 0, 1) := by decide +kernel
theorem dX7_shownAt_1 : decode cX7_shownAt 1 = .ok (.iload_n 1, 1) := by decide +kernel
theorem dX7_shownAt_2 : decode cX7_shownAt 2 = .ok (.invokevirtual 93, 3) := by decide +kernel
theorem dX7_shownAt_5 : decode cX7_shownAt 5 = .ok (.ifCond .ne 5, 3) := by decide +kernel
theorem dX7_shownAt_8 : decode cX7_shownAt 8 = .ok (.iconst (-1), 1) := by decide +kernel
theorem dX7_shownAt_9 : decode cX7_shownAt 9 = .ok (.ireturn, 1) := by decide +kernel
theorem dX7_shownAt_10 : decode cX7_shownAt 10 = .ok (.aload_n 0, 1) := by decide +kernel
theorem dX7_shownAt_11 : decode cX7_shownAt 11 = .ok (.invokevirtual 172, 3) := by decide +kernel
theorem dX7_shownAt_14 : decode cX7_shownAt 14 = .ok (.aload_n 0, 1) := by decide +kernel
theorem dX7_shownAt_15 : decode cX7_shownAt 15 = .ok (.getfield 62, 3) := by decide +kernel
theorem dX7_shownAt_18 : decode cX7_shownAt 18 = .ok (.iload_n 1, 1) := by decide +kernel
theorem dX7_shownAt_19 : decode cX7_shownAt 19 = .ok (.iaload, 1) := by decide +kernel
theorem dX7_shownAt_20 : decode cX7_shownAt 20 = .ok (.ireturn, 1) := by decide +kernel
theorem dX7_isBetween_0 : decode cX7_isBetween 0 = .ok (.iload_n 1, 1) := by decide +kernel
theorem dX7_isBetween_1 : decode cX7_isBetween 1 = .ok (.iload_n 2, 1) := by decide +kernel
theorem dX7_isBetween_2 : decode cX7_isBetween 2 = .ok (.if_icmp .ge 15, 3) := by decide +kernel
theorem dX7_isBetween_5 : decode cX7_isBetween 5 = .ok (.iload_n 0, 1) := by decide +kernel
theorem dX7_isBetween_6 : decode cX7_isBetween 6 = .ok (.i2l, 1) := by decide +kernel
theorem dX7_isBetween_7 : decode cX7_isBetween 7 = .ok (.iload_n 1, 1) := by decide +kernel
theorem dX7_isBetween_8 : decode cX7_isBetween 8 = .ok (.i2l, 1) := by decide +kernel
theorem dX7_isBetween_9 : decode cX7_isBetween 9 = .ok (.iload_n 2, 1) := by decide +kernel
theorem dX7_isBetween_10 : decode cX7_isBetween 10 = .ok (.i2l, 1) := by decide +kernel
theorem dX7_isBetween_11 : decode cX7_isBetween 11 = .ok (.invokestatic 77, 3) := by decide +kernel
theorem dX7_isBetween_14 : decode cX7_isBetween 14 = .ok (.goto 12, 3) := by decide +kernel
theorem dX7_isBetween_17 : decode cX7_isBetween 17 = .ok (.iload_n 0, 1) := by decide +kernel
theorem dX7_isBetween_18 : decode cX7_isBetween 18 = .ok (.i2l, 1) := by decide +kernel
theorem dX7_isBetween_19 : decode cX7_isBetween 19 = .ok (.iload_n 2, 1) := by decide +kernel
theorem dX7_isBetween_20 : decode cX7_isBetween 20 = .ok (.i2l, 1) := by decide +kernel
theorem dX7_isBetween_21 : decode cX7_isBetween 21 = .ok (.iload_n 1, 1) := by decide +kernel
theorem dX7_isBetween_22 : decode cX7_isBetween 22 = .ok (.i2l, 1) := by decide +kernel
theorem dX7_isBetween_23 : decode cX7_isBetween 23 = .ok (.invokestatic 77, 3) := by decide +kernel
theorem dX7_isBetween_26 : decode cX7_isBetween 26 = .ok (.ireturn, 1) := by decide +kernel
theorem dX7_lineCrosses_0 : decode cX7_lineCrosses 0 = .ok (.iload_n 2, 1) := by decide +kernel
theorem dX7_lineCrosses_1 : decode cX7_lineCrosses 1 = .ok (.iload 4, 2) := by decide +kernel
theorem dX7_lineCrosses_3 : decode cX7_lineCrosses 3 = .ok (.if_icmp .ne 5, 3) := by decide +kernel
theorem dX7_lineCrosses_6 : decode cX7_lineCrosses 6 = .ok (.iconst 1, 1) := by decide +kernel
theorem dX7_lineCrosses_7 : decode cX7_lineCrosses 7 = .ok (.ireturn, 1) := by decide +kernel
theorem dX7_lineCrosses_8 : decode cX7_lineCrosses 8 = .ok (.aload_n 0, 1) := by decide +kernel
theorem dX7_lineCrosses_9 : decode cX7_lineCrosses 9 = .ok (.getfield 16, 3) := by decide +kernel
theorem dX7_lineCrosses_12 : decode cX7_lineCrosses 12 = .ok (.iload_n 1, 1) := by decide +kernel
theorem dX7_lineCrosses_13 : decode cX7_lineCrosses 13 = .ok (.iaload, 1) := by decide +kernel
theorem dX7_lineCrosses_14 : decode cX7_lineCrosses 14 = .ok (.aload_n 0, 1) := by decide +kernel
theorem dX7_lineCrosses_15 : decode cX7_lineCrosses 15 = .ok (.getfield 16, 3) := by decide +kernel
theorem dX7_lineCrosses_18 : decode cX7_lineCrosses 18 = .ok (.iload_n 3, 1) := by decide +kernel
theorem dX7_lineCrosses_19 : decode cX7_lineCrosses 19 = .ok (.iaload, 1) := by decide +kernel
theorem dX7_lineCrosses_20 : decode cX7_lineCrosses 20 = .ok (.if_icmp .lt 22, 3) := by decide +kernel
theorem dX7_lineCrosses_23 : decode cX7_lineCrosses 23 = .ok (.iload 4, 2) := by decide +kernel
theorem dX7_lineCrosses_25 : decode cX7_lineCrosses 25 = .ok (.aload_n 0, 1) := by decide +kernel
theorem dX7_lineCrosses_26 : decode cX7_lineCrosses 26 = .ok (.getfield 20, 3) := by decide +kernel
theorem dX7_lineCrosses_29 : decode cX7_lineCrosses 29 = .ok (.iload_n 1, 1) := by decide +kernel
theorem dX7_lineCrosses_30 : decode cX7_lineCrosses 30 = .ok (.iaload, 1) := by decide +kernel
theorem dX7_lineCrosses_31 : decode cX7_lineCrosses 31 = .ok (.iload_n 2, 1) := by decide +kernel
theorem dX7_lineCrosses_32 : decode cX7_lineCrosses 32 = .ok (.invokestatic 175, 3) := by decide +kernel
theorem dX7_lineCrosses_35 : decode cX7_lineCrosses 35 = .ok (.ifCond .eq 7, 3) := by decide +kernel
theorem dX7_lineCrosses_38 : decode cX7_lineCrosses 38 = .ok (.iconst 1, 1) := by decide +kernel
theorem dX7_lineCrosses_39 : decode cX7_lineCrosses 39 = .ok (.goto 4, 3) := by decide +kernel
theorem dX7_lineCrosses_42 : decode cX7_lineCrosses 42 = .ok (.iconst 0, 1) := by decide +kernel
theorem dX7_lineCrosses_43 : decode cX7_lineCrosses 43 = .ok (.istore 5, 2) := by decide +kernel
theorem dX7_lineCrosses_45 : decode cX7_lineCrosses 45 = .ok (.aload_n 0, 1) := by decide +kernel
theorem dX7_lineCrosses_46 : decode cX7_lineCrosses 46 = .ok (.getfield 16, 3) := by decide +kernel
theorem dX7_lineCrosses_49 : decode cX7_lineCrosses 49 = .ok (.iload_n 3, 1) := by decide +kernel
theorem dX7_lineCrosses_50 : decode cX7_lineCrosses 50 = .ok (.iaload, 1) := by decide +kernel
theorem dX7_lineCrosses_51 : decode cX7_lineCrosses 51 = .ok (.aload_n 0, 1) := by decide +kernel
theorem dX7_lineCrosses_52 : decode cX7_lineCrosses 52 = .ok (.getfield 16, 3) := by decide +kernel
theorem dX7_lineCrosses_55 : decode cX7_lineCrosses 55 = .ok (.iload_n 1, 1) := by decide +kernel
theorem dX7_lineCrosses_56 : decode cX7_lineCrosses 56 = .ok (.iaload, 1) := by decide +kernel
theorem dX7_lineCrosses_57 : decode cX7_lineCrosses 57 = .ok (.if_icmp .lt 22, 3) := by decide +kernel
theorem dX7_lineCrosses_60 : decode cX7_lineCrosses 60 = .ok (.iload_n 2, 1) := by decide +kernel
theorem dX7_lineCrosses_61 : decode cX7_lineCrosses 61 = .ok (.aload_n 0, 1) := by decide +kernel
theorem dX7_lineCrosses_62 : decode cX7_lineCrosses 62 = .ok (.getfield 20, 3) := by decide +kernel
theorem dX7_lineCrosses_65 : decode cX7_lineCrosses 65 = .ok (.iload_n 3, 1) := by decide +kernel
theorem dX7_lineCrosses_66 : decode cX7_lineCrosses 66 = .ok (.iaload, 1) := by decide +kernel
theorem dX7_lineCrosses_67 : decode cX7_lineCrosses 67 = .ok (.iload 4, 2) := by decide +kernel
theorem dX7_lineCrosses_69 : decode cX7_lineCrosses 69 = .ok (.invokestatic 175, 3) := by decide +kernel
theorem dX7_lineCrosses_72 : decode cX7_lineCrosses 72 = .ok (.ifCond .eq 7, 3) := by decide +kernel
theorem dX7_lineCrosses_75 : decode cX7_lineCrosses 75 = .ok (.iconst 1, 1) := by decide +kernel
theorem dX7_lineCrosses_76 : decode cX7_lineCrosses 76 = .ok (.goto 4, 3) := by decide +kernel
theorem dX7_lineCrosses_79 : decode cX7_lineCrosses 79 = .ok (.iconst 0, 1) := by decide +kernel
theorem dX7_lineCrosses_80 : decode cX7_lineCrosses 80 = .ok (.istore 6, 2) := by decide +kernel
theorem dX7_lineCrosses_82 : decode cX7_lineCrosses 82 = .ok (.aload_n 0, 1) := by decide +kernel
theorem dX7_lineCrosses_83 : decode cX7_lineCrosses 83 = .ok (.getfield 16, 3) := by decide +kernel
theorem dX7_lineCrosses_86 : decode cX7_lineCrosses 86 = .ok (.iload_n 1, 1) := by decide +kernel
theorem dX7_lineCrosses_87 : decode cX7_lineCrosses 87 = .ok (.iaload, 1) := by decide +kernel
theorem dX7_lineCrosses_88 : decode cX7_lineCrosses 88 = .ok (.aload_n 0, 1) := by decide +kernel
theorem dX7_lineCrosses_89 : decode cX7_lineCrosses 89 = .ok (.getfield 16, 3) := by decide +kernel
theorem dX7_lineCrosses_92 : decode cX7_lineCrosses 92 = .ok (.iload_n 3, 1) := by decide +kernel
theorem dX7_lineCrosses_93 : decode cX7_lineCrosses 93 = .ok (.iaload, 1) := by decide +kernel
theorem dX7_lineCrosses_94 : decode cX7_lineCrosses 94 = .ok (.if_icmp .ne 46, 3) := by decide +kernel
theorem dX7_lineCrosses_97 : decode cX7_lineCrosses 97 = .ok (.aload_n 0, 1) := by decide +kernel
theorem dX7_lineCrosses_98 : decode cX7_lineCrosses 98 = .ok (.getfield 20, 3) := by decide +kernel
theorem dX7_lineCrosses_101 : decode cX7_lineCrosses 101 = .ok (.iload_n 1, 1) := by decide +kernel
theorem dX7_lineCrosses_102 : decode cX7_lineCrosses 102 = .ok (.iaload, 1) := by decide +kernel
theorem dX7_lineCrosses_103 : decode cX7_lineCrosses 103 = .ok (.aload_n 0, 1) := by decide +kernel
theorem dX7_lineCrosses_104 : decode cX7_lineCrosses 104 = .ok (.getfield 20, 3) := by decide +kernel
theorem dX7_lineCrosses_107 : decode cX7_lineCrosses 107 = .ok (.iload_n 3, 1) := by decide +kernel
theorem dX7_lineCrosses_108 : decode cX7_lineCrosses 108 = .ok (.iaload, 1) := by decide +kernel
theorem dX7_lineCrosses_109 : decode cX7_lineCrosses 109 = .ok (.iload 4, 2) := by decide +kernel
theorem dX7_lineCrosses_111 : decode cX7_lineCrosses 111 = .ok (.invokestatic 175, 3) := by decide +kernel
theorem dX7_lineCrosses_114 : decode cX7_lineCrosses 114 = .ok (.ifCond .ne 22, 3) := by decide +kernel
theorem dX7_lineCrosses_117 : decode cX7_lineCrosses 117 = .ok (.aload_n 0, 1) := by decide +kernel
theorem dX7_lineCrosses_118 : decode cX7_lineCrosses 118 = .ok (.getfield 20, 3) := by decide +kernel
theorem dX7_lineCrosses_121 : decode cX7_lineCrosses 121 = .ok (.iload_n 3, 1) := by decide +kernel
theorem dX7_lineCrosses_122 : decode cX7_lineCrosses 122 = .ok (.iaload, 1) := by decide +kernel
theorem dX7_lineCrosses_123 : decode cX7_lineCrosses 123 = .ok (.aload_n 0, 1) := by decide +kernel
theorem dX7_lineCrosses_124 : decode cX7_lineCrosses 124 = .ok (.getfield 20, 3) := by decide +kernel
theorem dX7_lineCrosses_127 : decode cX7_lineCrosses 127 = .ok (.iload_n 1, 1) := by decide +kernel
theorem dX7_lineCrosses_128 : decode cX7_lineCrosses 128 = .ok (.iaload, 1) := by decide +kernel
theorem dX7_lineCrosses_129 : decode cX7_lineCrosses 129 = .ok (.iload_n 2, 1) := by decide +kernel
theorem dX7_lineCrosses_130 : decode cX7_lineCrosses 130 = .ok (.invokestatic 175, 3) := by decide +kernel
theorem dX7_lineCrosses_133 : decode cX7_lineCrosses 133 = .ok (.ifCond .eq 7, 3) := by decide +kernel
theorem dX7_lineCrosses_136 : decode cX7_lineCrosses 136 = .ok (.iconst 1, 1) := by decide +kernel
theorem dX7_lineCrosses_137 : decode cX7_lineCrosses 137 = .ok (.goto 4, 3) := by decide +kernel
theorem dX7_lineCrosses_140 : decode cX7_lineCrosses 140 = .ok (.iconst 0, 1) := by decide +kernel
theorem dX7_lineCrosses_141 : decode cX7_lineCrosses 141 = .ok (.istore 7, 2) := by decide +kernel
theorem dX7_lineCrosses_143 : decode cX7_lineCrosses 143 = .ok (.iload 5, 2) := by decide +kernel
theorem dX7_lineCrosses_145 : decode cX7_lineCrosses 145 = .ok (.ifCond .ne 13, 3) := by decide +kernel
theorem dX7_lineCrosses_148 : decode cX7_lineCrosses 148 = .ok (.iload 6, 2) := by decide +kernel
theorem dX7_lineCrosses_150 : decode cX7_lineCrosses 150 = .ok (.ifCond .ne 8, 3) := by decide +kernel
theorem dX7_lineCrosses_153 : decode cX7_lineCrosses 153 = .ok (.iload 7, 2) := by decide +kernel
theorem dX7_lineCrosses_155 : decode cX7_lineCrosses 155 = .ok (.ifCond .eq 7, 3) := by decide +kernel
theorem dX7_lineCrosses_158 : decode cX7_lineCrosses 158 = .ok (.iconst 1, 1) := by decide +kernel
theorem dX7_lineCrosses_159 : decode cX7_lineCrosses 159 = .ok (.goto 4, 3) := by decide +kernel
theorem dX7_lineCrosses_162 : decode cX7_lineCrosses 162 = .ok (.iconst 0, 1) := by decide +kernel
theorem dX7_lineCrosses_163 : decode cX7_lineCrosses 163 = .ok (.ireturn, 1) := by decide +kernel
theorem dX7_lengthOf_0 : decode cX7_lengthOf 0 = .ok (.aload_n 0, 1) := by decide +kernel
theorem dX7_lengthOf_1 : decode cX7_lengthOf 1 = .ok (.getfield 20, 3) := by decide +kernel
theorem dX7_lengthOf_4 : decode cX7_lengthOf 4 = .ok (.iload_n 1, 1) := by decide +kernel
theorem dX7_lengthOf_5 : decode cX7_lengthOf 5 = .ok (.iaload, 1) := by decide +kernel
theorem dX7_lengthOf_6 : decode cX7_lengthOf 6 = .ok (.iload_n 2, 1) := by decide +kernel
theorem dX7_lengthOf_7 : decode cX7_lengthOf 7 = .ok (.if_icmp .ge 14, 3) := by decide +kernel
theorem dX7_lengthOf_10 : decode cX7_lengthOf 10 = .ok (.iload_n 2, 1) := by decide +kernel
theorem dX7_lengthOf_11 : decode cX7_lengthOf 11 = .ok (.aload_n 0, 1) := by decide +kernel
theorem dX7_lengthOf_12 : decode cX7_lengthOf 12 = .ok (.getfield 20, 3) := by decide +kernel
theorem dX7_lengthOf_15 : decode cX7_lengthOf 15 = .ok (.iload_n 1, 1) := by decide +kernel
theorem dX7_lengthOf_16 : decode cX7_lengthOf 16 = .ok (.iaload, 1) := by decide +kernel
theorem dX7_lengthOf_17 : decode cX7_lengthOf 17 = .ok (.isub, 1) := by decide +kernel
theorem dX7_lengthOf_18 : decode cX7_lengthOf 18 = .ok (.goto 11, 3) := by decide +kernel
theorem dX7_lengthOf_21 : decode cX7_lengthOf 21 = .ok (.aload_n 0, 1) := by decide +kernel
theorem dX7_lengthOf_22 : decode cX7_lengthOf 22 = .ok (.getfield 20, 3) := by decide +kernel
theorem dX7_lengthOf_25 : decode cX7_lengthOf 25 = .ok (.iload_n 1, 1) := by decide +kernel
theorem dX7_lengthOf_26 : decode cX7_lengthOf 26 = .ok (.iaload, 1) := by decide +kernel
theorem dX7_lengthOf_27 : decode cX7_lengthOf 27 = .ok (.iload_n 2, 1) := by decide +kernel
theorem dX7_lengthOf_28 : decode cX7_lengthOf 28 = .ok (.isub, 1) := by decide +kernel
theorem dX7_lengthOf_29 : decode cX7_lengthOf 29 = .ok (.istore_n 3, 1) := by decide +kernel
theorem dX7_lengthOf_30 : decode cX7_lengthOf 30 = .ok (.iload_n 3, 1) := by decide +kernel
theorem dX7_lengthOf_31 : decode cX7_lengthOf 31 = .ok (.aload_n 0, 1) := by decide +kernel
theorem dX7_lengthOf_32 : decode cX7_lengthOf 32 = .ok (.getfield 7, 3) := by decide +kernel
theorem dX7_lengthOf_35 : decode cX7_lengthOf 35 = .ok (.iadd, 1) := by decide +kernel
theorem dX7_lengthOf_36 : decode cX7_lengthOf 36 = .ok (.aload_n 0, 1) := by decide +kernel
theorem dX7_lengthOf_37 : decode cX7_lengthOf 37 = .ok (.getfield 16, 3) := by decide +kernel
theorem dX7_lengthOf_40 : decode cX7_lengthOf 40 = .ok (.iload_n 1, 1) := by decide +kernel
theorem dX7_lengthOf_41 : decode cX7_lengthOf 41 = .ok (.iaload, 1) := by decide +kernel
theorem dX7_lengthOf_42 : decode cX7_lengthOf 42 = .ok (.isub, 1) := by decide +kernel
theorem dX7_lengthOf_43 : decode cX7_lengthOf 43 = .ok (.ireturn, 1) := by decide +kernel
theorem dX7_isDeal_0 : decode cX7_isDeal 0 = .ok (.iconst 0, 1) := by decide +kernel
theorem dX7_isDeal_1 : decode cX7_isDeal 1 = .ok (.istore_n 1, 1) := by decide +kernel
theorem dX7_isDeal_2 : decode cX7_isDeal 2 = .ok (.iconst 0, 1) := by decide +kernel
theorem dX7_isDeal_3 : decode cX7_isDeal 3 = .ok (.istore_n 2, 1) := by decide +kernel
theorem dX7_isDeal_4 : decode cX7_isDeal 4 = .ok (.iload_n 2, 1) := by decide +kernel
theorem dX7_isDeal_5 : decode cX7_isDeal 5 = .ok (.aload_n 0, 1) := by decide +kernel
theorem dX7_isDeal_6 : decode cX7_isDeal 6 = .ok (.getfield 179, 3) := by decide +kernel
theorem dX7_isDeal_9 : decode cX7_isDeal 9 = .ok (.if_icmp .ge 20, 3) := by decide +kernel
theorem dX7_isDeal_12 : decode cX7_isDeal 12 = .ok (.iload_n 1, 1) := by decide +kernel
theorem dX7_isDeal_13 : decode cX7_isDeal 13 = .ok (.iconst 1, 1) := by decide +kernel
theorem dX7_isDeal_14 : decode cX7_isDeal 14 = .ok (.aload_n 0, 1) := by decide +kernel
theorem dX7_isDeal_15 : decode cX7_isDeal 15 = .ok (.getfield 68, 3) := by decide +kernel
theorem dX7_isDeal_18 : decode cX7_isDeal 18 = .ok (.iload_n 2, 1) := by decide +kernel
theorem dX7_isDeal_19 : decode cX7_isDeal 19 = .ok (.iaload, 1) := by decide +kernel
theorem dX7_isDeal_20 : decode cX7_isDeal 20 = .ok (.ishl, 1) := by decide +kernel
theorem dX7_isDeal_21 : decode cX7_isDeal 21 = .ok (.ior, 1) := by decide +kernel
theorem dX7_isDeal_22 : decode cX7_isDeal 22 = .ok (.istore_n 1, 1) := by decide +kernel
theorem dX7_isDeal_23 : decode cX7_isDeal 23 = .ok (.iinc 2 1, 3) := by decide +kernel
theorem dX7_isDeal_26 : decode cX7_isDeal 26 = .ok (.goto (-22), 3) := by decide +kernel
theorem dX7_isDeal_29 : decode cX7_isDeal 29 = .ok (.iload_n 1, 1) := by decide +kernel
theorem dX7_isDeal_30 : decode cX7_isDeal 30 = .ok (.iconst 1, 1) := by decide +kernel
theorem dX7_isDeal_31 : decode cX7_isDeal 31 = .ok (.aload_n 0, 1) := by decide +kernel
theorem dX7_isDeal_32 : decode cX7_isDeal 32 = .ok (.getfield 179, 3) := by decide +kernel
theorem dX7_isDeal_35 : decode cX7_isDeal 35 = .ok (.ishl, 1) := by decide +kernel
theorem dX7_isDeal_36 : decode cX7_isDeal 36 = .ok (.iconst 1, 1) := by decide +kernel
theorem dX7_isDeal_37 : decode cX7_isDeal 37 = .ok (.isub, 1) := by decide +kernel
theorem dX7_isDeal_38 : decode cX7_isDeal 38 = .ok (.if_icmp .ne 7, 3) := by decide +kernel
theorem dX7_isDeal_41 : decode cX7_isDeal 41 = .ok (.iconst 1, 1) := by decide +kernel
theorem dX7_isDeal_42 : decode cX7_isDeal 42 = .ok (.goto 4, 3) := by decide +kernel
theorem dX7_isDeal_45 : decode cX7_isDeal 45 = .ok (.iconst 0, 1) := by decide +kernel
theorem dX7_isDeal_46 : decode cX7_isDeal 46 = .ok (.ireturn, 1) := by decide +kernel
theorem dX7_weigh_0 : decode cX7_weigh 0 = .ok (.iconst 0, 1) := by decide +kernel
theorem dX7_weigh_1 : decode cX7_weigh 1 = .ok (.istore_n 1, 1) := by decide +kernel
theorem dX7_weigh_2 : decode cX7_weigh 2 = .ok (.iconst 0, 1) := by decide +kernel
theorem dX7_weigh_3 : decode cX7_weigh 3 = .ok (.istore_n 2, 1) := by decide +kernel
theorem dX7_weigh_4 : decode cX7_weigh 4 = .ok (.iconst 0, 1) := by decide +kernel
theorem dX7_weigh_5 : decode cX7_weigh 5 = .ok (.istore_n 3, 1) := by decide +kernel
theorem dX7_weigh_6 : decode cX7_weigh 6 = .ok (.iload_n 3, 1) := by decide +kernel
theorem dX7_weigh_7 : decode cX7_weigh 7 = .ok (.aload_n 0, 1) := by decide +kernel
theorem dX7_weigh_8 : decode cX7_weigh 8 = .ok (.getfield 179, 3) := by decide +kernel
theorem dX7_weigh_11 : decode cX7_weigh 11 = .ok (.if_icmp .ge 104, 3) := by decide +kernel
theorem dX7_weigh_14 : decode cX7_weigh 14 = .ok (.aload_n 0, 1) := by decide +kernel
theorem dX7_weigh_15 : decode cX7_weigh 15 = .ok (.getfield 68, 3) := by decide +kernel
theorem dX7_weigh_18 : decode cX7_weigh 18 = .ok (.iload_n 3, 1) := by decide +kernel
theorem dX7_weigh_19 : decode cX7_weigh 19 = .ok (.iaload, 1) := by decide +kernel
theorem dX7_weigh_20 : decode cX7_weigh 20 = .ok (.aload_n 0, 1) := by decide +kernel
theorem dX7_weigh_21 : decode cX7_weigh 21 = .ok (.getfield 13, 3) := by decide +kernel
theorem dX7_weigh_24 : decode cX7_weigh 24 = .ok (.imul, 1) := by decide +kernel
theorem dX7_weigh_25 : decode cX7_weigh 25 = .ok (.aload_n 0, 1) := by decide +kernel
theorem dX7_weigh_26 : decode cX7_weigh 26 = .ok (.getfield 179, 3) := by decide +kernel
theorem dX7_weigh_29 : decode cX7_weigh 29 = .ok (.idiv, 1) := by decide +kernel
theorem dX7_weigh_30 : decode cX7_weigh 30 = .ok (.istore 4, 2) := by decide +kernel
theorem dX7_weigh_32 : decode cX7_weigh 32 = .ok (.iload_n 2, 1) := by decide +kernel
theorem dX7_weigh_33 : decode cX7_weigh 33 = .ok (.aload_n 0, 1) := by decide +kernel
theorem dX7_weigh_34 : decode cX7_weigh 34 = .ok (.aload_n 0, 1) := by decide +kernel
theorem dX7_weigh_35 : decode cX7_weigh 35 = .ok (.getfield 65, 3) := by decide +kernel
theorem dX7_weigh_38 : decode cX7_weigh 38 = .ok (.iload_n 3, 1) := by decide +kernel
theorem dX7_weigh_39 : decode cX7_weigh 39 = .ok (.iaload, 1) := by decide +kernel
theorem dX7_weigh_40 : decode cX7_weigh 40 = .ok (.iload 4, 2) := by decide +kernel
theorem dX7_weigh_42 : decode cX7_weigh 42 = .ok (.invokevirtual 182, 3) := by decide +kernel
theorem dX7_weigh_45 : decode cX7_weigh 45 = .ok (.iadd, 1) := by decide +kernel
theorem dX7_weigh_46 : decode cX7_weigh 46 = .ok (.istore_n 2, 1) := by decide +kernel
theorem dX7_weigh_47 : decode cX7_weigh 47 = .ok (.iconst 0, 1) := by decide +kernel
theorem dX7_weigh_48 : decode cX7_weigh 48 = .ok (.istore 5, 2) := by decide +kernel
theorem dX7_weigh_50 : decode cX7_weigh 50 = .ok (.iload 5, 2) := by decide +kernel
theorem dX7_weigh_52 : decode cX7_weigh 52 = .ok (.iload_n 3, 1) := by decide +kernel
theorem dX7_weigh_53 : decode cX7_weigh 53 = .ok (.if_icmp .ge 56, 3) := by decide +kernel
theorem dX7_weigh_56 : decode cX7_weigh 56 = .ok (.iload_n 1, 1) := by decide +kernel
theorem dX7_weigh_57 : decode cX7_weigh 57 = .ok (.aload_n 0, 1) := by decide +kernel
theorem dX7_weigh_58 : decode cX7_weigh 58 = .ok (.aload_n 0, 1) := by decide +kernel
theorem dX7_weigh_59 : decode cX7_weigh 59 = .ok (.getfield 65, 3) := by decide +kernel
theorem dX7_weigh_62 : decode cX7_weigh 62 = .ok (.iload_n 3, 1) := by decide +kernel
theorem dX7_weigh_63 : decode cX7_weigh 63 = .ok (.iaload, 1) := by decide +kernel
theorem dX7_weigh_64 : decode cX7_weigh 64 = .ok (.iload 4, 2) := by decide +kernel
theorem dX7_weigh_66 : decode cX7_weigh 66 = .ok (.aload_n 0, 1) := by decide +kernel
theorem dX7_weigh_67 : decode cX7_weigh 67 = .ok (.getfield 65, 3) := by decide +kernel
theorem dX7_weigh_70 : decode cX7_weigh 70 = .ok (.iload 5, 2) := by decide +kernel
theorem dX7_weigh_72 : decode cX7_weigh 72 = .ok (.iaload, 1) := by decide +kernel
theorem dX7_weigh_73 : decode cX7_weigh 73 = .ok (.aload_n 0, 1) := by decide +kernel
theorem dX7_weigh_74 : decode cX7_weigh 74 = .ok (.getfield 68, 3) := by decide +kernel
theorem dX7_weigh_77 : decode cX7_weigh 77 = .ok (.iload 5, 2) := by decide +kernel
theorem dX7_weigh_79 : decode cX7_weigh 79 = .ok (.iaload, 1) := by decide +kernel
theorem dX7_weigh_80 : decode cX7_weigh 80 = .ok (.aload_n 0, 1) := by decide +kernel
theorem dX7_weigh_81 : decode cX7_weigh 81 = .ok (.getfield 13, 3) := by decide +kernel
theorem dX7_weigh_84 : decode cX7_weigh 84 = .ok (.imul, 1) := by decide +kernel
theorem dX7_weigh_85 : decode cX7_weigh 85 = .ok (.aload_n 0, 1) := by decide +kernel
theorem dX7_weigh_86 : decode cX7_weigh 86 = .ok (.getfield 179, 3) := by decide +kernel
theorem dX7_weigh_89 : decode cX7_weigh 89 = .ok (.idiv, 1) := by decide +kernel
theorem dX7_weigh_90 : decode cX7_weigh 90 = .ok (.invokevirtual 185, 3) := by decide +kernel
theorem dX7_weigh_93 : decode cX7_weigh 93 = .ok (.ifCond .eq 7, 3) := by decide +kernel
theorem dX7_weigh_96 : decode cX7_weigh 96 = .ok (.iconst 1, 1) := by decide +kernel
theorem dX7_weigh_97 : decode cX7_weigh 97 = .ok (.goto 4, 3) := by decide +kernel
theorem dX7_weigh_100 : decode cX7_weigh 100 = .ok (.iconst 0, 1) := by decide +kernel
theorem dX7_weigh_101 : decode cX7_weigh 101 = .ok (.iadd, 1) := by decide +kernel
theorem dX7_weigh_102 : decode cX7_weigh 102 = .ok (.istore_n 1, 1) := by decide +kernel
theorem dX7_weigh_103 : decode cX7_weigh 103 = .ok (.iinc 5 1, 3) := by decide +kernel
theorem dX7_weigh_106 : decode cX7_weigh 106 = .ok (.goto (-56), 3) := by decide +kernel
theorem dX7_weigh_109 : decode cX7_weigh 109 = .ok (.iinc 3 1, 3) := by decide +kernel
theorem dX7_weigh_112 : decode cX7_weigh 112 = .ok (.goto (-106), 3) := by decide +kernel
theorem dX7_weigh_115 : decode cX7_weigh 115 = .ok (.iload_n 1, 1) := by decide +kernel
theorem dX7_weigh_116 : decode cX7_weigh 116 = .ok (.aload_n 0, 1) := by decide +kernel
theorem dX7_weigh_117 : decode cX7_weigh 117 = .ok (.getfield 188, 3) := by decide +kernel
theorem dX7_weigh_120 : decode cX7_weigh 120 = .ok (.if_icmp .lt 19, 3) := by decide +kernel
theorem dX7_weigh_123 : decode cX7_weigh 123 = .ok (.iload_n 1, 1) := by decide +kernel
theorem dX7_weigh_124 : decode cX7_weigh 124 = .ok (.aload_n 0, 1) := by decide +kernel
theorem dX7_weigh_125 : decode cX7_weigh 125 = .ok (.getfield 188, 3) := by decide +kernel
theorem dX7_weigh_128 : decode cX7_weigh 128 = .ok (.if_icmp .ne 49, 3) := by decide +kernel
theorem dX7_weigh_131 : decode cX7_weigh 131 = .ok (.iload_n 2, 1) := by decide +kernel
theorem dX7_weigh_132 : decode cX7_weigh 132 = .ok (.aload_n 0, 1) := by decide +kernel
theorem dX7_weigh_133 : decode cX7_weigh 133 = .ok (.getfield 191, 3) := by decide +kernel
theorem dX7_weigh_136 : decode cX7_weigh 136 = .ok (.if_icmp .ge 41, 3) := by decide +kernel
theorem dX7_weigh_139 : decode cX7_weigh 139 = .ok (.aload_n 0, 1) := by decide +kernel
theorem dX7_weigh_140 : decode cX7_weigh 140 = .ok (.iload_n 1, 1) := by decide +kernel
theorem dX7_weigh_141 : decode cX7_weigh 141 = .ok (.putfield 188, 3) := by decide +kernel
theorem dX7_weigh_144 : decode cX7_weigh 144 = .ok (.aload_n 0, 1) := by decide +kernel
theorem dX7_weigh_145 : decode cX7_weigh 145 = .ok (.iload_n 2, 1) := by decide +kernel
theorem dX7_weigh_146 : decode cX7_weigh 146 = .ok (.putfield 191, 3) := by decide +kernel
theorem dX7_weigh_149 : decode cX7_weigh 149 = .ok (.iconst 0, 1) := by decide +kernel
theorem dX7_weigh_150 : decode cX7_weigh 150 = .ok (.istore_n 3, 1) := by decide +kernel
theorem dX7_weigh_151 : decode cX7_weigh 151 = .ok (.iload_n 3, 1) := by decide +kernel
theorem dX7_weigh_152 : decode cX7_weigh 152 = .ok (.aload_n 0, 1) := by decide +kernel
theorem dX7_weigh_153 : decode cX7_weigh 153 = .ok (.getfield 179, 3) := by decide +kernel
theorem dX7_weigh_156 : decode cX7_weigh 156 = .ok (.if_icmp .ge 21, 3) := by decide +kernel
theorem dX7_weigh_159 : decode cX7_weigh 159 = .ok (.aload_n 0, 1) := by decide +kernel
theorem dX7_weigh_160 : decode cX7_weigh 160 = .ok (.getfield 71, 3) := by decide +kernel
theorem dX7_weigh_163 : decode cX7_weigh 163 = .ok (.iload_n 3, 1) := by decide +kernel
theorem dX7_weigh_164 : decode cX7_weigh 164 = .ok (.aload_n 0, 1) := by decide +kernel
theorem dX7_weigh_165 : decode cX7_weigh 165 = .ok (.getfield 68, 3) := by decide +kernel
theorem dX7_weigh_168 : decode cX7_weigh 168 = .ok (.iload_n 3, 1) := by decide +kernel
theorem dX7_weigh_169 : decode cX7_weigh 169 = .ok (.iaload, 1) := by decide +kernel
theorem dX7_weigh_170 : decode cX7_weigh 170 = .ok (.iastore, 1) := by decide +kernel
theorem dX7_weigh_171 : decode cX7_weigh 171 = .ok (.iinc 3 1, 3) := by decide +kernel
theorem dX7_weigh_174 : decode cX7_weigh 174 = .ok (.goto (-23), 3) := by decide +kernel
theorem dX7_weigh_177 : decode cX7_weigh 177 = .ok (.return_, 1) := by decide +kernel
theorem dX7_layDeal_0 : decode cX7_layDeal 0 = .ok (.aload_n 0, 1) := by decide +kernel
theorem dX7_layDeal_1 : decode cX7_layDeal 1 = .ok (.iconst 0, 1) := by decide +kernel
theorem dX7_layDeal_2 : decode cX7_layDeal 2 = .ok (.putfield 179, 3) := by decide +kernel
theorem dX7_layDeal_5 : decode cX7_layDeal 5 = .ok (.iconst 1, 1) := by decide +kernel
theorem dX7_layDeal_6 : decode cX7_layDeal 6 = .ok (.istore_n 2, 1) := by decide +kernel
theorem dX7_layDeal_7 : decode cX7_layDeal 7 = .ok (.iconst 0, 1) := by decide +kernel
theorem dX7_layDeal_8 : decode cX7_layDeal 8 = .ok (.istore_n 3, 1) := by decide +kernel
theorem dX7_layDeal_9 : decode cX7_layDeal 9 = .ok (.iload_n 3, 1) := by decide +kernel
theorem dX7_layDeal_10 : decode cX7_layDeal 10 = .ok (.aload_n 0, 1) := by decide +kernel
theorem dX7_layDeal_11 : decode cX7_layDeal 11 = .ok (.getfield 74, 3) := by decide +kernel
theorem dX7_layDeal_14 : decode cX7_layDeal 14 = .ok (.if_icmp .ge 38, 3) := by decide +kernel
theorem dX7_layDeal_17 : decode cX7_layDeal 17 = .ok (.iload_n 1, 1) := by decide +kernel
theorem dX7_layDeal_18 : decode cX7_layDeal 18 = .ok (.iload_n 3, 1) := by decide +kernel
theorem dX7_layDeal_19 : decode cX7_layDeal 19 = .ok (.ishr, 1) := by decide +kernel
theorem dX7_layDeal_20 : decode cX7_layDeal 20 = .ok (.iconst 1, 1) := by decide +kernel
theorem dX7_layDeal_21 : decode cX7_layDeal 21 = .ok (.iand, 1) := by decide +kernel
theorem dX7_layDeal_22 : decode cX7_layDeal 22 = .ok (.iconst 1, 1) := by decide +kernel
theorem dX7_layDeal_23 : decode cX7_layDeal 23 = .ok (.if_icmp .ne 23, 3) := by decide +kernel
theorem dX7_layDeal_26 : decode cX7_layDeal 26 = .ok (.aload_n 0, 1) := by decide +kernel
theorem dX7_layDeal_27 : decode cX7_layDeal 27 = .ok (.getfield 65, 3) := by decide +kernel
theorem dX7_layDeal_30 : decode cX7_layDeal 30 = .ok (.aload_n 0, 1) := by decide +kernel
theorem dX7_layDeal_31 : decode cX7_layDeal 31 = .ok (.getfield 179, 3) := by decide +kernel
theorem dX7_layDeal_34 : decode cX7_layDeal 34 = .ok (.iload_n 3, 1) := by decide +kernel
theorem dX7_layDeal_35 : decode cX7_layDeal 35 = .ok (.iastore, 1) := by decide +kernel
theorem dX7_layDeal_36 : decode cX7_layDeal 36 = .ok (.aload_n 0, 1) := by decide +kernel
theorem dX7_layDeal_37 : decode cX7_layDeal 37 = .ok (.dup, 1) := by decide +kernel
theorem dX7_layDeal_38 : decode cX7_layDeal 38 = .ok (.getfield 179, 3) := by decide +kernel
theorem dX7_layDeal_41 : decode cX7_layDeal 41 = .ok (.iconst 1, 1) := by decide +kernel
theorem dX7_layDeal_42 : decode cX7_layDeal 42 = .ok (.iadd, 1) := by decide +kernel
theorem dX7_layDeal_43 : decode cX7_layDeal 43 = .ok (.putfield 179, 3) := by decide +kernel
theorem dX7_layDeal_46 : decode cX7_layDeal 46 = .ok (.iinc 3 1, 3) := by decide +kernel
theorem dX7_layDeal_49 : decode cX7_layDeal 49 = .ok (.goto (-40), 3) := by decide +kernel
theorem dX7_layDeal_52 : decode cX7_layDeal 52 = .ok (.iconst 0, 1) := by decide +kernel
theorem dX7_layDeal_53 : decode cX7_layDeal 53 = .ok (.istore_n 3, 1) := by decide +kernel
theorem dX7_layDeal_54 : decode cX7_layDeal 54 = .ok (.iload_n 3, 1) := by decide +kernel
theorem dX7_layDeal_55 : decode cX7_layDeal 55 = .ok (.aload_n 0, 1) := by decide +kernel
theorem dX7_layDeal_56 : decode cX7_layDeal 56 = .ok (.getfield 179, 3) := by decide +kernel
theorem dX7_layDeal_59 : decode cX7_layDeal 59 = .ok (.if_icmp .ge 16, 3) := by decide +kernel
theorem dX7_layDeal_62 : decode cX7_layDeal 62 = .ok (.iload_n 2, 1) := by decide +kernel
theorem dX7_layDeal_63 : decode cX7_layDeal 63 = .ok (.aload_n 0, 1) := by decide +kernel
theorem dX7_layDeal_64 : decode cX7_layDeal 64 = .ok (.getfield 179, 3) := by decide +kernel
theorem dX7_layDeal_67 : decode cX7_layDeal 67 = .ok (.imul, 1) := by decide +kernel
theorem dX7_layDeal_68 : decode cX7_layDeal 68 = .ok (.istore_n 2, 1) := by decide +kernel
theorem dX7_layDeal_69 : decode cX7_layDeal 69 = .ok (.iinc 3 1, 3) := by decide +kernel
theorem dX7_layDeal_72 : decode cX7_layDeal 72 = .ok (.goto (-18), 3) := by decide +kernel
theorem dX7_layDeal_75 : decode cX7_layDeal 75 = .ok (.aload_n 0, 1) := by decide +kernel
theorem dX7_layDeal_76 : decode cX7_layDeal 76 = .ok (.sipush 1000, 3) := by decide +kernel
theorem dX7_layDeal_79 : decode cX7_layDeal 79 = .ok (.putfield 188, 3) := by decide +kernel
theorem dX7_layDeal_82 : decode cX7_layDeal 82 = .ok (.aload_n 0, 1) := by decide +kernel
theorem dX7_layDeal_83 : decode cX7_layDeal 83 = .ok (.iconst 0, 1) := by decide +kernel
theorem dX7_layDeal_84 : decode cX7_layDeal 84 = .ok (.putfield 191, 3) := by decide +kernel
theorem dX7_layDeal_87 : decode cX7_layDeal 87 = .ok (.iconst 0, 1) := by decide +kernel
theorem dX7_layDeal_88 : decode cX7_layDeal 88 = .ok (.istore_n 3, 1) := by decide +kernel
theorem dX7_layDeal_89 : decode cX7_layDeal 89 = .ok (.iload_n 3, 1) := by decide +kernel
theorem dX7_layDeal_90 : decode cX7_layDeal 90 = .ok (.iload_n 2, 1) := by decide +kernel
theorem dX7_layDeal_91 : decode cX7_layDeal 91 = .ok (.if_icmp .ge 65, 3) := by decide +kernel
theorem dX7_layDeal_94 : decode cX7_layDeal 94 = .ok (.iload_n 3, 1) := by decide +kernel
theorem dX7_layDeal_95 : decode cX7_layDeal 95 = .ok (.istore 4, 2) := by decide +kernel
theorem dX7_layDeal_97 : decode cX7_layDeal 97 = .ok (.aload_n 0, 1) := by decide +kernel
theorem dX7_layDeal_98 : decode cX7_layDeal 98 = .ok (.getfield 179, 3) := by decide +kernel
theorem dX7_layDeal_101 : decode cX7_layDeal 101 = .ok (.iconst 1, 1) := by decide +kernel
theorem dX7_layDeal_102 : decode cX7_layDeal 102 = .ok (.isub, 1) := by decide +kernel
theorem dX7_layDeal_103 : decode cX7_layDeal 103 = .ok (.istore 5, 2) := by decide +kernel
theorem dX7_layDeal_105 : decode cX7_layDeal 105 = .ok (.iload 5, 2) := by decide +kernel
theorem dX7_layDeal_107 : decode cX7_layDeal 107 = .ok (.ifCond .lt 32, 3) := by decide +kernel
theorem dX7_layDeal_110 : decode cX7_layDeal 110 = .ok (.aload_n 0, 1) := by decide +kernel
theorem dX7_layDeal_111 : decode cX7_layDeal 111 = .ok (.getfield 68, 3) := by decide +kernel
theorem dX7_layDeal_114 : decode cX7_layDeal 114 = .ok (.iload 5, 2) := by decide +kernel
theorem dX7_layDeal_116 : decode cX7_layDeal 116 = .ok (.iload 4, 2) := by decide +kernel
theorem dX7_layDeal_118 : decode cX7_layDeal 118 = .ok (.aload_n 0, 1) := by decide +kernel
theorem dX7_layDeal_119 : decode cX7_layDeal 119 = .ok (.getfield 179, 3) := by decide +kernel
theorem dX7_layDeal_122 : decode cX7_layDeal 122 = .ok (.irem, 1) := by decide +kernel
theorem dX7_layDeal_123 : decode cX7_layDeal 123 = .ok (.iastore, 1) := by decide +kernel
theorem dX7_layDeal_124 : decode cX7_layDeal 124 = .ok (.iload 4, 2) := by decide +kernel
theorem dX7_layDeal_126 : decode cX7_layDeal 126 = .ok (.aload_n 0, 1) := by decide +kernel
theorem dX7_layDeal_127 : decode cX7_layDeal 127 = .ok (.getfield 179, 3) := by decide +kernel
theorem dX7_layDeal_130 : decode cX7_layDeal 130 = .ok (.idiv, 1) := by decide +kernel
theorem dX7_layDeal_131 : decode cX7_layDeal 131 = .ok (.istore 4, 2) := by decide +kernel
theorem dX7_layDeal_133 : decode cX7_layDeal 133 = .ok (.iinc 5 (-1), 3) := by decide +kernel
theorem dX7_layDeal_136 : decode cX7_layDeal 136 = .ok (.goto (-31), 3) := by decide +kernel
theorem dX7_layDeal_139 : decode cX7_layDeal 139 = .ok (.aload_n 0, 1) := by decide +kernel
theorem dX7_layDeal_140 : decode cX7_layDeal 140 = .ok (.invokevirtual 194, 3) := by decide +kernel
theorem dX7_layDeal_143 : decode cX7_layDeal 143 = .ok (.ifCond .eq 7, 3) := by decide +kernel
theorem dX7_layDeal_146 : decode cX7_layDeal 146 = .ok (.aload_n 0, 1) := by decide +kernel
theorem dX7_layDeal_147 : decode cX7_layDeal 147 = .ok (.invokevirtual 198, 3) := by decide +kernel
theorem dX7_layDeal_150 : decode cX7_layDeal 150 = .ok (.iinc 3 1, 3) := by decide +kernel
theorem dX7_layDeal_153 : decode cX7_layDeal 153 = .ok (.goto (-64), 3) := by decide +kernel
theorem dX7_layDeal_156 : decode cX7_layDeal 156 = .ok (.return_, 1) := by decide +kernel
theorem dX7_isSet_0 : decode cX7_isSet 0 = .ok (.iconst 0, 1) := by decide +kernel
theorem dX7_isSet_1 : decode cX7_isSet 1 = .ok (.istore_n 2, 1) := by decide +kernel
theorem dX7_isSet_2 : decode cX7_isSet 2 = .ok (.iconst 0, 1) := by decide +kernel
theorem dX7_isSet_3 : decode cX7_isSet 3 = .ok (.istore_n 3, 1) := by decide +kernel
theorem dX7_isSet_4 : decode cX7_isSet 4 = .ok (.iload_n 3, 1) := by decide +kernel
theorem dX7_isSet_5 : decode cX7_isSet 5 = .ok (.bipush 8, 2) := by decide +kernel
theorem dX7_isSet_7 : decode cX7_isSet 7 = .ok (.if_icmp .ge 17, 3) := by decide +kernel
theorem dX7_isSet_10 : decode cX7_isSet 10 = .ok (.iload_n 2, 1) := by decide +kernel
theorem dX7_isSet_11 : decode cX7_isSet 11 = .ok (.iload_n 1, 1) := by decide +kernel
theorem dX7_isSet_12 : decode cX7_isSet 12 = .ok (.iload_n 3, 1) := by decide +kernel
theorem dX7_isSet_13 : decode cX7_isSet 13 = .ok (.ishr, 1) := by decide +kernel
theorem dX7_isSet_14 : decode cX7_isSet 14 = .ok (.iconst 1, 1) := by decide +kernel
theorem dX7_isSet_15 : decode cX7_isSet 15 = .ok (.iand, 1) := by decide +kernel
theorem dX7_isSet_16 : decode cX7_isSet 16 = .ok (.iadd, 1) := by decide +kernel
theorem dX7_isSet_17 : decode cX7_isSet 17 = .ok (.istore_n 2, 1) := by decide +kernel
theorem dX7_isSet_18 : decode cX7_isSet 18 = .ok (.iinc 3 1, 3) := by decide +kernel
theorem dX7_isSet_21 : decode cX7_isSet 21 = .ok (.goto (-17), 3) := by decide +kernel
theorem dX7_isSet_24 : decode cX7_isSet 24 = .ok (.iload_n 1, 1) := by decide +kernel
theorem dX7_isSet_25 : decode cX7_isSet 25 = .ok (.i2l, 1) := by decide +kernel
theorem dX7_isSet_26 : decode cX7_isSet 26 = .ok (.lconst 0, 1) := by decide +kernel
theorem dX7_isSet_27 : decode cX7_isSet 27 = .ok (.iconst 1, 1) := by decide +kernel
theorem dX7_isSet_28 : decode cX7_isSet 28 = .ok (.aload_n 0, 1) := by decide +kernel
theorem dX7_isSet_29 : decode cX7_isSet 29 = .ok (.getfield 74, 3) := by decide +kernel
theorem dX7_isSet_32 : decode cX7_isSet 32 = .ok (.ishl, 1) := by decide +kernel
theorem dX7_isSet_33 : decode cX7_isSet 33 = .ok (.iconst 1, 1) := by decide +kernel
theorem dX7_isSet_34 : decode cX7_isSet 34 = .ok (.isub, 1) := by decide +kernel
theorem dX7_isSet_35 : decode cX7_isSet 35 = .ok (.i2l, 1) := by decide +kernel
theorem dX7_isSet_36 : decode cX7_isSet 36 = .ok (.invokestatic 77, 3) := by decide +kernel
theorem dX7_isSet_39 : decode cX7_isSet 39 = .ok (.ifCond .eq 13, 3) := by decide +kernel
theorem dX7_isSet_42 : decode cX7_isSet 42 = .ok (.iload_n 2, 1) := by decide +kernel
theorem dX7_isSet_43 : decode cX7_isSet 43 = .ok (.bipush 7, 2) := by decide +kernel
theorem dX7_isSet_45 : decode cX7_isSet 45 = .ok (.if_icmp .ge 7, 3) := by decide +kernel
theorem dX7_isSet_48 : decode cX7_isSet 48 = .ok (.iconst 1, 1) := by decide +kernel
theorem dX7_isSet_49 : decode cX7_isSet 49 = .ok (.goto 4, 3) := by decide +kernel
theorem dX7_isSet_52 : decode cX7_isSet 52 = .ok (.iconst 0, 1) := by decide +kernel
theorem dX7_isSet_53 : decode cX7_isSet 53 = .ok (.ireturn, 1) := by decide +kernel
theorem dX7_crosses_0 : decode cX7_crosses 0 = .ok (.aload_n 0, 1) := by decide +kernel
theorem dX7_crosses_1 : decode cX7_crosses 1 = .ok (.iload_n 1, 1) := by decide +kernel
theorem dX7_crosses_2 : decode cX7_crosses 2 = .ok (.invokevirtual 201, 3) := by decide +kernel
theorem dX7_crosses_5 : decode cX7_crosses 5 = .ok (.ifCond .ne 6, 3) := by decide +kernel
theorem dX7_crosses_8 : decode cX7_crosses 8 = .ok (.bipush (-2), 2) := by decide +kernel
theorem dX7_crosses_10 : decode cX7_crosses 10 = .ok (.ireturn, 1) := by decide +kernel
theorem dX7_crosses_11 : decode cX7_crosses 11 = .ok (.aload_n 0, 1) := by decide +kernel
theorem dX7_crosses_12 : decode cX7_crosses 12 = .ok (.iload_n 1, 1) := by decide +kernel
theorem dX7_crosses_13 : decode cX7_crosses 13 = .ok (.invokevirtual 204, 3) := by decide +kernel
theorem dX7_crosses_16 : decode cX7_crosses 16 = .ok (.aload_n 0, 1) := by decide +kernel
theorem dX7_crosses_17 : decode cX7_crosses 17 = .ok (.getfield 188, 3) := by decide +kernel
theorem dX7_crosses_20 : decode cX7_crosses 20 = .ok (.ireturn, 1) := by decide +kernel
theorem dX7_length_0 : decode cX7_length 0 = .ok (.aload_n 0, 1) := by decide +kernel
theorem dX7_length_1 : decode cX7_length 1 = .ok (.iload_n 1, 1) := by decide +kernel
theorem dX7_length_2 : decode cX7_length 2 = .ok (.invokevirtual 201, 3) := by decide +kernel
theorem dX7_length_5 : decode cX7_length 5 = .ok (.ifCond .ne 6, 3) := by decide +kernel
theorem dX7_length_8 : decode cX7_length 8 = .ok (.bipush (-2), 2) := by decide +kernel
theorem dX7_length_10 : decode cX7_length 10 = .ok (.ireturn, 1) := by decide +kernel
theorem dX7_length_11 : decode cX7_length 11 = .ok (.aload_n 0, 1) := by decide +kernel
theorem dX7_length_12 : decode cX7_length 12 = .ok (.iload_n 1, 1) := by decide +kernel
theorem dX7_length_13 : decode cX7_length 13 = .ok (.invokevirtual 204, 3) := by decide +kernel
theorem dX7_length_16 : decode cX7_length 16 = .ok (.aload_n 0, 1) := by decide +kernel
theorem dX7_length_17 : decode cX7_length 17 = .ok (.getfield 191, 3) := by decide +kernel
theorem dX7_length_20 : decode cX7_length 20 = .ok (.ireturn, 1) := by decide +kernel
theorem dX7_place_0 : decode cX7_place 0 = .ok (.aload_n 0, 1) := by decide +kernel
theorem dX7_place_1 : decode cX7_place 1 = .ok (.iload_n 1, 1) := by decide +kernel
theorem dX7_place_2 : decode cX7_place 2 = .ok (.invokevirtual 201, 3) := by decide +kernel
theorem dX7_place_5 : decode cX7_place 5 = .ok (.ifCond .ne 6, 3) := by decide +kernel
theorem dX7_place_8 : decode cX7_place 8 = .ok (.bipush (-2), 2) := by decide +kernel
theorem dX7_place_10 : decode cX7_place 10 = .ok (.ireturn, 1) := by decide +kernel
theorem dX7_place_11 : decode cX7_place 11 = .ok (.aload_n 0, 1) := by decide +kernel
theorem dX7_place_12 : decode cX7_place 12 = .ok (.iload_n 2, 1) := by decide +kernel
theorem dX7_place_13 : decode cX7_place 13 = .ok (.invokevirtual 93, 3) := by decide +kernel
theorem dX7_place_16 : decode cX7_place 16 = .ok (.ifCond .eq 11, 3) := by decide +kernel
theorem dX7_place_19 : decode cX7_place 19 = .ok (.iload_n 1, 1) := by decide +kernel
theorem dX7_place_20 : decode cX7_place 20 = .ok (.iload_n 2, 1) := by decide +kernel
theorem dX7_place_21 : decode cX7_place 21 = .ok (.ishr, 1) := by decide +kernel
theorem dX7_place_22 : decode cX7_place 22 = .ok (.iconst 1, 1) := by decide +kernel
theorem dX7_place_23 : decode cX7_place 23 = .ok (.iand, 1) := by decide +kernel
theorem dX7_place_24 : decode cX7_place 24 = .ok (.ifCond .ne 5, 3) := by decide +kernel
theorem dX7_place_27 : decode cX7_place 27 = .ok (.iconst (-1), 1) := by decide +kernel
theorem dX7_place_28 : decode cX7_place 28 = .ok (.ireturn, 1) := by decide +kernel
theorem dX7_place_29 : decode cX7_place 29 = .ok (.aload_n 0, 1) := by decide +kernel
theorem dX7_place_30 : decode cX7_place 30 = .ok (.iload_n 1, 1) := by decide +kernel
theorem dX7_place_31 : decode cX7_place 31 = .ok (.invokevirtual 204, 3) := by decide +kernel
theorem dX7_place_34 : decode cX7_place 34 = .ok (.iconst 0, 1) := by decide +kernel
theorem dX7_place_35 : decode cX7_place 35 = .ok (.istore_n 3, 1) := by decide +kernel
theorem dX7_place_36 : decode cX7_place 36 = .ok (.aload_n 0, 1) := by decide +kernel
theorem dX7_place_37 : decode cX7_place 37 = .ok (.getfield 65, 3) := by decide +kernel
theorem dX7_place_40 : decode cX7_place 40 = .ok (.iload_n 3, 1) := by decide +kernel
theorem dX7_place_41 : decode cX7_place 41 = .ok (.iaload, 1) := by decide +kernel
theorem dX7_place_42 : decode cX7_place 42 = .ok (.iload_n 2, 1) := by decide +kernel
theorem dX7_place_43 : decode cX7_place 43 = .ok (.if_icmp .eq 9, 3) := by decide +kernel
theorem dX7_place_46 : decode cX7_place 46 = .ok (.iinc 3 1, 3) := by decide +kernel
theorem dX7_place_49 : decode cX7_place 49 = .ok (.goto (-13), 3) := by decide +kernel
theorem dX7_place_52 : decode cX7_place 52 = .ok (.aload_n 0, 1) := by decide +kernel
theorem dX7_place_53 : decode cX7_place 53 = .ok (.getfield 71, 3) := by decide +kernel
theorem dX7_place_56 : decode cX7_place 56 = .ok (.iload_n 3, 1) := by decide +kernel
theorem dX7_place_57 : decode cX7_place 57 = .ok (.iaload, 1) := by decide +kernel
theorem dX7_place_58 : decode cX7_place 58 = .ok (.ireturn, 1) := by decide +kernel
theorem dX7_cross_0 : decode cX7_cross 0 = .ok (.aload_n 0, 1) := by decide +kernel
theorem dX7_cross_1 : decode cX7_cross 1 = .ok (.iload_n 1, 1) := by decide +kernel
theorem dX7_cross_2 : decode cX7_cross 2 = .ok (.invokevirtual 93, 3) := by decide +kernel
theorem dX7_cross_5 : decode cX7_cross 5 = .ok (.ifCond .eq 11, 3) := by decide +kernel
theorem dX7_cross_8 : decode cX7_cross 8 = .ok (.aload_n 0, 1) := by decide +kernel
theorem dX7_cross_9 : decode cX7_cross 9 = .ok (.iload_n 3, 1) := by decide +kernel
theorem dX7_cross_10 : decode cX7_cross 10 = .ok (.invokevirtual 93, 3) := by decide +kernel
theorem dX7_cross_13 : decode cX7_cross 13 = .ok (.ifCond .ne 5, 3) := by decide +kernel
theorem dX7_cross_16 : decode cX7_cross 16 = .ok (.iconst (-1), 1) := by decide +kernel
theorem dX7_cross_17 : decode cX7_cross 17 = .ok (.ireturn, 1) := by decide +kernel
theorem dX7_cross_18 : decode cX7_cross 18 = .ok (.iload_n 2, 1) := by decide +kernel
theorem dX7_cross_19 : decode cX7_cross 19 = .ok (.i2l, 1) := by decide +kernel
theorem dX7_cross_20 : decode cX7_cross 20 = .ok (.lconst 0, 1) := by decide +kernel
theorem dX7_cross_21 : decode cX7_cross 21 = .ok (.aload_n 0, 1) := by decide +kernel
theorem dX7_cross_22 : decode cX7_cross 22 = .ok (.getfield 13, 3) := by decide +kernel
theorem dX7_cross_25 : decode cX7_cross 25 = .ok (.i2l, 1) := by decide +kernel
theorem dX7_cross_26 : decode cX7_cross 26 = .ok (.invokestatic 77, 3) := by decide +kernel
theorem dX7_cross_29 : decode cX7_cross 29 = .ok (.ifCond .eq 18, 3) := by decide +kernel
theorem dX7_cross_32 : decode cX7_cross 32 = .ok (.iload 4, 2) := by decide +kernel
theorem dX7_cross_34 : decode cX7_cross 34 = .ok (.i2l, 1) := by decide +kernel
theorem dX7_cross_35 : decode cX7_cross 35 = .ok (.lconst 0, 1) := by decide +kernel
theorem dX7_cross_36 : decode cX7_cross 36 = .ok (.aload_n 0, 1) := by decide +kernel
theorem dX7_cross_37 : decode cX7_cross 37 = .ok (.getfield 13, 3) := by decide +kernel
theorem dX7_cross_40 : decode cX7_cross 40 = .ok (.i2l, 1) := by decide +kernel
theorem dX7_cross_41 : decode cX7_cross 41 = .ok (.invokestatic 77, 3) := by decide +kernel
theorem dX7_cross_44 : decode cX7_cross 44 = .ok (.ifCond .ne 6, 3) := by decide +kernel
theorem dX7_cross_47 : decode cX7_cross 47 = .ok (.bipush (-2), 2) := by decide +kernel
theorem dX7_cross_49 : decode cX7_cross 49 = .ok (.ireturn, 1) := by decide +kernel
theorem dX7_cross_50 : decode cX7_cross 50 = .ok (.iload_n 1, 1) := by decide +kernel
theorem dX7_cross_51 : decode cX7_cross 51 = .ok (.iload_n 3, 1) := by decide +kernel
theorem dX7_cross_52 : decode cX7_cross 52 = .ok (.if_icmp .ne 8, 3) := by decide +kernel
theorem dX7_cross_55 : decode cX7_cross 55 = .ok (.bipush (-3), 2) := by decide +kernel
theorem dX7_cross_57 : decode cX7_cross 57 = .ok (.goto 20, 3) := by decide +kernel
theorem dX7_cross_60 : decode cX7_cross 60 = .ok (.aload_n 0, 1) := by decide +kernel
theorem dX7_cross_61 : decode cX7_cross 61 = .ok (.iload_n 1, 1) := by decide +kernel
theorem dX7_cross_62 : decode cX7_cross 62 = .ok (.iload_n 2, 1) := by decide +kernel
theorem dX7_cross_63 : decode cX7_cross 63 = .ok (.iload_n 3, 1) := by decide +kernel
theorem dX7_cross_64 : decode cX7_cross 64 = .ok (.iload 4, 2) := by decide +kernel
theorem dX7_cross_66 : decode cX7_cross 66 = .ok (.invokevirtual 185, 3) := by decide +kernel
theorem dX7_cross_69 : decode cX7_cross 69 = .ok (.ifCond .eq 7, 3) := by decide +kernel
theorem dX7_cross_72 : decode cX7_cross 72 = .ok (.iconst 1, 1) := by decide +kernel
theorem dX7_cross_73 : decode cX7_cross 73 = .ok (.goto 4, 3) := by decide +kernel
theorem dX7_cross_76 : decode cX7_cross 76 = .ok (.iconst 0, 1) := by decide +kernel
theorem dX7_cross_77 : decode cX7_cross 77 = .ok (.ireturn, 1) := by decide +kernel
theorem dX7_count_0 : decode cX7_count 0 = .ok (.aload_n 0, 1) := by decide +kernel
theorem dX7_count_1 : decode cX7_count 1 = .ok (.invokevirtual 130, 3) := by decide +kernel
theorem dX7_count_4 : decode cX7_count 4 = .ok (.iconst 0, 1) := by decide +kernel
theorem dX7_count_5 : decode cX7_count 5 = .ok (.istore_n 2, 1) := by decide +kernel
theorem dX7_count_6 : decode cX7_count 6 = .ok (.iconst 0, 1) := by decide +kernel
theorem dX7_count_7 : decode cX7_count 7 = .ok (.istore_n 3, 1) := by decide +kernel
theorem dX7_count_8 : decode cX7_count 8 = .ok (.iconst 0, 1) := by decide +kernel
theorem dX7_count_9 : decode cX7_count 9 = .ok (.istore 4, 2) := by decide +kernel
theorem dX7_count_11 : decode cX7_count 11 = .ok (.iload 4, 2) := by decide +kernel
theorem dX7_count_13 : decode cX7_count 13 = .ok (.bipush 32, 2) := by decide +kernel
theorem dX7_count_15 : decode cX7_count 15 = .ok (.if_icmp .ge 73, 3) := by decide +kernel
theorem dX7_count_18 : decode cX7_count 18 = .ok (.iload_n 2, 1) := by decide +kernel
theorem dX7_count_19 : decode cX7_count 19 = .ok (.aload_n 0, 1) := by decide +kernel
theorem dX7_count_20 : decode cX7_count 20 = .ok (.getfield 127, 3) := by decide +kernel
theorem dX7_count_23 : decode cX7_count 23 = .ok (.iload 4, 2) := by decide +kernel
theorem dX7_count_25 : decode cX7_count 25 = .ok (.ishr, 1) := by decide +kernel
theorem dX7_count_26 : decode cX7_count 26 = .ok (.iconst 1, 1) := by decide +kernel
theorem dX7_count_27 : decode cX7_count 27 = .ok (.iand, 1) := by decide +kernel
theorem dX7_count_28 : decode cX7_count 28 = .ok (.iadd, 1) := by decide +kernel
theorem dX7_count_29 : decode cX7_count 29 = .ok (.istore_n 2, 1) := by decide +kernel
theorem dX7_count_30 : decode cX7_count 30 = .ok (.iconst 0, 1) := by decide +kernel
theorem dX7_count_31 : decode cX7_count 31 = .ok (.istore 5, 2) := by decide +kernel
theorem dX7_count_33 : decode cX7_count 33 = .ok (.iload 5, 2) := by decide +kernel
theorem dX7_count_35 : decode cX7_count 35 = .ok (.iload 4, 2) := by decide +kernel
theorem dX7_count_37 : decode cX7_count 37 = .ok (.if_icmp .ge 45, 3) := by decide +kernel
theorem dX7_count_40 : decode cX7_count 40 = .ok (.aload_n 0, 1) := by decide +kernel
theorem dX7_count_41 : decode cX7_count 41 = .ok (.getfield 127, 3) := by decide +kernel
theorem dX7_count_44 : decode cX7_count 44 = .ok (.iload 4, 2) := by decide +kernel
theorem dX7_count_46 : decode cX7_count 46 = .ok (.ishr, 1) := by decide +kernel
theorem dX7_count_47 : decode cX7_count 47 = .ok (.iconst 1, 1) := by decide +kernel
theorem dX7_count_48 : decode cX7_count 48 = .ok (.iand, 1) := by decide +kernel
theorem dX7_count_49 : decode cX7_count 49 = .ok (.iconst 1, 1) := by decide +kernel
theorem dX7_count_50 : decode cX7_count 50 = .ok (.if_icmp .ne 32, 3) := by decide +kernel
theorem dX7_count_53 : decode cX7_count 53 = .ok (.iload_n 3, 1) := by decide +kernel
theorem dX7_count_54 : decode cX7_count 54 = .ok (.aload_n 0, 1) := by decide +kernel
theorem dX7_count_55 : decode cX7_count 55 = .ok (.getfield 127, 3) := by decide +kernel
theorem dX7_count_58 : decode cX7_count 58 = .ok (.iload 5, 2) := by decide +kernel
theorem dX7_count_60 : decode cX7_count 60 = .ok (.ishr, 1) := by decide +kernel
theorem dX7_count_61 : decode cX7_count 61 = .ok (.iconst 1, 1) := by decide +kernel
theorem dX7_count_62 : decode cX7_count 62 = .ok (.iand, 1) := by decide +kernel
theorem dX7_count_63 : decode cX7_count 63 = .ok (.aload_n 0, 1) := by decide +kernel
theorem dX7_count_64 : decode cX7_count 64 = .ok (.getfield 50, 3) := by decide +kernel
theorem dX7_count_67 : decode cX7_count 67 = .ok (.iload 4, 2) := by decide +kernel
theorem dX7_count_69 : decode cX7_count 69 = .ok (.iaload, 1) := by decide +kernel
theorem dX7_count_70 : decode cX7_count 70 = .ok (.iload 5, 2) := by decide +kernel
theorem dX7_count_72 : decode cX7_count 72 = .ok (.ishr, 1) := by decide +kernel
theorem dX7_count_73 : decode cX7_count 73 = .ok (.iand, 1) := by decide +kernel
theorem dX7_count_74 : decode cX7_count 74 = .ok (.iadd, 1) := by decide +kernel
theorem dX7_count_75 : decode cX7_count 75 = .ok (.istore_n 3, 1) := by decide +kernel
theorem dX7_count_76 : decode cX7_count 76 = .ok (.iinc 5 1, 3) := by decide +kernel
theorem dX7_count_79 : decode cX7_count 79 = .ok (.goto (-46), 3) := by decide +kernel
theorem dX7_count_82 : decode cX7_count 82 = .ok (.iinc 4 1, 3) := by decide +kernel
theorem dX7_count_85 : decode cX7_count 85 = .ok (.goto (-74), 3) := by decide +kernel
theorem dX7_count_88 : decode cX7_count 88 = .ok (.iload_n 1, 1) := by decide +kernel
theorem dX7_count_89 : decode cX7_count 89 = .ok (.tableswitch 54 0 4 #[35, 40, 45, 50, 52], 35) := by decide +kernel
theorem dX7_count_124 : decode cX7_count 124 = .ok (.aload_n 0, 1) := by decide +kernel
theorem dX7_count_125 : decode cX7_count 125 = .ok (.getfield 74, 3) := by decide +kernel
theorem dX7_count_128 : decode cX7_count 128 = .ok (.ireturn, 1) := by decide +kernel
theorem dX7_count_129 : decode cX7_count 129 = .ok (.aload_n 0, 1) := by decide +kernel
theorem dX7_count_130 : decode cX7_count 130 = .ok (.getfield 7, 3) := by decide +kernel
theorem dX7_count_133 : decode cX7_count 133 = .ok (.ireturn, 1) := by decide +kernel
theorem dX7_count_134 : decode cX7_count 134 = .ok (.aload_n 0, 1) := by decide +kernel
theorem dX7_count_135 : decode cX7_count 135 = .ok (.getfield 13, 3) := by decide +kernel
theorem dX7_count_138 : decode cX7_count 138 = .ok (.ireturn, 1) := by decide +kernel
theorem dX7_count_139 : decode cX7_count 139 = .ok (.iload_n 2, 1) := by decide +kernel
theorem dX7_count_140 : decode cX7_count 140 = .ok (.ireturn, 1) := by decide +kernel
theorem dX7_count_141 : decode cX7_count 141 = .ok (.iload_n 3, 1) := by decide +kernel
theorem dX7_count_142 : decode cX7_count 142 = .ok (.ireturn, 1) := by decide +kernel
theorem dX7_count_143 : decode cX7_count 143 = .ok (.bipush (-2), 2) := by decide +kernel
theorem dX7_count_145 : decode cX7_count 145 = .ok (.ireturn, 1) := by decide +kernel
