theorem dX6_init_0 : decode cX6_init 0 = .ok (.aload_n 0, 1) := by decide +kernel
theorem dX6_init_1 : decode cX6_init 1 = .ok (.invokespecial 1, 3) := by decide +kernel
theorem dX6_init_4 : decode cX6_init 4 = .ok (.aload_n 0, 1) := by decide +kernel
theorem dX6_init_5 : decode cX6_init 5 = .ok (.new 7, 3) := by decide +kernel
theorem dX6_init_8 : decode cX6_init 8 = .ok (.dup, 1) := by decide +kernel
theorem dX6_init_9 : decode cX6_init 9 = .ok (.invokespecial 9, 3) := by decide +kernel
theorem dX6_init_12 : decode cX6_init 12 = .ok (.putfield 10, 3) := by decide +kernel
theorem dX6_init_15 : decode cX6_init 15 = .ok (.aload_n 0, 1) := by decide +kernel
theorem dX6_init_16 : decode cX6_init 16 = .ok (.new 16, 3) := by decide +kernel
theorem dX6_init_19 : decode cX6_init 19 = .ok (.dup, 1) := by decide +kernel
theorem dX6_init_20 : decode cX6_init 20 = .ok (.aload_n 0, 1) := by decide +kernel
theorem dX6_init_21 : decode cX6_init 21 = .ok (.getfield 10, 3) := by decide +kernel
theorem dX6_init_24 : decode cX6_init 24 = .ok (.invokespecial 18, 3) := by decide +kernel
theorem dX6_init_27 : decode cX6_init 27 = .ok (.putfield 21, 3) := by decide +kernel
theorem dX6_init_30 : decode cX6_init 30 = .ok (.aload_n 0, 1) := by decide +kernel
theorem dX6_init_31 : decode cX6_init 31 = .ok (.new 25, 3) := by decide +kernel
theorem dX6_init_34 : decode cX6_init 34 = .ok (.dup, 1) := by decide +kernel
theorem dX6_init_35 : decode cX6_init 35 = .ok (.aload_n 0, 1) := by decide +kernel
theorem dX6_init_36 : decode cX6_init 36 = .ok (.getfield 10, 3) := by decide +kernel
theorem dX6_init_39 : decode cX6_init 39 = .ok (.aload_n 0, 1) := by decide +kernel
theorem dX6_init_40 : decode cX6_init 40 = .ok (.getfield 21, 3) := by decide +kernel
theorem dX6_init_43 : decode cX6_init 43 = .ok (.invokespecial 27, 3) := by decide +kernel
theorem dX6_init_46 : decode cX6_init 46 = .ok (.putfield 30, 3) := by decide +kernel
theorem dX6_init_49 : decode cX6_init 49 = .ok (.aload_n 0, 1) := by decide +kernel
theorem dX6_init_50 : decode cX6_init 50 = .ok (.new 34, 3) := by decide +kernel
theorem dX6_init_53 : decode cX6_init 53 = .ok (.dup, 1) := by decide +kernel
theorem dX6_init_54 : decode cX6_init 54 = .ok (.aload_n 0, 1) := by decide +kernel
theorem dX6_init_55 : decode cX6_init 55 = .ok (.getfield 10, 3) := by decide +kernel
theorem dX6_init_58 : decode cX6_init 58 = .ok (.aload_n 0, 1) := by decide +kernel
theorem dX6_init_59 : decode cX6_init 59 = .ok (.getfield 21, 3) := by decide +kernel
theorem dX6_init_62 : decode cX6_init 62 = .ok (.invokespecial 36, 3) := by decide +kernel
theorem dX6_init_65 : decode cX6_init 65 = .ok (.putfield 37, 3) := by decide +kernel
theorem dX6_init_68 : decode cX6_init 68 = .ok (.aload_n 0, 1) := by decide +kernel
theorem dX6_init_69 : decode cX6_init 69 = .ok (.new 41, 3) := by decide +kernel
theorem dX6_init_72 : decode cX6_init 72 = .ok (.dup, 1) := by decide +kernel
theorem dX6_init_73 : decode cX6_init 73 = .ok (.aload_n 0, 1) := by decide +kernel
theorem dX6_init_74 : decode cX6_init 74 = .ok (.getfield 10, 3) := by decide +kernel
theorem dX6_init_77 : decode cX6_init 77 = .ok (.aload_n 0, 1) := by decide +kernel
theorem dX6_init_78 : decode cX6_init 78 = .ok (.getfield 21, 3) := by decide +kernel
theorem dX6_init_81 : decode cX6_init 81 = .ok (.invokespecial 43, 3) := by decide +kernel
theorem dX6_init_84 : decode cX6_init 84 = .ok (.putfield 44, 3) := by decide +kernel
theorem dX6_init_87 : decode cX6_init 87 = .ok (.aload_n 0, 1) := by decide +kernel
theorem dX6_init_88 : decode cX6_init 88 = .ok (.new 48, 3) := by decide +kernel
theorem dX6_init_91 : decode cX6_init 91 = .ok (.dup, 1) := by decide +kernel
theorem dX6_init_92 : decode cX6_init 92 = .ok (.aload_n 0, 1) := by decide +kernel
theorem dX6_init_93 : decode cX6_init 93 = .ok (.getfield 10, 3) := by decide +kernel
theorem dX6_init_96 : decode cX6_init 96 = .ok (.invokespecial 50, 3) := by decide +kernel
theorem dX6_init_99 : decode cX6_init 99 = .ok (.putfield 51, 3) := by decide +kernel
theorem dX6_init_102 : decode cX6_init 102 = .ok (.return_, 1) := by decide +kernel
theorem dX6_map_0 : decode cX6_map 0 = .ok (.iload_n 1, 1) := by decide +kernel
theorem dX6_map_1 : decode cX6_map 1 = .ok (.bipush 10, 2) := by decide +kernel
theorem dX6_map_3 : decode cX6_map 3 = .ok (.sipush 400, 3) := by decide +kernel
theorem dX6_map_6 : decode cX6_map 6 = .ok (.invokestatic 55, 3) := by decide +kernel
theorem dX6_map_9 : decode cX6_map 9 = .ok (.ifCond .eq 15, 3) := by decide +kernel
theorem dX6_map_12 : decode cX6_map 12 = .ok (.iload_n 2, 1) := by decide +kernel
theorem dX6_map_13 : decode cX6_map 13 = .ok (.bipush 10, 2) := by decide +kernel
theorem dX6_map_15 : decode cX6_map 15 = .ok (.sipush 400, 3) := by decide +kernel
theorem dX6_map_18 : decode cX6_map 18 = .ok (.invokestatic 55, 3) := by decide +kernel
theorem dX6_map_21 : decode cX6_map 21 = .ok (.ifCond .ne 6, 3) := by decide +kernel
theorem dX6_map_24 : decode cX6_map 24 = .ok (.bipush (-2), 2) := by decide +kernel
theorem dX6_map_26 : decode cX6_map 26 = .ok (.ireturn, 1) := by decide +kernel
theorem dX6_map_27 : decode cX6_map 27 = .ok (.aload_n 0, 1) := by decide +kernel
theorem dX6_map_28 : decode cX6_map 28 = .ok (.getfield 10, 3) := by decide +kernel
theorem dX6_map_31 : decode cX6_map 31 = .ok (.iload_n 1, 1) := by decide +kernel
theorem dX6_map_32 : decode cX6_map 32 = .ok (.putfield 59, 3) := by decide +kernel
theorem dX6_map_35 : decode cX6_map 35 = .ok (.aload_n 0, 1) := by decide +kernel
theorem dX6_map_36 : decode cX6_map 36 = .ok (.getfield 10, 3) := by decide +kernel
theorem dX6_map_39 : decode cX6_map 39 = .ok (.iload_n 2, 1) := by decide +kernel
theorem dX6_map_40 : decode cX6_map 40 = .ok (.putfield 63, 3) := by decide +kernel
theorem dX6_map_43 : decode cX6_map 43 = .ok (.aload_n 0, 1) := by decide +kernel
theorem dX6_map_44 : decode cX6_map 44 = .ok (.getfield 10, 3) := by decide +kernel
theorem dX6_map_47 : decode cX6_map 47 = .ok (.iconst 0, 1) := by decide +kernel
theorem dX6_map_48 : decode cX6_map 48 = .ok (.putfield 66, 3) := by decide +kernel
theorem dX6_map_51 : decode cX6_map 51 = .ok (.iconst 1, 1) := by decide +kernel
theorem dX6_map_52 : decode cX6_map 52 = .ok (.ireturn, 1) := by decide +kernel
theorem dX6_site_0 : decode cX6_site 0 = .ok (.aload_n 0, 1) := by decide +kernel
theorem dX6_site_1 : decode cX6_site 1 = .ok (.getfield 10, 3) := by decide +kernel
theorem dX6_site_4 : decode cX6_site 4 = .ok (.iload_n 1, 1) := by decide +kernel
theorem dX6_site_5 : decode cX6_site 5 = .ok (.iload_n 2, 1) := by decide +kernel
theorem dX6_site_6 : decode cX6_site 6 = .ok (.invokevirtual 69, 3) := by decide +kernel
theorem dX6_site_9 : decode cX6_site 9 = .ok (.ifCond .eq 35, 3) := by decide +kernel
theorem dX6_site_12 : decode cX6_site 12 = .ok (.iload_n 3, 1) := by decide +kernel
theorem dX6_site_13 : decode cX6_site 13 = .ok (.iconst 1, 1) := by decide +kernel
theorem dX6_site_14 : decode cX6_site 14 = .ok (.bipush 60, 2) := by decide +kernel
theorem dX6_site_16 : decode cX6_site 16 = .ok (.invokestatic 55, 3) := by decide +kernel
theorem dX6_site_19 : decode cX6_site 19 = .ok (.ifCond .eq 25, 3) := by decide +kernel
theorem dX6_site_22 : decode cX6_site 22 = .ok (.iload 4, 2) := by decide +kernel
theorem dX6_site_24 : decode cX6_site 24 = .ok (.iconst 1, 1) := by decide +kernel
theorem dX6_site_25 : decode cX6_site 25 = .ok (.bipush 20, 2) := by decide +kernel
theorem dX6_site_27 : decode cX6_site 27 = .ok (.invokestatic 55, 3) := by decide +kernel
theorem dX6_site_30 : decode cX6_site 30 = .ok (.ifCond .eq 14, 3) := by decide +kernel
theorem dX6_site_33 : decode cX6_site 33 = .ok (.iload 5, 2) := by decide +kernel
theorem dX6_site_35 : decode cX6_site 35 = .ok (.iconst 1, 1) := by decide +kernel
theorem dX6_site_36 : decode cX6_site 36 = .ok (.bipush 99, 2) := by decide +kernel
theorem dX6_site_38 : decode cX6_site 38 = .ok (.invokestatic 55, 3) := by decide +kernel
theorem dX6_site_41 : decode cX6_site 41 = .ok (.ifCond .ne 6, 3) := by decide +kernel
theorem dX6_site_44 : decode cX6_site 44 = .ok (.bipush (-2), 2) := by decide +kernel
theorem dX6_site_46 : decode cX6_site 46 = .ok (.ireturn, 1) := by decide +kernel
theorem dX6_site_47 : decode cX6_site 47 = .ok (.aload_n 0, 1) := by decide +kernel
theorem dX6_site_48 : decode cX6_site 48 = .ok (.getfield 10, 3) := by decide +kernel
theorem dX6_site_51 : decode cX6_site 51 = .ok (.getfield 66, 3) := by decide +kernel
theorem dX6_site_54 : decode cX6_site 54 = .ok (.bipush 8, 2) := by decide +kernel
theorem dX6_site_56 : decode cX6_site 56 = .ok (.if_icmp .lt 6, 3) := by decide +kernel
theorem dX6_site_59 : decode cX6_site 59 = .ok (.bipush (-4), 2) := by decide +kernel
theorem dX6_site_61 : decode cX6_site 61 = .ok (.ireturn, 1) := by decide +kernel
theorem dX6_site_62 : decode cX6_site 62 = .ok (.aload_n 0, 1) := by decide +kernel
theorem dX6_site_63 : decode cX6_site 63 = .ok (.getfield 10, 3) := by decide +kernel
theorem dX6_site_66 : decode cX6_site 66 = .ok (.iload_n 1, 1) := by decide +kernel
theorem dX6_site_67 : decode cX6_site 67 = .ok (.iload_n 2, 1) := by decide +kernel
theorem dX6_site_68 : decode cX6_site 68 = .ok (.iload_n 3, 1) := by decide +kernel
theorem dX6_site_69 : decode cX6_site 69 = .ok (.iload 4, 2) := by decide +kernel
theorem dX6_site_71 : decode cX6_site 71 = .ok (.iload 5, 2) := by decide +kernel
theorem dX6_site_73 : decode cX6_site 73 = .ok (.invokevirtual 73, 3) := by decide +kernel
theorem dX6_site_76 : decode cX6_site 76 = .ok (.istore 6, 2) := by decide +kernel
theorem dX6_site_78 : decode cX6_site 78 = .ok (.aload_n 0, 1) := by decide +kernel
theorem dX6_site_79 : decode cX6_site 79 = .ok (.getfield 37, 3) := by decide +kernel
theorem dX6_site_82 : decode cX6_site 82 = .ok (.getfield 77, 3) := by decide +kernel
theorem dX6_site_85 : decode cX6_site 85 = .ok (.iload 6, 2) := by decide +kernel
theorem dX6_site_87 : decode cX6_site 87 = .ok (.bipush (-9), 2) := by decide +kernel
theorem dX6_site_89 : decode cX6_site 89 = .ok (.iastore, 1) := by decide +kernel
theorem dX6_site_90 : decode cX6_site 90 = .ok (.iload 6, 2) := by decide +kernel
theorem dX6_site_92 : decode cX6_site 92 = .ok (.ireturn, 1) := by decide +kernel
theorem dX6_move_0 : decode cX6_move 0 = .ok (.aload_n 0, 1) := by decide +kernel
theorem dX6_move_1 : decode cX6_move 1 = .ok (.getfield 10, 3) := by decide +kernel
theorem dX6_move_4 : decode cX6_move 4 = .ok (.iload_n 1, 1) := by decide +kernel
theorem dX6_move_5 : decode cX6_move 5 = .ok (.invokevirtual 81, 3) := by decide +kernel
theorem dX6_move_8 : decode cX6_move 8 = .ok (.ifCond .ne 5, 3) := by decide +kernel
theorem dX6_move_11 : decode cX6_move 11 = .ok (.iconst (-1), 1) := by decide +kernel
theorem dX6_move_12 : decode cX6_move 12 = .ok (.ireturn, 1) := by decide +kernel
theorem dX6_move_13 : decode cX6_move 13 = .ok (.aload_n 0, 1) := by decide +kernel
theorem dX6_move_14 : decode cX6_move 14 = .ok (.getfield 10, 3) := by decide +kernel
theorem dX6_move_17 : decode cX6_move 17 = .ok (.iload_n 2, 1) := by decide +kernel
theorem dX6_move_18 : decode cX6_move 18 = .ok (.iload_n 3, 1) := by decide +kernel
theorem dX6_move_19 : decode cX6_move 19 = .ok (.invokevirtual 69, 3) := by decide +kernel
theorem dX6_move_22 : decode cX6_move 22 = .ok (.ifCond .ne 6, 3) := by decide +kernel
theorem dX6_move_25 : decode cX6_move 25 = .ok (.bipush (-2), 2) := by decide +kernel
theorem dX6_move_27 : decode cX6_move 27 = .ok (.ireturn, 1) := by decide +kernel
theorem dX6_move_28 : decode cX6_move 28 = .ok (.aload_n 0, 1) := by decide +kernel
theorem dX6_move_29 : decode cX6_move 29 = .ok (.getfield 10, 3) := by decide +kernel
theorem dX6_move_32 : decode cX6_move 32 = .ok (.getfield 85, 3) := by decide +kernel
theorem dX6_move_35 : decode cX6_move 35 = .ok (.iload_n 1, 1) := by decide +kernel
theorem dX6_move_36 : decode cX6_move 36 = .ok (.iaload, 1) := by decide +kernel
theorem dX6_move_37 : decode cX6_move 37 = .ok (.sipush 1000, 3) := by decide +kernel
theorem dX6_move_40 : decode cX6_move 40 = .ok (.imul, 1) := by decide +kernel
theorem dX6_move_41 : decode cX6_move 41 = .ok (.aload_n 0, 1) := by decide +kernel
theorem dX6_move_42 : decode cX6_move 42 = .ok (.getfield 10, 3) := by decide +kernel
theorem dX6_move_45 : decode cX6_move 45 = .ok (.getfield 88, 3) := by decide +kernel
theorem dX6_move_48 : decode cX6_move 48 = .ok (.iload_n 1, 1) := by decide +kernel
theorem dX6_move_49 : decode cX6_move 49 = .ok (.iaload, 1) := by decide +kernel
theorem dX6_move_50 : decode cX6_move 50 = .ok (.iadd, 1) := by decide +kernel
theorem dX6_move_51 : decode cX6_move 51 = .ok (.istore 4, 2) := by decide +kernel
theorem dX6_move_53 : decode cX6_move 53 = .ok (.aload_n 0, 1) := by decide +kernel
theorem dX6_move_54 : decode cX6_move 54 = .ok (.getfield 10, 3) := by decide +kernel
theorem dX6_move_57 : decode cX6_move 57 = .ok (.getfield 85, 3) := by decide +kernel
theorem dX6_move_60 : decode cX6_move 60 = .ok (.iload_n 1, 1) := by decide +kernel
theorem dX6_move_61 : decode cX6_move 61 = .ok (.iload_n 2, 1) := by decide +kernel
theorem dX6_move_62 : decode cX6_move 62 = .ok (.iastore, 1) := by decide +kernel
theorem dX6_move_63 : decode cX6_move 63 = .ok (.aload_n 0, 1) := by decide +kernel
theorem dX6_move_64 : decode cX6_move 64 = .ok (.getfield 10, 3) := by decide +kernel
theorem dX6_move_67 : decode cX6_move 67 = .ok (.getfield 88, 3) := by decide +kernel
theorem dX6_move_70 : decode cX6_move 70 = .ok (.iload_n 1, 1) := by decide +kernel
theorem dX6_move_71 : decode cX6_move 71 = .ok (.iload_n 3, 1) := by decide +kernel
theorem dX6_move_72 : decode cX6_move 72 = .ok (.iastore, 1) := by decide +kernel
theorem dX6_move_73 : decode cX6_move 73 = .ok (.iload 4, 2) := by decide +kernel
theorem dX6_move_75 : decode cX6_move 75 = .ok (.ireturn, 1) := by decide +kernel
theorem dX6_allow_0 : decode cX6_allow 0 = .ok (.aload_n 0, 1) := by decide +kernel
theorem dX6_allow_1 : decode cX6_allow 1 = .ok (.getfield 10, 3) := by decide +kernel
theorem dX6_allow_4 : decode cX6_allow 4 = .ok (.iload_n 1, 1) := by decide +kernel
theorem dX6_allow_5 : decode cX6_allow 5 = .ok (.invokevirtual 81, 3) := by decide +kernel
theorem dX6_allow_8 : decode cX6_allow 8 = .ok (.ifCond .ne 5, 3) := by decide +kernel
theorem dX6_allow_11 : decode cX6_allow 11 = .ok (.iconst (-1), 1) := by decide +kernel
theorem dX6_allow_12 : decode cX6_allow 12 = .ok (.ireturn, 1) := by decide +kernel
theorem dX6_allow_13 : decode cX6_allow 13 = .ok (.iload_n 2, 1) := by decide +kernel
theorem dX6_allow_14 : decode cX6_allow 14 = .ok (.invokestatic 91, 3) := by decide +kernel
theorem dX6_allow_17 : decode cX6_allow 17 = .ok (.ifCond .ne 6, 3) := by decide +kernel
theorem dX6_allow_20 : decode cX6_allow 20 = .ok (.bipush (-2), 2) := by decide +kernel
theorem dX6_allow_22 : decode cX6_allow 22 = .ok (.ireturn, 1) := by decide +kernel
theorem dX6_allow_23 : decode cX6_allow 23 = .ok (.iload_n 1, 1) := by decide +kernel
theorem dX6_allow_24 : decode cX6_allow 24 = .ok (.iload_n 2, 1) := by decide +kernel
theorem dX6_allow_25 : decode cX6_allow 25 = .ok (.invokestatic 94, 3) := by decide +kernel
theorem dX6_allow_28 : decode cX6_allow 28 = .ok (.istore 4, 2) := by decide +kernel
theorem dX6_allow_30 : decode cX6_allow 30 = .ok (.aload_n 0, 1) := by decide +kernel
theorem dX6_allow_31 : decode cX6_allow 31 = .ok (.getfield 10, 3) := by decide +kernel
theorem dX6_allow_34 : decode cX6_allow 34 = .ok (.getfield 98, 3) := by decide +kernel
theorem dX6_allow_37 : decode cX6_allow 37 = .ok (.iload 4, 2) := by decide +kernel
theorem dX6_allow_39 : decode cX6_allow 39 = .ok (.baload, 1) := by decide +kernel
theorem dX6_allow_40 : decode cX6_allow 40 = .ok (.invokestatic 102, 3) := by decide +kernel
theorem dX6_allow_43 : decode cX6_allow 43 = .ok (.istore 5, 2) := by decide +kernel
theorem dX6_allow_45 : decode cX6_allow 45 = .ok (.aload_n 0, 1) := by decide +kernel
theorem dX6_allow_46 : decode cX6_allow 46 = .ok (.getfield 10, 3) := by decide +kernel
theorem dX6_allow_49 : decode cX6_allow 49 = .ok (.getfield 98, 3) := by decide +kernel
theorem dX6_allow_52 : decode cX6_allow 52 = .ok (.iload 4, 2) := by decide +kernel
theorem dX6_allow_54 : decode cX6_allow 54 = .ok (.iload_n 3, 1) := by decide +kernel
theorem dX6_allow_55 : decode cX6_allow 55 = .ok (.bastore, 1) := by decide +kernel
theorem dX6_allow_56 : decode cX6_allow 56 = .ok (.iload 5, 2) := by decide +kernel
theorem dX6_allow_58 : decode cX6_allow 58 = .ok (.ireturn, 1) := by decide +kernel
theorem dX6_rule_0 : decode cX6_rule 0 = .ok (.iload_n 1, 1) := by decide +kernel
theorem dX6_rule_1 : decode cX6_rule 1 = .ok (.ifCond .ne 31, 3) := by decide +kernel
theorem dX6_rule_4 : decode cX6_rule 4 = .ok (.iload_n 2, 1) := by decide +kernel
theorem dX6_rule_5 : decode cX6_rule 5 = .ok (.iconst 1, 1) := by decide +kernel
theorem dX6_rule_6 : decode cX6_rule 6 = .ok (.bipush 40, 2) := by decide +kernel
theorem dX6_rule_8 : decode cX6_rule 8 = .ok (.invokestatic 55, 3) := by decide +kernel
theorem dX6_rule_11 : decode cX6_rule 11 = .ok (.ifCond .eq 21, 3) := by decide +kernel
theorem dX6_rule_14 : decode cX6_rule 14 = .ok (.aload_n 0, 1) := by decide +kernel
theorem dX6_rule_15 : decode cX6_rule 15 = .ok (.getfield 10, 3) := by decide +kernel
theorem dX6_rule_18 : decode cX6_rule 18 = .ok (.getfield 106, 3) := by decide +kernel
theorem dX6_rule_21 : decode cX6_rule 21 = .ok (.istore_n 3, 1) := by decide +kernel
theorem dX6_rule_22 : decode cX6_rule 22 = .ok (.aload_n 0, 1) := by decide +kernel
theorem dX6_rule_23 : decode cX6_rule 23 = .ok (.getfield 10, 3) := by decide +kernel
theorem dX6_rule_26 : decode cX6_rule 26 = .ok (.iload_n 2, 1) := by decide +kernel
theorem dX6_rule_27 : decode cX6_rule 27 = .ok (.putfield 106, 3) := by decide +kernel
theorem dX6_rule_30 : decode cX6_rule 30 = .ok (.iload_n 3, 1) := by decide +kernel
theorem dX6_rule_31 : decode cX6_rule 31 = .ok (.ireturn, 1) := by decide +kernel
theorem dX6_rule_32 : decode cX6_rule 32 = .ok (.iload_n 1, 1) := by decide +kernel
theorem dX6_rule_33 : decode cX6_rule 33 = .ok (.iconst 1, 1) := by decide +kernel
theorem dX6_rule_34 : decode cX6_rule 34 = .ok (.if_icmp .ne 31, 3) := by decide +kernel
theorem dX6_rule_37 : decode cX6_rule 37 = .ok (.iload_n 2, 1) := by decide +kernel
theorem dX6_rule_38 : decode cX6_rule 38 = .ok (.iconst 0, 1) := by decide +kernel
theorem dX6_rule_39 : decode cX6_rule 39 = .ok (.bipush 20, 2) := by decide +kernel
theorem dX6_rule_41 : decode cX6_rule 41 = .ok (.invokestatic 55, 3) := by decide +kernel
theorem dX6_rule_44 : decode cX6_rule 44 = .ok (.ifCond .eq 21, 3) := by decide +kernel
theorem dX6_rule_47 : decode cX6_rule 47 = .ok (.aload_n 0, 1) := by decide +kernel
theorem dX6_rule_48 : decode cX6_rule 48 = .ok (.getfield 10, 3) := by decide +kernel
theorem dX6_rule_51 : decode cX6_rule 51 = .ok (.getfield 109, 3) := by decide +kernel
theorem dX6_rule_54 : decode cX6_rule 54 = .ok (.istore_n 3, 1) := by decide +kernel
theorem dX6_rule_55 : decode cX6_rule 55 = .ok (.aload_n 0, 1) := by decide +kernel
theorem dX6_rule_56 : decode cX6_rule 56 = .ok (.getfield 10, 3) := by decide +kernel
theorem dX6_rule_59 : decode cX6_rule 59 = .ok (.iload_n 2, 1) := by decide +kernel
theorem dX6_rule_60 : decode cX6_rule 60 = .ok (.putfield 109, 3) := by decide +kernel
theorem dX6_rule_63 : decode cX6_rule 63 = .ok (.iload_n 3, 1) := by decide +kernel
theorem dX6_rule_64 : decode cX6_rule 64 = .ok (.ireturn, 1) := by decide +kernel
theorem dX6_rule_65 : decode cX6_rule 65 = .ok (.bipush (-2), 2) := by decide +kernel
theorem dX6_rule_67 : decode cX6_rule 67 = .ok (.ireturn, 1) := by decide +kernel
theorem dX6_about_0 : decode cX6_about 0 = .ok (.aload_n 0, 1) := by decide +kernel
theorem dX6_about_1 : decode cX6_about 1 = .ok (.getfield 10, 3) := by decide +kernel
theorem dX6_about_4 : decode cX6_about 4 = .ok (.iload_n 1, 1) := by decide +kernel
theorem dX6_about_5 : decode cX6_about 5 = .ok (.invokevirtual 81, 3) := by decide +kernel
theorem dX6_about_8 : decode cX6_about 8 = .ok (.ifCond .ne 5, 3) := by decide +kernel
theorem dX6_about_11 : decode cX6_about 11 = .ok (.iconst (-1), 1) := by decide +kernel
theorem dX6_about_12 : decode cX6_about 12 = .ok (.ireturn, 1) := by decide +kernel
theorem dX6_about_13 : decode cX6_about 13 = .ok (.iload_n 2, 1) := by decide +kernel
theorem dX6_about_14 : decode cX6_about 14 = .ok (.tableswitch 132 0 6 #[42, 52, 62, 72, 82, 92, 112], 42) := by decide +kernel
theorem dX6_about_56 : decode cX6_about 56 = .ok (.aload_n 0, 1) := by decide +kernel
theorem dX6_about_57 : decode cX6_about 57 = .ok (.getfield 10, 3) := by decide +kernel
theorem dX6_about_60 : decode cX6_about 60 = .ok (.getfield 85, 3) := by decide +kernel
theorem dX6_about_63 : decode cX6_about 63 = .ok (.iload_n 1, 1) := by decide +kernel
theorem dX6_about_64 : decode cX6_about 64 = .ok (.iaload, 1) := by decide +kernel
theorem dX6_about_65 : decode cX6_about 65 = .ok (.ireturn, 1) := by decide +kernel
theorem dX6_about_66 : decode cX6_about 66 = .ok (.aload_n 0, 1) := by decide +kernel
theorem dX6_about_67 : decode cX6_about 67 = .ok (.getfield 10, 3) := by decide +kernel
theorem dX6_about_70 : decode cX6_about 70 = .ok (.getfield 88, 3) := by decide +kernel
theorem dX6_about_73 : decode cX6_about 73 = .ok (.iload_n 1, 1) := by decide +kernel
theorem dX6_about_74 : decode cX6_about 74 = .ok (.iaload, 1) := by decide +kernel
theorem dX6_about_75 : decode cX6_about 75 = .ok (.ireturn, 1) := by decide +kernel
theorem dX6_about_76 : decode cX6_about 76 = .ok (.aload_n 0, 1) := by decide +kernel
theorem dX6_about_77 : decode cX6_about 77 = .ok (.getfield 10, 3) := by decide +kernel
theorem dX6_about_80 : decode cX6_about 80 = .ok (.getfield 112, 3) := by decide +kernel
theorem dX6_about_83 : decode cX6_about 83 = .ok (.iload_n 1, 1) := by decide +kernel
theorem dX6_about_84 : decode cX6_about 84 = .ok (.iaload, 1) := by decide +kernel
theorem dX6_about_85 : decode cX6_about 85 = .ok (.ireturn, 1) := by decide +kernel
theorem dX6_about_86 : decode cX6_about 86 = .ok (.aload_n 0, 1) := by decide +kernel
theorem dX6_about_87 : decode cX6_about 87 = .ok (.getfield 10, 3) := by decide +kernel
theorem dX6_about_90 : decode cX6_about 90 = .ok (.getfield 115, 3) := by decide +kernel
theorem dX6_about_93 : decode cX6_about 93 = .ok (.iload_n 1, 1) := by decide +kernel
theorem dX6_about_94 : decode cX6_about 94 = .ok (.iaload, 1) := by decide +kernel
theorem dX6_about_95 : decode cX6_about 95 = .ok (.ireturn, 1) := by decide +kernel
theorem dX6_about_96 : decode cX6_about 96 = .ok (.aload_n 0, 1) := by decide +kernel
theorem dX6_about_97 : decode cX6_about 97 = .ok (.getfield 10, 3) := by decide +kernel
theorem dX6_about_100 : decode cX6_about 100 = .ok (.getfield 118, 3) := by decide +kernel
theorem dX6_about_103 : decode cX6_about 103 = .ok (.iload_n 1, 1) := by decide +kernel
theorem dX6_about_104 : decode cX6_about 104 = .ok (.iaload, 1) := by decide +kernel
theorem dX6_about_105 : decode cX6_about 105 = .ok (.ireturn, 1) := by decide +kernel
theorem dX6_about_106 : decode cX6_about 106 = .ok (.aload_n 0, 1) := by decide +kernel
theorem dX6_about_107 : decode cX6_about 107 = .ok (.getfield 10, 3) := by decide +kernel
theorem dX6_about_110 : decode cX6_about 110 = .ok (.getfield 112, 3) := by decide +kernel
theorem dX6_about_113 : decode cX6_about 113 = .ok (.iload_n 1, 1) := by decide +kernel
theorem dX6_about_114 : decode cX6_about 114 = .ok (.iaload, 1) := by decide +kernel
theorem dX6_about_115 : decode cX6_about 115 = .ok (.aload_n 0, 1) := by decide +kernel
theorem dX6_about_116 : decode cX6_about 116 = .ok (.getfield 10, 3) := by decide +kernel
theorem dX6_about_119 : decode cX6_about 119 = .ok (.getfield 106, 3) := by decide +kernel
theorem dX6_about_122 : decode cX6_about 122 = .ok (.invokestatic 121, 3) := by decide +kernel
theorem dX6_about_125 : decode cX6_about 125 = .ok (.ireturn, 1) := by decide +kernel
theorem dX6_about_126 : decode cX6_about 126 = .ok (.aload_n 0, 1) := by decide +kernel
theorem dX6_about_127 : decode cX6_about 127 = .ok (.getfield 10, 3) := by decide +kernel
theorem dX6_about_130 : decode cX6_about 130 = .ok (.getfield 115, 3) := by decide +kernel
theorem dX6_about_133 : decode cX6_about 133 = .ok (.iload_n 1, 1) := by decide +kernel
theorem dX6_about_134 : decode cX6_about 134 = .ok (.iaload, 1) := by decide +kernel
theorem dX6_about_135 : decode cX6_about 135 = .ok (.aload_n 0, 1) := by decide +kernel
theorem dX6_about_136 : decode cX6_about 136 = .ok (.getfield 10, 3) := by decide +kernel
theorem dX6_about_139 : decode cX6_about 139 = .ok (.getfield 106, 3) := by decide +kernel
theorem dX6_about_142 : decode cX6_about 142 = .ok (.invokestatic 121, 3) := by decide +kernel
theorem dX6_about_145 : decode cX6_about 145 = .ok (.ireturn, 1) := by decide +kernel
theorem dX6_about_146 : decode cX6_about 146 = .ok (.bipush (-2), 2) := by decide +kernel
theorem dX6_about_148 : decode cX6_about 148 = .ok (.ireturn, 1) := by decide +kernel
theorem dX6_free_0 : decode cX6_free 0 = .ok (.aload_n 0, 1) := by decide +kernel
theorem dX6_free_1 : decode cX6_free 1 = .ok (.getfield 10, 3) := by decide +kernel
theorem dX6_free_4 : decode cX6_free 4 = .ok (.iload_n 1, 1) := by decide +kernel
theorem dX6_free_5 : decode cX6_free 5 = .ok (.invokevirtual 81, 3) := by decide +kernel
theorem dX6_free_8 : decode cX6_free 8 = .ok (.ifCond .ne 5, 3) := by decide +kernel
theorem dX6_free_11 : decode cX6_free 11 = .ok (.iconst (-1), 1) := by decide +kernel
theorem dX6_free_12 : decode cX6_free 12 = .ok (.ireturn, 1) := by decide +kernel
theorem dX6_free_13 : decode cX6_free 13 = .ok (.iload_n 2, 1) := by decide +kernel
theorem dX6_free_14 : decode cX6_free 14 = .ok (.invokestatic 91, 3) := by decide +kernel
theorem dX6_free_17 : decode cX6_free 17 = .ok (.ifCond .ne 6, 3) := by decide +kernel
theorem dX6_free_20 : decode cX6_free 20 = .ok (.bipush (-2), 2) := by decide +kernel
theorem dX6_free_22 : decode cX6_free 22 = .ok (.ireturn, 1) := by decide +kernel
theorem dX6_free_23 : decode cX6_free 23 = .ok (.aload_n 0, 1) := by decide +kernel
theorem dX6_free_24 : decode cX6_free 24 = .ok (.getfield 21, 3) := by decide +kernel
theorem dX6_free_27 : decode cX6_free 27 = .ok (.aload_n 0, 1) := by decide +kernel
theorem dX6_free_28 : decode cX6_free 28 = .ok (.getfield 10, 3) := by decide +kernel
theorem dX6_free_31 : decode cX6_free 31 = .ok (.getfield 106, 3) := by decide +kernel
theorem dX6_free_34 : decode cX6_free 34 = .ok (.iconst 1, 1) := by decide +kernel
theorem dX6_free_35 : decode cX6_free 35 = .ok (.invokevirtual 124, 3) := by decide +kernel
theorem dX6_free_38 : decode cX6_free 38 = .ok (.aload_n 0, 1) := by decide +kernel
theorem dX6_free_39 : decode cX6_free 39 = .ok (.getfield 21, 3) := by decide +kernel
theorem dX6_free_42 : decode cX6_free 42 = .ok (.iload_n 1, 1) := by decide +kernel
theorem dX6_free_43 : decode cX6_free 43 = .ok (.iload_n 2, 1) := by decide +kernel
theorem dX6_free_44 : decode cX6_free 44 = .ok (.invokestatic 94, 3) := by decide +kernel
theorem dX6_free_47 : decode cX6_free 47 = .ok (.invokevirtual 128, 3) := by decide +kernel
theorem dX6_free_50 : decode cX6_free 50 = .ok (.invokestatic 102, 3) := by decide +kernel
theorem dX6_free_53 : decode cX6_free 53 = .ok (.ireturn, 1) := by decide +kernel
theorem dX6_clash_0 : decode cX6_clash 0 = .ok (.aload_n 0, 1) := by decide +kernel
theorem dX6_clash_1 : decode cX6_clash 1 = .ok (.getfield 10, 3) := by decide +kernel
theorem dX6_clash_4 : decode cX6_clash 4 = .ok (.iload_n 1, 1) := by decide +kernel
theorem dX6_clash_5 : decode cX6_clash 5 = .ok (.invokevirtual 81, 3) := by decide +kernel
theorem dX6_clash_8 : decode cX6_clash 8 = .ok (.ifCond .eq 14, 3) := by decide +kernel
theorem dX6_clash_11 : decode cX6_clash 11 = .ok (.aload_n 0, 1) := by decide +kernel
theorem dX6_clash_12 : decode cX6_clash 12 = .ok (.getfield 10, 3) := by decide +kernel
theorem dX6_clash_15 : decode cX6_clash 15 = .ok (.iload_n 3, 1) := by decide +kernel
theorem dX6_clash_16 : decode cX6_clash 16 = .ok (.invokevirtual 81, 3) := by decide +kernel
theorem dX6_clash_19 : decode cX6_clash 19 = .ok (.ifCond .ne 5, 3) := by decide +kernel
theorem dX6_clash_22 : decode cX6_clash 22 = .ok (.iconst (-1), 1) := by decide +kernel
theorem dX6_clash_23 : decode cX6_clash 23 = .ok (.ireturn, 1) := by decide +kernel
theorem dX6_clash_24 : decode cX6_clash 24 = .ok (.iload_n 2, 1) := by decide +kernel
theorem dX6_clash_25 : decode cX6_clash 25 = .ok (.invokestatic 91, 3) := by decide +kernel
theorem dX6_clash_28 : decode cX6_clash 28 = .ok (.ifCond .eq 11, 3) := by decide +kernel
theorem dX6_clash_31 : decode cX6_clash 31 = .ok (.iload 4, 2) := by decide +kernel
theorem dX6_clash_33 : decode cX6_clash 33 = .ok (.invokestatic 91, 3) := by decide +kernel
theorem dX6_clash_36 : decode cX6_clash 36 = .ok (.ifCond .ne 6, 3) := by decide +kernel
theorem dX6_clash_39 : decode cX6_clash 39 = .ok (.bipush (-2), 2) := by decide +kernel
theorem dX6_clash_41 : decode cX6_clash 41 = .ok (.ireturn, 1) := by decide +kernel
theorem dX6_clash_42 : decode cX6_clash 42 = .ok (.iload_n 1, 1) := by decide +kernel
theorem dX6_clash_43 : decode cX6_clash 43 = .ok (.iload_n 3, 1) := by decide +kernel
theorem dX6_clash_44 : decode cX6_clash 44 = .ok (.if_icmp .ne 6, 3) := by decide +kernel
theorem dX6_clash_47 : decode cX6_clash 47 = .ok (.bipush (-3), 2) := by decide +kernel
theorem dX6_clash_49 : decode cX6_clash 49 = .ok (.ireturn, 1) := by decide +kernel
theorem dX6_clash_50 : decode cX6_clash 50 = .ok (.aload_n 0, 1) := by decide +kernel
theorem dX6_clash_51 : decode cX6_clash 51 = .ok (.getfield 21, 3) := by decide +kernel
theorem dX6_clash_54 : decode cX6_clash 54 = .ok (.aload_n 0, 1) := by decide +kernel
theorem dX6_clash_55 : decode cX6_clash 55 = .ok (.getfield 10, 3) := by decide +kernel
theorem dX6_clash_58 : decode cX6_clash 58 = .ok (.getfield 106, 3) := by decide +kernel
theorem dX6_clash_61 : decode cX6_clash 61 = .ok (.iconst 1, 1) := by decide +kernel
theorem dX6_clash_62 : decode cX6_clash 62 = .ok (.invokevirtual 124, 3) := by decide +kernel
theorem dX6_clash_65 : decode cX6_clash 65 = .ok (.aload_n 0, 1) := by decide +kernel
theorem dX6_clash_66 : decode cX6_clash 66 = .ok (.getfield 21, 3) := by decide +kernel
theorem dX6_clash_69 : decode cX6_clash 69 = .ok (.iload_n 1, 1) := by decide +kernel
theorem dX6_clash_70 : decode cX6_clash 70 = .ok (.iload_n 2, 1) := by decide +kernel
theorem dX6_clash_71 : decode cX6_clash 71 = .ok (.invokestatic 94, 3) := by decide +kernel
theorem dX6_clash_74 : decode cX6_clash 74 = .ok (.iload_n 3, 1) := by decide +kernel
theorem dX6_clash_75 : decode cX6_clash 75 = .ok (.iload 4, 2) := by decide +kernel
theorem dX6_clash_77 : decode cX6_clash 77 = .ok (.invokestatic 94, 3) := by decide +kernel
theorem dX6_clash_80 : decode cX6_clash 80 = .ok (.invokevirtual 131, 3) := by decide +kernel
theorem dX6_clash_83 : decode cX6_clash 83 = .ok (.invokestatic 102, 3) := by decide +kernel
theorem dX6_clash_86 : decode cX6_clash 86 = .ok (.ireturn, 1) := by decide +kernel
theorem dX6_best_0 : decode cX6_best 0 = .ok (.aload_n 0, 1) := by decide +kernel
theorem dX6_best_1 : decode cX6_best 1 = .ok (.getfield 30, 3) := by decide +kernel
theorem dX6_best_4 : decode cX6_best 4 = .ok (.invokevirtual 134, 3) := by decide +kernel
theorem dX6_best_7 : decode cX6_best 7 = .ok (.aload_n 0, 1) := by decide +kernel
theorem dX6_best_8 : decode cX6_best 8 = .ok (.getfield 30, 3) := by decide +kernel
theorem dX6_best_11 : decode cX6_best 11 = .ok (.getfield 137, 3) := by decide +kernel
theorem dX6_best_14 : decode cX6_best 14 = .ok (.ireturn, 1) := by decide +kernel
theorem dX6_at_0 : decode cX6_at 0 = .ok (.aload_n 0, 1) := by decide +kernel
theorem dX6_at_1 : decode cX6_at 1 = .ok (.getfield 10, 3) := by decide +kernel
theorem dX6_at_4 : decode cX6_at 4 = .ok (.iload_n 1, 1) := by decide +kernel
theorem dX6_at_5 : decode cX6_at 5 = .ok (.invokevirtual 81, 3) := by decide +kernel
theorem dX6_at_8 : decode cX6_at 8 = .ok (.ifCond .ne 5, 3) := by decide +kernel
theorem dX6_at_11 : decode cX6_at 11 = .ok (.iconst (-1), 1) := by decide +kernel
theorem dX6_at_12 : decode cX6_at 12 = .ok (.ireturn, 1) := by decide +kernel
theorem dX6_at_13 : decode cX6_at 13 = .ok (.aload_n 0, 1) := by decide +kernel
theorem dX6_at_14 : decode cX6_at 14 = .ok (.getfield 30, 3) := by decide +kernel
theorem dX6_at_17 : decode cX6_at 17 = .ok (.invokevirtual 134, 3) := by decide +kernel
theorem dX6_at_20 : decode cX6_at 20 = .ok (.aload_n 0, 1) := by decide +kernel
theorem dX6_at_21 : decode cX6_at 21 = .ok (.getfield 30, 3) := by decide +kernel
theorem dX6_at_24 : decode cX6_at 24 = .ok (.getfield 140, 3) := by decide +kernel
theorem dX6_at_27 : decode cX6_at 27 = .ok (.iload_n 1, 1) := by decide +kernel
theorem dX6_at_28 : decode cX6_at 28 = .ok (.iaload, 1) := by decide +kernel
theorem dX6_at_29 : decode cX6_at 29 = .ok (.ireturn, 1) := by decide +kernel
theorem dX6_named_0 : decode cX6_named 0 = .ok (.aload_n 0, 1) := by decide +kernel
theorem dX6_named_1 : decode cX6_named 1 = .ok (.getfield 30, 3) := by decide +kernel
theorem dX6_named_4 : decode cX6_named 4 = .ok (.invokevirtual 134, 3) := by decide +kernel
theorem dX6_named_7 : decode cX6_named 7 = .ok (.iconst 0, 1) := by decide +kernel
theorem dX6_named_8 : decode cX6_named 8 = .ok (.istore_n 1, 1) := by decide +kernel
theorem dX6_named_9 : decode cX6_named 9 = .ok (.iconst 0, 1) := by decide +kernel
theorem dX6_named_10 : decode cX6_named 10 = .ok (.istore_n 2, 1) := by decide +kernel
theorem dX6_named_11 : decode cX6_named 11 = .ok (.iload_n 2, 1) := by decide +kernel
theorem dX6_named_12 : decode cX6_named 12 = .ok (.aload_n 0, 1) := by decide +kernel
theorem dX6_named_13 : decode cX6_named 13 = .ok (.getfield 10, 3) := by decide +kernel
theorem dX6_named_16 : decode cX6_named 16 = .ok (.getfield 66, 3) := by decide +kernel
theorem dX6_named_19 : decode cX6_named 19 = .ok (.if_icmp .ge 26, 3) := by decide +kernel
theorem dX6_named_22 : decode cX6_named 22 = .ok (.aload_n 0, 1) := by decide +kernel
theorem dX6_named_23 : decode cX6_named 23 = .ok (.getfield 30, 3) := by decide +kernel
theorem dX6_named_26 : decode cX6_named 26 = .ok (.getfield 140, 3) := by decide +kernel
theorem dX6_named_29 : decode cX6_named 29 = .ok (.iload_n 2, 1) := by decide +kernel
theorem dX6_named_30 : decode cX6_named 30 = .ok (.iaload, 1) := by decide +kernel
theorem dX6_named_31 : decode cX6_named 31 = .ok (.bipush (-9), 2) := by decide +kernel
theorem dX6_named_33 : decode cX6_named 33 = .ok (.if_icmp .eq 6, 3) := by decide +kernel
theorem dX6_named_36 : decode cX6_named 36 = .ok (.iinc 1 1, 3) := by decide +kernel
theorem dX6_named_39 : decode cX6_named 39 = .ok (.iinc 2 1, 3) := by decide +kernel
theorem dX6_named_42 : decode cX6_named 42 = .ok (.goto (-31), 3) := by decide +kernel
theorem dX6_named_45 : decode cX6_named 45 = .ok (.iload_n 1, 1) := by decide +kernel
theorem dX6_named_46 : decode cX6_named 46 = .ok (.ireturn, 1) := by decide +kernel
theorem dX6_full_0 : decode cX6_full 0 = .ok (.aload_n 0, 1) := by decide +kernel
theorem dX6_full_1 : decode cX6_full 1 = .ok (.getfield 30, 3) := by decide +kernel
theorem dX6_full_4 : decode cX6_full 4 = .ok (.aload_n 0, 1) := by decide +kernel
theorem dX6_full_5 : decode cX6_full 5 = .ok (.getfield 10, 3) := by decide +kernel
theorem dX6_full_8 : decode cX6_full 8 = .ok (.getfield 106, 3) := by decide +kernel
theorem dX6_full_11 : decode cX6_full 11 = .ok (.invokevirtual 143, 3) := by decide +kernel
theorem dX6_full_14 : decode cX6_full 14 = .ok (.aload_n 0, 1) := by decide +kernel
theorem dX6_full_15 : decode cX6_full 15 = .ok (.getfield 30, 3) := by decide +kernel
theorem dX6_full_18 : decode cX6_full 18 = .ok (.invokevirtual 147, 3) := by decide +kernel
theorem dX6_full_21 : decode cX6_full 21 = .ok (.ireturn, 1) := by decide +kernel
theorem dX6_with_0 : decode cX6_with 0 = .ok (.aload_n 0, 1) := by decide +kernel
theorem dX6_with_1 : decode cX6_with 1 = .ok (.getfield 10, 3) := by decide +kernel
theorem dX6_with_4 : decode cX6_with 4 = .ok (.iload_n 1, 1) := by decide +kernel
theorem dX6_with_5 : decode cX6_with 5 = .ok (.invokevirtual 81, 3) := by decide +kernel
theorem dX6_with_8 : decode cX6_with 8 = .ok (.ifCond .ne 5, 3) := by decide +kernel
theorem dX6_with_11 : decode cX6_with 11 = .ok (.iconst (-1), 1) := by decide +kernel
theorem dX6_with_12 : decode cX6_with 12 = .ok (.ireturn, 1) := by decide +kernel
theorem dX6_with_13 : decode cX6_with 13 = .ok (.iload_n 2, 1) := by decide +kernel
theorem dX6_with_14 : decode cX6_with 14 = .ok (.invokestatic 91, 3) := by decide +kernel
theorem dX6_with_17 : decode cX6_with 17 = .ok (.ifCond .ne 6, 3) := by decide +kernel
theorem dX6_with_20 : decode cX6_with 20 = .ok (.bipush (-2), 2) := by decide +kernel
theorem dX6_with_22 : decode cX6_with 22 = .ok (.ireturn, 1) := by decide +kernel
theorem dX6_with_23 : decode cX6_with 23 = .ok (.aload_n 0, 1) := by decide +kernel
theorem dX6_with_24 : decode cX6_with 24 = .ok (.getfield 30, 3) := by decide +kernel
theorem dX6_with_27 : decode cX6_with 27 = .ok (.aload_n 0, 1) := by decide +kernel
theorem dX6_with_28 : decode cX6_with 28 = .ok (.getfield 10, 3) := by decide +kernel
theorem dX6_with_31 : decode cX6_with 31 = .ok (.getfield 106, 3) := by decide +kernel
theorem dX6_with_34 : decode cX6_with 34 = .ok (.invokevirtual 143, 3) := by decide +kernel
theorem dX6_with_37 : decode cX6_with 37 = .ok (.aload_n 0, 1) := by decide +kernel
theorem dX6_with_38 : decode cX6_with 38 = .ok (.getfield 30, 3) := by decide +kernel
theorem dX6_with_41 : decode cX6_with 41 = .ok (.iload_n 1, 1) := by decide +kernel
theorem dX6_with_42 : decode cX6_with 42 = .ok (.iload_n 2, 1) := by decide +kernel
theorem dX6_with_43 : decode cX6_with 43 = .ok (.invokevirtual 151, 3) := by decide +kernel
theorem dX6_with_46 : decode cX6_with 46 = .ok (.ireturn, 1) := by decide +kernel
theorem dX6_sure_0 : decode cX6_sure 0 = .ok (.aload_n 0, 1) := by decide +kernel
theorem dX6_sure_1 : decode cX6_sure 1 = .ok (.getfield 10, 3) := by decide +kernel
theorem dX6_sure_4 : decode cX6_sure 4 = .ok (.iload_n 1, 1) := by decide +kernel
theorem dX6_sure_5 : decode cX6_sure 5 = .ok (.invokevirtual 81, 3) := by decide +kernel
theorem dX6_sure_8 : decode cX6_sure 8 = .ok (.ifCond .ne 5, 3) := by decide +kernel
theorem dX6_sure_11 : decode cX6_sure 11 = .ok (.iconst (-1), 1) := by decide +kernel
theorem dX6_sure_12 : decode cX6_sure 12 = .ok (.ireturn, 1) := by decide +kernel
theorem dX6_sure_13 : decode cX6_sure 13 = .ok (.aload_n 0, 1) := by decide +kernel
theorem dX6_sure_14 : decode cX6_sure 14 = .ok (.getfield 30, 3) := by decide +kernel
theorem dX6_sure_17 : decode cX6_sure 17 = .ok (.aload_n 0, 1) := by decide +kernel
theorem dX6_sure_18 : decode cX6_sure 18 = .ok (.getfield 10, 3) := by decide +kernel
theorem dX6_sure_21 : decode cX6_sure 21 = .ok (.getfield 106, 3) := by decide +kernel
theorem dX6_sure_24 : decode cX6_sure 24 = .ok (.invokevirtual 143, 3) := by decide +kernel
theorem dX6_sure_27 : decode cX6_sure 27 = .ok (.bipush (-9), 2) := by decide +kernel
theorem dX6_sure_29 : decode cX6_sure 29 = .ok (.istore_n 2, 1) := by decide +kernel
theorem dX6_sure_30 : decode cX6_sure 30 = .ok (.iconst 0, 1) := by decide +kernel
theorem dX6_sure_31 : decode cX6_sure 31 = .ok (.istore_n 3, 1) := by decide +kernel
theorem dX6_sure_32 : decode cX6_sure 32 = .ok (.iload_n 3, 1) := by decide +kernel
theorem dX6_sure_33 : decode cX6_sure 33 = .ok (.iconst 4, 1) := by decide +kernel
theorem dX6_sure_34 : decode cX6_sure 34 = .ok (.if_icmp .ge 32, 3) := by decide +kernel
theorem dX6_sure_37 : decode cX6_sure 37 = .ok (.aload_n 0, 1) := by decide +kernel
theorem dX6_sure_38 : decode cX6_sure 38 = .ok (.getfield 30, 3) := by decide +kernel
theorem dX6_sure_41 : decode cX6_sure 41 = .ok (.iload_n 1, 1) := by decide +kernel
theorem dX6_sure_42 : decode cX6_sure 42 = .ok (.iload_n 3, 1) := by decide +kernel
theorem dX6_sure_43 : decode cX6_sure 43 = .ok (.invokevirtual 154, 3) := by decide +kernel
theorem dX6_sure_46 : decode cX6_sure 46 = .ok (.ifCond .eq 14, 3) := by decide +kernel
theorem dX6_sure_49 : decode cX6_sure 49 = .ok (.iload_n 2, 1) := by decide +kernel
theorem dX6_sure_50 : decode cX6_sure 50 = .ok (.bipush (-9), 2) := by decide +kernel
theorem dX6_sure_52 : decode cX6_sure 52 = .ok (.if_icmp .eq 6, 3) := by decide +kernel
theorem dX6_sure_55 : decode cX6_sure 55 = .ok (.bipush (-9), 2) := by decide +kernel
theorem dX6_sure_57 : decode cX6_sure 57 = .ok (.ireturn, 1) := by decide +kernel
theorem dX6_sure_58 : decode cX6_sure 58 = .ok (.iload_n 3, 1) := by decide +kernel
theorem dX6_sure_59 : decode cX6_sure 59 = .ok (.istore_n 2, 1) := by decide +kernel
theorem dX6_sure_60 : decode cX6_sure 60 = .ok (.iinc 3 1, 3) := by decide +kernel
theorem dX6_sure_63 : decode cX6_sure 63 = .ok (.goto (-31), 3) := by decide +kernel
theorem dX6_sure_66 : decode cX6_sure 66 = .ok (.iload_n 2, 1) := by decide +kernel
theorem dX6_sure_67 : decode cX6_sure 67 = .ok (.ireturn, 1) := by decide +kernel
theorem dX6_greatest_0 : decode cX6_greatest 0 = .ok (.bipush 40, 2) := by decide +kernel
theorem dX6_greatest_2 : decode cX6_greatest 2 = .ok (.istore_n 1, 1) := by decide +kernel
theorem dX6_greatest_3 : decode cX6_greatest 3 = .ok (.iload_n 1, 1) := by decide +kernel
theorem dX6_greatest_4 : decode cX6_greatest 4 = .ok (.iconst 1, 1) := by decide +kernel
theorem dX6_greatest_5 : decode cX6_greatest 5 = .ok (.if_icmp .lt 36, 3) := by decide +kernel
theorem dX6_greatest_8 : decode cX6_greatest 8 = .ok (.aload_n 0, 1) := by decide +kernel
theorem dX6_greatest_9 : decode cX6_greatest 9 = .ok (.getfield 30, 3) := by decide +kernel
theorem dX6_greatest_12 : decode cX6_greatest 12 = .ok (.iload_n 1, 1) := by decide +kernel
theorem dX6_greatest_13 : decode cX6_greatest 13 = .ok (.invokevirtual 143, 3) := by decide +kernel
theorem dX6_greatest_16 : decode cX6_greatest 16 = .ok (.aload_n 0, 1) := by decide +kernel
theorem dX6_greatest_17 : decode cX6_greatest 17 = .ok (.getfield 30, 3) := by decide +kernel
theorem dX6_greatest_20 : decode cX6_greatest 20 = .ok (.aload_n 0, 1) := by decide +kernel
theorem dX6_greatest_21 : decode cX6_greatest 21 = .ok (.getfield 10, 3) := by decide +kernel
theorem dX6_greatest_24 : decode cX6_greatest 24 = .ok (.invokevirtual 157, 3) := by decide +kernel
theorem dX6_greatest_27 : decode cX6_greatest 27 = .ok (.invokevirtual 160, 3) := by decide +kernel
theorem dX6_greatest_30 : decode cX6_greatest 30 = .ok (.ifCond .eq 5, 3) := by decide +kernel
theorem dX6_greatest_33 : decode cX6_greatest 33 = .ok (.iload_n 1, 1) := by decide +kernel
theorem dX6_greatest_34 : decode cX6_greatest 34 = .ok (.ireturn, 1) := by decide +kernel
theorem dX6_greatest_35 : decode cX6_greatest 35 = .ok (.iinc 1 (-1), 3) := by decide +kernel
theorem dX6_greatest_38 : decode cX6_greatest 38 = .ok (.goto (-35), 3) := by decide +kernel
theorem dX6_greatest_41 : decode cX6_greatest 41 = .ok (.bipush (-9), 2) := by decide +kernel
theorem dX6_greatest_43 : decode cX6_greatest 43 = .ok (.ireturn, 1) := by decide +kernel
theorem dX6_least_0 : decode cX6_least 0 = .ok (.aload_n 0, 1) := by decide +kernel
theorem dX6_least_1 : decode cX6_least 1 = .ok (.getfield 30, 3) := by decide +kernel
theorem dX6_least_4 : decode cX6_least 4 = .ok (.aload_n 0, 1) := by decide +kernel
theorem dX6_least_5 : decode cX6_least 5 = .ok (.getfield 10, 3) := by decide +kernel
theorem dX6_least_8 : decode cX6_least 8 = .ok (.getfield 106, 3) := by decide +kernel
theorem dX6_least_11 : decode cX6_least 11 = .ok (.invokevirtual 143, 3) := by decide +kernel
theorem dX6_least_14 : decode cX6_least 14 = .ok (.aload_n 0, 1) := by decide +kernel
theorem dX6_least_15 : decode cX6_least 15 = .ok (.getfield 10, 3) := by decide +kernel
theorem dX6_least_18 : decode cX6_least 18 = .ok (.invokevirtual 157, 3) := by decide +kernel
theorem dX6_least_21 : decode cX6_least 21 = .ok (.istore_n 1, 1) := by decide +kernel
theorem dX6_least_22 : decode cX6_least 22 = .ok (.aload_n 0, 1) := by decide +kernel
theorem dX6_least_23 : decode cX6_least 23 = .ok (.getfield 10, 3) := by decide +kernel
theorem dX6_least_26 : decode cX6_least 26 = .ok (.iload_n 1, 1) := by decide +kernel
theorem dX6_least_27 : decode cX6_least 27 = .ok (.invokevirtual 163, 3) := by decide +kernel
theorem dX6_least_30 : decode cX6_least 30 = .ok (.istore_n 2, 1) := by decide +kernel
theorem dX6_least_31 : decode cX6_least 31 = .ok (.iconst 0, 1) := by decide +kernel
theorem dX6_least_32 : decode cX6_least 32 = .ok (.istore_n 3, 1) := by decide +kernel
theorem dX6_least_33 : decode cX6_least 33 = .ok (.iload_n 3, 1) := by decide +kernel
theorem dX6_least_34 : decode cX6_least 34 = .ok (.iload_n 1, 1) := by decide +kernel
theorem dX6_least_35 : decode cX6_least 35 = .ok (.if_icmp .gt 43, 3) := by decide +kernel
theorem dX6_least_38 : decode cX6_least 38 = .ok (.aload_n 0, 1) := by decide +kernel
theorem dX6_least_39 : decode cX6_least 39 = .ok (.getfield 10, 3) := by decide +kernel
theorem dX6_least_42 : decode cX6_least 42 = .ok (.iload_n 3, 1) := by decide +kernel
theorem dX6_least_43 : decode cX6_least 43 = .ok (.invokevirtual 163, 3) := by decide +kernel
theorem dX6_least_46 : decode cX6_least 46 = .ok (.istore 4, 2) := by decide +kernel
theorem dX6_least_48 : decode cX6_least 48 = .ok (.iload 4, 2) := by decide +kernel
theorem dX6_least_50 : decode cX6_least 50 = .ok (.iload_n 2, 1) := by decide +kernel
theorem dX6_least_51 : decode cX6_least 51 = .ok (.if_icmp .ge 21, 3) := by decide +kernel
theorem dX6_least_54 : decode cX6_least 54 = .ok (.aload_n 0, 1) := by decide +kernel
theorem dX6_least_55 : decode cX6_least 55 = .ok (.getfield 30, 3) := by decide +kernel
theorem dX6_least_58 : decode cX6_least 58 = .ok (.iload_n 1, 1) := by decide +kernel
theorem dX6_least_59 : decode cX6_least 59 = .ok (.iload_n 3, 1) := by decide +kernel
theorem dX6_least_60 : decode cX6_least 60 = .ok (.iconst (-1), 1) := by decide +kernel
theorem dX6_least_61 : decode cX6_least 61 = .ok (.ixor, 1) := by decide +kernel
theorem dX6_least_62 : decode cX6_least 62 = .ok (.iand, 1) := by decide +kernel
theorem dX6_least_63 : decode cX6_least 63 = .ok (.invokevirtual 160, 3) := by decide +kernel
theorem dX6_least_66 : decode cX6_least 66 = .ok (.ifCond .eq 6, 3) := by decide +kernel
theorem dX6_least_69 : decode cX6_least 69 = .ok (.iload 4, 2) := by decide +kernel
theorem dX6_least_71 : decode cX6_least 71 = .ok (.istore_n 2, 1) := by decide +kernel
theorem dX6_least_72 : decode cX6_least 72 = .ok (.iinc 3 1, 3) := by decide +kernel
theorem dX6_least_75 : decode cX6_least 75 = .ok (.goto (-42), 3) := by decide +kernel
theorem dX6_least_78 : decode cX6_least 78 = .ok (.iload_n 2, 1) := by decide +kernel
theorem dX6_least_79 : decode cX6_least 79 = .ok (.ireturn, 1) := by decide +kernel
theorem dX6_put_0 : decode cX6_put 0 = .ok (.aload_n 0, 1) := by decide +kernel
theorem dX6_put_1 : decode cX6_put 1 = .ok (.getfield 10, 3) := by decide +kernel
theorem dX6_put_4 : decode cX6_put 4 = .ok (.iload_n 1, 1) := by decide +kernel
theorem dX6_put_5 : decode cX6_put 5 = .ok (.invokevirtual 81, 3) := by decide +kernel
theorem dX6_put_8 : decode cX6_put 8 = .ok (.ifCond .ne 5, 3) := by decide +kernel
theorem dX6_put_11 : decode cX6_put 11 = .ok (.iconst (-1), 1) := by decide +kernel
theorem dX6_put_12 : decode cX6_put 12 = .ok (.ireturn, 1) := by decide +kernel
theorem dX6_put_13 : decode cX6_put 13 = .ok (.iload_n 2, 1) := by decide +kernel
theorem dX6_put_14 : decode cX6_put 14 = .ok (.invokestatic 91, 3) := by decide +kernel
theorem dX6_put_17 : decode cX6_put 17 = .ok (.ifCond .ne 12, 3) := by decide +kernel
theorem dX6_put_20 : decode cX6_put 20 = .ok (.iload_n 2, 1) := by decide +kernel
theorem dX6_put_21 : decode cX6_put 21 = .ok (.bipush (-9), 2) := by decide +kernel
theorem dX6_put_23 : decode cX6_put 23 = .ok (.if_icmp .eq 6, 3) := by decide +kernel
theorem dX6_put_26 : decode cX6_put 26 = .ok (.bipush (-2), 2) := by decide +kernel
theorem dX6_put_28 : decode cX6_put 28 = .ok (.ireturn, 1) := by decide +kernel
theorem dX6_put_29 : decode cX6_put 29 = .ok (.aload_n 0, 1) := by decide +kernel
theorem dX6_put_30 : decode cX6_put 30 = .ok (.getfield 37, 3) := by decide +kernel
theorem dX6_put_33 : decode cX6_put 33 = .ok (.getfield 77, 3) := by decide +kernel
theorem dX6_put_36 : decode cX6_put 36 = .ok (.iload_n 1, 1) := by decide +kernel
theorem dX6_put_37 : decode cX6_put 37 = .ok (.iaload, 1) := by decide +kernel
theorem dX6_put_38 : decode cX6_put 38 = .ok (.istore_n 3, 1) := by decide +kernel
theorem dX6_put_39 : decode cX6_put 39 = .ok (.aload_n 0, 1) := by decide +kernel
theorem dX6_put_40 : decode cX6_put 40 = .ok (.getfield 37, 3) := by decide +kernel
theorem dX6_put_43 : decode cX6_put 43 = .ok (.getfield 77, 3) := by decide +kernel
theorem dX6_put_46 : decode cX6_put 46 = .ok (.iload_n 1, 1) := by decide +kernel
theorem dX6_put_47 : decode cX6_put 47 = .ok (.iload_n 2, 1) := by decide +kernel
theorem dX6_put_48 : decode cX6_put 48 = .ok (.iastore, 1) := by decide +kernel
theorem dX6_put_49 : decode cX6_put 49 = .ok (.iload_n 3, 1) := by decide +kernel
theorem dX6_put_50 : decode cX6_put 50 = .ok (.ireturn, 1) := by decide +kernel
theorem dX6_hand_0 : decode cX6_hand 0 = .ok (.aload_n 0, 1) := by decide +kernel
theorem dX6_hand_1 : decode cX6_hand 1 = .ok (.getfield 10, 3) := by decide +kernel
theorem dX6_hand_4 : decode cX6_hand 4 = .ok (.iload_n 1, 1) := by decide +kernel
theorem dX6_hand_5 : decode cX6_hand 5 = .ok (.invokevirtual 81, 3) := by decide +kernel
theorem dX6_hand_8 : decode cX6_hand 8 = .ok (.ifCond .eq 15, 3) := by decide +kernel
theorem dX6_hand_11 : decode cX6_hand 11 = .ok (.aload_n 0, 1) := by decide +kernel
theorem dX6_hand_12 : decode cX6_hand 12 = .ok (.getfield 37, 3) := by decide +kernel
theorem dX6_hand_15 : decode cX6_hand 15 = .ok (.getfield 77, 3) := by decide +kernel
theorem dX6_hand_18 : decode cX6_hand 18 = .ok (.iload_n 1, 1) := by decide +kernel
theorem dX6_hand_19 : decode cX6_hand 19 = .ok (.iaload, 1) := by decide +kernel
theorem dX6_hand_20 : decode cX6_hand 20 = .ok (.goto 4, 3) := by decide +kernel
theorem dX6_hand_23 : decode cX6_hand 23 = .ok (.iconst (-1), 1) := by decide +kernel
theorem dX6_hand_24 : decode cX6_hand 24 = .ok (.ireturn, 1) := by decide +kernel
theorem dX6_take_0 : decode cX6_take 0 = .ok (.aload_n 0, 1) := by decide +kernel
theorem dX6_take_1 : decode cX6_take 1 = .ok (.getfield 30, 3) := by decide +kernel
theorem dX6_take_4 : decode cX6_take 4 = .ok (.invokevirtual 134, 3) := by decide +kernel
theorem dX6_take_7 : decode cX6_take 7 = .ok (.iconst 0, 1) := by decide +kernel
theorem dX6_take_8 : decode cX6_take 8 = .ok (.istore_n 1, 1) := by decide +kernel
theorem dX6_take_9 : decode cX6_take 9 = .ok (.iconst 0, 1) := by decide +kernel
theorem dX6_take_10 : decode cX6_take 10 = .ok (.istore_n 2, 1) := by decide +kernel
theorem dX6_take_11 : decode cX6_take 11 = .ok (.iload_n 2, 1) := by decide +kernel
theorem dX6_take_12 : decode cX6_take 12 = .ok (.aload_n 0, 1) := by decide +kernel
theorem dX6_take_13 : decode cX6_take 13 = .ok (.getfield 10, 3) := by decide +kernel
theorem dX6_take_16 : decode cX6_take 16 = .ok (.getfield 66, 3) := by decide +kernel
theorem dX6_take_19 : decode cX6_take 19 = .ok (.if_icmp .ge 51, 3) := by decide +kernel
theorem dX6_take_22 : decode cX6_take 22 = .ok (.aload_n 0, 1) := by decide +kernel
theorem dX6_take_23 : decode cX6_take 23 = .ok (.getfield 37, 3) := by decide +kernel
theorem dX6_take_26 : decode cX6_take 26 = .ok (.getfield 77, 3) := by decide +kernel
theorem dX6_take_29 : decode cX6_take 29 = .ok (.iload_n 2, 1) := by decide +kernel
theorem dX6_take_30 : decode cX6_take 30 = .ok (.iaload, 1) := by decide +kernel
theorem dX6_take_31 : decode cX6_take 31 = .ok (.aload_n 0, 1) := by decide +kernel
theorem dX6_take_32 : decode cX6_take 32 = .ok (.getfield 30, 3) := by decide +kernel
theorem dX6_take_35 : decode cX6_take 35 = .ok (.getfield 140, 3) := by decide +kernel
theorem dX6_take_38 : decode cX6_take 38 = .ok (.iload_n 2, 1) := by decide +kernel
theorem dX6_take_39 : decode cX6_take 39 = .ok (.iaload, 1) := by decide +kernel
theorem dX6_take_40 : decode cX6_take 40 = .ok (.if_icmp .eq 24, 3) := by decide +kernel
theorem dX6_take_43 : decode cX6_take 43 = .ok (.aload_n 0, 1) := by decide +kernel
theorem dX6_take_44 : decode cX6_take 44 = .ok (.getfield 37, 3) := by decide +kernel
theorem dX6_take_47 : decode cX6_take 47 = .ok (.getfield 77, 3) := by decide +kernel
theorem dX6_take_50 : decode cX6_take 50 = .ok (.iload_n 2, 1) := by decide +kernel
theorem dX6_take_51 : decode cX6_take 51 = .ok (.aload_n 0, 1) := by decide +kernel
theorem dX6_take_52 : decode cX6_take 52 = .ok (.getfield 30, 3) := by decide +kernel
theorem dX6_take_55 : decode cX6_take 55 = .ok (.getfield 140, 3) := by decide +kernel
theorem dX6_take_58 : decode cX6_take 58 = .ok (.iload_n 2, 1) := by decide +kernel
theorem dX6_take_59 : decode cX6_take 59 = .ok (.iaload, 1) := by decide +kernel
theorem dX6_take_60 : decode cX6_take 60 = .ok (.iastore, 1) := by decide +kernel
theorem dX6_take_61 : decode cX6_take 61 = .ok (.iinc 1 1, 3) := by decide +kernel
theorem dX6_take_64 : decode cX6_take 64 = .ok (.iinc 2 1, 3) := by decide +kernel
theorem dX6_take_67 : decode cX6_take 67 = .ok (.goto (-56), 3) := by decide +kernel
theorem dX6_take_70 : decode cX6_take 70 = .ok (.iload_n 1, 1) := by decide +kernel
theorem dX6_take_71 : decode cX6_take 71 = .ok (.ireturn, 1) := by decide +kernel
theorem dX6_faults_0 : decode cX6_faults 0 = .ok (.aload_n 0, 1) := by decide +kernel
theorem dX6_faults_1 : decode cX6_faults 1 = .ok (.getfield 21, 3) := by decide +kernel
theorem dX6_faults_4 : decode cX6_faults 4 = .ok (.aload_n 0, 1) := by decide +kernel
theorem dX6_faults_5 : decode cX6_faults 5 = .ok (.getfield 10, 3) := by decide +kernel
theorem dX6_faults_8 : decode cX6_faults 8 = .ok (.getfield 106, 3) := by decide +kernel
theorem dX6_faults_11 : decode cX6_faults 11 = .ok (.iconst 1, 1) := by decide +kernel
theorem dX6_faults_12 : decode cX6_faults 12 = .ok (.invokevirtual 124, 3) := by decide +kernel
theorem dX6_faults_15 : decode cX6_faults 15 = .ok (.aload_n 0, 1) := by decide +kernel
theorem dX6_faults_16 : decode cX6_faults 16 = .ok (.getfield 37, 3) := by decide +kernel
theorem dX6_faults_19 : decode cX6_faults 19 = .ok (.invokevirtual 167, 3) := by decide +kernel
theorem dX6_faults_22 : decode cX6_faults 22 = .ok (.ireturn, 1) := by decide +kernel
theorem dX6_faultsOf_0 : decode cX6_faultsOf 0 = .ok (.aload_n 0, 1) := by decide +kernel
theorem dX6_faultsOf_1 : decode cX6_faultsOf 1 = .ok (.getfield 10, 3) := by decide +kernel
theorem dX6_faultsOf_4 : decode cX6_faultsOf 4 = .ok (.iload_n 1, 1) := by decide +kernel
theorem dX6_faultsOf_5 : decode cX6_faultsOf 5 = .ok (.invokevirtual 81, 3) := by decide +kernel
theorem dX6_faultsOf_8 : decode cX6_faultsOf 8 = .ok (.ifCond .ne 5, 3) := by decide +kernel
theorem dX6_faultsOf_11 : decode cX6_faultsOf 11 = .ok (.iconst (-1), 1) := by decide +kernel
theorem dX6_faultsOf_12 : decode cX6_faultsOf 12 = .ok (.ireturn, 1) := by decide +kernel
theorem dX6_faultsOf_13 : decode cX6_faultsOf 13 = .ok (.aload_n 0, 1) := by decide +kernel
theorem dX6_faultsOf_14 : decode cX6_faultsOf 14 = .ok (.getfield 21, 3) := by decide +kernel
theorem dX6_faultsOf_17 : decode cX6_faultsOf 17 = .ok (.aload_n 0, 1) := by decide +kernel
theorem dX6_faultsOf_18 : decode cX6_faultsOf 18 = .ok (.getfield 10, 3) := by decide +kernel
theorem dX6_faultsOf_21 : decode cX6_faultsOf 21 = .ok (.getfield 106, 3) := by decide +kernel
theorem dX6_faultsOf_24 : decode cX6_faultsOf 24 = .ok (.iconst 1, 1) := by decide +kernel
theorem dX6_faultsOf_25 : decode cX6_faultsOf 25 = .ok (.invokevirtual 124, 3) := by decide +kernel
theorem dX6_faultsOf_28 : decode cX6_faultsOf 28 = .ok (.aload_n 0, 1) := by decide +kernel
theorem dX6_faultsOf_29 : decode cX6_faultsOf 29 = .ok (.getfield 37, 3) := by decide +kernel
theorem dX6_faultsOf_32 : decode cX6_faultsOf 32 = .ok (.iload_n 1, 1) := by decide +kernel
theorem dX6_faultsOf_33 : decode cX6_faultsOf 33 = .ok (.invokevirtual 170, 3) := by decide +kernel
theorem dX6_faultsOf_36 : decode cX6_faultsOf 36 = .ok (.istore_n 2, 1) := by decide +kernel
theorem dX6_faultsOf_37 : decode cX6_faultsOf 37 = .ok (.iconst 0, 1) := by decide +kernel
theorem dX6_faultsOf_38 : decode cX6_faultsOf 38 = .ok (.istore_n 3, 1) := by decide +kernel
theorem dX6_faultsOf_39 : decode cX6_faultsOf 39 = .ok (.iload_n 3, 1) := by decide +kernel
theorem dX6_faultsOf_40 : decode cX6_faultsOf 40 = .ok (.aload_n 0, 1) := by decide +kernel
theorem dX6_faultsOf_41 : decode cX6_faultsOf 41 = .ok (.getfield 10, 3) := by decide +kernel
theorem dX6_faultsOf_44 : decode cX6_faultsOf 44 = .ok (.getfield 66, 3) := by decide +kernel
theorem dX6_faultsOf_47 : decode cX6_faultsOf 47 = .ok (.if_icmp .ge 26, 3) := by decide +kernel
theorem dX6_faultsOf_50 : decode cX6_faultsOf 50 = .ok (.iload_n 3, 1) := by decide +kernel
theorem dX6_faultsOf_51 : decode cX6_faultsOf 51 = .ok (.iload_n 1, 1) := by decide +kernel
theorem dX6_faultsOf_52 : decode cX6_faultsOf 52 = .ok (.if_icmp .eq 15, 3) := by decide +kernel
theorem dX6_faultsOf_55 : decode cX6_faultsOf 55 = .ok (.iload_n 2, 1) := by decide +kernel
theorem dX6_faultsOf_56 : decode cX6_faultsOf 56 = .ok (.aload_n 0, 1) := by decide +kernel
theorem dX6_faultsOf_57 : decode cX6_faultsOf 57 = .ok (.getfield 37, 3) := by decide +kernel
theorem dX6_faultsOf_60 : decode cX6_faultsOf 60 = .ok (.iload_n 1, 1) := by decide +kernel
theorem dX6_faultsOf_61 : decode cX6_faultsOf 61 = .ok (.iload_n 3, 1) := by decide +kernel
theorem dX6_faultsOf_62 : decode cX6_faultsOf 62 = .ok (.invokevirtual 173, 3) := by decide +kernel
theorem dX6_faultsOf_65 : decode cX6_faultsOf 65 = .ok (.iadd, 1) := by decide +kernel
theorem dX6_faultsOf_66 : decode cX6_faultsOf 66 = .ok (.istore_n 2, 1) := by decide +kernel
theorem dX6_faultsOf_67 : decode cX6_faultsOf 67 = .ok (.iinc 3 1, 3) := by decide +kernel
theorem dX6_faultsOf_70 : decode cX6_faultsOf 70 = .ok (.goto (-31), 3) := by decide +kernel
theorem dX6_faultsOf_73 : decode cX6_faultsOf 73 = .ok (.iload_n 2, 1) := by decide +kernel
theorem dX6_faultsOf_74 : decode cX6_faultsOf 74 = .ok (.ireturn, 1) := by decide +kernel
theorem dX6_stir_0 : decode cX6_stir 0 = .ok (.aload_n 0, 1) := by decide +kernel
theorem dX6_stir_1 : decode cX6_stir 1 = .ok (.getfield 21, 3) := by decide +kernel
theorem dX6_stir_4 : decode cX6_stir 4 = .ok (.aload_n 0, 1) := by decide +kernel
theorem dX6_stir_5 : decode cX6_stir 5 = .ok (.getfield 10, 3) := by decide +kernel
theorem dX6_stir_8 : decode cX6_stir 8 = .ok (.getfield 106, 3) := by decide +kernel
theorem dX6_stir_11 : decode cX6_stir 11 = .ok (.iconst 1, 1) := by decide +kernel
theorem dX6_stir_12 : decode cX6_stir 12 = .ok (.invokevirtual 124, 3) := by decide +kernel
theorem dX6_stir_15 : decode cX6_stir 15 = .ok (.aload_n 0, 1) := by decide +kernel
theorem dX6_stir_16 : decode cX6_stir 16 = .ok (.getfield 37, 3) := by decide +kernel
theorem dX6_stir_19 : decode cX6_stir 19 = .ok (.invokevirtual 176, 3) := by decide +kernel
theorem dX6_stir_22 : decode cX6_stir 22 = .ok (.ireturn, 1) := by decide +kernel
theorem dX6_settle_0 : decode cX6_settle 0 = .ok (.aload_n 0, 1) := by decide +kernel
theorem dX6_settle_1 : decode cX6_settle 1 = .ok (.getfield 21, 3) := by decide +kernel
theorem dX6_settle_4 : decode cX6_settle 4 = .ok (.aload_n 0, 1) := by decide +kernel
theorem dX6_settle_5 : decode cX6_settle 5 = .ok (.getfield 10, 3) := by decide +kernel
theorem dX6_settle_8 : decode cX6_settle 8 = .ok (.getfield 106, 3) := by decide +kernel
theorem dX6_settle_11 : decode cX6_settle 11 = .ok (.iconst 1, 1) := by decide +kernel
theorem dX6_settle_12 : decode cX6_settle 12 = .ok (.invokevirtual 124, 3) := by decide +kernel
theorem dX6_settle_15 : decode cX6_settle 15 = .ok (.iconst 0, 1) := by decide +kernel
theorem dX6_settle_16 : decode cX6_settle 16 = .ok (.istore_n 1, 1) := by decide +kernel
theorem dX6_settle_17 : decode cX6_settle 17 = .ok (.iload_n 1, 1) := by decide +kernel
theorem dX6_settle_18 : decode cX6_settle 18 = .ok (.bipush 36, 2) := by decide +kernel
theorem dX6_settle_20 : decode cX6_settle 20 = .ok (.if_icmp .ge 23, 3) := by decide +kernel
theorem dX6_settle_23 : decode cX6_settle 23 = .ok (.aload_n 0, 1) := by decide +kernel
theorem dX6_settle_24 : decode cX6_settle 24 = .ok (.getfield 37, 3) := by decide +kernel
theorem dX6_settle_27 : decode cX6_settle 27 = .ok (.invokevirtual 176, 3) := by decide +kernel
theorem dX6_settle_30 : decode cX6_settle 30 = .ok (.bipush (-9), 2) := by decide +kernel
theorem dX6_settle_32 : decode cX6_settle 32 = .ok (.if_icmp .ne 5, 3) := by decide +kernel
theorem dX6_settle_35 : decode cX6_settle 35 = .ok (.iload_n 1, 1) := by decide +kernel
theorem dX6_settle_36 : decode cX6_settle 36 = .ok (.ireturn, 1) := by decide +kernel
theorem dX6_settle_37 : decode cX6_settle 37 = .ok (.iinc 1 1, 3) := by decide +kernel
theorem dX6_settle_40 : decode cX6_settle 40 = .ok (.goto (-23), 3) := by decide +kernel
theorem dX6_settle_43 : decode cX6_settle 43 = .ok (.bipush 36, 2) := by decide +kernel
theorem dX6_settle_45 : decode cX6_settle 45 = .ok (.ireturn, 1) := by decide +kernel
theorem dX6_stands_0 : decode cX6_stands 0 = .ok (.aload_n 0, 1) := by decide +kernel
theorem dX6_stands_1 : decode cX6_stands 1 = .ok (.getfield 21, 3) := by decide +kernel
theorem dX6_stands_4 : decode cX6_stands 4 = .ok (.aload_n 0, 1) := by decide +kernel
theorem dX6_stands_5 : decode cX6_stands 5 = .ok (.getfield 10, 3) := by decide +kernel
theorem dX6_stands_8 : decode cX6_stands 8 = .ok (.getfield 106, 3) := by decide +kernel
theorem dX6_stands_11 : decode cX6_stands 11 = .ok (.iconst 1, 1) := by decide +kernel
theorem dX6_stands_12 : decode cX6_stands 12 = .ok (.invokevirtual 124, 3) := by decide +kernel
theorem dX6_stands_15 : decode cX6_stands 15 = .ok (.aload_n 0, 1) := by decide +kernel
theorem dX6_stands_16 : decode cX6_stands 16 = .ok (.getfield 37, 3) := by decide +kernel
theorem dX6_stands_19 : decode cX6_stands 19 = .ok (.invokevirtual 167, 3) := by decide +kernel
theorem dX6_stands_22 : decode cX6_stands 22 = .ok (.ifCond .ne 7, 3) := by decide +kernel
theorem dX6_stands_25 : decode cX6_stands 25 = .ok (.iconst 1, 1) := by decide +kernel
theorem dX6_stands_26 : decode cX6_stands 26 = .ok (.goto 4, 3) := by decide +kernel
theorem dX6_stands_29 : decode cX6_stands 29 = .ok (.iconst 0, 1) := by decide +kernel
theorem dX6_stands_30 : decode cX6_stands 30 = .ok (.invokestatic 102, 3) := by decide +kernel
theorem dX6_stands_33 : decode cX6_stands 33 = .ok (.ireturn, 1) := by decide +kernel
theorem dX6_shown_0 : decode cX6_shown 0 = .ok (.iload_n 1, 1) := by decide +kernel
theorem dX6_shown_1 : decode cX6_shown 1 = .ok (.iconst 0, 1) := by decide +kernel
theorem dX6_shown_2 : decode cX6_shown 2 = .ok (.iconst 5, 1) := by decide +kernel
theorem dX6_shown_3 : decode cX6_shown 3 = .ok (.invokestatic 55, 3) := by decide +kernel
theorem dX6_shown_6 : decode cX6_shown 6 = .ok (.ifCond .ne 6, 3) := by decide +kernel
theorem dX6_shown_9 : decode cX6_shown 9 = .ok (.bipush (-2), 2) := by decide +kernel
theorem dX6_shown_11 : decode cX6_shown 11 = .ok (.ireturn, 1) := by decide +kernel
theorem dX6_shown_12 : decode cX6_shown 12 = .ok (.aload_n 0, 1) := by decide +kernel
theorem dX6_shown_13 : decode cX6_shown 13 = .ok (.getfield 44, 3) := by decide +kernel
theorem dX6_shown_16 : decode cX6_shown 16 = .ok (.invokevirtual 179, 3) := by decide +kernel
theorem dX6_shown_19 : decode cX6_shown 19 = .ok (.iconst 0, 1) := by decide +kernel
theorem dX6_shown_20 : decode cX6_shown 20 = .ok (.istore_n 2, 1) := by decide +kernel
theorem dX6_shown_21 : decode cX6_shown 21 = .ok (.iconst 0, 1) := by decide +kernel
theorem dX6_shown_22 : decode cX6_shown 22 = .ok (.istore_n 3, 1) := by decide +kernel
theorem dX6_shown_23 : decode cX6_shown 23 = .ok (.iload_n 3, 1) := by decide +kernel
theorem dX6_shown_24 : decode cX6_shown 24 = .ok (.aload_n 0, 1) := by decide +kernel
theorem dX6_shown_25 : decode cX6_shown 25 = .ok (.getfield 10, 3) := by decide +kernel
theorem dX6_shown_28 : decode cX6_shown 28 = .ok (.getfield 66, 3) := by decide +kernel
theorem dX6_shown_31 : decode cX6_shown 31 = .ok (.if_icmp .ge 39, 3) := by decide +kernel
theorem dX6_shown_34 : decode cX6_shown 34 = .ok (.aload_n 0, 1) := by decide +kernel
theorem dX6_shown_35 : decode cX6_shown 35 = .ok (.getfield 44, 3) := by decide +kernel
theorem dX6_shown_38 : decode cX6_shown 38 = .ok (.getfield 182, 3) := by decide +kernel
theorem dX6_shown_41 : decode cX6_shown 41 = .ok (.iload_n 3, 1) := by decide +kernel
theorem dX6_shown_42 : decode cX6_shown 42 = .ok (.iaload, 1) := by decide +kernel
theorem dX6_shown_43 : decode cX6_shown 43 = .ok (.bipush (-9), 2) := by decide +kernel
theorem dX6_shown_45 : decode cX6_shown 45 = .ok (.if_icmp .eq 19, 3) := by decide +kernel
theorem dX6_shown_48 : decode cX6_shown 48 = .ok (.aload_n 0, 1) := by decide +kernel
theorem dX6_shown_49 : decode cX6_shown 49 = .ok (.getfield 44, 3) := by decide +kernel
theorem dX6_shown_52 : decode cX6_shown 52 = .ok (.getfield 182, 3) := by decide +kernel
theorem dX6_shown_55 : decode cX6_shown 55 = .ok (.iload_n 3, 1) := by decide +kernel
theorem dX6_shown_56 : decode cX6_shown 56 = .ok (.iaload, 1) := by decide +kernel
theorem dX6_shown_57 : decode cX6_shown 57 = .ok (.iload_n 1, 1) := by decide +kernel
theorem dX6_shown_58 : decode cX6_shown 58 = .ok (.if_icmp .gt 6, 3) := by decide +kernel
theorem dX6_shown_61 : decode cX6_shown 61 = .ok (.iinc 2 1, 3) := by decide +kernel
theorem dX6_shown_64 : decode cX6_shown 64 = .ok (.iinc 3 1, 3) := by decide +kernel
theorem dX6_shown_67 : decode cX6_shown 67 = .ok (.goto (-44), 3) := by decide +kernel
theorem dX6_shown_70 : decode cX6_shown 70 = .ok (.iload_n 2, 1) := by decide +kernel
theorem dX6_shown_71 : decode cX6_shown 71 = .ok (.ireturn, 1) := by decide +kernel
theorem dX6_comes_0 : decode cX6_comes 0 = .ok (.aload_n 0, 1) := by decide +kernel
theorem dX6_comes_1 : decode cX6_comes 1 = .ok (.getfield 10, 3) := by decide +kernel
theorem dX6_comes_4 : decode cX6_comes 4 = .ok (.iload_n 1, 1) := by decide +kernel
theorem dX6_comes_5 : decode cX6_comes 5 = .ok (.invokevirtual 81, 3) := by decide +kernel
theorem dX6_comes_8 : decode cX6_comes 8 = .ok (.ifCond .ne 5, 3) := by decide +kernel
theorem dX6_comes_11 : decode cX6_comes 11 = .ok (.iconst (-1), 1) := by decide +kernel
theorem dX6_comes_12 : decode cX6_comes 12 = .ok (.ireturn, 1) := by decide +kernel
theorem dX6_comes_13 : decode cX6_comes 13 = .ok (.aload_n 0, 1) := by decide +kernel
theorem dX6_comes_14 : decode cX6_comes 14 = .ok (.getfield 44, 3) := by decide +kernel
theorem dX6_comes_17 : decode cX6_comes 17 = .ok (.invokevirtual 179, 3) := by decide +kernel
theorem dX6_comes_20 : decode cX6_comes 20 = .ok (.aload_n 0, 1) := by decide +kernel
theorem dX6_comes_21 : decode cX6_comes 21 = .ok (.getfield 44, 3) := by decide +kernel
theorem dX6_comes_24 : decode cX6_comes 24 = .ok (.getfield 182, 3) := by decide +kernel
theorem dX6_comes_27 : decode cX6_comes 27 = .ok (.iload_n 1, 1) := by decide +kernel
theorem dX6_comes_28 : decode cX6_comes 28 = .ok (.iaload, 1) := by decide +kernel
theorem dX6_comes_29 : decode cX6_comes 29 = .ok (.ireturn, 1) := by decide +kernel
theorem dX6_shownAt_0 : decode cX6_shownAt 0 = .ok (.aload_n 0, 1) := by decide +kernel
theorem dX6_shownAt_1 : decode cX6_shownAt 1 = .ok (.getfield 10, 3) := by decide +kernel
theorem dX6_shownAt_4 : decode cX6_shownAt 4 = .ok (.iload_n 1, 1) := by decide +kernel
theorem dX6_shownAt_5 : decode cX6_shownAt 5 = .ok (.invokevirtual 81, 3) := by decide +kernel
theorem dX6_shownAt_8 : decode cX6_shownAt 8 = .ok (.ifCond .ne 5, 3) := by decide +kernel
theorem dX6_shownAt_11 : decode cX6_shownAt 11 = .ok (.iconst (-1), 1) := by decide +kernel
theorem dX6_shownAt_12 : decode cX6_shownAt 12 = .ok (.ireturn, 1) := by decide +kernel
theorem dX6_shownAt_13 : decode cX6_shownAt 13 = .ok (.aload_n 0, 1) := by decide +kernel
theorem dX6_shownAt_14 : decode cX6_shownAt 14 = .ok (.getfield 44, 3) := by decide +kernel
theorem dX6_shownAt_17 : decode cX6_shownAt 17 = .ok (.invokevirtual 179, 3) := by decide +kernel
theorem dX6_shownAt_20 : decode cX6_shownAt 20 = .ok (.aload_n 0, 1) := by decide +kernel
theorem dX6_shownAt_21 : decode cX6_shownAt 21 = .ok (.getfield 44, 3) := by decide +kernel
theorem dX6_shownAt_24 : decode cX6_shownAt 24 = .ok (.getfield 185, 3) := by decide +kernel
theorem dX6_shownAt_27 : decode cX6_shownAt 27 = .ok (.iload_n 1, 1) := by decide +kernel
theorem dX6_shownAt_28 : decode cX6_shownAt 28 = .ok (.iaload, 1) := by decide +kernel
theorem dX6_shownAt_29 : decode cX6_shownAt 29 = .ok (.ireturn, 1) := by decide +kernel
theorem dX6_crosses_0 : decode cX6_crosses 0 = .ok (.aload_n 0, 1) := by decide +kernel
theorem dX6_crosses_1 : decode cX6_crosses 1 = .ok (.getfield 10, 3) := by decide +kernel
theorem dX6_crosses_4 : decode cX6_crosses 4 = .ok (.iload_n 1, 1) := by decide +kernel
theorem dX6_crosses_5 : decode cX6_crosses 5 = .ok (.invokevirtual 186, 3) := by decide +kernel
theorem dX6_crosses_8 : decode cX6_crosses 8 = .ok (.ifCond .ne 6, 3) := by decide +kernel
theorem dX6_crosses_11 : decode cX6_crosses 11 = .ok (.bipush (-2), 2) := by decide +kernel
theorem dX6_crosses_13 : decode cX6_crosses 13 = .ok (.ireturn, 1) := by decide +kernel
theorem dX6_crosses_14 : decode cX6_crosses 14 = .ok (.aload_n 0, 1) := by decide +kernel
theorem dX6_crosses_15 : decode cX6_crosses 15 = .ok (.getfield 51, 3) := by decide +kernel
theorem dX6_crosses_18 : decode cX6_crosses 18 = .ok (.iload_n 1, 1) := by decide +kernel
theorem dX6_crosses_19 : decode cX6_crosses 19 = .ok (.invokevirtual 189, 3) := by decide +kernel
theorem dX6_crosses_22 : decode cX6_crosses 22 = .ok (.aload_n 0, 1) := by decide +kernel
theorem dX6_crosses_23 : decode cX6_crosses 23 = .ok (.getfield 51, 3) := by decide +kernel
theorem dX6_crosses_26 : decode cX6_crosses 26 = .ok (.getfield 192, 3) := by decide +kernel
theorem dX6_crosses_29 : decode cX6_crosses 29 = .ok (.ireturn, 1) := by decide +kernel
theorem dX6_length_0 : decode cX6_length 0 = .ok (.aload_n 0, 1) := by decide +kernel
theorem dX6_length_1 : decode cX6_length 1 = .ok (.getfield 10, 3) := by decide +kernel
theorem dX6_length_4 : decode cX6_length 4 = .ok (.iload_n 1, 1) := by decide +kernel
theorem dX6_length_5 : decode cX6_length 5 = .ok (.invokevirtual 186, 3) := by decide +kernel
theorem dX6_length_8 : decode cX6_length 8 = .ok (.ifCond .ne 6, 3) := by decide +kernel
theorem dX6_length_11 : decode cX6_length 11 = .ok (.bipush (-2), 2) := by decide +kernel
theorem dX6_length_13 : decode cX6_length 13 = .ok (.ireturn, 1) := by decide +kernel
theorem dX6_length_14 : decode cX6_length 14 = .ok (.aload_n 0, 1) := by decide +kernel
theorem dX6_length_15 : decode cX6_length 15 = .ok (.getfield 51, 3) := by decide +kernel
theorem dX6_length_18 : decode cX6_length 18 = .ok (.iload_n 1, 1) := by decide +kernel
theorem dX6_length_19 : decode cX6_length 19 = .ok (.invokevirtual 189, 3) := by decide +kernel
theorem dX6_length_22 : decode cX6_length 22 = .ok (.aload_n 0, 1) := by decide +kernel
theorem dX6_length_23 : decode cX6_length 23 = .ok (.getfield 51, 3) := by decide +kernel
theorem dX6_length_26 : decode cX6_length 26 = .ok (.getfield 195, 3) := by decide +kernel
theorem dX6_length_29 : decode cX6_length 29 = .ok (.ireturn, 1) := by decide +kernel
theorem dX6_place_0 : decode cX6_place 0 = .ok (.aload_n 0, 1) := by decide +kernel
theorem dX6_place_1 : decode cX6_place 1 = .ok (.getfield 10, 3) := by decide +kernel
theorem dX6_place_4 : decode cX6_place 4 = .ok (.iload_n 1, 1) := by decide +kernel
theorem dX6_place_5 : decode cX6_place 5 = .ok (.invokevirtual 186, 3) := by decide +kernel
theorem dX6_place_8 : decode cX6_place 8 = .ok (.ifCond .ne 6, 3) := by decide +kernel
theorem dX6_place_11 : decode cX6_place 11 = .ok (.bipush (-2), 2) := by decide +kernel
theorem dX6_place_13 : decode cX6_place 13 = .ok (.ireturn, 1) := by decide +kernel
theorem dX6_place_14 : decode cX6_place 14 = .ok (.aload_n 0, 1) := by decide +kernel
theorem dX6_place_15 : decode cX6_place 15 = .ok (.getfield 10, 3) := by decide +kernel
theorem dX6_place_18 : decode cX6_place 18 = .ok (.iload_n 2, 1) := by decide +kernel
theorem dX6_place_19 : decode cX6_place 19 = .ok (.invokevirtual 81, 3) := by decide +kernel
theorem dX6_place_22 : decode cX6_place 22 = .ok (.ifCond .eq 11, 3) := by decide +kernel
theorem dX6_place_25 : decode cX6_place 25 = .ok (.iload_n 1, 1) := by decide +kernel
theorem dX6_place_26 : decode cX6_place 26 = .ok (.iload_n 2, 1) := by decide +kernel
theorem dX6_place_27 : decode cX6_place 27 = .ok (.invokestatic 198, 3) := by decide +kernel
theorem dX6_place_30 : decode cX6_place 30 = .ok (.ifCond .ne 5, 3) := by decide +kernel
theorem dX6_place_33 : decode cX6_place 33 = .ok (.iconst (-1), 1) := by decide +kernel
theorem dX6_place_34 : decode cX6_place 34 = .ok (.ireturn, 1) := by decide +kernel
theorem dX6_place_35 : decode cX6_place 35 = .ok (.aload_n 0, 1) := by decide +kernel
theorem dX6_place_36 : decode cX6_place 36 = .ok (.getfield 51, 3) := by decide +kernel
theorem dX6_place_39 : decode cX6_place 39 = .ok (.iload_n 1, 1) := by decide +kernel
theorem dX6_place_40 : decode cX6_place 40 = .ok (.invokevirtual 189, 3) := by decide +kernel
theorem dX6_place_43 : decode cX6_place 43 = .ok (.aload_n 0, 1) := by decide +kernel
theorem dX6_place_44 : decode cX6_place 44 = .ok (.getfield 51, 3) := by decide +kernel
theorem dX6_place_47 : decode cX6_place 47 = .ok (.iload_n 2, 1) := by decide +kernel
theorem dX6_place_48 : decode cX6_place 48 = .ok (.invokevirtual 201, 3) := by decide +kernel
theorem dX6_place_51 : decode cX6_place 51 = .ok (.ireturn, 1) := by decide +kernel
theorem dX6_cross_0 : decode cX6_cross 0 = .ok (.aload_n 0, 1) := by decide +kernel
theorem dX6_cross_1 : decode cX6_cross 1 = .ok (.getfield 10, 3) := by decide +kernel
theorem dX6_cross_4 : decode cX6_cross 4 = .ok (.iload_n 1, 1) := by decide +kernel
theorem dX6_cross_5 : decode cX6_cross 5 = .ok (.invokevirtual 81, 3) := by decide +kernel
theorem dX6_cross_8 : decode cX6_cross 8 = .ok (.ifCond .eq 14, 3) := by decide +kernel
theorem dX6_cross_11 : decode cX6_cross 11 = .ok (.aload_n 0, 1) := by decide +kernel
theorem dX6_cross_12 : decode cX6_cross 12 = .ok (.getfield 10, 3) := by decide +kernel
theorem dX6_cross_15 : decode cX6_cross 15 = .ok (.iload_n 3, 1) := by decide +kernel
theorem dX6_cross_16 : decode cX6_cross 16 = .ok (.invokevirtual 81, 3) := by decide +kernel
theorem dX6_cross_19 : decode cX6_cross 19 = .ok (.ifCond .ne 5, 3) := by decide +kernel
theorem dX6_cross_22 : decode cX6_cross 22 = .ok (.iconst (-1), 1) := by decide +kernel
theorem dX6_cross_23 : decode cX6_cross 23 = .ok (.ireturn, 1) := by decide +kernel
theorem dX6_cross_24 : decode cX6_cross 24 = .ok (.iload_n 2, 1) := by decide +kernel
theorem dX6_cross_25 : decode cX6_cross 25 = .ok (.iconst 0, 1) := by decide +kernel
theorem dX6_cross_26 : decode cX6_cross 26 = .ok (.aload_n 0, 1) := by decide +kernel
theorem dX6_cross_27 : decode cX6_cross 27 = .ok (.getfield 10, 3) := by decide +kernel
theorem dX6_cross_30 : decode cX6_cross 30 = .ok (.getfield 63, 3) := by decide +kernel
theorem dX6_cross_33 : decode cX6_cross 33 = .ok (.invokestatic 55, 3) := by decide +kernel
theorem dX6_cross_36 : decode cX6_cross 36 = .ok (.ifCond .eq 19, 3) := by decide +kernel
theorem dX6_cross_39 : decode cX6_cross 39 = .ok (.iload 4, 2) := by decide +kernel
theorem dX6_cross_41 : decode cX6_cross 41 = .ok (.iconst 0, 1) := by decide +kernel
theorem dX6_cross_42 : decode cX6_cross 42 = .ok (.aload_n 0, 1) := by decide +kernel
theorem dX6_cross_43 : decode cX6_cross 43 = .ok (.getfield 10, 3) := by decide +kernel
theorem dX6_cross_46 : decode cX6_cross 46 = .ok (.getfield 63, 3) := by decide +kernel
theorem dX6_cross_49 : decode cX6_cross 49 = .ok (.invokestatic 55, 3) := by decide +kernel
theorem dX6_cross_52 : decode cX6_cross 52 = .ok (.ifCond .ne 6, 3) := by decide +kernel
theorem dX6_cross_55 : decode cX6_cross 55 = .ok (.bipush (-2), 2) := by decide +kernel
theorem dX6_cross_57 : decode cX6_cross 57 = .ok (.ireturn, 1) := by decide +kernel
theorem dX6_cross_58 : decode cX6_cross 58 = .ok (.iload_n 1, 1) := by decide +kernel
theorem dX6_cross_59 : decode cX6_cross 59 = .ok (.iload_n 3, 1) := by decide +kernel
theorem dX6_cross_60 : decode cX6_cross 60 = .ok (.if_icmp .ne 6, 3) := by decide +kernel
theorem dX6_cross_63 : decode cX6_cross 63 = .ok (.bipush (-3), 2) := by decide +kernel
theorem dX6_cross_65 : decode cX6_cross 65 = .ok (.ireturn, 1) := by decide +kernel
theorem dX6_cross_66 : decode cX6_cross 66 = .ok (.aload_n 0, 1) := by decide +kernel
theorem dX6_cross_67 : decode cX6_cross 67 = .ok (.getfield 51, 3) := by decide +kernel
theorem dX6_cross_70 : decode cX6_cross 70 = .ok (.iload_n 1, 1) := by decide +kernel
theorem dX6_cross_71 : decode cX6_cross 71 = .ok (.iload_n 2, 1) := by decide +kernel
theorem dX6_cross_72 : decode cX6_cross 72 = .ok (.iload_n 3, 1) := by decide +kernel
theorem dX6_cross_73 : decode cX6_cross 73 = .ok (.iload 4, 2) := by decide +kernel
theorem dX6_cross_75 : decode cX6_cross 75 = .ok (.invokevirtual 204, 3) := by decide +kernel
theorem dX6_cross_78 : decode cX6_cross 78 = .ok (.invokestatic 102, 3) := by decide +kernel
theorem dX6_cross_81 : decode cX6_cross 81 = .ok (.ireturn, 1) := by decide +kernel
theorem dX6_count_0 : decode cX6_count 0 = .ok (.iload_n 1, 1) := by decide +kernel
theorem dX6_count_1 : decode cX6_count 1 = .ok (.tableswitch 127 0 4 #[35, 43, 51, 59, 91], 35) := by decide +kernel
theorem dX6_count_36 : decode cX6_count 36 = .ok (.aload_n 0, 1) := by decide +kernel
theorem dX6_count_37 : decode cX6_count 37 = .ok (.getfield 10, 3) := by decide +kernel
theorem dX6_count_40 : decode cX6_count 40 = .ok (.getfield 66, 3) := by decide +kernel
theorem dX6_count_43 : decode cX6_count 43 = .ok (.ireturn, 1) := by decide +kernel
theorem dX6_count_44 : decode cX6_count 44 = .ok (.aload_n 0, 1) := by decide +kernel
theorem dX6_count_45 : decode cX6_count 45 = .ok (.getfield 10, 3) := by decide +kernel
theorem dX6_count_48 : decode cX6_count 48 = .ok (.getfield 59, 3) := by decide +kernel
theorem dX6_count_51 : decode cX6_count 51 = .ok (.ireturn, 1) := by decide +kernel
theorem dX6_count_52 : decode cX6_count 52 = .ok (.aload_n 0, 1) := by decide +kernel
theorem dX6_count_53 : decode cX6_count 53 = .ok (.getfield 10, 3) := by decide +kernel
theorem dX6_count_56 : decode cX6_count 56 = .ok (.getfield 63, 3) := by decide +kernel
theorem dX6_count_59 : decode cX6_count 59 = .ok (.ireturn, 1) := by decide +kernel
theorem dX6_count_60 : decode cX6_count 60 = .ok (.aload_n 0, 1) := by decide +kernel
theorem dX6_count_61 : decode cX6_count 61 = .ok (.getfield 30, 3) := by decide +kernel
theorem dX6_count_64 : decode cX6_count 64 = .ok (.aload_n 0, 1) := by decide +kernel
theorem dX6_count_65 : decode cX6_count 65 = .ok (.getfield 10, 3) := by decide +kernel
theorem dX6_count_68 : decode cX6_count 68 = .ok (.getfield 106, 3) := by decide +kernel
theorem dX6_count_71 : decode cX6_count 71 = .ok (.invokevirtual 143, 3) := by decide +kernel
theorem dX6_count_74 : decode cX6_count 74 = .ok (.aload_n 0, 1) := by decide +kernel
theorem dX6_count_75 : decode cX6_count 75 = .ok (.getfield 30, 3) := by decide +kernel
theorem dX6_count_78 : decode cX6_count 78 = .ok (.aload_n 0, 1) := by decide +kernel
theorem dX6_count_79 : decode cX6_count 79 = .ok (.getfield 10, 3) := by decide +kernel
theorem dX6_count_82 : decode cX6_count 82 = .ok (.invokevirtual 157, 3) := by decide +kernel
theorem dX6_count_85 : decode cX6_count 85 = .ok (.invokevirtual 208, 3) := by decide +kernel
theorem dX6_count_88 : decode cX6_count 88 = .ok (.invokestatic 211, 3) := by decide +kernel
theorem dX6_count_91 : decode cX6_count 91 = .ok (.ireturn, 1) := by decide +kernel
theorem dX6_count_92 : decode cX6_count 92 = .ok (.aload_n 0, 1) := by decide +kernel
theorem dX6_count_93 : decode cX6_count 93 = .ok (.getfield 30, 3) := by decide +kernel
theorem dX6_count_96 : decode cX6_count 96 = .ok (.aload_n 0, 1) := by decide +kernel
theorem dX6_count_97 : decode cX6_count 97 = .ok (.getfield 10, 3) := by decide +kernel
theorem dX6_count_100 : decode cX6_count 100 = .ok (.getfield 106, 3) := by decide +kernel
theorem dX6_count_103 : decode cX6_count 103 = .ok (.invokevirtual 143, 3) := by decide +kernel
theorem dX6_count_106 : decode cX6_count 106 = .ok (.aload_n 0, 1) := by decide +kernel
theorem dX6_count_107 : decode cX6_count 107 = .ok (.getfield 30, 3) := by decide +kernel
theorem dX6_count_110 : decode cX6_count 110 = .ok (.aload_n 0, 1) := by decide +kernel
theorem dX6_count_111 : decode cX6_count 111 = .ok (.getfield 30, 3) := by decide +kernel
theorem dX6_count_114 : decode cX6_count 114 = .ok (.aload_n 0, 1) := by decide +kernel
theorem dX6_count_115 : decode cX6_count 115 = .ok (.getfield 10, 3) := by decide +kernel
theorem dX6_count_118 : decode cX6_count 118 = .ok (.invokevirtual 157, 3) := by decide +kernel
theorem dX6_count_121 : decode cX6_count 121 = .ok (.invokevirtual 208, 3) := by decide +kernel
theorem dX6_count_124 : decode cX6_count 124 = .ok (.invokevirtual 216, 3) := by decide +kernel
theorem dX6_count_127 : decode cX6_count 127 = .ok (.ireturn, 1) := by decide +kernel
theorem dX6_count_128 : decode cX6_count 128 = .ok (.bipush (-2), 2) := by decide +kernel
theorem dX6_count_130 : decode cX6_count 130 = .ok (.ireturn, 1) := by decide +kernel
theorem dX6_isIn_0 : decode cX6_isIn 0 = .ok (.iload_n 1, 1) := by decide +kernel
theorem dX6_isIn_1 : decode cX6_isIn 1 = .ok (.iload_n 0, 1) := by decide +kernel
theorem dX6_isIn_2 : decode cX6_isIn 2 = .ok (.if_icmp .gt 12, 3) := by decide +kernel
theorem dX6_isIn_5 : decode cX6_isIn 5 = .ok (.iload_n 0, 1) := by decide +kernel
theorem dX6_isIn_6 : decode cX6_isIn 6 = .ok (.iload_n 2, 1) := by decide +kernel
theorem dX6_isIn_7 : decode cX6_isIn 7 = .ok (.if_icmp .gt 7, 3) := by decide +kernel
theorem dX6_isIn_10 : decode cX6_isIn 10 = .ok (.iconst 1, 1) := by decide +kernel
theorem dX6_isIn_11 : decode cX6_isIn 11 = .ok (.goto 4, 3) := by decide +kernel
theorem dX6_isIn_14 : decode cX6_isIn 14 = .ok (.iconst 0, 1) := by decide +kernel
theorem dX6_isIn_15 : decode cX6_isIn 15 = .ok (.ireturn, 1) := by decide +kernel
theorem dX6_isCorner_0 : decode cX6_isCorner 0 = .ok (.iload_n 0, 1) := by decide +kernel
theorem dX6_isCorner_1 : decode cX6_isCorner 1 = .ok (.iconst 0, 1) := by decide +kernel
theorem dX6_isCorner_2 : decode cX6_isCorner 2 = .ok (.iconst 3, 1) := by decide +kernel
theorem dX6_isCorner_3 : decode cX6_isCorner 3 = .ok (.invokestatic 55, 3) := by decide +kernel
theorem dX6_isCorner_6 : decode cX6_isCorner 6 = .ok (.ireturn, 1) := by decide +kernel
theorem dX6_boxOf_0 : decode cX6_boxOf 0 = .ok (.iconst 4, 1) := by decide +kernel
theorem dX6_boxOf_1 : decode cX6_boxOf 1 = .ok (.iload_n 0, 1) := by decide +kernel
theorem dX6_boxOf_2 : decode cX6_boxOf 2 = .ok (.imul, 1) := by decide +kernel
theorem dX6_boxOf_3 : decode cX6_boxOf 3 = .ok (.iload_n 1, 1) := by decide +kernel
theorem dX6_boxOf_4 : decode cX6_boxOf 4 = .ok (.iadd, 1) := by decide +kernel
theorem dX6_boxOf_5 : decode cX6_boxOf 5 = .ok (.ireturn, 1) := by decide +kernel
theorem dX6_boxesOf_0 : decode cX6_boxesOf 0 = .ok (.bipush 15, 2) := by decide +kernel
theorem dX6_boxesOf_2 : decode cX6_boxesOf 2 = .ok (.iload_n 0, 1) := by decide +kernel
theorem dX6_boxesOf_3 : decode cX6_boxesOf 3 = .ok (.iconst 0, 1) := by decide +kernel
theorem dX6_boxesOf_4 : decode cX6_boxesOf 4 = .ok (.invokestatic 94, 3) := by decide +kernel
theorem dX6_boxesOf_7 : decode cX6_boxesOf 7 = .ok (.ishl, 1) := by decide +kernel
theorem dX6_boxesOf_8 : decode cX6_boxesOf 8 = .ok (.ireturn, 1) := by decide +kernel
theorem dX6_hasBit_0 : decode cX6_hasBit 0 = .ok (.iload_n 0, 1) := by decide +kernel
theorem dX6_hasBit_1 : decode cX6_hasBit 1 = .ok (.iload_n 1, 1) := by decide +kernel
theorem dX6_hasBit_2 : decode cX6_hasBit 2 = .ok (.iushr, 1) := by decide +kernel
theorem dX6_hasBit_3 : decode cX6_hasBit 3 = .ok (.iconst 1, 1) := by decide +kernel
theorem dX6_hasBit_4 : decode cX6_hasBit 4 = .ok (.iand, 1) := by decide +kernel
theorem dX6_hasBit_5 : decode cX6_hasBit 5 = .ok (.iconst 1, 1) := by decide +kernel
theorem dX6_hasBit_6 : decode cX6_hasBit 6 = .ok (.if_icmp .ne 7, 3) := by decide +kernel
theorem dX6_hasBit_9 : decode cX6_hasBit 9 = .ok (.iconst 1, 1) := by decide +kernel
theorem dX6_hasBit_10 : decode cX6_hasBit 10 = .ok (.goto 4, 3) := by decide +kernel
theorem dX6_hasBit_13 : decode cX6_hasBit 13 = .ok (.iconst 0, 1) := by decide +kernel
theorem dX6_hasBit_14 : decode cX6_hasBit 14 = .ok (.ireturn, 1) := by decide +kernel
theorem dX6_toInt_0 : decode cX6_toInt 0 = .ok (.iload_n 0, 1) := by decide +kernel
theorem dX6_toInt_1 : decode cX6_toInt 1 = .ok (.ifCond .eq 7, 3) := by decide +kernel
theorem dX6_toInt_4 : decode cX6_toInt 4 = .ok (.iconst 1, 1) := by decide +kernel
theorem dX6_toInt_5 : decode cX6_toInt 5 = .ok (.goto 4, 3) := by decide +kernel
theorem dX6_toInt_8 : decode cX6_toInt 8 = .ok (.iconst 0, 1) := by decide +kernel
theorem dX6_toInt_9 : decode cX6_toInt 9 = .ok (.ireturn, 1) := by decide +kernel
theorem dX6_sized_0 : decode cX6_sized 0 = .ok (.iconst 1, 1) := by decide +kernel
theorem dX6_sized_1 : decode cX6_sized 1 = .ok (.iload_n 0, 1) := by decide +kernel
theorem dX6_sized_2 : decode cX6_sized 2 = .ok (.iload_n 1, 1) := by decide +kernel
theorem dX6_sized_3 : decode cX6_sized 3 = .ok (.imul, 1) := by decide +kernel
theorem dX6_sized_4 : decode cX6_sized 4 = .ok (.bipush 10, 2) := by decide +kernel
theorem dX6_sized_6 : decode cX6_sized 6 = .ok (.idiv, 1) := by decide +kernel
theorem dX6_sized_7 : decode cX6_sized 7 = .ok (.invokestatic 219, 3) := by decide +kernel
theorem dX6_sized_10 : decode cX6_sized 10 = .ok (.ireturn, 1) := by decide +kernel
