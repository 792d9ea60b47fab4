theorem dR_row_0 : decode bR_row 0 = .ok (.aload_n 0, 1) := by decide +kernel
theorem dR_row_1 : decode bR_row 1 = .ok (.getfield 52, 3) := by decide +kernel
theorem dR_row_4 : decode bR_row 4 = .ok (.ifCond .ge 6, 3) := by decide +kernel
theorem dR_row_7 : decode bR_row 7 = .ok (.bipush (-12), 2) := by decide +kernel
theorem dR_row_9 : decode bR_row 9 = .ok (.ireturn, 1) := by decide +kernel
theorem dR_row_10 : decode bR_row 10 = .ok (.aload_n 0, 1) := by decide +kernel
theorem dR_row_11 : decode bR_row 11 = .ok (.iload_n 1, 1) := by decide +kernel
theorem dR_row_12 : decode bR_row 12 = .ok (.invokevirtual 161, 3) := by decide +kernel
theorem dR_row_15 : decode bR_row 15 = .ok (.ifCond .ne 6, 3) := by decide +kernel
theorem dR_row_18 : decode bR_row 18 = .ok (.bipush (-5), 2) := by decide +kernel
theorem dR_row_20 : decode bR_row 20 = .ok (.ireturn, 1) := by decide +kernel
theorem dR_row_21 : decode bR_row 21 = .ok (.aload_n 0, 1) := by decide +kernel
theorem dR_row_22 : decode bR_row 22 = .ok (.iload_n 1, 1) := by decide +kernel
theorem dR_row_23 : decode bR_row 23 = .ok (.aload_n 0, 1) := by decide +kernel
theorem dR_row_24 : decode bR_row 24 = .ok (.getfield 52, 3) := by decide +kernel
theorem dR_row_27 : decode bR_row 27 = .ok (.invokevirtual 164, 3) := by decide +kernel
theorem dR_row_30 : decode bR_row 30 = .ok (.ifCond .ne 6, 3) := by decide +kernel
theorem dR_row_33 : decode bR_row 33 = .ok (.bipush (-7), 2) := by decide +kernel
theorem dR_row_35 : decode bR_row 35 = .ok (.ireturn, 1) := by decide +kernel
theorem dR_row_36 : decode bR_row 36 = .ok (.aload_n 0, 1) := by decide +kernel
theorem dR_row_37 : decode bR_row 37 = .ok (.getfield 132, 3) := by decide +kernel
theorem dR_row_40 : decode bR_row 40 = .ok (.bipush 8, 2) := by decide +kernel
theorem dR_row_42 : decode bR_row 42 = .ok (.if_icmp .eq 19, 3) := by decide +kernel
theorem dR_row_45 : decode bR_row 45 = .ok (.aload_n 0, 1) := by decide +kernel
theorem dR_row_46 : decode bR_row 46 = .ok (.getfield 135, 3) := by decide +kernel
theorem dR_row_49 : decode bR_row 49 = .ok (.aload_n 0, 1) := by decide +kernel
theorem dR_row_50 : decode bR_row 50 = .ok (.getfield 37, 3) := by decide +kernel
theorem dR_row_53 : decode bR_row 53 = .ok (.iload_n 1, 1) := by decide +kernel
theorem dR_row_54 : decode bR_row 54 = .ok (.iaload, 1) := by decide +kernel
theorem dR_row_55 : decode bR_row 55 = .ok (.iadd, 1) := by decide +kernel
theorem dR_row_56 : decode bR_row 56 = .ok (.bipush 16, 2) := by decide +kernel
theorem dR_row_58 : decode bR_row 58 = .ok (.if_icmp .le 6, 3) := by decide +kernel
theorem dR_row_61 : decode bR_row 61 = .ok (.bipush (-8), 2) := by decide +kernel
theorem dR_row_63 : decode bR_row 63 = .ok (.ireturn, 1) := by decide +kernel
theorem dR_row_64 : decode bR_row 64 = .ok (.iconst 0, 1) := by decide +kernel
theorem dR_row_65 : decode bR_row 65 = .ok (.istore_n 2, 1) := by decide +kernel
theorem dR_row_66 : decode bR_row 66 = .ok (.iload_n 2, 1) := by decide +kernel
theorem dR_row_67 : decode bR_row 67 = .ok (.aload_n 0, 1) := by decide +kernel
theorem dR_row_68 : decode bR_row 68 = .ok (.getfield 37, 3) := by decide +kernel
theorem dR_row_71 : decode bR_row 71 = .ok (.iload_n 1, 1) := by decide +kernel
theorem dR_row_72 : decode bR_row 72 = .ok (.iaload, 1) := by decide +kernel
theorem dR_row_73 : decode bR_row 73 = .ok (.if_icmp .ge 52, 3) := by decide +kernel
theorem dR_row_76 : decode bR_row 76 = .ok (.aload_n 0, 1) := by decide +kernel
theorem dR_row_77 : decode bR_row 77 = .ok (.getfield 56, 3) := by decide +kernel
theorem dR_row_80 : decode bR_row 80 = .ok (.aload_n 0, 1) := by decide +kernel
theorem dR_row_81 : decode bR_row 81 = .ok (.getfield 135, 3) := by decide +kernel
theorem dR_row_84 : decode bR_row 84 = .ok (.aload_n 0, 1) := by decide +kernel
theorem dR_row_85 : decode bR_row 85 = .ok (.getfield 132, 3) := by decide +kernel
theorem dR_row_88 : decode bR_row 88 = .ok (.iastore, 1) := by decide +kernel
theorem dR_row_89 : decode bR_row 89 = .ok (.aload_n 0, 1) := by decide +kernel
theorem dR_row_90 : decode bR_row 90 = .ok (.getfield 59, 3) := by decide +kernel
theorem dR_row_93 : decode bR_row 93 = .ok (.aload_n 0, 1) := by decide +kernel
theorem dR_row_94 : decode bR_row 94 = .ok (.getfield 135, 3) := by decide +kernel
theorem dR_row_97 : decode bR_row 97 = .ok (.iload_n 2, 1) := by decide +kernel
theorem dR_row_98 : decode bR_row 98 = .ok (.iastore, 1) := by decide +kernel
theorem dR_row_99 : decode bR_row 99 = .ok (.aload_n 0, 1) := by decide +kernel
theorem dR_row_100 : decode bR_row 100 = .ok (.aload_n 0, 1) := by decide +kernel
theorem dR_row_101 : decode bR_row 101 = .ok (.getfield 135, 3) := by decide +kernel
theorem dR_row_104 : decode bR_row 104 = .ok (.iload_n 1, 1) := by decide +kernel
theorem dR_row_105 : decode bR_row 105 = .ok (.iload_n 2, 1) := by decide +kernel
theorem dR_row_106 : decode bR_row 106 = .ok (.invokevirtual 168, 3) := by decide +kernel
theorem dR_row_109 : decode bR_row 109 = .ok (.aload_n 0, 1) := by decide +kernel
theorem dR_row_110 : decode bR_row 110 = .ok (.dup, 1) := by decide +kernel
theorem dR_row_111 : decode bR_row 111 = .ok (.getfield 135, 3) := by decide +kernel
theorem dR_row_114 : decode bR_row 114 = .ok (.iconst 1, 1) := by decide +kernel
theorem dR_row_115 : decode bR_row 115 = .ok (.iadd, 1) := by decide +kernel
theorem dR_row_116 : decode bR_row 116 = .ok (.putfield 135, 3) := by decide +kernel
theorem dR_row_119 : decode bR_row 119 = .ok (.iinc 2 1, 3) := by decide +kernel
theorem dR_row_122 : decode bR_row 122 = .ok (.goto (-56), 3) := by decide +kernel
theorem dR_row_125 : decode bR_row 125 = .ok (.aload_n 0, 1) := by decide +kernel
theorem dR_row_126 : decode bR_row 126 = .ok (.iconst 0, 1) := by decide +kernel
theorem dR_row_127 : decode bR_row 127 = .ok (.putfield 138, 3) := by decide +kernel
theorem dR_row_130 : decode bR_row 130 = .ok (.aload_n 0, 1) := by decide +kernel
theorem dR_row_131 : decode bR_row 131 = .ok (.dup, 1) := by decide +kernel
theorem dR_row_132 : decode bR_row 132 = .ok (.getfield 132, 3) := by decide +kernel
theorem dR_row_135 : decode bR_row 135 = .ok (.iconst 1, 1) := by decide +kernel
theorem dR_row_136 : decode bR_row 136 = .ok (.iadd, 1) := by decide +kernel
theorem dR_row_137 : decode bR_row 137 = .ok (.putfield 132, 3) := by decide +kernel
theorem dR_row_140 : decode bR_row 140 = .ok (.aload_n 0, 1) := by decide +kernel
theorem dR_row_141 : decode bR_row 141 = .ok (.getfield 132, 3) := by decide +kernel
theorem dR_row_144 : decode bR_row 144 = .ok (.iconst 1, 1) := by decide +kernel
theorem dR_row_145 : decode bR_row 145 = .ok (.isub, 1) := by decide +kernel
theorem dR_row_146 : decode bR_row 146 = .ok (.ireturn, 1) := by decide +kernel
theorem dR_lowest_0 : decode bR_lowest 0 = .ok (.iconst 0, 1) := by decide +kernel
theorem dR_lowest_1 : decode bR_lowest 1 = .ok (.istore_n 1, 1) := by decide +kernel
theorem dR_lowest_2 : decode bR_lowest 2 = .ok (.iload_n 1, 1) := by decide +kernel
theorem dR_lowest_3 : decode bR_lowest 3 = .ok (.bipush 16, 2) := by decide +kernel
theorem dR_lowest_5 : decode bR_lowest 5 = .ok (.if_icmp .ge 17, 3) := by decide +kernel
theorem dR_lowest_8 : decode bR_lowest 8 = .ok (.iload_n 0, 1) := by decide +kernel
theorem dR_lowest_9 : decode bR_lowest 9 = .ok (.iload_n 1, 1) := by decide +kernel
theorem dR_lowest_10 : decode bR_lowest 10 = .ok (.ishr, 1) := by decide +kernel
theorem dR_lowest_11 : decode bR_lowest 11 = .ok (.iconst 1, 1) := by decide +kernel
theorem dR_lowest_12 : decode bR_lowest 12 = .ok (.iand, 1) := by decide +kernel
theorem dR_lowest_13 : decode bR_lowest 13 = .ok (.ifCond .ne 9, 3) := by decide +kernel
theorem dR_lowest_16 : decode bR_lowest 16 = .ok (.iinc 1 1, 3) := by decide +kernel
theorem dR_lowest_19 : decode bR_lowest 19 = .ok (.goto (-17), 3) := by decide +kernel
theorem dR_lowest_22 : decode bR_lowest 22 = .ok (.iload_n 1, 1) := by decide +kernel
theorem dR_lowest_23 : decode bR_lowest 23 = .ok (.ireturn, 1) := by decide +kernel
theorem dR_askers_0 : decode bR_askers 0 = .ok (.iconst 0, 1) := by decide +kernel
theorem dR_askers_1 : decode bR_askers 1 = .ok (.istore_n 3, 1) := by decide +kernel
theorem dR_askers_2 : decode bR_askers 2 = .ok (.iconst 0, 1) := by decide +kernel
theorem dR_askers_3 : decode bR_askers 3 = .ok (.istore 4, 2) := by decide +kernel
theorem dR_askers_5 : decode bR_askers 5 = .ok (.iload 4, 2) := by decide +kernel
theorem dR_askers_7 : decode bR_askers 7 = .ok (.aload_n 0, 1) := by decide +kernel
theorem dR_askers_8 : decode bR_askers 8 = .ok (.getfield 135, 3) := by decide +kernel
theorem dR_askers_11 : decode bR_askers 11 = .ok (.if_icmp .ge 42, 3) := by decide +kernel
theorem dR_askers_14 : decode bR_askers 14 = .ok (.iload_n 1, 1) := by decide +kernel
theorem dR_askers_15 : decode bR_askers 15 = .ok (.iload 4, 2) := by decide +kernel
theorem dR_askers_17 : decode bR_askers 17 = .ok (.ishr, 1) := by decide +kernel
theorem dR_askers_18 : decode bR_askers 18 = .ok (.iconst 1, 1) := by decide +kernel
theorem dR_askers_19 : decode bR_askers 19 = .ok (.iand, 1) := by decide +kernel
theorem dR_askers_20 : decode bR_askers 20 = .ok (.iconst 1, 1) := by decide +kernel
theorem dR_askers_21 : decode bR_askers 21 = .ok (.if_icmp .ne 24, 3) := by decide +kernel
theorem dR_askers_24 : decode bR_askers 24 = .ok (.aload_n 0, 1) := by decide +kernel
theorem dR_askers_25 : decode bR_askers 25 = .ok (.getfield 62, 3) := by decide +kernel
theorem dR_askers_28 : decode bR_askers 28 = .ok (.bipush 16, 2) := by decide +kernel
theorem dR_askers_30 : decode bR_askers 30 = .ok (.iload 4, 2) := by decide +kernel
theorem dR_askers_32 : decode bR_askers 32 = .ok (.imul, 1) := by decide +kernel
theorem dR_askers_33 : decode bR_askers 33 = .ok (.iload_n 2, 1) := by decide +kernel
theorem dR_askers_34 : decode bR_askers 34 = .ok (.iadd, 1) := by decide +kernel
theorem dR_askers_35 : decode bR_askers 35 = .ok (.iaload, 1) := by decide +kernel
theorem dR_askers_36 : decode bR_askers 36 = .ok (.ifCond .le 9, 3) := by decide +kernel
theorem dR_askers_39 : decode bR_askers 39 = .ok (.iload_n 3, 1) := by decide +kernel
theorem dR_askers_40 : decode bR_askers 40 = .ok (.iconst 1, 1) := by decide +kernel
theorem dR_askers_41 : decode bR_askers 41 = .ok (.iadd, 1) := by decide +kernel
theorem dR_askers_42 : decode bR_askers 42 = .ok (.goto 4, 3) := by decide +kernel
theorem dR_askers_45 : decode bR_askers 45 = .ok (.iload_n 3, 1) := by decide +kernel
theorem dR_askers_46 : decode bR_askers 46 = .ok (.istore_n 3, 1) := by decide +kernel
theorem dR_askers_47 : decode bR_askers 47 = .ok (.iinc 4 1, 3) := by decide +kernel
theorem dR_askers_50 : decode bR_askers 50 = .ok (.goto (-45), 3) := by decide +kernel
theorem dR_askers_53 : decode bR_askers 53 = .ok (.iload_n 3, 1) := by decide +kernel
theorem dR_askers_54 : decode bR_askers 54 = .ok (.ireturn, 1) := by decide +kernel
theorem dR_choose_0 : decode bR_choose 0 = .ok (.iload_n 1, 1) := by decide +kernel
theorem dR_choose_1 : decode bR_choose 1 = .ok (.ifCond .ne 5, 3) := by decide +kernel
theorem dR_choose_4 : decode bR_choose 4 = .ok (.iconst 0, 1) := by decide +kernel
theorem dR_choose_5 : decode bR_choose 5 = .ok (.ireturn, 1) := by decide +kernel
theorem dR_choose_6 : decode bR_choose 6 = .ok (.iload_n 1, 1) := by decide +kernel
theorem dR_choose_7 : decode bR_choose 7 = .ok (.invokestatic 176, 3) := by decide +kernel
theorem dR_choose_10 : decode bR_choose 10 = .ok (.istore_n 3, 1) := by decide +kernel
theorem dR_choose_11 : decode bR_choose 11 = .ok (.iconst 0, 1) := by decide +kernel
theorem dR_choose_12 : decode bR_choose 12 = .ok (.istore 4, 2) := by decide +kernel
theorem dR_choose_14 : decode bR_choose 14 = .ok (.iconst 0, 1) := by decide +kernel
theorem dR_choose_15 : decode bR_choose 15 = .ok (.istore 5, 2) := by decide +kernel
theorem dR_choose_17 : decode bR_choose 17 = .ok (.iconst 1, 1) := by decide +kernel
theorem dR_choose_18 : decode bR_choose 18 = .ok (.istore 6, 2) := by decide +kernel
theorem dR_choose_20 : decode bR_choose 20 = .ok (.iload 6, 2) := by decide +kernel
theorem dR_choose_22 : decode bR_choose 22 = .ok (.bipush 16, 2) := by decide +kernel
theorem dR_choose_24 : decode bR_choose 24 = .ok (.if_icmp .ge 59, 3) := by decide +kernel
theorem dR_choose_27 : decode bR_choose 27 = .ok (.iload_n 2, 1) := by decide +kernel
theorem dR_choose_28 : decode bR_choose 28 = .ok (.iload 6, 2) := by decide +kernel
theorem dR_choose_30 : decode bR_choose 30 = .ok (.ishr, 1) := by decide +kernel
theorem dR_choose_31 : decode bR_choose 31 = .ok (.iconst 1, 1) := by decide +kernel
theorem dR_choose_32 : decode bR_choose 32 = .ok (.iand, 1) := by decide +kernel
theorem dR_choose_33 : decode bR_choose 33 = .ok (.iconst 1, 1) := by decide +kernel
theorem dR_choose_34 : decode bR_choose 34 = .ok (.if_icmp .ne 43, 3) := by decide +kernel
theorem dR_choose_37 : decode bR_choose 37 = .ok (.aload_n 0, 1) := by decide +kernel
theorem dR_choose_38 : decode bR_choose 38 = .ok (.getfield 62, 3) := by decide +kernel
theorem dR_choose_41 : decode bR_choose 41 = .ok (.bipush 16, 2) := by decide +kernel
theorem dR_choose_43 : decode bR_choose 43 = .ok (.iload_n 3, 1) := by decide +kernel
theorem dR_choose_44 : decode bR_choose 44 = .ok (.imul, 1) := by decide +kernel
theorem dR_choose_45 : decode bR_choose 45 = .ok (.iload 6, 2) := by decide +kernel
theorem dR_choose_47 : decode bR_choose 47 = .ok (.iadd, 1) := by decide +kernel
theorem dR_choose_48 : decode bR_choose 48 = .ok (.iaload, 1) := by decide +kernel
theorem dR_choose_49 : decode bR_choose 49 = .ok (.ifCond .le 28, 3) := by decide +kernel
theorem dR_choose_52 : decode bR_choose 52 = .ok (.aload_n 0, 1) := by decide +kernel
theorem dR_choose_53 : decode bR_choose 53 = .ok (.iload_n 1, 1) := by decide +kernel
theorem dR_choose_54 : decode bR_choose 54 = .ok (.iload 6, 2) := by decide +kernel
theorem dR_choose_56 : decode bR_choose 56 = .ok (.invokevirtual 179, 3) := by decide +kernel
theorem dR_choose_59 : decode bR_choose 59 = .ok (.iload 5, 2) := by decide +kernel
theorem dR_choose_61 : decode bR_choose 61 = .ok (.if_icmp .le 16, 3) := by decide +kernel
theorem dR_choose_64 : decode bR_choose 64 = .ok (.iload 6, 2) := by decide +kernel
theorem dR_choose_66 : decode bR_choose 66 = .ok (.istore 4, 2) := by decide +kernel
theorem dR_choose_68 : decode bR_choose 68 = .ok (.aload_n 0, 1) := by decide +kernel
theorem dR_choose_69 : decode bR_choose 69 = .ok (.iload_n 1, 1) := by decide +kernel
theorem dR_choose_70 : decode bR_choose 70 = .ok (.iload 6, 2) := by decide +kernel
theorem dR_choose_72 : decode bR_choose 72 = .ok (.invokevirtual 179, 3) := by decide +kernel
theorem dR_choose_75 : decode bR_choose 75 = .ok (.istore 5, 2) := by decide +kernel
theorem dR_choose_77 : decode bR_choose 77 = .ok (.iinc 6 1, 3) := by decide +kernel
theorem dR_choose_80 : decode bR_choose 80 = .ok (.goto (-60), 3) := by decide +kernel
theorem dR_choose_83 : decode bR_choose 83 = .ok (.iload 4, 2) := by decide +kernel
theorem dR_choose_85 : decode bR_choose 85 = .ok (.ireturn, 1) := by decide +kernel
theorem dR_keep_0 : decode bR_keep 0 = .ok (.iconst 0, 1) := by decide +kernel
theorem dR_keep_1 : decode bR_keep 1 = .ok (.istore 5, 2) := by decide +kernel
theorem dR_keep_3 : decode bR_keep 3 = .ok (.iconst 0, 1) := by decide +kernel
theorem dR_keep_4 : decode bR_keep 4 = .ok (.istore 6, 2) := by decide +kernel
theorem dR_keep_6 : decode bR_keep 6 = .ok (.iload 6, 2) := by decide +kernel
theorem dR_keep_8 : decode bR_keep 8 = .ok (.aload_n 0, 1) := by decide +kernel
theorem dR_keep_9 : decode bR_keep 9 = .ok (.getfield 135, 3) := by decide +kernel
theorem dR_keep_12 : decode bR_keep 12 = .ok (.if_icmp .ge 81, 3) := by decide +kernel
theorem dR_keep_15 : decode bR_keep 15 = .ok (.aload_n 0, 1) := by decide +kernel
theorem dR_keep_16 : decode bR_keep 16 = .ok (.getfield 62, 3) := by decide +kernel
theorem dR_keep_19 : decode bR_keep 19 = .ok (.bipush 16, 2) := by decide +kernel
theorem dR_keep_21 : decode bR_keep 21 = .ok (.iload 6, 2) := by decide +kernel
theorem dR_keep_23 : decode bR_keep 23 = .ok (.imul, 1) := by decide +kernel
theorem dR_keep_24 : decode bR_keep 24 = .ok (.iload_n 2, 1) := by decide +kernel
theorem dR_keep_25 : decode bR_keep 25 = .ok (.iadd, 1) := by decide +kernel
theorem dR_keep_26 : decode bR_keep 26 = .ok (.iaload, 1) := by decide +kernel
theorem dR_keep_27 : decode bR_keep 27 = .ok (.ifCond .eq 24, 3) := by decide +kernel
theorem dR_keep_30 : decode bR_keep 30 = .ok (.iload 4, 2) := by decide +kernel
theorem dR_keep_32 : decode bR_keep 32 = .ok (.ifCond .ne 23, 3) := by decide +kernel
theorem dR_keep_35 : decode bR_keep 35 = .ok (.aload_n 0, 1) := by decide +kernel
theorem dR_keep_36 : decode bR_keep 36 = .ok (.getfield 65, 3) := by decide +kernel
theorem dR_keep_39 : decode bR_keep 39 = .ok (.bipush 16, 2) := by decide +kernel
theorem dR_keep_41 : decode bR_keep 41 = .ok (.iload 6, 2) := by decide +kernel
theorem dR_keep_43 : decode bR_keep 43 = .ok (.imul, 1) := by decide +kernel
theorem dR_keep_44 : decode bR_keep 44 = .ok (.iload_n 2, 1) := by decide +kernel
theorem dR_keep_45 : decode bR_keep 45 = .ok (.iadd, 1) := by decide +kernel
theorem dR_keep_46 : decode bR_keep 46 = .ok (.iaload, 1) := by decide +kernel
theorem dR_keep_47 : decode bR_keep 47 = .ok (.iload_n 3, 1) := by decide +kernel
theorem dR_keep_48 : decode bR_keep 48 = .ok (.if_icmp .ne 7, 3) := by decide +kernel
theorem dR_keep_51 : decode bR_keep 51 = .ok (.iconst 1, 1) := by decide +kernel
theorem dR_keep_52 : decode bR_keep 52 = .ok (.goto 4, 3) := by decide +kernel
theorem dR_keep_55 : decode bR_keep 55 = .ok (.iconst 0, 1) := by decide +kernel
theorem dR_keep_56 : decode bR_keep 56 = .ok (.istore 7, 2) := by decide +kernel
theorem dR_keep_58 : decode bR_keep 58 = .ok (.iload_n 1, 1) := by decide +kernel
theorem dR_keep_59 : decode bR_keep 59 = .ok (.iload 6, 2) := by decide +kernel
theorem dR_keep_61 : decode bR_keep 61 = .ok (.ishr, 1) := by decide +kernel
theorem dR_keep_62 : decode bR_keep 62 = .ok (.iconst 1, 1) := by decide +kernel
theorem dR_keep_63 : decode bR_keep 63 = .ok (.iand, 1) := by decide +kernel
theorem dR_keep_64 : decode bR_keep 64 = .ok (.iconst 1, 1) := by decide +kernel
theorem dR_keep_65 : decode bR_keep 65 = .ok (.if_icmp .ne 18, 3) := by decide +kernel
theorem dR_keep_68 : decode bR_keep 68 = .ok (.iload 7, 2) := by decide +kernel
theorem dR_keep_70 : decode bR_keep 70 = .ok (.ifCond .eq 13, 3) := by decide +kernel
theorem dR_keep_73 : decode bR_keep 73 = .ok (.iload 5, 2) := by decide +kernel
theorem dR_keep_75 : decode bR_keep 75 = .ok (.iconst 1, 1) := by decide +kernel
theorem dR_keep_76 : decode bR_keep 76 = .ok (.iload 6, 2) := by decide +kernel
theorem dR_keep_78 : decode bR_keep 78 = .ok (.ishl, 1) := by decide +kernel
theorem dR_keep_79 : decode bR_keep 79 = .ok (.ior, 1) := by decide +kernel
theorem dR_keep_80 : decode bR_keep 80 = .ok (.goto 5, 3) := by decide +kernel
theorem dR_keep_83 : decode bR_keep 83 = .ok (.iload 5, 2) := by decide +kernel
theorem dR_keep_85 : decode bR_keep 85 = .ok (.istore 5, 2) := by decide +kernel
theorem dR_keep_87 : decode bR_keep 87 = .ok (.iinc 6 1, 3) := by decide +kernel
theorem dR_keep_90 : decode bR_keep 90 = .ok (.goto (-84), 3) := by decide +kernel
theorem dR_keep_93 : decode bR_keep 93 = .ok (.iload 5, 2) := by decide +kernel
theorem dR_keep_95 : decode bR_keep 95 = .ok (.ireturn, 1) := by decide +kernel
theorem dR_branch_0 : decode bR_branch 0 = .ok (.aload_n 0, 1) := by decide +kernel
theorem dR_branch_1 : decode bR_branch 1 = .ok (.getfield 182, 3) := by decide +kernel
theorem dR_branch_4 : decode bR_branch 4 = .ok (.bipush 60, 2) := by decide +kernel
theorem dR_branch_6 : decode bR_branch 6 = .ok (.if_icmp .ne 9, 3) := by decide +kernel
theorem dR_branch_9 : decode bR_branch 9 = .ok (.aload_n 0, 1) := by decide +kernel
theorem dR_branch_10 : decode bR_branch 10 = .ok (.iconst 1, 1) := by decide +kernel
theorem dR_branch_11 : decode bR_branch 11 = .ok (.putfield 185, 3) := by decide +kernel
theorem dR_branch_14 : decode bR_branch 14 = .ok (.return_, 1) := by decide +kernel
theorem dR_branch_15 : decode bR_branch 15 = .ok (.aload_n 0, 1) := by decide +kernel
theorem dR_branch_16 : decode bR_branch 16 = .ok (.getfield 77, 3) := by decide +kernel
theorem dR_branch_19 : decode bR_branch 19 = .ok (.aload_n 0, 1) := by decide +kernel
theorem dR_branch_20 : decode bR_branch 20 = .ok (.getfield 182, 3) := by decide +kernel
theorem dR_branch_23 : decode bR_branch 23 = .ok (.aload_n 0, 1) := by decide +kernel
theorem dR_branch_24 : decode bR_branch 24 = .ok (.aload_n 0, 1) := by decide +kernel
theorem dR_branch_25 : decode bR_branch 25 = .ok (.getfield 77, 3) := by decide +kernel
theorem dR_branch_28 : decode bR_branch 28 = .ok (.iload_n 1, 1) := by decide +kernel
theorem dR_branch_29 : decode bR_branch 29 = .ok (.iaload, 1) := by decide +kernel
theorem dR_branch_30 : decode bR_branch 30 = .ok (.aload_n 0, 1) := by decide +kernel
theorem dR_branch_31 : decode bR_branch 31 = .ok (.getfield 83, 3) := by decide +kernel
theorem dR_branch_34 : decode bR_branch 34 = .ok (.iload_n 1, 1) := by decide +kernel
theorem dR_branch_35 : decode bR_branch 35 = .ok (.iaload, 1) := by decide +kernel
theorem dR_branch_36 : decode bR_branch 36 = .ok (.iload_n 2, 1) := by decide +kernel
theorem dR_branch_37 : decode bR_branch 37 = .ok (.iload_n 3, 1) := by decide +kernel
theorem dR_branch_38 : decode bR_branch 38 = .ok (.invokevirtual 188, 3) := by decide +kernel
theorem dR_branch_41 : decode bR_branch 41 = .ok (.iastore, 1) := by decide +kernel
theorem dR_branch_42 : decode bR_branch 42 = .ok (.aload_n 0, 1) := by decide +kernel
theorem dR_branch_43 : decode bR_branch 43 = .ok (.getfield 80, 3) := by decide +kernel
theorem dR_branch_46 : decode bR_branch 46 = .ok (.aload_n 0, 1) := by decide +kernel
theorem dR_branch_47 : decode bR_branch 47 = .ok (.getfield 182, 3) := by decide +kernel
theorem dR_branch_50 : decode bR_branch 50 = .ok (.iload 4, 2) := by decide +kernel
theorem dR_branch_52 : decode bR_branch 52 = .ok (.iastore, 1) := by decide +kernel
theorem dR_branch_53 : decode bR_branch 53 = .ok (.aload_n 0, 1) := by decide +kernel
theorem dR_branch_54 : decode bR_branch 54 = .ok (.getfield 98, 3) := by decide +kernel
theorem dR_branch_57 : decode bR_branch 57 = .ok (.aload_n 0, 1) := by decide +kernel
theorem dR_branch_58 : decode bR_branch 58 = .ok (.getfield 182, 3) := by decide +kernel
theorem dR_branch_61 : decode bR_branch 61 = .ok (.iload_n 2, 1) := by decide +kernel
theorem dR_branch_62 : decode bR_branch 62 = .ok (.iastore, 1) := by decide +kernel
theorem dR_branch_63 : decode bR_branch 63 = .ok (.aload_n 0, 1) := by decide +kernel
theorem dR_branch_64 : decode bR_branch 64 = .ok (.getfield 101, 3) := by decide +kernel
theorem dR_branch_67 : decode bR_branch 67 = .ok (.aload_n 0, 1) := by decide +kernel
theorem dR_branch_68 : decode bR_branch 68 = .ok (.getfield 182, 3) := by decide +kernel
theorem dR_branch_71 : decode bR_branch 71 = .ok (.iload_n 3, 1) := by decide +kernel
theorem dR_branch_72 : decode bR_branch 72 = .ok (.bastore, 1) := by decide +kernel
theorem dR_branch_73 : decode bR_branch 73 = .ok (.aload_n 0, 1) := by decide +kernel
theorem dR_branch_74 : decode bR_branch 74 = .ok (.dup, 1) := by decide +kernel
theorem dR_branch_75 : decode bR_branch 75 = .ok (.getfield 182, 3) := by decide +kernel
theorem dR_branch_78 : decode bR_branch 78 = .ok (.iconst 1, 1) := by decide +kernel
theorem dR_branch_79 : decode bR_branch 79 = .ok (.iadd, 1) := by decide +kernel
theorem dR_branch_80 : decode bR_branch 80 = .ok (.putfield 182, 3) := by decide +kernel
theorem dR_branch_83 : decode bR_branch 83 = .ok (.aload_n 0, 1) := by decide +kernel
theorem dR_branch_84 : decode bR_branch 84 = .ok (.getfield 95, 3) := by decide +kernel
theorem dR_branch_87 : decode bR_branch 87 = .ok (.iload_n 1, 1) := by decide +kernel
theorem dR_branch_88 : decode bR_branch 88 = .ok (.dup2, 1) := by decide +kernel
theorem dR_branch_89 : decode bR_branch 89 = .ok (.iaload, 1) := by decide +kernel
theorem dR_branch_90 : decode bR_branch 90 = .ok (.iconst 1, 1) := by decide +kernel
theorem dR_branch_91 : decode bR_branch 91 = .ok (.iadd, 1) := by decide +kernel
theorem dR_branch_92 : decode bR_branch 92 = .ok (.iastore, 1) := by decide +kernel
theorem dR_branch_93 : decode bR_branch 93 = .ok (.return_, 1) := by decide +kernel
theorem dR_growNumbers_0 : decode bR_growNumbers 0 = .ok (.ldc2_w 202, 3) := by decide +kernel
theorem dR_growNumbers_3 : decode bR_growNumbers 3 = .ok (.lstore 4, 2) := by decide +kernel
theorem dR_growNumbers_5 : decode bR_growNumbers 5 = .ok (.iconst 0, 1) := by decide +kernel
theorem dR_growNumbers_6 : decode bR_growNumbers 6 = .ok (.istore 6, 2) := by decide +kernel
theorem dR_growNumbers_8 : decode bR_growNumbers 8 = .ok (.iload 6, 2) := by decide +kernel
theorem dR_growNumbers_10 : decode bR_growNumbers 10 = .ok (.bipush 16, 2) := by decide +kernel
theorem dR_growNumbers_12 : decode bR_growNumbers 12 = .ok (.if_icmp .ge 151, 3) := by decide +kernel
theorem dR_growNumbers_15 : decode bR_growNumbers 15 = .ok (.ldc2_w 204, 3) := by decide +kernel
theorem dR_growNumbers_18 : decode bR_growNumbers 18 = .ok (.lstore 7, 2) := by decide +kernel
theorem dR_growNumbers_20 : decode bR_growNumbers 20 = .ok (.iconst 0, 1) := by decide +kernel
theorem dR_growNumbers_21 : decode bR_growNumbers 21 = .ok (.istore 9, 2) := by decide +kernel
theorem dR_growNumbers_23 : decode bR_growNumbers 23 = .ok (.iload 9, 2) := by decide +kernel
theorem dR_growNumbers_25 : decode bR_growNumbers 25 = .ok (.aload_n 0, 1) := by decide +kernel
theorem dR_growNumbers_26 : decode bR_growNumbers 26 = .ok (.getfield 135, 3) := by decide +kernel
theorem dR_growNumbers_29 : decode bR_growNumbers 29 = .ok (.if_icmp .ge 105, 3) := by decide +kernel
theorem dR_growNumbers_32 : decode bR_growNumbers 32 = .ok (.aload_n 0, 1) := by decide +kernel
theorem dR_growNumbers_33 : decode bR_growNumbers 33 = .ok (.getfield 77, 3) := by decide +kernel
theorem dR_growNumbers_36 : decode bR_growNumbers 36 = .ok (.iload_n 1, 1) := by decide +kernel
theorem dR_growNumbers_37 : decode bR_growNumbers 37 = .ok (.iaload, 1) := by decide +kernel
theorem dR_growNumbers_38 : decode bR_growNumbers 38 = .ok (.iload 9, 2) := by decide +kernel
theorem dR_growNumbers_40 : decode bR_growNumbers 40 = .ok (.ishr, 1) := by decide +kernel
theorem dR_growNumbers_41 : decode bR_growNumbers 41 = .ok (.iconst 1, 1) := by decide +kernel
theorem dR_growNumbers_42 : decode bR_growNumbers 42 = .ok (.iand, 1) := by decide +kernel
theorem dR_growNumbers_43 : decode bR_growNumbers 43 = .ok (.iconst 1, 1) := by decide +kernel
theorem dR_growNumbers_44 : decode bR_growNumbers 44 = .ok (.if_icmp .ne 23, 3) := by decide +kernel
theorem dR_growNumbers_47 : decode bR_growNumbers 47 = .ok (.aload_n 0, 1) := by decide +kernel
theorem dR_growNumbers_48 : decode bR_growNumbers 48 = .ok (.getfield 62, 3) := by decide +kernel
theorem dR_growNumbers_51 : decode bR_growNumbers 51 = .ok (.bipush 16, 2) := by decide +kernel
theorem dR_growNumbers_53 : decode bR_growNumbers 53 = .ok (.iload 9, 2) := by decide +kernel
theorem dR_growNumbers_55 : decode bR_growNumbers 55 = .ok (.imul, 1) := by decide +kernel
theorem dR_growNumbers_56 : decode bR_growNumbers 56 = .ok (.iload_n 2, 1) := by decide +kernel
theorem dR_growNumbers_57 : decode bR_growNumbers 57 = .ok (.iadd, 1) := by decide +kernel
theorem dR_growNumbers_58 : decode bR_growNumbers 58 = .ok (.iaload, 1) := by decide +kernel
theorem dR_growNumbers_59 : decode bR_growNumbers 59 = .ok (.iconst 1, 1) := by decide +kernel
theorem dR_growNumbers_60 : decode bR_growNumbers 60 = .ok (.if_icmp .ne 7, 3) := by decide +kernel
theorem dR_growNumbers_63 : decode bR_growNumbers 63 = .ok (.iconst 1, 1) := by decide +kernel
theorem dR_growNumbers_64 : decode bR_growNumbers 64 = .ok (.goto 4, 3) := by decide +kernel
theorem dR_growNumbers_67 : decode bR_growNumbers 67 = .ok (.iconst 0, 1) := by decide +kernel
theorem dR_growNumbers_68 : decode bR_growNumbers 68 = .ok (.istore 10, 2) := by decide +kernel
theorem dR_growNumbers_70 : decode bR_growNumbers 70 = .ok (.iload 10, 2) := by decide +kernel
theorem dR_growNumbers_72 : decode bR_growNumbers 72 = .ok (.ifCond .eq 56, 3) := by decide +kernel
theorem dR_growNumbers_75 : decode bR_growNumbers 75 = .ok (.aload_n 0, 1) := by decide +kernel
theorem dR_growNumbers_76 : decode bR_growNumbers 76 = .ok (.getfield 65, 3) := by decide +kernel
theorem dR_growNumbers_79 : decode bR_growNumbers 79 = .ok (.bipush 16, 2) := by decide +kernel
theorem dR_growNumbers_81 : decode bR_growNumbers 81 = .ok (.iload 9, 2) := by decide +kernel
theorem dR_growNumbers_83 : decode bR_growNumbers 83 = .ok (.imul, 1) := by decide +kernel
theorem dR_growNumbers_84 : decode bR_growNumbers 84 = .ok (.iload_n 2, 1) := by decide +kernel
theorem dR_growNumbers_85 : decode bR_growNumbers 85 = .ok (.iadd, 1) := by decide +kernel
theorem dR_growNumbers_86 : decode bR_growNumbers 86 = .ok (.iaload, 1) := by decide +kernel
theorem dR_growNumbers_87 : decode bR_growNumbers 87 = .ok (.i2l, 1) := by decide +kernel
theorem dR_growNumbers_88 : decode bR_growNumbers 88 = .ok (.lload 4, 2) := by decide +kernel
theorem dR_growNumbers_90 : decode bR_growNumbers 90 = .ok (.lcmp, 1) := by decide +kernel
theorem dR_growNumbers_91 : decode bR_growNumbers 91 = .ok (.ifCond .le 37, 3) := by decide +kernel
theorem dR_growNumbers_94 : decode bR_growNumbers 94 = .ok (.aload_n 0, 1) := by decide +kernel
theorem dR_growNumbers_95 : decode bR_growNumbers 95 = .ok (.getfield 65, 3) := by decide +kernel
theorem dR_growNumbers_98 : decode bR_growNumbers 98 = .ok (.bipush 16, 2) := by decide +kernel
theorem dR_growNumbers_100 : decode bR_growNumbers 100 = .ok (.iload 9, 2) := by decide +kernel
theorem dR_growNumbers_102 : decode bR_growNumbers 102 = .ok (.imul, 1) := by decide +kernel
theorem dR_growNumbers_103 : decode bR_growNumbers 103 = .ok (.iload_n 2, 1) := by decide +kernel
theorem dR_growNumbers_104 : decode bR_growNumbers 104 = .ok (.iadd, 1) := by decide +kernel
theorem dR_growNumbers_105 : decode bR_growNumbers 105 = .ok (.iaload, 1) := by decide +kernel
theorem dR_growNumbers_106 : decode bR_growNumbers 106 = .ok (.i2l, 1) := by decide +kernel
theorem dR_growNumbers_107 : decode bR_growNumbers 107 = .ok (.lload 7, 2) := by decide +kernel
theorem dR_growNumbers_109 : decode bR_growNumbers 109 = .ok (.lcmp, 1) := by decide +kernel
theorem dR_growNumbers_110 : decode bR_growNumbers 110 = .ok (.ifCond .ge 18, 3) := by decide +kernel
theorem dR_growNumbers_113 : decode bR_growNumbers 113 = .ok (.aload_n 0, 1) := by decide +kernel
theorem dR_growNumbers_114 : decode bR_growNumbers 114 = .ok (.getfield 65, 3) := by decide +kernel
theorem dR_growNumbers_117 : decode bR_growNumbers 117 = .ok (.bipush 16, 2) := by decide +kernel
theorem dR_growNumbers_119 : decode bR_growNumbers 119 = .ok (.iload 9, 2) := by decide +kernel
theorem dR_growNumbers_121 : decode bR_growNumbers 121 = .ok (.imul, 1) := by decide +kernel
theorem dR_growNumbers_122 : decode bR_growNumbers 122 = .ok (.iload_n 2, 1) := by decide +kernel
theorem dR_growNumbers_123 : decode bR_growNumbers 123 = .ok (.iadd, 1) := by decide +kernel
theorem dR_growNumbers_124 : decode bR_growNumbers 124 = .ok (.iaload, 1) := by decide +kernel
theorem dR_growNumbers_125 : decode bR_growNumbers 125 = .ok (.i2l, 1) := by decide +kernel
theorem dR_growNumbers_126 : decode bR_growNumbers 126 = .ok (.lstore 7, 2) := by decide +kernel
theorem dR_growNumbers_128 : decode bR_growNumbers 128 = .ok (.iinc 9 1, 3) := by decide +kernel
theorem dR_growNumbers_131 : decode bR_growNumbers 131 = .ok (.goto (-108), 3) := by decide +kernel
theorem dR_growNumbers_134 : decode bR_growNumbers 134 = .ok (.lload 7, 2) := by decide +kernel
theorem dR_growNumbers_136 : decode bR_growNumbers 136 = .ok (.ldc2_w 204, 3) := by decide +kernel
theorem dR_growNumbers_139 : decode bR_growNumbers 139 = .ok (.lcmp, 1) := by decide +kernel
theorem dR_growNumbers_140 : decode bR_growNumbers 140 = .ok (.ifCond .ge 17, 3) := by decide +kernel
theorem dR_growNumbers_143 : decode bR_growNumbers 143 = .ok (.aload_n 0, 1) := by decide +kernel
theorem dR_growNumbers_144 : decode bR_growNumbers 144 = .ok (.iload_n 1, 1) := by decide +kernel
theorem dR_growNumbers_145 : decode bR_growNumbers 145 = .ok (.lload 7, 2) := by decide +kernel
theorem dR_growNumbers_147 : decode bR_growNumbers 147 = .ok (.l2i, 1) := by decide +kernel
theorem dR_growNumbers_148 : decode bR_growNumbers 148 = .ok (.iconst 0, 1) := by decide +kernel
theorem dR_growNumbers_149 : decode bR_growNumbers 149 = .ok (.iload_n 3, 1) := by decide +kernel
theorem dR_growNumbers_150 : decode bR_growNumbers 150 = .ok (.invokevirtual 198, 3) := by decide +kernel
theorem dR_growNumbers_153 : decode bR_growNumbers 153 = .ok (.lload 7, 2) := by decide +kernel
theorem dR_growNumbers_155 : decode bR_growNumbers 155 = .ok (.lstore 4, 2) := by decide +kernel
theorem dR_growNumbers_157 : decode bR_growNumbers 157 = .ok (.iinc 6 1, 3) := by decide +kernel
theorem dR_growNumbers_160 : decode bR_growNumbers 160 = .ok (.goto (-152), 3) := by decide +kernel
theorem dR_growNumbers_163 : decode bR_growNumbers 163 = .ok (.aload_n 0, 1) := by decide +kernel
theorem dR_growNumbers_164 : decode bR_growNumbers 164 = .ok (.iload_n 1, 1) := by decide +kernel
theorem dR_growNumbers_165 : decode bR_growNumbers 165 = .ok (.iconst 0, 1) := by decide +kernel
theorem dR_growNumbers_166 : decode bR_growNumbers 166 = .ok (.iconst 1, 1) := by decide +kernel
theorem dR_growNumbers_167 : decode bR_growNumbers 167 = .ok (.iload_n 3, 1) := by decide +kernel
theorem dR_growNumbers_168 : decode bR_growNumbers 168 = .ok (.invokevirtual 198, 3) := by decide +kernel
theorem dR_growNumbers_171 : decode bR_growNumbers 171 = .ok (.return_, 1) := by decide +kernel
theorem dR_grow_0 : decode bR_grow 0 = .ok (.aload_n 0, 1) := by decide +kernel
theorem dR_grow_1 : decode bR_grow 1 = .ok (.aload_n 0, 1) := by decide +kernel
theorem dR_grow_2 : decode bR_grow 2 = .ok (.getfield 77, 3) := by decide +kernel
theorem dR_grow_5 : decode bR_grow 5 = .ok (.iload_n 1, 1) := by decide +kernel
theorem dR_grow_6 : decode bR_grow 6 = .ok (.iaload, 1) := by decide +kernel
theorem dR_grow_7 : decode bR_grow 7 = .ok (.aload_n 0, 1) := by decide +kernel
theorem dR_grow_8 : decode bR_grow 8 = .ok (.getfield 80, 3) := by decide +kernel
theorem dR_grow_11 : decode bR_grow 11 = .ok (.iload_n 1, 1) := by decide +kernel
theorem dR_grow_12 : decode bR_grow 12 = .ok (.iaload, 1) := by decide +kernel
theorem dR_grow_13 : decode bR_grow 13 = .ok (.invokevirtual 192, 3) := by decide +kernel
theorem dR_grow_16 : decode bR_grow 16 = .ok (.istore_n 2, 1) := by decide +kernel
theorem dR_grow_17 : decode bR_grow 17 = .ok (.aload_n 0, 1) := by decide +kernel
theorem dR_grow_18 : decode bR_grow 18 = .ok (.getfield 83, 3) := by decide +kernel
theorem dR_grow_21 : decode bR_grow 21 = .ok (.iload_n 1, 1) := by decide +kernel
theorem dR_grow_22 : decode bR_grow 22 = .ok (.iload_n 2, 1) := by decide +kernel
theorem dR_grow_23 : decode bR_grow 23 = .ok (.iastore, 1) := by decide +kernel
theorem dR_grow_24 : decode bR_grow 24 = .ok (.aload_n 0, 1) := by decide +kernel
theorem dR_grow_25 : decode bR_grow 25 = .ok (.getfield 95, 3) := by decide +kernel
theorem dR_grow_28 : decode bR_grow 28 = .ok (.iload_n 1, 1) := by decide +kernel
theorem dR_grow_29 : decode bR_grow 29 = .ok (.iconst 0, 1) := by decide +kernel
theorem dR_grow_30 : decode bR_grow 30 = .ok (.iastore, 1) := by decide +kernel
theorem dR_grow_31 : decode bR_grow 31 = .ok (.aload_n 0, 1) := by decide +kernel
theorem dR_grow_32 : decode bR_grow 32 = .ok (.getfield 92, 3) := by decide +kernel
theorem dR_grow_35 : decode bR_grow 35 = .ok (.iload_n 1, 1) := by decide +kernel
theorem dR_grow_36 : decode bR_grow 36 = .ok (.aload_n 0, 1) := by decide +kernel
theorem dR_grow_37 : decode bR_grow 37 = .ok (.getfield 182, 3) := by decide +kernel
theorem dR_grow_40 : decode bR_grow 40 = .ok (.iastore, 1) := by decide +kernel
theorem dR_grow_41 : decode bR_grow 41 = .ok (.aload_n 0, 1) := by decide +kernel
theorem dR_grow_42 : decode bR_grow 42 = .ok (.getfield 89, 3) := by decide +kernel
theorem dR_grow_45 : decode bR_grow 45 = .ok (.iload_n 1, 1) := by decide +kernel
theorem dR_grow_46 : decode bR_grow 46 = .ok (.aload_n 0, 1) := by decide +kernel
theorem dR_grow_47 : decode bR_grow 47 = .ok (.getfield 77, 3) := by decide +kernel
theorem dR_grow_50 : decode bR_grow 50 = .ok (.iload_n 1, 1) := by decide +kernel
theorem dR_grow_51 : decode bR_grow 51 = .ok (.iaload, 1) := by decide +kernel
theorem dR_grow_52 : decode bR_grow 52 = .ok (.ifCond .ne 7, 3) := by decide +kernel
theorem dR_grow_55 : decode bR_grow 55 = .ok (.iconst (-1), 1) := by decide +kernel
theorem dR_grow_56 : decode bR_grow 56 = .ok (.goto 12, 3) := by decide +kernel
theorem dR_grow_59 : decode bR_grow 59 = .ok (.aload_n 0, 1) := by decide +kernel
theorem dR_grow_60 : decode bR_grow 60 = .ok (.getfield 77, 3) := by decide +kernel
theorem dR_grow_63 : decode bR_grow 63 = .ok (.iload_n 1, 1) := by decide +kernel
theorem dR_grow_64 : decode bR_grow 64 = .ok (.iaload, 1) := by decide +kernel
theorem dR_grow_65 : decode bR_grow 65 = .ok (.invokestatic 176, 3) := by decide +kernel
theorem dR_grow_68 : decode bR_grow 68 = .ok (.iastore, 1) := by decide +kernel
theorem dR_grow_69 : decode bR_grow 69 = .ok (.iload_n 2, 1) := by decide +kernel
theorem dR_grow_70 : decode bR_grow 70 = .ok (.ifCond .ne 4, 3) := by decide +kernel
theorem dR_grow_73 : decode bR_grow 73 = .ok (.return_, 1) := by decide +kernel
theorem dR_grow_74 : decode bR_grow 74 = .ok (.bipush 16, 2) := by decide +kernel
theorem dR_grow_76 : decode bR_grow 76 = .ok (.aload_n 0, 1) := by decide +kernel
theorem dR_grow_77 : decode bR_grow 77 = .ok (.getfield 89, 3) := by decide +kernel
theorem dR_grow_80 : decode bR_grow 80 = .ok (.iload_n 1, 1) := by decide +kernel
theorem dR_grow_81 : decode bR_grow 81 = .ok (.iaload, 1) := by decide +kernel
theorem dR_grow_82 : decode bR_grow 82 = .ok (.imul, 1) := by decide +kernel
theorem dR_grow_83 : decode bR_grow 83 = .ok (.iload_n 2, 1) := by decide +kernel
theorem dR_grow_84 : decode bR_grow 84 = .ok (.iadd, 1) := by decide +kernel
theorem dR_grow_85 : decode bR_grow 85 = .ok (.istore_n 3, 1) := by decide +kernel
theorem dR_grow_86 : decode bR_grow 86 = .ok (.aload_n 0, 1) := by decide +kernel
theorem dR_grow_87 : decode bR_grow 87 = .ok (.getfield 80, 3) := by decide +kernel
theorem dR_grow_90 : decode bR_grow 90 = .ok (.iload_n 1, 1) := by decide +kernel
theorem dR_grow_91 : decode bR_grow 91 = .ok (.iaload, 1) := by decide +kernel
theorem dR_grow_92 : decode bR_grow 92 = .ok (.iconst 1, 1) := by decide +kernel
theorem dR_grow_93 : decode bR_grow 93 = .ok (.iload_n 2, 1) := by decide +kernel
theorem dR_grow_94 : decode bR_grow 94 = .ok (.ishl, 1) := by decide +kernel
theorem dR_grow_95 : decode bR_grow 95 = .ok (.iconst (-1), 1) := by decide +kernel
theorem dR_grow_96 : decode bR_grow 96 = .ok (.ixor, 1) := by decide +kernel
theorem dR_grow_97 : decode bR_grow 97 = .ok (.iand, 1) := by decide +kernel
theorem dR_grow_98 : decode bR_grow 98 = .ok (.istore 4, 2) := by decide +kernel
theorem dR_grow_100 : decode bR_grow 100 = .ok (.aload_n 0, 1) := by decide +kernel
theorem dR_grow_101 : decode bR_grow 101 = .ok (.getfield 62, 3) := by decide +kernel
theorem dR_grow_104 : decode bR_grow 104 = .ok (.iload_n 3, 1) := by decide +kernel
theorem dR_grow_105 : decode bR_grow 105 = .ok (.iaload, 1) := by decide +kernel
theorem dR_grow_106 : decode bR_grow 106 = .ok (.iconst 1, 1) := by decide +kernel
theorem dR_grow_107 : decode bR_grow 107 = .ok (.if_icmp .ne 19, 3) := by decide +kernel
theorem dR_grow_110 : decode bR_grow 110 = .ok (.aload_n 0, 1) := by decide +kernel
theorem dR_grow_111 : decode bR_grow 111 = .ok (.getfield 86, 3) := by decide +kernel
theorem dR_grow_114 : decode bR_grow 114 = .ok (.iload_n 1, 1) := by decide +kernel
theorem dR_grow_115 : decode bR_grow 115 = .ok (.iconst 0, 1) := by decide +kernel
theorem dR_grow_116 : decode bR_grow 116 = .ok (.iastore, 1) := by decide +kernel
theorem dR_grow_117 : decode bR_grow 117 = .ok (.aload_n 0, 1) := by decide +kernel
theorem dR_grow_118 : decode bR_grow 118 = .ok (.iload_n 1, 1) := by decide +kernel
theorem dR_grow_119 : decode bR_grow 119 = .ok (.iload_n 2, 1) := by decide +kernel
theorem dR_grow_120 : decode bR_grow 120 = .ok (.iload 4, 2) := by decide +kernel
theorem dR_grow_122 : decode bR_grow 122 = .ok (.invokevirtual 195, 3) := by decide +kernel
theorem dR_grow_125 : decode bR_grow 125 = .ok (.return_, 1) := by decide +kernel
theorem dR_grow_126 : decode bR_grow 126 = .ok (.aload_n 0, 1) := by decide +kernel
theorem dR_grow_127 : decode bR_grow 127 = .ok (.getfield 86, 3) := by decide +kernel
theorem dR_grow_130 : decode bR_grow 130 = .ok (.iload_n 1, 1) := by decide +kernel
theorem dR_grow_131 : decode bR_grow 131 = .ok (.aload_n 0, 1) := by decide +kernel
theorem dR_grow_132 : decode bR_grow 132 = .ok (.getfield 7, 3) := by decide +kernel
theorem dR_grow_135 : decode bR_grow 135 = .ok (.aload_n 0, 1) := by decide +kernel
theorem dR_grow_136 : decode bR_grow 136 = .ok (.getfield 65, 3) := by decide +kernel
theorem dR_grow_139 : decode bR_grow 139 = .ok (.iload_n 3, 1) := by decide +kernel
theorem dR_grow_140 : decode bR_grow 140 = .ok (.iaload, 1) := by decide +kernel
theorem dR_grow_141 : decode bR_grow 141 = .ok (.iaload, 1) := by decide +kernel
theorem dR_grow_142 : decode bR_grow 142 = .ok (.iastore, 1) := by decide +kernel
theorem dR_grow_143 : decode bR_grow 143 = .ok (.iconst 0, 1) := by decide +kernel
theorem dR_grow_144 : decode bR_grow 144 = .ok (.istore 5, 2) := by decide +kernel
theorem dR_grow_146 : decode bR_grow 146 = .ok (.iload 5, 2) := by decide +kernel
theorem dR_grow_148 : decode bR_grow 148 = .ok (.aload_n 0, 1) := by decide +kernel
theorem dR_grow_149 : decode bR_grow 149 = .ok (.getfield 123, 3) := by decide +kernel
theorem dR_grow_152 : decode bR_grow 152 = .ok (.if_icmp .ge 90, 3) := by decide +kernel
theorem dR_grow_155 : decode bR_grow 155 = .ok (.aload_n 0, 1) := by decide +kernel
theorem dR_grow_156 : decode bR_grow 156 = .ok (.getfield 7, 3) := by decide +kernel
theorem dR_grow_159 : decode bR_grow 159 = .ok (.iload 5, 2) := by decide +kernel
theorem dR_grow_161 : decode bR_grow 161 = .ok (.iaload, 1) := by decide +kernel
theorem dR_grow_162 : decode bR_grow 162 = .ok (.aload_n 0, 1) := by decide +kernel
theorem dR_grow_163 : decode bR_grow 163 = .ok (.getfield 86, 3) := by decide +kernel
theorem dR_grow_166 : decode bR_grow 166 = .ok (.iload_n 1, 1) := by decide +kernel
theorem dR_grow_167 : decode bR_grow 167 = .ok (.iaload, 1) := by decide +kernel
theorem dR_grow_168 : decode bR_grow 168 = .ok (.if_icmp .ne 68, 3) := by decide +kernel
theorem dR_grow_171 : decode bR_grow 171 = .ok (.aload_n 0, 1) := by decide +kernel
theorem dR_grow_172 : decode bR_grow 172 = .ok (.getfield 13, 3) := by decide +kernel
theorem dR_grow_175 : decode bR_grow 175 = .ok (.iload 5, 2) := by decide +kernel
theorem dR_grow_177 : decode bR_grow 177 = .ok (.iaload, 1) := by decide +kernel
theorem dR_grow_178 : decode bR_grow 178 = .ok (.ifCond .lt 11, 3) := by decide +kernel
theorem dR_grow_181 : decode bR_grow 181 = .ok (.iconst 1, 1) := by decide +kernel
theorem dR_grow_182 : decode bR_grow 182 = .ok (.iconst 2, 1) := by decide +kernel
theorem dR_grow_183 : decode bR_grow 183 = .ok (.iload_n 2, 1) := by decide +kernel
theorem dR_grow_184 : decode bR_grow 184 = .ok (.imul, 1) := by decide +kernel
theorem dR_grow_185 : decode bR_grow 185 = .ok (.ishl, 1) := by decide +kernel
theorem dR_grow_186 : decode bR_grow 186 = .ok (.goto 4, 3) := by decide +kernel
theorem dR_grow_189 : decode bR_grow 189 = .ok (.iconst 0, 1) := by decide +kernel
theorem dR_grow_190 : decode bR_grow 190 = .ok (.aload_n 0, 1) := by decide +kernel
theorem dR_grow_191 : decode bR_grow 191 = .ok (.getfield 16, 3) := by decide +kernel
theorem dR_grow_194 : decode bR_grow 194 = .ok (.iload 5, 2) := by decide +kernel
theorem dR_grow_196 : decode bR_grow 196 = .ok (.iaload, 1) := by decide +kernel
theorem dR_grow_197 : decode bR_grow 197 = .ok (.ifCond .lt 11, 3) := by decide +kernel
theorem dR_grow_200 : decode bR_grow 200 = .ok (.iconst 2, 1) := by decide +kernel
theorem dR_grow_201 : decode bR_grow 201 = .ok (.iconst 2, 1) := by decide +kernel
theorem dR_grow_202 : decode bR_grow 202 = .ok (.iload_n 2, 1) := by decide +kernel
theorem dR_grow_203 : decode bR_grow 203 = .ok (.imul, 1) := by decide +kernel
theorem dR_grow_204 : decode bR_grow 204 = .ok (.ishl, 1) := by decide +kernel
theorem dR_grow_205 : decode bR_grow 205 = .ok (.goto 4, 3) := by decide +kernel
theorem dR_grow_208 : decode bR_grow 208 = .ok (.iconst 0, 1) := by decide +kernel
theorem dR_grow_209 : decode bR_grow 209 = .ok (.ior, 1) := by decide +kernel
theorem dR_grow_210 : decode bR_grow 210 = .ok (.istore 6, 2) := by decide +kernel
theorem dR_grow_212 : decode bR_grow 212 = .ok (.aload_n 0, 1) := by decide +kernel
theorem dR_grow_213 : decode bR_grow 213 = .ok (.iload_n 1, 1) := by decide +kernel
theorem dR_grow_214 : decode bR_grow 214 = .ok (.iload 5, 2) := by decide +kernel
theorem dR_grow_216 : decode bR_grow 216 = .ok (.iconst 0, 1) := by decide +kernel
theorem dR_grow_217 : decode bR_grow 217 = .ok (.iload_n 2, 1) := by decide +kernel
theorem dR_grow_218 : decode bR_grow 218 = .ok (.bipush 8, 2) := by decide +kernel
theorem dR_grow_220 : decode bR_grow 220 = .ok (.if_icmp .ge 11, 3) := by decide +kernel
theorem dR_grow_223 : decode bR_grow 223 = .ok (.iload 4, 2) := by decide +kernel
theorem dR_grow_225 : decode bR_grow 225 = .ok (.iload 6, 2) := by decide +kernel
theorem dR_grow_227 : decode bR_grow 227 = .ok (.ior, 1) := by decide +kernel
theorem dR_grow_228 : decode bR_grow 228 = .ok (.goto 5, 3) := by decide +kernel
theorem dR_grow_231 : decode bR_grow 231 = .ok (.iload 4, 2) := by decide +kernel
theorem dR_grow_233 : decode bR_grow 233 = .ok (.invokevirtual 198, 3) := by decide +kernel
theorem dR_grow_236 : decode bR_grow 236 = .ok (.iinc 5 1, 3) := by decide +kernel
theorem dR_grow_239 : decode bR_grow 239 = .ok (.goto (-93), 3) := by decide +kernel
theorem dR_grow_242 : decode bR_grow 242 = .ok (.return_, 1) := by decide +kernel
theorem dR_hasBranch_0 : decode bR_hasBranch 0 = .ok (.iconst 0, 1) := by decide +kernel
theorem dR_hasBranch_1 : decode bR_hasBranch 1 = .ok (.istore_n 3, 1) := by decide +kernel
theorem dR_hasBranch_2 : decode bR_hasBranch 2 = .ok (.iconst 0, 1) := by decide +kernel
theorem dR_hasBranch_3 : decode bR_hasBranch 3 = .ok (.istore 4, 2) := by decide +kernel
theorem dR_hasBranch_5 : decode bR_hasBranch 5 = .ok (.iload 4, 2) := by decide +kernel
theorem dR_hasBranch_7 : decode bR_hasBranch 7 = .ok (.aload_n 0, 1) := by decide +kernel
theorem dR_hasBranch_8 : decode bR_hasBranch 8 = .ok (.getfield 95, 3) := by decide +kernel
theorem dR_hasBranch_11 : decode bR_hasBranch 11 = .ok (.iload_n 1, 1) := by decide +kernel
theorem dR_hasBranch_12 : decode bR_hasBranch 12 = .ok (.iaload, 1) := by decide +kernel
theorem dR_hasBranch_13 : decode bR_hasBranch 13 = .ok (.if_icmp .ge 54, 3) := by decide +kernel
theorem dR_hasBranch_16 : decode bR_hasBranch 16 = .ok (.iload_n 3, 1) := by decide +kernel
theorem dR_hasBranch_17 : decode bR_hasBranch 17 = .ok (.ifCond .ne 38, 3) := by decide +kernel
theorem dR_hasBranch_20 : decode bR_hasBranch 20 = .ok (.aload_n 0, 1) := by decide +kernel
theorem dR_hasBranch_21 : decode bR_hasBranch 21 = .ok (.getfield 101, 3) := by decide +kernel
theorem dR_hasBranch_24 : decode bR_hasBranch 24 = .ok (.aload_n 0, 1) := by decide +kernel
theorem dR_hasBranch_25 : decode bR_hasBranch 25 = .ok (.getfield 92, 3) := by decide +kernel
theorem dR_hasBranch_28 : decode bR_hasBranch 28 = .ok (.iload_n 1, 1) := by decide +kernel
theorem dR_hasBranch_29 : decode bR_hasBranch 29 = .ok (.iaload, 1) := by decide +kernel
theorem dR_hasBranch_30 : decode bR_hasBranch 30 = .ok (.iload 4, 2) := by decide +kernel
theorem dR_hasBranch_32 : decode bR_hasBranch 32 = .ok (.iadd, 1) := by decide +kernel
theorem dR_hasBranch_33 : decode bR_hasBranch 33 = .ok (.baload, 1) := by decide +kernel
theorem dR_hasBranch_34 : decode bR_hasBranch 34 = .ok (.ifCond .ne 25, 3) := by decide +kernel
theorem dR_hasBranch_37 : decode bR_hasBranch 37 = .ok (.aload_n 0, 1) := by decide +kernel
theorem dR_hasBranch_38 : decode bR_hasBranch 38 = .ok (.getfield 98, 3) := by decide +kernel
theorem dR_hasBranch_41 : decode bR_hasBranch 41 = .ok (.aload_n 0, 1) := by decide +kernel
theorem dR_hasBranch_42 : decode bR_hasBranch 42 = .ok (.getfield 92, 3) := by decide +kernel
theorem dR_hasBranch_45 : decode bR_hasBranch 45 = .ok (.iload_n 1, 1) := by decide +kernel
theorem dR_hasBranch_46 : decode bR_hasBranch 46 = .ok (.iaload, 1) := by decide +kernel
theorem dR_hasBranch_47 : decode bR_hasBranch 47 = .ok (.iload 4, 2) := by decide +kernel
theorem dR_hasBranch_49 : decode bR_hasBranch 49 = .ok (.iadd, 1) := by decide +kernel
theorem dR_hasBranch_50 : decode bR_hasBranch 50 = .ok (.iaload, 1) := by decide +kernel
theorem dR_hasBranch_51 : decode bR_hasBranch 51 = .ok (.iload_n 2, 1) := by decide +kernel
theorem dR_hasBranch_52 : decode bR_hasBranch 52 = .ok (.if_icmp .ne 7, 3) := by decide +kernel
theorem dR_hasBranch_55 : decode bR_hasBranch 55 = .ok (.iconst 1, 1) := by decide +kernel
theorem dR_hasBranch_56 : decode bR_hasBranch 56 = .ok (.goto 4, 3) := by decide +kernel
theorem dR_hasBranch_59 : decode bR_hasBranch 59 = .ok (.iconst 0, 1) := by decide +kernel
theorem dR_hasBranch_60 : decode bR_hasBranch 60 = .ok (.istore_n 3, 1) := by decide +kernel
theorem dR_hasBranch_61 : decode bR_hasBranch 61 = .ok (.iinc 4 1, 3) := by decide +kernel
theorem dR_hasBranch_64 : decode bR_hasBranch 64 = .ok (.goto (-59), 3) := by decide +kernel
theorem dR_hasBranch_67 : decode bR_hasBranch 67 = .ok (.iload_n 3, 1) := by decide +kernel
theorem dR_hasBranch_68 : decode bR_hasBranch 68 = .ok (.ireturn, 1) := by decide +kernel
theorem dR_writeWitness_0 : decode bR_writeWitness 0 = .ok (.aload_n 0, 1) := by decide +kernel
theorem dR_writeWitness_1 : decode bR_writeWitness 1 = .ok (.getfield 74, 3) := by decide +kernel
theorem dR_writeWitness_4 : decode bR_writeWitness 4 = .ok (.iconst 0, 1) := by decide +kernel
theorem dR_writeWitness_5 : decode bR_writeWitness 5 = .ok (.iconst 1, 1) := by decide +kernel
theorem dR_writeWitness_6 : decode bR_writeWitness 6 = .ok (.iastore, 1) := by decide +kernel
theorem dR_writeWitness_7 : decode bR_writeWitness 7 = .ok (.iconst 1, 1) := by decide +kernel
theorem dR_writeWitness_8 : decode bR_writeWitness 8 = .ok (.istore_n 1, 1) := by decide +kernel
theorem dR_writeWitness_9 : decode bR_writeWitness 9 = .ok (.iload_n 1, 1) := by decide +kernel
theorem dR_writeWitness_10 : decode bR_writeWitness 10 = .ok (.ifCond .le 136, 3) := by decide +kernel
theorem dR_writeWitness_13 : decode bR_writeWitness 13 = .ok (.iinc 1 (-1), 3) := by decide +kernel
theorem dR_writeWitness_16 : decode bR_writeWitness 16 = .ok (.aload_n 0, 1) := by decide +kernel
theorem dR_writeWitness_17 : decode bR_writeWitness 17 = .ok (.getfield 74, 3) := by decide +kernel
theorem dR_writeWitness_20 : decode bR_writeWitness 20 = .ok (.iload_n 1, 1) := by decide +kernel
theorem dR_writeWitness_21 : decode bR_writeWitness 21 = .ok (.iaload, 1) := by decide +kernel
theorem dR_writeWitness_22 : decode bR_writeWitness 22 = .ok (.istore_n 2, 1) := by decide +kernel
theorem dR_writeWitness_23 : decode bR_writeWitness 23 = .ok (.iload_n 2, 1) := by decide +kernel
theorem dR_writeWitness_24 : decode bR_writeWitness 24 = .ok (.bipush 16, 2) := by decide +kernel
theorem dR_writeWitness_26 : decode bR_writeWitness 26 = .ok (.if_icmp .ge 12, 3) := by decide +kernel
theorem dR_writeWitness_29 : decode bR_writeWitness 29 = .ok (.aload_n 0, 1) := by decide +kernel
theorem dR_writeWitness_30 : decode bR_writeWitness 30 = .ok (.getfield 114, 3) := by decide +kernel
theorem dR_writeWitness_33 : decode bR_writeWitness 33 = .ok (.iload_n 2, 1) := by decide +kernel
theorem dR_writeWitness_34 : decode bR_writeWitness 34 = .ok (.iaload, 1) := by decide +kernel
theorem dR_writeWitness_35 : decode bR_writeWitness 35 = .ok (.goto 4, 3) := by decide +kernel
theorem dR_writeWitness_38 : decode bR_writeWitness 38 = .ok (.iconst 0, 1) := by decide +kernel
theorem dR_writeWitness_39 : decode bR_writeWitness 39 = .ok (.istore_n 3, 1) := by decide +kernel
theorem dR_writeWitness_40 : decode bR_writeWitness 40 = .ok (.iload_n 3, 1) := by decide +kernel
theorem dR_writeWitness_41 : decode bR_writeWitness 41 = .ok (.ifCond .ne 7, 3) := by decide +kernel
theorem dR_writeWitness_44 : decode bR_writeWitness 44 = .ok (.iconst 0, 1) := by decide +kernel
theorem dR_writeWitness_45 : decode bR_writeWitness 45 = .ok (.goto 9, 3) := by decide +kernel
theorem dR_writeWitness_48 : decode bR_writeWitness 48 = .ok (.aload_n 0, 1) := by decide +kernel
theorem dR_writeWitness_49 : decode bR_writeWitness 49 = .ok (.getfield 117, 3) := by decide +kernel
theorem dR_writeWitness_52 : decode bR_writeWitness 52 = .ok (.iload_n 2, 1) := by decide +kernel
theorem dR_writeWitness_53 : decode bR_writeWitness 53 = .ok (.iaload, 1) := by decide +kernel
theorem dR_writeWitness_54 : decode bR_writeWitness 54 = .ok (.istore 4, 2) := by decide +kernel
theorem dR_writeWitness_56 : decode bR_writeWitness 56 = .ok (.aload_n 0, 1) := by decide +kernel
theorem dR_writeWitness_57 : decode bR_writeWitness 57 = .ok (.getfield 108, 3) := by decide +kernel
theorem dR_writeWitness_60 : decode bR_writeWitness 60 = .ok (.aload_n 0, 1) := by decide +kernel
theorem dR_writeWitness_61 : decode bR_writeWitness 61 = .ok (.getfield 216, 3) := by decide +kernel
theorem dR_writeWitness_64 : decode bR_writeWitness 64 = .ok (.iload_n 3, 1) := by decide +kernel
theorem dR_writeWitness_65 : decode bR_writeWitness 65 = .ok (.iastore, 1) := by decide +kernel
theorem dR_writeWitness_66 : decode bR_writeWitness 66 = .ok (.aload_n 0, 1) := by decide +kernel
theorem dR_writeWitness_67 : decode bR_writeWitness 67 = .ok (.getfield 111, 3) := by decide +kernel
theorem dR_writeWitness_70 : decode bR_writeWitness 70 = .ok (.aload_n 0, 1) := by decide +kernel
theorem dR_writeWitness_71 : decode bR_writeWitness 71 = .ok (.getfield 216, 3) := by decide +kernel
theorem dR_writeWitness_74 : decode bR_writeWitness 74 = .ok (.iload 4, 2) := by decide +kernel
theorem dR_writeWitness_76 : decode bR_writeWitness 76 = .ok (.iastore, 1) := by decide +kernel
theorem dR_writeWitness_77 : decode bR_writeWitness 77 = .ok (.aload_n 0, 1) := by decide +kernel
theorem dR_writeWitness_78 : decode bR_writeWitness 78 = .ok (.dup, 1) := by decide +kernel
theorem dR_writeWitness_79 : decode bR_writeWitness 79 = .ok (.getfield 216, 3) := by decide +kernel
theorem dR_writeWitness_82 : decode bR_writeWitness 82 = .ok (.iconst 1, 1) := by decide +kernel
theorem dR_writeWitness_83 : decode bR_writeWitness 83 = .ok (.iadd, 1) := by decide +kernel
theorem dR_writeWitness_84 : decode bR_writeWitness 84 = .ok (.putfield 216, 3) := by decide +kernel
theorem dR_writeWitness_87 : decode bR_writeWitness 87 = .ok (.iload_n 3, 1) := by decide +kernel
theorem dR_writeWitness_88 : decode bR_writeWitness 88 = .ok (.iconst 2, 1) := by decide +kernel
theorem dR_writeWitness_89 : decode bR_writeWitness 89 = .ok (.if_icmp .ne 27, 3) := by decide +kernel
theorem dR_writeWitness_92 : decode bR_writeWitness 92 = .ok (.aload_n 0, 1) := by decide +kernel
theorem dR_writeWitness_93 : decode bR_writeWitness 93 = .ok (.getfield 16, 3) := by decide +kernel
theorem dR_writeWitness_96 : decode bR_writeWitness 96 = .ok (.iload 4, 2) := by decide +kernel
theorem dR_writeWitness_98 : decode bR_writeWitness 98 = .ok (.iaload, 1) := by decide +kernel
theorem dR_writeWitness_99 : decode bR_writeWitness 99 = .ok (.ifCond .lt 17, 3) := by decide +kernel
theorem dR_writeWitness_102 : decode bR_writeWitness 102 = .ok (.aload_n 0, 1) := by decide +kernel
theorem dR_writeWitness_103 : decode bR_writeWitness 103 = .ok (.getfield 74, 3) := by decide +kernel
theorem dR_writeWitness_106 : decode bR_writeWitness 106 = .ok (.iload_n 1, 1) := by decide +kernel
theorem dR_writeWitness_107 : decode bR_writeWitness 107 = .ok (.iconst 2, 1) := by decide +kernel
theorem dR_writeWitness_108 : decode bR_writeWitness 108 = .ok (.iload_n 2, 1) := by decide +kernel
theorem dR_writeWitness_109 : decode bR_writeWitness 109 = .ok (.imul, 1) := by decide +kernel
theorem dR_writeWitness_110 : decode bR_writeWitness 110 = .ok (.iconst 1, 1) := by decide +kernel
theorem dR_writeWitness_111 : decode bR_writeWitness 111 = .ok (.iadd, 1) := by decide +kernel
theorem dR_writeWitness_112 : decode bR_writeWitness 112 = .ok (.iastore, 1) := by decide +kernel
theorem dR_writeWitness_113 : decode bR_writeWitness 113 = .ok (.iinc 1 1, 3) := by decide +kernel
theorem dR_writeWitness_116 : decode bR_writeWitness 116 = .ok (.iload_n 3, 1) := by decide +kernel
theorem dR_writeWitness_117 : decode bR_writeWitness 117 = .ok (.iconst 2, 1) := by decide +kernel
theorem dR_writeWitness_118 : decode bR_writeWitness 118 = .ok (.if_icmp .ne 25, 3) := by decide +kernel
theorem dR_writeWitness_121 : decode bR_writeWitness 121 = .ok (.aload_n 0, 1) := by decide +kernel
theorem dR_writeWitness_122 : decode bR_writeWitness 122 = .ok (.getfield 13, 3) := by decide +kernel
theorem dR_writeWitness_125 : decode bR_writeWitness 125 = .ok (.iload 4, 2) := by decide +kernel
theorem dR_writeWitness_127 : decode bR_writeWitness 127 = .ok (.iaload, 1) := by decide +kernel
theorem dR_writeWitness_128 : decode bR_writeWitness 128 = .ok (.ifCond .lt 15, 3) := by decide +kernel
theorem dR_writeWitness_131 : decode bR_writeWitness 131 = .ok (.aload_n 0, 1) := by decide +kernel
theorem dR_writeWitness_132 : decode bR_writeWitness 132 = .ok (.getfield 74, 3) := by decide +kernel
theorem dR_writeWitness_135 : decode bR_writeWitness 135 = .ok (.iload_n 1, 1) := by decide +kernel
theorem dR_writeWitness_136 : decode bR_writeWitness 136 = .ok (.iconst 2, 1) := by decide +kernel
theorem dR_writeWitness_137 : decode bR_writeWitness 137 = .ok (.iload_n 2, 1) := by decide +kernel
theorem dR_writeWitness_138 : decode bR_writeWitness 138 = .ok (.imul, 1) := by decide +kernel
theorem dR_writeWitness_139 : decode bR_writeWitness 139 = .ok (.iastore, 1) := by decide +kernel
theorem dR_writeWitness_140 : decode bR_writeWitness 140 = .ok (.iinc 1 1, 3) := by decide +kernel
theorem dR_writeWitness_143 : decode bR_writeWitness 143 = .ok (.goto (-134), 3) := by decide +kernel
theorem dR_writeWitness_146 : decode bR_writeWitness 146 = .ok (.return_, 1) := by decide +kernel
theorem dR_findWitness_0 : decode bR_findWitness 0 = .ok (.aload_n 0, 1) := by decide +kernel
theorem dR_findWitness_1 : decode bR_findWitness 1 = .ok (.iconst 0, 1) := by decide +kernel
theorem dR_findWitness_2 : decode bR_findWitness 2 = .ok (.putfield 216, 3) := by decide +kernel
theorem dR_findWitness_5 : decode bR_findWitness 5 = .ok (.aload_n 0, 1) := by decide +kernel
theorem dR_findWitness_6 : decode bR_findWitness 6 = .ok (.getfield 182, 3) := by decide +kernel
theorem dR_findWitness_9 : decode bR_findWitness 9 = .ok (.iconst 1, 1) := by decide +kernel
theorem dR_findWitness_10 : decode bR_findWitness 10 = .ok (.isub, 1) := by decide +kernel
theorem dR_findWitness_11 : decode bR_findWitness 11 = .ok (.istore_n 1, 1) := by decide +kernel
theorem dR_findWitness_12 : decode bR_findWitness 12 = .ok (.iload_n 1, 1) := by decide +kernel
theorem dR_findWitness_13 : decode bR_findWitness 13 = .ok (.ifCond .lt 82, 3) := by decide +kernel
theorem dR_findWitness_16 : decode bR_findWitness 16 = .ok (.aload_n 0, 1) := by decide +kernel
theorem dR_findWitness_17 : decode bR_findWitness 17 = .ok (.getfield 105, 3) := by decide +kernel
theorem dR_findWitness_20 : decode bR_findWitness 20 = .ok (.iload_n 1, 1) := by decide +kernel
theorem dR_findWitness_21 : decode bR_findWitness 21 = .ok (.aload_n 0, 1) := by decide +kernel
theorem dR_findWitness_22 : decode bR_findWitness 22 = .ok (.getfield 83, 3) := by decide +kernel
theorem dR_findWitness_25 : decode bR_findWitness 25 = .ok (.iload_n 1, 1) := by decide +kernel
theorem dR_findWitness_26 : decode bR_findWitness 26 = .ok (.iaload, 1) := by decide +kernel
theorem dR_findWitness_27 : decode bR_findWitness 27 = .ok (.ifCond .ne 16, 3) := by decide +kernel
theorem dR_findWitness_30 : decode bR_findWitness 30 = .ok (.aload_n 0, 1) := by decide +kernel
theorem dR_findWitness_31 : decode bR_findWitness 31 = .ok (.getfield 89, 3) := by decide +kernel
theorem dR_findWitness_34 : decode bR_findWitness 34 = .ok (.iload_n 1, 1) := by decide +kernel
theorem dR_findWitness_35 : decode bR_findWitness 35 = .ok (.iaload, 1) := by decide +kernel
theorem dR_findWitness_36 : decode bR_findWitness 36 = .ok (.ifCond .ge 7, 3) := by decide +kernel
theorem dR_findWitness_39 : decode bR_findWitness 39 = .ok (.iconst 1, 1) := by decide +kernel
theorem dR_findWitness_40 : decode bR_findWitness 40 = .ok (.goto 4, 3) := by decide +kernel
theorem dR_findWitness_43 : decode bR_findWitness 43 = .ok (.iconst 0, 1) := by decide +kernel
theorem dR_findWitness_44 : decode bR_findWitness 44 = .ok (.iastore, 1) := by decide +kernel
theorem dR_findWitness_45 : decode bR_findWitness 45 = .ok (.iconst 0, 1) := by decide +kernel
theorem dR_findWitness_46 : decode bR_findWitness 46 = .ok (.istore_n 2, 1) := by decide +kernel
theorem dR_findWitness_47 : decode bR_findWitness 47 = .ok (.iload_n 2, 1) := by decide +kernel
theorem dR_findWitness_48 : decode bR_findWitness 48 = .ok (.aload_n 0, 1) := by decide +kernel
theorem dR_findWitness_49 : decode bR_findWitness 49 = .ok (.getfield 95, 3) := by decide +kernel
theorem dR_findWitness_52 : decode bR_findWitness 52 = .ok (.iload_n 1, 1) := by decide +kernel
theorem dR_findWitness_53 : decode bR_findWitness 53 = .ok (.iaload, 1) := by decide +kernel
theorem dR_findWitness_54 : decode bR_findWitness 54 = .ok (.if_icmp .ge 35, 3) := by decide +kernel
theorem dR_findWitness_57 : decode bR_findWitness 57 = .ok (.aload_n 0, 1) := by decide +kernel
theorem dR_findWitness_58 : decode bR_findWitness 58 = .ok (.getfield 105, 3) := by decide +kernel
theorem dR_findWitness_61 : decode bR_findWitness 61 = .ok (.iload_n 1, 1) := by decide +kernel
theorem dR_findWitness_62 : decode bR_findWitness 62 = .ok (.aload_n 0, 1) := by decide +kernel
theorem dR_findWitness_63 : decode bR_findWitness 63 = .ok (.getfield 105, 3) := by decide +kernel
theorem dR_findWitness_66 : decode bR_findWitness 66 = .ok (.iload_n 1, 1) := by decide +kernel
theorem dR_findWitness_67 : decode bR_findWitness 67 = .ok (.iaload, 1) := by decide +kernel
theorem dR_findWitness_68 : decode bR_findWitness 68 = .ok (.aload_n 0, 1) := by decide +kernel
theorem dR_findWitness_69 : decode bR_findWitness 69 = .ok (.getfield 105, 3) := by decide +kernel
theorem dR_findWitness_72 : decode bR_findWitness 72 = .ok (.aload_n 0, 1) := by decide +kernel
theorem dR_findWitness_73 : decode bR_findWitness 73 = .ok (.getfield 92, 3) := by decide +kernel
theorem dR_findWitness_76 : decode bR_findWitness 76 = .ok (.iload_n 1, 1) := by decide +kernel
theorem dR_findWitness_77 : decode bR_findWitness 77 = .ok (.iaload, 1) := by decide +kernel
theorem dR_findWitness_78 : decode bR_findWitness 78 = .ok (.iload_n 2, 1) := by decide +kernel
theorem dR_findWitness_79 : decode bR_findWitness 79 = .ok (.iadd, 1) := by decide +kernel
theorem dR_findWitness_80 : decode bR_findWitness 80 = .ok (.iaload, 1) := by decide +kernel
theorem dR_findWitness_81 : decode bR_findWitness 81 = .ok (.ior, 1) := by decide +kernel
theorem dR_findWitness_82 : decode bR_findWitness 82 = .ok (.iastore, 1) := by decide +kernel
theorem dR_findWitness_83 : decode bR_findWitness 83 = .ok (.iinc 2 1, 3) := by decide +kernel
theorem dR_findWitness_86 : decode bR_findWitness 86 = .ok (.goto (-39), 3) := by decide +kernel
theorem dR_findWitness_89 : decode bR_findWitness 89 = .ok (.iinc 1 (-1), 3) := by decide +kernel
theorem dR_findWitness_92 : decode bR_findWitness 92 = .ok (.goto (-80), 3) := by decide +kernel
theorem dR_findWitness_95 : decode bR_findWitness 95 = .ok (.aload_n 0, 1) := by decide +kernel
theorem dR_findWitness_96 : decode bR_findWitness 96 = .ok (.getfield 105, 3) := by decide +kernel
theorem dR_findWitness_99 : decode bR_findWitness 99 = .ok (.iconst 0, 1) := by decide +kernel
theorem dR_findWitness_100 : decode bR_findWitness 100 = .ok (.iaload, 1) := by decide +kernel
theorem dR_findWitness_101 : decode bR_findWitness 101 = .ok (.ifCond .ne 4, 3) := by decide +kernel
theorem dR_findWitness_104 : decode bR_findWitness 104 = .ok (.return_, 1) := by decide +kernel
theorem dR_findWitness_105 : decode bR_findWitness 105 = .ok (.iconst 0, 1) := by decide +kernel
theorem dR_findWitness_106 : decode bR_findWitness 106 = .ok (.istore_n 1, 1) := by decide +kernel
theorem dR_findWitness_107 : decode bR_findWitness 107 = .ok (.iload_n 1, 1) := by decide +kernel
theorem dR_findWitness_108 : decode bR_findWitness 108 = .ok (.bipush 16, 2) := by decide +kernel
theorem dR_findWitness_110 : decode bR_findWitness 110 = .ok (.if_icmp .ge 16, 3) := by decide +kernel
theorem dR_findWitness_113 : decode bR_findWitness 113 = .ok (.aload_n 0, 1) := by decide +kernel
theorem dR_findWitness_114 : decode bR_findWitness 114 = .ok (.getfield 114, 3) := by decide +kernel
theorem dR_findWitness_117 : decode bR_findWitness 117 = .ok (.iload_n 1, 1) := by decide +kernel
theorem dR_findWitness_118 : decode bR_findWitness 118 = .ok (.iconst 0, 1) := by decide +kernel
theorem dR_findWitness_119 : decode bR_findWitness 119 = .ok (.iastore, 1) := by decide +kernel
theorem dR_findWitness_120 : decode bR_findWitness 120 = .ok (.iinc 1 1, 3) := by decide +kernel
theorem dR_findWitness_123 : decode bR_findWitness 123 = .ok (.goto (-16), 3) := by decide +kernel
theorem dR_findWitness_126 : decode bR_findWitness 126 = .ok (.iconst 0, 1) := by decide +kernel
theorem dR_findWitness_127 : decode bR_findWitness 127 = .ok (.istore_n 1, 1) := by decide +kernel
theorem dR_findWitness_128 : decode bR_findWitness 128 = .ok (.aload_n 0, 1) := by decide +kernel
theorem dR_findWitness_129 : decode bR_findWitness 129 = .ok (.getfield 83, 3) := by decide +kernel
theorem dR_findWitness_132 : decode bR_findWitness 132 = .ok (.iload_n 1, 1) := by decide +kernel
theorem dR_findWitness_133 : decode bR_findWitness 133 = .ok (.iaload, 1) := by decide +kernel
theorem dR_findWitness_134 : decode bR_findWitness 134 = .ok (.ifCond .le 100, 3) := by decide +kernel
theorem dR_findWitness_137 : decode bR_findWitness 137 = .ok (.aload_n 0, 1) := by decide +kernel
theorem dR_findWitness_138 : decode bR_findWitness 138 = .ok (.getfield 92, 3) := by decide +kernel
theorem dR_findWitness_141 : decode bR_findWitness 141 = .ok (.iload_n 1, 1) := by decide +kernel
theorem dR_findWitness_142 : decode bR_findWitness 142 = .ok (.iaload, 1) := by decide +kernel
theorem dR_findWitness_143 : decode bR_findWitness 143 = .ok (.istore_n 2, 1) := by decide +kernel
theorem dR_findWitness_144 : decode bR_findWitness 144 = .ok (.aload_n 0, 1) := by decide +kernel
theorem dR_findWitness_145 : decode bR_findWitness 145 = .ok (.getfield 105, 3) := by decide +kernel
theorem dR_findWitness_148 : decode bR_findWitness 148 = .ok (.iload_n 2, 1) := by decide +kernel
theorem dR_findWitness_149 : decode bR_findWitness 149 = .ok (.iaload, 1) := by decide +kernel
theorem dR_findWitness_150 : decode bR_findWitness 150 = .ok (.ifCond .ne 9, 3) := by decide +kernel
theorem dR_findWitness_153 : decode bR_findWitness 153 = .ok (.iinc 2 1, 3) := by decide +kernel
theorem dR_findWitness_156 : decode bR_findWitness 156 = .ok (.goto (-12), 3) := by decide +kernel
theorem dR_findWitness_159 : decode bR_findWitness 159 = .ok (.aload_n 0, 1) := by decide +kernel
theorem dR_findWitness_160 : decode bR_findWitness 160 = .ok (.getfield 98, 3) := by decide +kernel
theorem dR_findWitness_163 : decode bR_findWitness 163 = .ok (.iload_n 2, 1) := by decide +kernel
theorem dR_findWitness_164 : decode bR_findWitness 164 = .ok (.iaload, 1) := by decide +kernel
theorem dR_findWitness_165 : decode bR_findWitness 165 = .ok (.istore_n 3, 1) := by decide +kernel
theorem dR_findWitness_166 : decode bR_findWitness 166 = .ok (.aload_n 0, 1) := by decide +kernel
theorem dR_findWitness_167 : decode bR_findWitness 167 = .ok (.getfield 101, 3) := by decide +kernel
theorem dR_findWitness_170 : decode bR_findWitness 170 = .ok (.iload_n 2, 1) := by decide +kernel
theorem dR_findWitness_171 : decode bR_findWitness 171 = .ok (.baload, 1) := by decide +kernel
theorem dR_findWitness_172 : decode bR_findWitness 172 = .ok (.ifCond .eq 20, 3) := by decide +kernel
theorem dR_findWitness_175 : decode bR_findWitness 175 = .ok (.iconst 0, 1) := by decide +kernel
theorem dR_findWitness_176 : decode bR_findWitness 176 = .ok (.istore_n 3, 1) := by decide +kernel
theorem dR_findWitness_177 : decode bR_findWitness 177 = .ok (.aload_n 0, 1) := by decide +kernel
theorem dR_findWitness_178 : decode bR_findWitness 178 = .ok (.iload_n 1, 1) := by decide +kernel
theorem dR_findWitness_179 : decode bR_findWitness 179 = .ok (.iload_n 3, 1) := by decide +kernel
theorem dR_findWitness_180 : decode bR_findWitness 180 = .ok (.invokevirtual 219, 3) := by decide +kernel
theorem dR_findWitness_183 : decode bR_findWitness 183 = .ok (.ifCond .eq 9, 3) := by decide +kernel
theorem dR_findWitness_186 : decode bR_findWitness 186 = .ok (.iinc 3 1, 3) := by decide +kernel
theorem dR_findWitness_189 : decode bR_findWitness 189 = .ok (.goto (-12), 3) := by decide +kernel
theorem dR_findWitness_192 : decode bR_findWitness 192 = .ok (.aload_n 0, 1) := by decide +kernel
theorem dR_findWitness_193 : decode bR_findWitness 193 = .ok (.getfield 114, 3) := by decide +kernel
theorem dR_findWitness_196 : decode bR_findWitness 196 = .ok (.aload_n 0, 1) := by decide +kernel
theorem dR_findWitness_197 : decode bR_findWitness 197 = .ok (.getfield 83, 3) := by decide +kernel
theorem dR_findWitness_200 : decode bR_findWitness 200 = .ok (.iload_n 1, 1) := by decide +kernel
theorem dR_findWitness_201 : decode bR_findWitness 201 = .ok (.iaload, 1) := by decide +kernel
theorem dR_findWitness_202 : decode bR_findWitness 202 = .ok (.aload_n 0, 1) := by decide +kernel
theorem dR_findWitness_203 : decode bR_findWitness 203 = .ok (.getfield 86, 3) := by decide +kernel
theorem dR_findWitness_206 : decode bR_findWitness 206 = .ok (.iload_n 1, 1) := by decide +kernel
theorem dR_findWitness_207 : decode bR_findWitness 207 = .ok (.iaload, 1) := by decide +kernel
theorem dR_findWitness_208 : decode bR_findWitness 208 = .ok (.ifCond .ne 7, 3) := by decide +kernel
theorem dR_findWitness_211 : decode bR_findWitness 211 = .ok (.iconst 1, 1) := by decide +kernel
theorem dR_findWitness_212 : decode bR_findWitness 212 = .ok (.goto 4, 3) := by decide +kernel
theorem dR_findWitness_215 : decode bR_findWitness 215 = .ok (.iconst 2, 1) := by decide +kernel
theorem dR_findWitness_216 : decode bR_findWitness 216 = .ok (.iastore, 1) := by decide +kernel
theorem dR_findWitness_217 : decode bR_findWitness 217 = .ok (.aload_n 0, 1) := by decide +kernel
theorem dR_findWitness_218 : decode bR_findWitness 218 = .ok (.getfield 117, 3) := by decide +kernel
theorem dR_findWitness_221 : decode bR_findWitness 221 = .ok (.aload_n 0, 1) := by decide +kernel
theorem dR_findWitness_222 : decode bR_findWitness 222 = .ok (.getfield 83, 3) := by decide +kernel
theorem dR_findWitness_225 : decode bR_findWitness 225 = .ok (.iload_n 1, 1) := by decide +kernel
theorem dR_findWitness_226 : decode bR_findWitness 226 = .ok (.iaload, 1) := by decide +kernel
theorem dR_findWitness_227 : decode bR_findWitness 227 = .ok (.iload_n 3, 1) := by decide +kernel
theorem dR_findWitness_228 : decode bR_findWitness 228 = .ok (.iastore, 1) := by decide +kernel
theorem dR_findWitness_229 : decode bR_findWitness 229 = .ok (.iload_n 2, 1) := by decide +kernel
theorem dR_findWitness_230 : decode bR_findWitness 230 = .ok (.istore_n 1, 1) := by decide +kernel
theorem dR_findWitness_231 : decode bR_findWitness 231 = .ok (.goto (-103), 3) := by decide +kernel
theorem dR_findWitness_234 : decode bR_findWitness 234 = .ok (.aload_n 0, 1) := by decide +kernel
theorem dR_findWitness_235 : decode bR_findWitness 235 = .ok (.invokevirtual 222, 3) := by decide +kernel
theorem dR_findWitness_238 : decode bR_findWitness 238 = .ok (.return_, 1) := by decide +kernel
section Srefe1
variable {p : Program} {l : Launch} {e : Env} {R : Room} {s : State} {m : MethodId} {args : Array Value} {below : List Frame} {meth : Method} {c : Code} {Q : State → Prop} {D : va_G} {cA : Nat → ClassId} {ad : Nat → Nat} {H0 : Heap}
def fR_row_l66 (k125 : ck_S → Option (Int32 × ck_S)) : Nat → Int32 → Int32 → ck_S → Option (Int32 × ck_S)
  | 0, _, _, _ => none
  | n + 1, x1, x2, st => (ck_gd x1 60 (if (st 10 (x1).toNatClampNeg) ≤ x2 then (k125 st) else (ck_gd (st 0 20) 16 (ck_gd (st 0 20) 16 (ck_bv (fR_writeOut (st 0 20) x1 x2 (ck_u (ck_u st 15 ((st 0 20)).toNatClampNeg (st 0 19)) 16 ((st 0 20)).toNatClampNeg x2)) fun st1 => (fR_row_l66 k125 n x1 (x2 + 1) (ck_u st1 0 20 ((st1 0 20) + (1 : Int32)))))))))
set_option maxRecDepth 100000 in
set_option maxHeartbeats 4000000 in
theorem BR_row_66 (C : ck_X cm_cl D cA bR_row 3 R_R 2 p R s m args c) {r0 : Int32} {st0 : ck_S} (hret : ∀ (pc : Nat) (H : Heap) (locs : List Loc) (ls : Array Slot), decode bR_row pc = .ok (.ireturn, 1) → ck_AT sh_R cm_cl D cA ad H0 st0 H locs → W p l e R s m args below meth c H locs 0 0 Q (F0 m pc ls [.int r0])) {k125 : ck_S → Option (Int32 × ck_S)} (hk125 : ∀ (st : ck_S) (H : Heap) (locs : List Loc) (ls : Array Slot), ck_AT sh_R cm_cl D cA ad H0 st H locs → lv_has ls 3 [(0, .ref (ad 0))] → k125 st = some (r0, st0) → W p l e R s m args below meth c H locs 0 0 Q (F0 m 125 ls [])) : ∀ (n : Nat) (x1 : Int32) (x2 : Int32) (st : ck_S) (H : Heap) (locs : List Loc) (ls : Array Slot), ck_AT sh_R cm_cl D cA ad H0 st H locs → lv_has ls 3 [(0, .ref (ad 0)), (1, .int x1), (2, .int x2)] → fR_row_l66 k125 n x1 x2 st = some (r0, st0) → W p l e R s m args below meth c H locs 0 0 Q (F0 m 66 ls []) := by
  have C1 := C
  obtain ⟨hx, hb, hml, hown, hts, hK, hlv, hlo⟩ := C1
  intro n
  induction n with
  | zero => intro _ _ _ _ _ _ _ _ hf; cases hf
  | succ n ih =>
    intro x1 x2 st H locs ls h hl hf
    rw [fR_row_l66] at hf
    refine lv_iload_n hx hb dR_row_66 rfl (lv_at hl 2 rfl) ?_
    refine lv_aload_n hx hb dR_row_67 rfl (lv_at hl 0 rfl) ?_
    refine ck_gr C h FR_choices dR_row_68 ?_
    refine lv_iload_n hx hb dR_row_71 rfl (lv_at hl 1 rfl) ?_
    obtain ⟨hg, hf⟩ := ck_gd_e hf
    refine ck_ai (x := (st 10 (x1).toNatClampNeg)) C h (show sh_R[10]? = some (.inr (0, 60)) from rfl) hg rfl dR_row_72 ?_
    refine lv_icmp_ge (tgt := 125) hx hb dR_row_73 rfl (fun hq => ?_) (fun hq => ?_)
    · have hf := ck_t hq hf
      exact hk125 _ _ _ _ h (lv_sub hl [0] rfl) hf
    · have hf := ck_f hq hf
      refine lv_aload_n hx hb dR_row_76 rfl (lv_at hl 0 rfl) ?_
      refine ck_gr C h FR_rowOf dR_row_77 ?_
      refine lv_aload_n hx hb dR_row_80 rfl (lv_at hl 0 rfl) ?_
      refine ck_gi (x := (st 0 20)) C h FR_clauses rfl dR_row_81 ?_
      refine lv_aload_n hx hb dR_row_84 rfl (lv_at hl 0 rfl) ?_
      refine ck_gi (x := (st 0 19)) C h FR_rows rfl dR_row_85 ?_
      obtain ⟨hg, hf⟩ := ck_gd_e hf
      refine ck_si C h (show sh_R[15]? = some (.inr (0, 16)) from rfl) hg dR_row_88 (fun H locs h => ?_)
      refine lv_aload_n hx hb dR_row_89 rfl (lv_at hl 0 rfl) ?_
      refine ck_gr C h FR_numberOf dR_row_90 ?_
      refine lv_aload_n hx hb dR_row_93 rfl (lv_at hl 0 rfl) ?_
      refine ck_gi (x := (st 0 20)) C h FR_clauses rfl dR_row_94 ?_
      refine lv_iload_n hx hb dR_row_97 rfl (lv_at hl 2 rfl) ?_
      obtain ⟨hg, hf⟩ := ck_gd_e hf
      refine ck_si C h (show sh_R[16]? = some (.inr (0, 16)) from rfl) hg dR_row_98 (fun H locs h => ?_)
      refine lv_aload_n hx hb dR_row_99 rfl (lv_at hl 0 rfl) ?_
      refine lv_aload_n hx hb dR_row_100 rfl (lv_at hl 0 rfl) ?_
      refine ck_gi (x := (st 0 20)) C h FR_clauses rfl dR_row_101 ?_
      refine lv_iload_n hx hb dR_row_104 rfl (lv_at hl 1 rfl) ?_
      refine lv_iload_n hx hb dR_row_105 rfl (lv_at hl 2 rfl) ?_
      obtain ⟨st1, hc, hf⟩ := ck_bv_e hf
      refine ck_vv (As := [.int (st 0 20), .int x1, .int x2]) (rest := []) (q := 0) C h hl CR_R_writeOut sR_writeOut q_R (cR_writeOut l D cA ad hc) (Nat.le_of_ble_eq_true rfl) rfl rfl (Nat.le_of_ble_eq_true rfl) dR_row_106 (fun H locs h => ?_)
      refine lv_aload_n hx hb dR_row_109 rfl (lv_at hl 0 rfl) ?_
      refine lv_dup hx hb dR_row_110 rfl ?_
      refine ck_gi (x := (st1 0 20)) C h FR_clauses rfl dR_row_111 ?_
      refine lv_iconst (v := 1) hx hb dR_row_114 (by decide) ?_
      refine lv_iadd hx hb dR_row_115 ?_
      refine ck_pi C h GR_clauses rfl rfl dR_row_116 (fun H locs h => ?_)
      refine lv_iinc (k := 2) (v := (x2 + 1)) (lv' := [(2, .int (x2 + 1)), (0, .ref (ad 0)), (1, .int x1)]) hx hb dR_row_119 hl rfl rfl (by decide) rfl (fun ls hl => ?_)
      refine lv_goto (tgt := 66) hx hb dR_row_122 rfl ?_
      exact ih _ _ _ _ _ _ h (lv_sub hl [1, 2, 0] rfl) hf
def fR_row_b125 (st : ck_S) : Option (Int32 × ck_S) := (some ((((st 0 19) + (1 : Int32)) - (1 : Int32)), (ck_u (ck_u st 0 28 (0 : Int32)) 0 19 ((st 0 19) + (1 : Int32)))))
set_option maxRecDepth 100000 in
set_option maxHeartbeats 4000000 in
theorem BR_row_125 (C : ck_X cm_cl D cA bR_row 3 R_R 2 p R s m args c) {r0 : Int32} {st0 : ck_S} (hret : ∀ (pc : Nat) (H : Heap) (locs : List Loc) (ls : Array Slot), decode bR_row pc = .ok (.ireturn, 1) → ck_AT sh_R cm_cl D cA ad H0 st0 H locs → W p l e R s m args below meth c H locs 0 0 Q (F0 m pc ls [.int r0])) (st : ck_S) (H : Heap) (locs : List Loc) (ls : Array Slot) (h : ck_AT sh_R cm_cl D cA ad H0 st H locs) (hl : lv_has ls 3 [(0, .ref (ad 0))]) (hf : fR_row_b125 st = some (r0, st0)) : W p l e R s m args below meth c H locs 0 0 Q (F0 m 125 ls []) := by
  have C1 := C
  obtain ⟨hx, hb, hml, hown, hts, hK, hlv, hlo⟩ := C1
  unfold fR_row_b125 at hf
  refine lv_aload_n hx hb dR_row_125 rfl (lv_at hl 0 rfl) ?_
  refine lv_iconst (v := 0) hx hb dR_row_126 (by decide) ?_
  refine ck_pi C h GR_grown (ck_nz ck_z0) rfl dR_row_127 (fun H locs h => ?_)
  refine lv_aload_n hx hb dR_row_130 rfl (lv_at hl 0 rfl) ?_
  refine lv_dup hx hb dR_row_131 rfl ?_
  refine ck_gi (x := (st 0 19)) C h FR_rows rfl dR_row_132 ?_
  refine lv_iconst (v := 1) hx hb dR_row_135 (by decide) ?_
  refine lv_iadd hx hb dR_row_136 ?_
  refine ck_pi C h GR_rows rfl rfl dR_row_137 (fun H locs h => ?_)
  refine lv_aload_n hx hb dR_row_140 rfl (lv_at hl 0 rfl) ?_
  refine ck_gi (x := ((st 0 19) + (1 : Int32))) C h FR_rows rfl dR_row_141 ?_
  refine lv_iconst (v := 1) hx hb dR_row_144 (by decide) ?_
  refine lv_isub hx hb dR_row_145 ?_
  exact ck_ri hf hret h dR_row_146
def fR_row (x1 : Int32) (st : ck_S) : Option (Int32 × ck_S) := (if 0 ≤ (st 0 18) then (ck_b (fR_isPattern x1 st) fun v2 st1 => (if v2 = 0 then (some ((-5 : Int32), st1)) else (ck_b (fR_fitsType x1 (st1 0 18) st1) fun v4 st3 => (if v4 = 0 then (some ((-7 : Int32), st3)) else (if (st3 0 19) = (8 : Int32) then (some ((-8 : Int32), st3)) else (ck_gd x1 60 (if ((st3 0 20) + (st3 10 (x1).toNatClampNeg)) ≤ (16 : Int32) then (fR_row_l66 (fun st => (fR_row_b125 st)) 4096 x1 (0 : Int32) st3) else (some ((-8 : Int32), st3))))))))) else (some ((-12 : Int32), st)))
set_option maxRecDepth 100000 in
set_option maxHeartbeats 4000000 in
theorem cR_row (l : Launch) (D : va_G) (cA : Nat → ClassId) (ad : Nat → Nat) {x1 : Int32} {st : ck_S} {r0 : Int32} {st0 : ck_S} (hf : fR_row x1 st = some (r0, st0)) : Met l yR_row (.code yR_row bR_row 3 (some .int) :: ck_T) (ck_R 2) (va_Pc [.ref (ad 0), .int x1] (ck_P sh_R cm_cl D cA ad st)) (va_Qi (fun a u => a = r0 ∧ u = st0) (ck_P sh_R cm_cl D cA ad) (ck_A ad sh_R.length)) 0 0 (ck_A ad sh_R.length) := by
  refine ck_met_i (own := R_R) (by decide +kernel) rfl (Nat.le_of_ble_eq_true rfl) (fun p e R s m args below meth c H0 Q ls C hret h hl => ?_)
  have C1 := C
  obtain ⟨hx, hb, hml, hown, hts, hK, hlv, hlo⟩ := C1
  have hl : lv_has ls 3 [(0, .ref (ad 0)), (1, .int x1)] := hl
  unfold fR_row at hf
  refine lv_aload_n hx hb dR_row_0 rfl (lv_at hl 0 rfl) ?_
  refine ck_gi (x := (st 0 18)) C h FR_over rfl dR_row_1 ?_
  refine lv_if_ge (tgt := 10) hx hb dR_row_4 rfl (fun hq => ?_) (fun hq => ?_)
  · have hf := ck_t hq hf
    refine lv_aload_n hx hb dR_row_10 rfl (lv_at hl 0 rfl) ?_
    refine lv_iload_n hx hb dR_row_11 rfl (lv_at hl 1 rfl) ?_
    obtain ⟨v2, st1, hc, hf⟩ := ck_b_e hf
    refine ck_vi (As := [.int x1]) (rest := []) (q := 0) C h hl CR_R_isPattern sR_isPattern q_R (cR_isPattern l D cA ad hc) (Nat.le_of_ble_eq_true rfl) rfl rfl (Nat.le_of_ble_eq_true rfl) dR_row_12 (fun H locs h => ?_)
    refine lv_if_ne (tgt := 21) hx hb dR_row_15 rfl (fun hq => ?_) (fun hq => ?_)
    · have hf := ck_f hq hf
      refine lv_aload_n hx hb dR_row_21 rfl (lv_at hl 0 rfl) ?_
      refine lv_iload_n hx hb dR_row_22 rfl (lv_at hl 1 rfl) ?_
      refine lv_aload_n hx hb dR_row_23 rfl (lv_at hl 0 rfl) ?_
      refine ck_gi (x := (st1 0 18)) C h FR_over rfl dR_row_24 ?_
      obtain ⟨v4, st3, hc, hf⟩ := ck_b_e hf
      refine ck_vi (As := [.int x1, .int (st1 0 18)]) (rest := []) (q := 0) C h hl CR_R_fitsType sR_fitsType q_R (cR_fitsType l D cA ad hc) (Nat.le_of_ble_eq_true rfl) rfl rfl (Nat.le_of_ble_eq_true rfl) dR_row_27 (fun H locs h => ?_)
      refine lv_if_ne (tgt := 36) hx hb dR_row_30 rfl (fun hq => ?_) (fun hq => ?_)
      · have hf := ck_f hq hf
        refine lv_aload_n hx hb dR_row_36 rfl (lv_at hl 0 rfl) ?_
        refine ck_gi (x := (st3 0 19)) C h FR_rows rfl dR_row_37 ?_
        refine lv_bipush (v := 8) hx hb dR_row_40 (by decide) ?_
        refine lv_icmp_eq (tgt := 61) hx hb dR_row_42 rfl (fun hq => ?_) (fun hq => ?_)
        · have hf := ck_t hq hf
          refine lv_bipush (v := (-8)) hx hb dR_row_61 (by decide) ?_
          exact ck_ri hf hret h dR_row_63
        · have hf := ck_f hq hf
          refine lv_aload_n hx hb dR_row_45 rfl (lv_at hl 0 rfl) ?_
          refine ck_gi (x := (st3 0 20)) C h FR_clauses rfl dR_row_46 ?_
          refine lv_aload_n hx hb dR_row_49 rfl (lv_at hl 0 rfl) ?_
          refine ck_gr C h FR_choices dR_row_50 ?_
          refine lv_iload_n hx hb dR_row_53 rfl (lv_at hl 1 rfl) ?_
          obtain ⟨hg, hf⟩ := ck_gd_e hf
          refine ck_ai (x := (st3 10 (x1).toNatClampNeg)) C h (show sh_R[10]? = some (.inr (0, 60)) from rfl) hg rfl dR_row_54 ?_
          refine lv_iadd hx hb dR_row_55 ?_
          refine lv_bipush (v := 16) hx hb dR_row_56 (by decide) ?_
          refine lv_icmp_le (tgt := 64) hx hb dR_row_58 rfl (fun hq => ?_) (fun hq => ?_)
          · have hf := ck_t hq hf
            refine lv_iconst (v := 0) hx hb dR_row_64 (by decide) ?_
            refine lv_istore_n (lv' := [(2, .int (0 : Int32)), (0, .ref (ad 0)), (1, .int x1)]) hx hb dR_row_65 rfl hl (by decide) rfl (fun ls hl => ?_)
            exact BR_row_66 C hret (fun  st H locs ls h hl hf => by
                exact BR_row_125 C hret _ _ _ _ h (lv_sub hl [0] rfl) hf) 4096 _ _ _ _ _ _ h (lv_sub hl [1, 2, 0] rfl) hf
          · have hf := ck_f hq hf
            refine lv_bipush (v := (-8)) hx hb dR_row_61 (by decide) ?_
            exact ck_ri hf hret h dR_row_63
      · have hf := ck_t hq hf
        refine lv_bipush (v := (-7)) hx hb dR_row_33 (by decide) ?_
        exact ck_ri hf hret h dR_row_35
    · have hf := ck_t hq hf
      refine lv_bipush (v := (-5)) hx hb dR_row_18 (by decide) ?_
      exact ck_ri hf hret h dR_row_20
  · have hf := ck_f hq hf
    refine lv_bipush (v := (-12)) hx hb dR_row_7 (by decide) ?_
    exact ck_ri hf hret h dR_row_9
def fR_lowest_l2 : Nat → Int32 → Int32 → ck_S → Option (Int32 × ck_S)
  | 0, _, _, _ => none
  | n + 1, x0, x1, st => (if (16 : Int32) ≤ x1 then (some (x1, st)) else (if ((x0 >>> (x1 &&& 31)) &&& (1 : Int32)) = 0 then (fR_lowest_l2 n x0 (x1 + 1) st) else (some (x1, st))))
set_option maxRecDepth 100000 in
set_option maxHeartbeats 4000000 in
theorem BR_lowest_2 (C : ck_X cm_cl D cA bR_lowest 2 R_R 0 p R s m args c) {r0 : Int32} {st0 : ck_S} (hret : ∀ (pc : Nat) (H : Heap) (locs : List Loc) (ls : Array Slot), decode bR_lowest pc = .ok (.ireturn, 1) → ck_AT sh_R cm_cl D cA ad H0 st0 H locs → W p l e R s m args below meth c H locs 0 0 Q (F0 m pc ls [.int r0])) : ∀ (n : Nat) (x0 : Int32) (x1 : Int32) (st : ck_S) (H : Heap) (locs : List Loc) (ls : Array Slot), ck_AT sh_R cm_cl D cA ad H0 st H locs → lv_has ls 2 [(0, .int x0), (1, .int x1)] → fR_lowest_l2  n x0 x1 st = some (r0, st0) → W p l e R s m args below meth c H locs 0 0 Q (F0 m 2 ls []) := by
  have C1 := C
  obtain ⟨hx, hb, hml, hown, hts, hK, hlv, hlo⟩ := C1
  intro n
  induction n with
  | zero => intro _ _ _ _ _ _ _ _ hf; cases hf
  | succ n ih =>
    intro x0 x1 st H locs ls h hl hf
    rw [fR_lowest_l2] at hf
    refine lv_iload_n hx hb dR_lowest_2 rfl (lv_at hl 1 rfl) ?_
    refine lv_bipush (v := 16) hx hb dR_lowest_3 (by decide) ?_
    refine lv_icmp_ge (tgt := 22) hx hb dR_lowest_5 rfl (fun hq => ?_) (fun hq => ?_)
    · have hf := ck_t hq hf
      refine lv_iload_n hx hb dR_lowest_22 rfl (lv_at hl 1 rfl) ?_
      exact ck_ri hf hret h dR_lowest_23
    · have hf := ck_f hq hf
      refine lv_iload_n hx hb dR_lowest_8 rfl (lv_at hl 0 rfl) ?_
      refine lv_iload_n hx hb dR_lowest_9 rfl (lv_at hl 1 rfl) ?_
      refine lv_ishr hx hb dR_lowest_10 ?_
      refine lv_iconst (v := 1) hx hb dR_lowest_11 (by decide) ?_
      refine lv_iand hx hb dR_lowest_12 ?_
      refine lv_if_ne (tgt := 22) hx hb dR_lowest_13 rfl (fun hq => ?_) (fun hq => ?_)
      · have hf := ck_f hq hf
        refine lv_iload_n hx hb dR_lowest_22 rfl (lv_at hl 1 rfl) ?_
        exact ck_ri hf hret h dR_lowest_23
      · have hf := ck_t hq hf
        refine lv_iinc (k := 1) (v := (x1 + 1)) (lv' := [(1, .int (x1 + 1)), (0, .int x0)]) hx hb dR_lowest_16 hl rfl rfl (by decide) rfl (fun ls hl => ?_)
        refine lv_goto (tgt := 2) hx hb dR_lowest_19 rfl ?_
        exact ih _ _ _ _ _ _ h (lv_sub hl [1, 0] rfl) hf
def fR_lowest (x0 : Int32) (st : ck_S) : Option (Int32 × ck_S) := (fR_lowest_l2  4096 x0 (0 : Int32) st)
set_option maxRecDepth 100000 in
set_option maxHeartbeats 4000000 in
theorem cR_lowest (l : Launch) (D : va_G) (cA : Nat → ClassId) (ad : Nat → Nat) {x0 : Int32} {st : ck_S} {r0 : Int32} {st0 : ck_S} (hf : fR_lowest x0 st = some (r0, st0)) : Met l yR_lowest (.code yR_lowest bR_lowest 2 (some .int) :: ck_T) (ck_R 0) (va_Pc [.int x0] (ck_P sh_R cm_cl D cA ad st)) (va_Qi (fun a u => a = r0 ∧ u = st0) (ck_P sh_R cm_cl D cA ad) (ck_A ad sh_R.length)) 0 0 (ck_A ad sh_R.length) := by
  refine ck_met_i (own := R_R) (by decide +kernel) rfl (Nat.le_of_ble_eq_true rfl) (fun p e R s m args below meth c H0 Q ls C hret h hl => ?_)
  have C1 := C
  obtain ⟨hx, hb, hml, hown, hts, hK, hlv, hlo⟩ := C1
  have hl : lv_has ls 2 [(0, .int x0)] := hl
  unfold fR_lowest at hf
  refine lv_iconst (v := 0) hx hb dR_lowest_0 (by decide) ?_
  refine lv_istore_n (lv' := [(1, .int (0 : Int32)), (0, .int x0)]) hx hb dR_lowest_1 rfl hl (by decide) rfl (fun ls hl => ?_)
  exact BR_lowest_2 C hret  4096 _ _ _ _ _ _ h (lv_sub hl [1, 0] rfl) hf
def fR_askers_l5 : Nat → Int32 → Int32 → Int32 → Int32 → ck_S → Option (Int32 × ck_S)
  | 0, _, _, _, _, _ => none
  | n + 1, x1, x2, x3, x4, st => (if (st 0 20) ≤ x4 then (some (x3, st)) else (if ((x1 >>> (x4 &&& 31)) &&& (1 : Int32)) = (1 : Int32) then (ck_gd (((16 : Int32) * x4) + x2) 256 (if (st 17 ((((16 : Int32) * x4) + x2)).toNatClampNeg) ≤ 0 then (fR_askers_l5 n x1 x2 x3 (x4 + 1) st) else (fR_askers_l5 n x1 x2 (x3 + (1 : Int32)) (x4 + 1) st))) else (fR_askers_l5 n x1 x2 x3 (x4 + 1) st)))
set_option maxRecDepth 100000 in
set_option maxHeartbeats 4000000 in
theorem BR_askers_5 (C : ck_X cm_cl D cA bR_askers 5 R_R 0 p R s m args c) {r0 : Int32} {st0 : ck_S} (hret : ∀ (pc : Nat) (H : Heap) (locs : List Loc) (ls : Array Slot), decode bR_askers pc = .ok (.ireturn, 1) → ck_AT sh_R cm_cl D cA ad H0 st0 H locs → W p l e R s m args below meth c H locs 0 0 Q (F0 m pc ls [.int r0])) : ∀ (n : Nat) (x1 : Int32) (x2 : Int32) (x3 : Int32) (x4 : Int32) (st : ck_S) (H : Heap) (locs : List Loc) (ls : Array Slot), ck_AT sh_R cm_cl D cA ad H0 st H locs → lv_has ls 5 [(0, .ref (ad 0)), (1, .int x1), (2, .int x2), (3, .int x3), (4, .int x4)] → fR_askers_l5  n x1 x2 x3 x4 st = some (r0, st0) → W p l e R s m args below meth c H locs 0 0 Q (F0 m 5 ls []) := by
  have C1 := C
  obtain ⟨hx, hb, hml, hown, hts, hK, hlv, hlo⟩ := C1
  intro n
  induction n with
  | zero => intro _ _ _ _ _ _ _ _ _ _ hf; cases hf
  | succ n ih =>
    intro x1 x2 x3 x4 st H locs ls h hl hf
    rw [fR_askers_l5] at hf
    refine lv_iload hx hb dR_askers_5 (lv_at hl 4 rfl) ?_
    refine lv_aload_n hx hb dR_askers_7 rfl (lv_at hl 0 rfl) ?_
    refine ck_gi (x := (st 0 20)) C h FR_clauses rfl dR_askers_8 ?_
    refine lv_icmp_ge (tgt := 53) hx hb dR_askers_11 rfl (fun hq => ?_) (fun hq => ?_)
    · have hf := ck_t hq hf
      refine lv_iload_n hx hb dR_askers_53 rfl (lv_at hl 3 rfl) ?_
      exact ck_ri hf hret h dR_askers_54
    · have hf := ck_f hq hf
      refine lv_iload_n hx hb dR_askers_14 rfl (lv_at hl 1 rfl) ?_
      refine lv_iload hx hb dR_askers_15 (lv_at hl 4 rfl) ?_
      refine lv_ishr hx hb dR_askers_17 ?_
      refine lv_iconst (v := 1) hx hb dR_askers_18 (by decide) ?_
      refine lv_iand hx hb dR_askers_19 ?_
      refine lv_iconst (v := 1) hx hb dR_askers_20 (by decide) ?_
      refine lv_icmp_ne (tgt := 45) hx hb dR_askers_21 rfl (fun hq => ?_) (fun hq => ?_)
      · have hf := ck_f hq hf
        refine lv_iload_n hx hb dR_askers_45 rfl (lv_at hl 3 rfl) ?_
        refine lv_istore_n (lv' := [(3, .int x3), (0, .ref (ad 0)), (1, .int x1), (2, .int x2), (4, .int x4)]) hx hb dR_askers_46 rfl hl (by decide) rfl (fun ls hl => ?_)
        refine lv_iinc (k := 4) (v := (x4 + 1)) (lv' := [(4, .int (x4 + 1)), (3, .int x3), (0, .ref (ad 0)), (1, .int x1), (2, .int x2)]) hx hb dR_askers_47 hl rfl rfl (by decide) rfl (fun ls hl => ?_)
        refine lv_goto (tgt := 5) hx hb dR_askers_50 rfl ?_
        exact ih _ _ _ _ _ _ _ _ h (lv_sub hl [2, 3, 4, 1, 0] rfl) hf
      · have hf := ck_t hq hf
        refine lv_aload_n hx hb dR_askers_24 rfl (lv_at hl 0 rfl) ?_
        refine ck_gr C h FR_asks dR_askers_25 ?_
        refine lv_bipush (v := 16) hx hb dR_askers_28 (by decide) ?_
        refine lv_iload hx hb dR_askers_30 (lv_at hl 4 rfl) ?_
        refine lv_imul hx hb dR_askers_32 ?_
        refine lv_iload_n hx hb dR_askers_33 rfl (lv_at hl 2 rfl) ?_
        refine lv_iadd hx hb dR_askers_34 ?_
        obtain ⟨hg, hf⟩ := ck_gd_e hf
        refine ck_ai (x := (st 17 ((((16 : Int32) * x4) + x2)).toNatClampNeg)) C h (show sh_R[17]? = some (.inr (0, 256)) from rfl) hg rfl dR_askers_35 ?_
        refine lv_if_le (tgt := 45) hx hb dR_askers_36 rfl (fun hq => ?_) (fun hq => ?_)
        · have hf := ck_t hq hf
          refine lv_iload_n hx hb dR_askers_45 rfl (lv_at hl 3 rfl) ?_
          refine lv_istore_n (lv' := [(3, .int x3), (0, .ref (ad 0)), (1, .int x1), (2, .int x2), (4, .int x4)]) hx hb dR_askers_46 rfl hl (by decide) rfl (fun ls hl => ?_)
          refine lv_iinc (k := 4) (v := (x4 + 1)) (lv' := [(4, .int (x4 + 1)), (3, .int x3), (0, .ref (ad 0)), (1, .int x1), (2, .int x2)]) hx hb dR_askers_47 hl rfl rfl (by decide) rfl (fun ls hl => ?_)
          refine lv_goto (tgt := 5) hx hb dR_askers_50 rfl ?_
          exact ih _ _ _ _ _ _ _ _ h (lv_sub hl [2, 3, 4, 1, 0] rfl) hf
        · have hf := ck_f hq hf
          refine lv_iload_n hx hb dR_askers_39 rfl (lv_at hl 3 rfl) ?_
          refine lv_iconst (v := 1) hx hb dR_askers_40 (by decide) ?_
          refine lv_iadd hx hb dR_askers_41 ?_
          refine lv_goto (tgt := 46) hx hb dR_askers_42 rfl ?_
          refine lv_istore_n (lv' := [(3, .int (x3 + (1 : Int32))), (0, .ref (ad 0)), (1, .int x1), (2, .int x2), (4, .int x4)]) hx hb dR_askers_46 rfl hl (by decide) rfl (fun ls hl => ?_)
          refine lv_iinc (k := 4) (v := (x4 + 1)) (lv' := [(4, .int (x4 + 1)), (3, .int (x3 + (1 : Int32))), (0, .ref (ad 0)), (1, .int x1), (2, .int x2)]) hx hb dR_askers_47 hl rfl rfl (by decide) rfl (fun ls hl => ?_)
          refine lv_goto (tgt := 5) hx hb dR_askers_50 rfl ?_
          exact ih _ _ _ _ _ _ _ _ h (lv_sub hl [2, 3, 4, 1, 0] rfl) hf
def fR_askers (x1 : Int32) (x2 : Int32) (st : ck_S) : Option (Int32 × ck_S) := (fR_askers_l5  4096 x1 x2 (0 : Int32) (0 : Int32) st)
set_option maxRecDepth 100000 in
set_option maxHeartbeats 4000000 in
theorem cR_askers (l : Launch) (D : va_G) (cA : Nat → ClassId) (ad : Nat → Nat) {x1 : Int32} {x2 : Int32} {st : ck_S} {r0 : Int32} {st0 : ck_S} (hf : fR_askers x1 x2 st = some (r0, st0)) : Met l yR_askers (.code yR_askers bR_askers 5 (some .int) :: ck_T) (ck_R 0) (va_Pc [.ref (ad 0), .int x1, .int x2] (ck_P sh_R cm_cl D cA ad st)) (va_Qi (fun a u => a = r0 ∧ u = st0) (ck_P sh_R cm_cl D cA ad) (ck_A ad sh_R.length)) 0 0 (ck_A ad sh_R.length) := by
  refine ck_met_i (own := R_R) (by decide +kernel) rfl (Nat.le_of_ble_eq_true rfl) (fun p e R s m args below meth c H0 Q ls C hret h hl => ?_)
  have C1 := C
  obtain ⟨hx, hb, hml, hown, hts, hK, hlv, hlo⟩ := C1
  have hl : lv_has ls 5 [(0, .ref (ad 0)), (1, .int x1), (2, .int x2)] := hl
  unfold fR_askers at hf
  refine lv_iconst (v := 0) hx hb dR_askers_0 (by decide) ?_
  refine lv_istore_n (lv' := [(3, .int (0 : Int32)), (0, .ref (ad 0)), (1, .int x1), (2, .int x2)]) hx hb dR_askers_1 rfl hl (by decide) rfl (fun ls hl => ?_)
  refine lv_iconst (v := 0) hx hb dR_askers_2 (by decide) ?_
  refine lv_istore (lv' := [(4, .int (0 : Int32)), (3, .int (0 : Int32)), (0, .ref (ad 0)), (1, .int x1), (2, .int x2)]) hx hb dR_askers_3 hl (by decide) rfl (fun ls hl => ?_)
  exact BR_askers_5 C hret  4096 _ _ _ _ _ _ _ _ h (lv_sub hl [2, 3, 4, 1, 0] rfl) hf
def fR_choose_l20 : Nat → Int32 → Int32 → Int32 → Int32 → Int32 → Int32 → ck_S → Option (Int32 × ck_S)
  | 0, _, _, _, _, _, _, _ => none
  | n + 1, x1, x2, x3, x4, x5, x6, st => (if (16 : Int32) ≤ x6 then (some (x4, st)) else (if ((x2 >>> (x6 &&& 31)) &&& (1 : Int32)) = (1 : Int32) then (ck_gd (((16 : Int32) * x3) + x6) 256 (if (st 17 ((((16 : Int32) * x3) + x6)).toNatClampNeg) ≤ 0 then (fR_choose_l20 n x1 x2 x3 x4 x5 (x6 + 1) st) else (ck_b (fR_askers x1 x6 st) fun v2 st1 => (if v2 ≤ x5 then (fR_choose_l20 n x1 x2 x3 x4 x5 (x6 + 1) st1) else (ck_b (fR_askers x1 x6 st1) fun v4 st3 => (fR_choose_l20 n x1 x2 x3 x6 v4 (x6 + 1) st3)))))) else (fR_choose_l20 n x1 x2 x3 x4 x5 (x6 + 1) st)))
set_option maxRecDepth 100000 in
set_option maxHeartbeats 4000000 in
theorem BR_choose_20 (C : ck_X cm_cl D cA bR_choose 7 R_R 1 p R s m args c) {r0 : Int32} {st0 : ck_S} (hret : ∀ (pc : Nat) (H : Heap) (locs : List Loc) (ls : Array Slot), decode bR_choose pc = .ok (.ireturn, 1) → ck_AT sh_R cm_cl D cA ad H0 st0 H locs → W p l e R s m args below meth c H locs 0 0 Q (F0 m pc ls [.int r0])) : ∀ (n : Nat) (x1 : Int32) (x2 : Int32) (x3 : Int32) (x4 : Int32) (x5 : Int32) (x6 : Int32) (st : ck_S) (H : Heap) (locs : List Loc) (ls : Array Slot), ck_AT sh_R cm_cl D cA ad H0 st H locs → lv_has ls 7 [(0, .ref (ad 0)), (1, .int x1), (2, .int x2), (3, .int x3), (4, .int x4), (5, .int x5), (6, .int x6)] → fR_choose_l20  n x1 x2 x3 x4 x5 x6 st = some (r0, st0) → W p l e R s m args below meth c H locs 0 0 Q (F0 m 20 ls []) := by
  have C1 := C
  obtain ⟨hx, hb, hml, hown, hts, hK, hlv, hlo⟩ := C1
  intro n
  induction n with
  | zero => intro _ _ _ _ _ _ _ _ _ _ _ _ hf; cases hf
  | succ n ih =>
    intro x1 x2 x3 x4 x5 x6 st H locs ls h hl hf
    rw [fR_choose_l20] at hf
    refine lv_iload hx hb dR_choose_20 (lv_at hl 6 rfl) ?_
    refine lv_bipush (v := 16) hx hb dR_choose_22 (by decide) ?_
    refine lv_icmp_ge (tgt := 83) hx hb dR_choose_24 rfl (fun hq => ?_) (fun hq => ?_)
    · have hf := ck_t hq hf
      refine lv_iload hx hb dR_choose_83 (lv_at hl 4 rfl) ?_
      exact ck_ri hf hret h dR_choose_85
    · have hf := ck_f hq hf
      refine lv_iload_n hx hb dR_choose_27 rfl (lv_at hl 2 rfl) ?_
      refine lv_iload hx hb dR_choose_28 (lv_at hl 6 rfl) ?_
      refine lv_ishr hx hb dR_choose_30 ?_
      refine lv_iconst (v := 1) hx hb dR_choose_31 (by decide) ?_
      refine lv_iand hx hb dR_choose_32 ?_
      refine lv_iconst (v := 1) hx hb dR_choose_33 (by decide) ?_
      refine lv_icmp_ne (tgt := 77) hx hb dR_choose_34 rfl (fun hq => ?_) (fun hq => ?_)
      · have hf := ck_f hq hf
        refine lv_iinc (k := 6) (v := (x6 + 1)) (lv' := [(6, .int (x6 + 1)), (0, .ref (ad 0)), (1, .int x1), (2, .int x2), (3, .int x3), (4, .int x4), (5, .int x5)]) hx hb dR_choose_77 hl rfl rfl (by decide) rfl (fun ls hl => ?_)
        refine lv_goto (tgt := 20) hx hb dR_choose_80 rfl ?_
        exact ih _ _ _ _ _ _ _ _ _ _ h (lv_sub hl [1, 2, 3, 4, 5, 6, 0] rfl) hf
      · have hf := ck_t hq hf
        refine lv_aload_n hx hb dR_choose_37 rfl (lv_at hl 0 rfl) ?_
        refine ck_gr C h FR_asks dR_choose_38 ?_
        refine lv_bipush (v := 16) hx hb dR_choose_41 (by decide) ?_
        refine lv_iload_n hx hb dR_choose_43 rfl (lv_at hl 3 rfl) ?_
        refine lv_imul hx hb dR_choose_44 ?_
        refine lv_iload hx hb dR_choose_45 (lv_at hl 6 rfl) ?_
        refine lv_iadd hx hb dR_choose_47 ?_
        obtain ⟨hg, hf⟩ := ck_gd_e hf
        refine ck_ai (x := (st 17 ((((16 : Int32) * x3) + x6)).toNatClampNeg)) C h (show sh_R[17]? = some (.inr (0, 256)) from rfl) hg rfl dR_choose_48 ?_
        refine lv_if_le (tgt := 77) hx hb dR_choose_49 rfl (fun hq => ?_) (fun hq => ?_)
        · have hf := ck_t hq hf
          refine lv_iinc (k := 6) (v := (x6 + 1)) (lv' := [(6, .int (x6 + 1)), (0, .ref (ad 0)), (1, .int x1), (2, .int x2), (3, .int x3), (4, .int x4), (5, .int x5)]) hx hb dR_choose_77 hl rfl rfl (by decide) rfl (fun ls hl => ?_)
          refine lv_goto (tgt := 20) hx hb dR_choose_80 rfl ?_
          exact ih _ _ _ _ _ _ _ _ _ _ h (lv_sub hl [1, 2, 3, 4, 5, 6, 0] rfl) hf
        · have hf := ck_f hq hf
          refine lv_aload_n hx hb dR_choose_52 rfl (lv_at hl 0 rfl) ?_
          refine lv_iload_n hx hb dR_choose_53 rfl (lv_at hl 1 rfl) ?_
          refine lv_iload hx hb dR_choose_54 (lv_at hl 6 rfl) ?_
          obtain ⟨v2, st1, hc, hf⟩ := ck_b_e hf
          refine ck_vi (As := [.int x1, .int x6]) (rest := []) (q := 0) C h hl CR_R_askers sR_askers q_R (cR_askers l D cA ad hc) (Nat.le_of_ble_eq_true rfl) rfl rfl (Nat.le_of_ble_eq_true rfl) dR_choose_56 (fun H locs h => ?_)
          refine lv_iload hx hb dR_choose_59 (lv_at hl 5 rfl) ?_
          refine lv_icmp_le (tgt := 77) hx hb dR_choose_61 rfl (fun hq => ?_) (fun hq => ?_)
          · have hf := ck_t hq hf
            refine lv_iinc (k := 6) (v := (x6 + 1)) (lv' := [(6, .int (x6 + 1)), (0, .ref (ad 0)), (1, .int x1), (2, .int x2), (3, .int x3), (4, .int x4), (5, .int x5)]) hx hb dR_choose_77 hl rfl rfl (by decide) rfl (fun ls hl => ?_)
            refine lv_goto (tgt := 20) hx hb dR_choose_80 rfl ?_
            exact ih _ _ _ _ _ _ _ _ _ _ h (lv_sub hl [1, 2, 3, 4, 5, 6, 0] rfl) hf
          · have hf := ck_f hq hf
            refine lv_iload hx hb dR_choose_64 (lv_at hl 6 rfl) ?_
            refine lv_istore (lv' := [(4, .int x6), (0, .ref (ad 0)), (1, .int x1), (2, .int x2), (3, .int x3), (5, .int x5), (6, .int x6)]) hx hb dR_choose_66 hl (by decide) rfl (fun ls hl => ?_)
            refine lv_aload_n hx hb dR_choose_68 rfl (lv_at hl 1 rfl) ?_
            refine lv_iload_n hx hb dR_choose_69 rfl (lv_at hl 2 rfl) ?_
            refine lv_iload hx hb dR_choose_70 (lv_at hl 6 rfl) ?_
            obtain ⟨v4, st3, hc, hf⟩ := ck_b_e hf
            refine ck_vi (As := [.int x1, .int x6]) (rest := []) (q := 0) C h hl CR_R_askers sR_askers q_R (cR_askers l D cA ad hc) (Nat.le_of_ble_eq_true rfl) rfl rfl (Nat.le_of_ble_eq_true rfl) dR_choose_72 (fun H locs h => ?_)
            refine lv_istore (lv' := [(5, .int v4), (4, .int x6), (0, .ref (ad 0)), (1, .int x1), (2, .int x2), (3, .int x3), (6, .int x6)]) hx hb dR_choose_75 hl (by decide) rfl (fun ls hl => ?_)
            refine lv_iinc (k := 6) (v := (x6 + 1)) (lv' := [(6, .int (x6 + 1)), (5, .int v4), (4, .int x6), (0, .ref (ad 0)), (1, .int x1), (2, .int x2), (3, .int x3)]) hx hb dR_choose_77 hl rfl rfl (by decide) rfl (fun ls hl => ?_)
            refine lv_goto (tgt := 20) hx hb dR_choose_80 rfl ?_
            exact ih _ _ _ _ _ _ _ _ _ _ h (lv_sub hl [3, 4, 5, 6, 2, 1, 0] rfl) hf
def fR_choose (x1 : Int32) (x2 : Int32) (st : ck_S) : Option (Int32 × ck_S) := (if x1 = 0 then (some ((0 : Int32), st)) else (ck_b (fR_lowest x1 st) fun v2 st1 => (fR_choose_l20  4096 x1 x2 v2 (0 : Int32) (0 : Int32) (1 : Int32) st1)))
set_option maxRecDepth 100000 in
set_option maxHeartbeats 4000000 in
theorem cR_choose (l : Launch) (D : va_G) (cA : Nat → ClassId) (ad : Nat → Nat) {x1 : Int32} {x2 : Int32} {st : ck_S} {r0 : Int32} {st0 : ck_S} (hf : fR_choose x1 x2 st = some (r0, st0)) : Met l yR_choose (.code yR_choose bR_choose 7 (some .int) :: ck_T) (ck_R 1) (va_Pc [.ref (ad 0), .int x1, .int x2] (ck_P sh_R cm_cl D cA ad st)) (va_Qi (fun a u => a = r0 ∧ u = st0) (ck_P sh_R cm_cl D cA ad) (ck_A ad sh_R.length)) 0 0 (ck_A ad sh_R.length) := by
  refine ck_met_i (own := R_R) (by decide +kernel) rfl (Nat.le_of_ble_eq_true rfl) (fun p e R s m args below meth c H0 Q ls C hret h hl => ?_)
  have C1 := C
  obtain ⟨hx, hb, hml, hown, hts, hK, hlv, hlo⟩ := C1
  have hl : lv_has ls 7 [(0, .ref (ad 0)), (1, .int x1), (2, .int x2)] := hl
  unfold fR_choose at hf
  refine lv_iload_n hx hb dR_choose_0 rfl (lv_at hl 1 rfl) ?_
  refine lv_if_ne (tgt := 6) hx hb dR_choose_1 rfl (fun hq => ?_) (fun hq => ?_)
  · have hf := ck_f hq hf
    refine lv_iload_n hx hb dR_choose_6 rfl (lv_at hl 1 rfl) ?_
    obtain ⟨v2, st1, hc, hf⟩ := ck_b_e hf
    refine ck_ti (As := [.int x1]) (rest := []) C h hl CR_R_lowest sR_lowest (cR_lowest l D cA ad hc) (Nat.le_of_ble_eq_true rfl) rfl rfl (Nat.le_of_ble_eq_true rfl) dR_choose_7 (fun H locs h => ?_)
    refine lv_istore_n (lv' := [(3, .int v2), (0, .ref (ad 0)), (1, .int x1), (2, .int x2)]) hx hb dR_choose_10 rfl hl (by decide) rfl (fun ls hl => ?_)
    refine lv_iconst (v := 0) hx hb dR_choose_11 (by decide) ?_
    refine lv_istore (lv' := [(4, .int (0 : Int32)), (3, .int v2), (0, .ref (ad 0)), (1, .int x1), (2, .int x2)]) hx hb dR_choose_12 hl (by decide) rfl (fun ls hl => ?_)
    refine lv_iconst (v := 0) hx hb dR_choose_14 (by decide) ?_
    refine lv_istore (lv' := [(5, .int (0 : Int32)), (4, .int (0 : Int32)), (3, .int v2), (0, .ref (ad 0)), (1, .int x1), (2, .int x2)]) hx hb dR_choose_15 hl (by decide) rfl (fun ls hl => ?_)
    refine lv_iconst (v := 1) hx hb dR_choose_17 (by decide) ?_
    refine lv_istore (lv' := [(6, .int (1 : Int32)), (5, .int (0 : Int32)), (4, .int (0 : Int32)), (3, .int v2), (0, .ref (ad 0)), (1, .int x1), (2, .int x2)]) hx hb dR_choose_18 hl (by decide) rfl (fun ls hl => ?_)
    exact BR_choose_20 C hret  4096 _ _ _ _ _ _ _ _ _ _ h (lv_sub hl [4, 5, 6, 3, 2, 1, 0] rfl) hf
  · have hf := ck_t hq hf
    refine lv_iconst (v := 0) hx hb dR_choose_4 (by decide) ?_
    exact ck_ri hf hret h dR_choose_5
def fR_keep_b56 (k6 : Int32 → Int32 → Int32 → Int32 → Int32 → Int32 → ck_S → Option (Int32 × ck_S)) (y0 : Int32) (x1 : Int32) (x2 : Int32) (x3 : Int32) (x4 : Int32) (x5 : Int32) (x6 : Int32) (st : ck_S) : Option (Int32 × ck_S) := (if ((x1 >>> (x6 &&& 31)) &&& (1 : Int32)) = (1 : Int32) then (if y0 = 0 then (k6 x1 x2 x3 x4 x5 (x6 + 1) st) else (k6 x1 x2 x3 x4 (x5 ||| ((1 : Int32) <<< (x6 &&& 31))) (x6 + 1) st)) else (k6 x1 x2 x3 x4 x5 (x6 + 1) st))
set_option maxRecDepth 100000 in
set_option maxHeartbeats 4000000 in
theorem BR_keep_56 (C : ck_X cm_cl D cA bR_keep 8 R_R 0 p R s m args c) {r0 : Int32} {st0 : ck_S} (hret : ∀ (pc : Nat) (H : Heap) (locs : List Loc) (ls : Array Slot), decode bR_keep pc = .ok (.ireturn, 1) → ck_AT sh_R cm_cl D cA ad H0 st0 H locs → W p l e R s m args below meth c H locs 0 0 Q (F0 m pc ls [.int r0])) {k6 : Int32 → Int32 → Int32 → Int32 → Int32 → Int32 → ck_S → Option (Int32 × ck_S)} (hk6 : ∀ (x1 : Int32) (x2 : Int32) (x3 : Int32) (x4 : Int32) (x5 : Int32) (x6 : Int32) (st : ck_S) (H : Heap) (locs : List Loc) (ls : Array Slot), ck_AT sh_R cm_cl D cA ad H0 st H locs → lv_has ls 8 [(0, .ref (ad 0)), (1, .int x1), (2, .int x2), (3, .int x3), (4, .int x4), (5, .int x5), (6, .int x6)] → k6 x1 x2 x3 x4 x5 x6 st = some (r0, st0) → W p l e R s m args below meth c H locs 0 0 Q (F0 m 6 ls [])) (y0 : Int32) (x1 : Int32) (x2 : Int32) (x3 : Int32) (x4 : Int32) (x5 : Int32) (x6 : Int32) (st : ck_S) (H : Heap) (locs : List Loc) (ls : Array Slot) (h : ck_AT sh_R cm_cl D cA ad H0 st H locs) (hl : lv_has ls 8 [(0, .ref (ad 0)), (1, .int x1), (2, .int x2), (3, .int x3), (4, .int x4), (5, .int x5), (6, .int x6)]) (hf : fR_keep_b56 k6 y0 x1 x2 x3 x4 x5 x6 st = some (r0, st0)) : W p l e R s m args below meth c H locs 0 0 Q (F0 m 56 ls [.int y0]) := by
  have C1 := C
  obtain ⟨hx, hb, hml, hown, hts, hK, hlv, hlo⟩ := C1
  unfold fR_keep_b56 at hf
  refine lv_istore (lv' := [(7, .int y0), (0, .ref (ad 0)), (1, .int x1), (2, .int x2), (3, .int x3), (4, .int x4), (5, .int x5), (6, .int x6)]) hx hb dR_keep_56 hl (by decide) rfl (fun ls hl => ?_)
  refine lv_iload_n hx hb dR_keep_58 rfl (lv_at hl 2 rfl) ?_
  refine lv_iload hx hb dR_keep_59 (lv_at hl 7 rfl) ?_
  refine lv_ishr hx hb dR_keep_61 ?_
  refine lv_iconst (v := 1) hx hb dR_keep_62 (by decide) ?_
  refine lv_iand hx hb dR_keep_63 ?_
  refine lv_iconst (v := 1) hx hb dR_keep_64 (by decide) ?_
  refine lv_icmp_ne (tgt := 83) hx hb dR_keep_65 rfl (fun hq => ?_) (fun hq => ?_)
  · have hf := ck_f hq hf
    refine lv_iload hx hb dR_keep_83 (lv_at hl 6 rfl) ?_
    refine lv_istore (lv' := [(5, .int x5), (7, .int y0), (0, .ref (ad 0)), (1, .int x1), (2, .int x2), (3, .int x3), (4, .int x4), (6, .int x6)]) hx hb dR_keep_85 hl (by decide) rfl (fun ls hl => ?_)
    refine lv_iinc (k := 7) (v := (x6 + 1)) (lv' := [(6, .int (x6 + 1)), (5, .int x5), (7, .int y0), (0, .ref (ad 0)), (1, .int x1), (2, .int x2), (3, .int x3), (4, .int x4)]) hx hb dR_keep_87 hl rfl rfl (by decide) rfl (fun ls hl => ?_)
    refine lv_goto (tgt := 6) hx hb dR_keep_90 rfl ?_
    exact hk6 _ _ _ _ _ _ _ _ _ _ h (lv_sub hl [3, 4, 5, 6, 7, 1, 0] rfl) hf
  · have hf := ck_t hq hf
    refine lv_iload hx hb dR_keep_68 (lv_at hl 0 rfl) ?_
    refine lv_if_eq (tgt := 83) hx hb dR_keep_70 rfl (fun hq => ?_) (fun hq => ?_)
    · have hf := ck_t hq hf
      refine lv_iload hx hb dR_keep_83 (lv_at hl 6 rfl) ?_
      refine lv_istore (lv' := [(5, .int x5), (7, .int y0), (0, .ref (ad 0)), (1, .int x1), (2, .int x2), (3, .int x3), (4, .int x4), (6, .int x6)]) hx hb dR_keep_85 hl (by decide) rfl (fun ls hl => ?_)
      refine lv_iinc (k := 7) (v := (x6 + 1)) (lv' := [(6, .int (x6 + 1)), (5, .int x5), (7, .int y0), (0, .ref (ad 0)), (1, .int x1), (2, .int x2), (3, .int x3), (4, .int x4)]) hx hb dR_keep_87 hl rfl rfl (by decide) rfl (fun ls hl => ?_)
      refine lv_goto (tgt := 6) hx hb dR_keep_90 rfl ?_
      exact hk6 _ _ _ _ _ _ _ _ _ _ h (lv_sub hl [3, 4, 5, 6, 7, 1, 0] rfl) hf
    · have hf := ck_f hq hf
      refine lv_iload hx hb dR_keep_73 (lv_at hl 6 rfl) ?_
      refine lv_iconst (v := 1) hx hb dR_keep_75 (by decide) ?_
      refine lv_iload hx hb dR_keep_76 (lv_at hl 7 rfl) ?_
      refine lv_ishl hx hb dR_keep_78 ?_
      refine lv_ior hx hb dR_keep_79 ?_
      refine lv_goto (tgt := 85) hx hb dR_keep_80 rfl ?_
      refine lv_istore (lv' := [(5, .int (x5 ||| ((1 : Int32) <<< (x6 &&& 31)))), (7, .int y0), (0, .ref (ad 0)), (1, .int x1), (2, .int x2), (3, .int x3), (4, .int x4), (6, .int x6)]) hx hb dR_keep_85 hl (by decide) rfl (fun ls hl => ?_)
      refine lv_iinc (k := 7) (v := (x6 + 1)) (lv' := [(6, .int (x6 + 1)), (5, .int (x5 ||| ((1 : Int32) <<< (x6 &&& 31)))), (7, .int y0), (0, .ref (ad 0)), (1, .int x1), (2, .int x2), (3, .int x3), (4, .int x4)]) hx hb dR_keep_87 hl rfl rfl (by decide) rfl (fun ls hl => ?_)
      refine lv_goto (tgt := 6) hx hb dR_keep_90 rfl ?_
      exact hk6 _ _ _ _ _ _ _ _ _ _ h (lv_sub hl [3, 4, 5, 6, 7, 1, 0] rfl) hf
def fR_keep_l6 : Nat → Int32 → Int32 → Int32 → Int32 → Int32 → Int32 → ck_S → Option (Int32 × ck_S)
  | 0, _, _, _, _, _, _, _ => none
  | n + 1, x1, x2, x3, x4, x5, x6, st => (if (st 0 20) ≤ x6 then (some (x5, st)) else (ck_gd (((16 : Int32) * x6) + x2) 256 (if (st 17 ((((16 : Int32) * x6) + x2)).toNatClampNeg) = 0 then (fR_keep_b56 (fR_keep_l6 n) (1 : Int32) x1 x2 x3 x4 x5 x6 st) else (if x4 = 0 then (ck_gd (((16 : Int32) * x6) + x2) 256 (if (st 18 ((((16 : Int32) * x6) + x2)).toNatClampNeg) = x3 then (fR_keep_b56 (fR_keep_l6 n) (1 : Int32) x1 x2 x3 x4 x5 x6 st) else (fR_keep_b56 (fR_keep_l6 n) (0 : Int32) x1 x2 x3 x4 x5 x6 st))) else (fR_keep_b56 (fR_keep_l6 n) (0 : Int32) x1 x2 x3 x4 x5 x6 st)))))
set_option maxRecDepth 100000 in
set_option maxHeartbeats 4000000 in
theorem BR_keep_6 (C : ck_X cm_cl D cA bR_keep 8 R_R 0 p R s m args c) {r0 : Int32} {st0 : ck_S} (hret : ∀ (pc : Nat) (H : Heap) (locs : List Loc) (ls : Array Slot), decode bR_keep pc = .ok (.ireturn, 1) → ck_AT sh_R cm_cl D cA ad H0 st0 H locs → W p l e R s m args below meth c H locs 0 0 Q (F0 m pc ls [.int r0])) : ∀ (n : Nat) (x1 : Int32) (x2 : Int32) (x3 : Int32) (x4 : Int32) (x5 : Int32) (x6 : Int32) (st : ck_S) (H : Heap) (locs : List Loc) (ls : Array Slot), ck_AT sh_R cm_cl D cA ad H0 st H locs → lv_has ls 8 [(0, .ref (ad 0)), (1, .int x1), (2, .int x2), (3, .int x3), (4, .int x4), (5, .int x5), (6, .int x6)] → fR_keep_l6  n x1 x2 x3 x4 x5 x6 st = some (r0, st0) → W p l e R s m args below meth c H locs 0 0 Q (F0 m 6 ls []) := by
  have C1 := C
  obtain ⟨hx, hb, hml, hown, hts, hK, hlv, hlo⟩ := C1
  intro n
  induction n with
  | zero => intro _ _ _ _ _ _ _ _ _ _ _ _ hf; cases hf
  | succ n ih =>
    intro x1 x2 x3 x4 x5 x6 st H locs ls h hl hf
    rw [fR_keep_l6] at hf
    refine lv_iload hx hb dR_keep_6 (lv_at hl 6 rfl) ?_
    refine lv_aload_n hx hb dR_keep_8 rfl (lv_at hl 0 rfl) ?_
    refine ck_gi (x := (st 0 20)) C h FR_clauses rfl dR_keep_9 ?_
    refine lv_icmp_ge (tgt := 93) hx hb dR_keep_12 rfl (fun hq => ?_) (fun hq => ?_)
    · have hf := ck_t hq hf
      refine lv_iload hx hb dR_keep_93 (lv_at hl 5 rfl) ?_
      exact ck_ri hf hret h dR_keep_95
    · have hf := ck_f hq hf
      refine lv_aload_n hx hb dR_keep_15 rfl (lv_at hl 0 rfl) ?_
      refine ck_gr C h FR_asks dR_keep_16 ?_
      refine lv_bipush (v := 16) hx hb dR_keep_19 (by decide) ?_
      refine lv_iload hx hb dR_keep_21 (lv_at hl 6 rfl) ?_
      refine lv_imul hx hb dR_keep_23 ?_
      refine lv_iload_n hx hb dR_keep_24 rfl (lv_at hl 2 rfl) ?_
      refine lv_iadd hx hb dR_keep_25 ?_
      obtain ⟨hg, hf⟩ := ck_gd_e hf
      refine ck_ai (x := (st 17 ((((16 : Int32) * x6) + x2)).toNatClampNeg)) C h (show sh_R[17]? = some (.inr (0, 256)) from rfl) hg rfl dR_keep_26 ?_
      refine lv_if_eq (tgt := 51) hx hb dR_keep_27 rfl (fun hq => ?_) (fun hq => ?_)
      · have hf := ck_t hq hf
        refine lv_iconst (v := 1) hx hb dR_keep_51 (by decide) ?_
        refine lv_goto (tgt := 56) hx hb dR_keep_52 rfl ?_
        exact BR_keep_56 C hret ih _ _ _ _ _ _ _ _ _ _ _ h (lv_sub hl [0, 1, 2, 3, 4, 5, 6] rfl) hf
      · have hf := ck_f hq hf
        refine lv_iload hx hb dR_keep_30 (lv_at hl 4 rfl) ?_
        refine lv_if_ne (tgt := 55) hx hb dR_keep_32 rfl (fun hq => ?_) (fun hq => ?_)
        · have hf := ck_f hq hf
          refine lv_iconst (v := 0) hx hb dR_keep_55 (by decide) ?_
          exact BR_keep_56 C hret ih _ _ _ _ _ _ _ _ _ _ _ h (lv_sub hl [0, 1, 2, 3, 4, 5, 6] rfl) hf
        · have hf := ck_t hq hf
          refine lv_aload_n hx hb dR_keep_35 rfl (lv_at hl 0 rfl) ?_
          refine ck_gr C h FR_asked dR_keep_36 ?_
          refine lv_bipush (v := 16) hx hb dR_keep_39 (by decide) ?_
          refine lv_iload hx hb dR_keep_41 (lv_at hl 6 rfl) ?_
          refine lv_imul hx hb dR_keep_43 ?_
          refine lv_iload_n hx hb dR_keep_44 rfl (lv_at hl 2 rfl) ?_
          refine lv_iadd hx hb dR_keep_45 ?_
          obtain ⟨hg, hf⟩ := ck_gd_e hf
          refine ck_ai (x := (st 18 ((((16 : Int32) * x6) + x2)).toNatClampNeg)) C h (show sh_R[18]? = some (.inr (0, 256)) from rfl) hg rfl dR_keep_46 ?_
          refine lv_iload_n hx hb dR_keep_47 rfl (lv_at hl 3 rfl) ?_
          refine lv_icmp_ne (tgt := 55) hx hb dR_keep_48 rfl (fun hq => ?_) (fun hq => ?_)
          · have hf := ck_f hq hf
            refine lv_iconst (v := 0) hx hb dR_keep_55 (by decide) ?_
            exact BR_keep_56 C hret ih _ _ _ _ _ _ _ _ _ _ _ h (lv_sub hl [0, 1, 2, 3, 4, 5, 6] rfl) hf
          · have hf := ck_t hq hf
            refine lv_iconst (v := 1) hx hb dR_keep_51 (by decide) ?_
            refine lv_goto (tgt := 56) hx hb dR_keep_52 rfl ?_
            exact BR_keep_56 C hret ih _ _ _ _ _ _ _ _ _ _ _ h (lv_sub hl [0, 1, 2, 3, 4, 5, 6] rfl) hf
def fR_keep (x1 : Int32) (x2 : Int32) (x3 : Int32) (x4 : Int32) (st : ck_S) : Option (Int32 × ck_S) := (fR_keep_l6  4096 x1 x2 x3 x4 (0 : Int32) (0 : Int32) st)
set_option maxRecDepth 100000 in
set_option maxHeartbeats 4000000 in
theorem cR_keep (l : Launch) (D : va_G) (cA : Nat → ClassId) (ad : Nat → Nat) {x1 : Int32} {x2 : Int32} {x3 : Int32} {x4 : Int32} {st : ck_S} {r0 : Int32} {st0 : ck_S} (hf : fR_keep x1 x2 x3 x4 st = some (r0, st0)) : Met l yR_keep (.code yR_keep bR_keep 8 (some .int) :: ck_T) (ck_R 0) (va_Pc [.ref (ad 0), .int x1, .int x2, .int x3, .int x4] (ck_P sh_R cm_cl D cA ad st)) (va_Qi (fun a u => a = r0 ∧ u = st0) (ck_P sh_R cm_cl D cA ad) (ck_A ad sh_R.length)) 0 0 (ck_A ad sh_R.length) := by
  refine ck_met_i (own := R_R) (by decide +kernel) rfl (Nat.le_of_ble_eq_true rfl) (fun p e R s m args below meth c H0 Q ls C hret h hl => ?_)
  have C1 := C
  obtain ⟨hx, hb, hml, hown, hts, hK, hlv, hlo⟩ := C1
  have hl : lv_has ls 8 [(0, .ref (ad 0)), (1, .int x1), (2, .int x2), (3, .int x3), (4, .int x4)] := hl
  unfold fR_keep at hf
  refine lv_iconst (v := 0) hx hb dR_keep_0 (by decide) ?_
  refine lv_istore (lv' := [(5, .int (0 : Int32)), (0, .ref (ad 0)), (1, .int x1), (2, .int x2), (3, .int x3), (4, .int x4)]) hx hb dR_keep_1 hl (by decide) rfl (fun ls hl => ?_)
  refine lv_iconst (v := 0) hx hb dR_keep_3 (by decide) ?_
  refine lv_istore (lv' := [(6, .int (0 : Int32)), (5, .int (0 : Int32)), (0, .ref (ad 0)), (1, .int x1), (2, .int x2), (3, .int x3), (4, .int x4)]) hx hb dR_keep_4 hl (by decide) rfl (fun ls hl => ?_)
  exact BR_keep_6 C hret  4096 _ _ _ _ _ _ _ _ _ _ h (lv_sub hl [2, 3, 4, 5, 6, 1, 0] rfl) hf
def fR_branch (x1 : Int32) (x2 : Int32) (x3 : Int32) (x4 : Int32) (st : ck_S) : Option ck_S := (if (st 0 29) = (60 : Int32) then (some (ck_u st 0 30 (1 : Int32))) else (ck_gd x1 60 (ck_gd x1 60 (ck_b (fR_keep (st 22 (x1).toNatClampNeg) (st 24 (x1).toNatClampNeg) x2 x3 st) fun v2 st1 => (ck_gd (st 0 29) 60 (ck_gd (st1 0 29) 60 (ck_gd (st1 0 29) 60 (ck_gd (st1 0 29) 60 (ck_gd x1 60 (ck_gd x1 60 (some (ck_u (ck_u (ck_u (ck_u (ck_u (ck_u st1 22 ((st 0 29)).toNatClampNeg v2) 23 ((st1 0 29)).toNatClampNeg x4) 29 ((st1 0 29)).toNatClampNeg x2) 30 ((st1 0 29)).toNatClampNeg (vp_nar .boolean x3)) 0 29 ((st1 0 29) + (1 : Int32))) 28 (x1).toNatClampNeg ((st1 28 (x1).toNatClampNeg) + (1 : Int32))))))))))))))
set_option maxRecDepth 100000 in
set_option maxHeartbeats 4000000 in
theorem cR_branch (l : Launch) (D : va_G) (cA : Nat → ClassId) (ad : Nat → Nat) {x1 : Int32} {x2 : Int32} {x3 : Int32} {x4 : Int32} {st : ck_S} {st0 : ck_S} (hf : fR_branch x1 x2 x3 x4 st = some st0) : Met l yR_branch (.code yR_branch bR_branch 5 none :: ck_T) (ck_R 1) (va_Pc [.ref (ad 0), .int x1, .int x2, .int x3, .int x4] (ck_P sh_R cm_cl D cA ad st)) (va_Qv (fun u => u = st0) (ck_P sh_R cm_cl D cA ad) (ck_A ad sh_R.length)) 0 0 (ck_A ad sh_R.length) := by
  refine ck_met_v (own := R_R) (by decide +kernel) rfl (Nat.le_of_ble_eq_true rfl) (fun p e R s m args below meth c H0 Q ls C hret h hl => ?_)
  have C1 := C
  obtain ⟨hx, hb, hml, hown, hts, hK, hlv, hlo⟩ := C1
  have hl : lv_has ls 5 [(0, .ref (ad 0)), (1, .int x1), (2, .int x2), (3, .int x3), (4, .int x4)] := hl
  unfold fR_branch at hf
  refine lv_aload_n hx hb dR_branch_0 rfl (lv_at hl 0 rfl) ?_
  refine ck_gi (x := (st 0 29)) C h FR_nodes rfl dR_branch_1 ?_
  refine lv_bipush (v := 60) hx hb dR_branch_4 (by decide) ?_
  refine lv_icmp_ne (tgt := 15) hx hb dR_branch_6 rfl (fun hq => ?_) (fun hq => ?_)
  · have hf := ck_f hq hf
    refine lv_aload_n hx hb dR_branch_15 rfl (lv_at hl 0 rfl) ?_
    refine ck_gr C h FR_remain dR_branch_16 ?_
    refine lv_aload_n hx hb dR_branch_19 rfl (lv_at hl 0 rfl) ?_
    refine ck_gi (x := (st 0 29)) C h FR_nodes rfl dR_branch_20 ?_
    refine lv_aload_n hx hb dR_branch_23 rfl (lv_at hl 0 rfl) ?_
    refine lv_aload_n hx hb dR_branch_24 rfl (lv_at hl 0 rfl) ?_
    refine ck_gr C h FR_remain dR_branch_25 ?_
    refine lv_iload_n hx hb dR_branch_28 rfl (lv_at hl 1 rfl) ?_
    obtain ⟨hg, hf⟩ := ck_gd_e hf
    refine ck_ai (x := (st 22 (x1).toNatClampNeg)) C h (show sh_R[22]? = some (.inr (0, 60)) from rfl) hg rfl dR_branch_29 ?_
    refine lv_aload_n hx hb dR_branch_30 rfl (lv_at hl 0 rfl) ?_
    refine ck_gr C h FR_place dR_branch_31 ?_
    refine lv_iload_n hx hb dR_branch_34 rfl (lv_at hl 1 rfl) ?_
    obtain ⟨hg, hf⟩ := ck_gd_e hf
    refine ck_ai (x := (st 24 (x1).toNatClampNeg)) C h (show sh_R[24]? = some (.inr (0, 60)) from rfl) hg rfl dR_branch_35 ?_
    refine lv_iload_n hx hb dR_branch_36 rfl (lv_at hl 2 rfl) ?_
    refine lv_iload_n hx hb dR_branch_37 rfl (lv_at hl 3 rfl) ?_
    obtain ⟨v2, st1, hc, hf⟩ := ck_b_e hf
    refine ck_vi (As := [.int (st 22 (x1).toNatClampNeg), .int (st 24 (x1).toNatClampNeg), .int x2, .int x3]) (rest := [.int (st 0 29), .ref (ad 22)]) (q := 0) C h hl CR_R_keep sR_keep q_R (cR_keep l D cA ad hc) (Nat.le_of_ble_eq_true rfl) rfl rfl (Nat.le_of_ble_eq_true rfl) dR_branch_38 (fun H locs h => ?_)
    obtain ⟨hg, hf⟩ := ck_gd_e hf
    refine ck_si C h (show sh_R[22]? = some (.inr (0, 60)) from rfl) hg dR_branch_41 (fun H locs h => ?_)
    refine lv_aload_n hx hb dR_branch_42 rfl (lv_at hl 0 rfl) ?_
    refine ck_gr C h FR_open dR_branch_43 ?_
    refine lv_aload_n hx hb dR_branch_46 rfl (lv_at hl 0 rfl) ?_
    refine ck_gi (x := (st1 0 29)) C h FR_nodes rfl dR_branch_47 ?_
    refine lv_iload hx hb dR_branch_50 (lv_at hl 4 rfl) ?_
    obtain ⟨hg, hf⟩ := ck_gd_e hf
    refine ck_si C h (show sh_R[23]? = some (.inr (0, 60)) from rfl) hg dR_branch_52 (fun H locs h => ?_)
    refine lv_aload_n hx hb dR_branch_53 rfl (lv_at hl 0 rfl) ?_
    refine ck_gr C h FR_label dR_branch_54 ?_
    refine lv_aload_n hx hb dR_branch_57 rfl (lv_at hl 0 rfl) ?_
    refine ck_gi (x := (st1 0 29)) C h FR_nodes rfl dR_branch_58 ?_
    refine lv_iload_n hx hb dR_branch_61 rfl (lv_at hl 2 rfl) ?_
    obtain ⟨hg, hf⟩ := ck_gd_e hf
    refine ck_si C h (show sh_R[29]? = some (.inr (0, 60)) from rfl) hg dR_branch_62 (fun H locs h => ?_)
    refine lv_aload_n hx hb dR_branch_63 rfl (lv_at hl 0 rfl) ?_
    refine ck_gr C h FR_others dR_branch_64 ?_
    refine lv_aload_n hx hb dR_branch_67 rfl (lv_at hl 0 rfl) ?_
    refine ck_gi (x := (st1 0 29)) C h FR_nodes rfl dR_branch_68 ?_
    refine lv_iload_n hx hb dR_branch_71 rfl (lv_at hl 3 rfl) ?_
    obtain ⟨hg, hf⟩ := ck_gd_e hf
    refine ck_sz C h (show sh_R[30]? = some (.inr (1, 60)) from rfl) hg dR_branch_72 (fun H locs h => ?_)
    refine lv_aload_n hx hb dR_branch_73 rfl (lv_at hl 0 rfl) ?_
    refine lv_dup hx hb dR_branch_74 rfl ?_
    refine ck_gi (x := (st1 0 29)) C h FR_nodes rfl dR_branch_75 ?_
    refine lv_iconst (v := 1) hx hb dR_branch_78 (by decide) ?_
    refine lv_iadd hx hb dR_branch_79 ?_
    refine ck_pi C h GR_nodes rfl rfl dR_branch_80 (fun H locs h => ?_)
    refine lv_aload_n hx hb dR_branch_83 rfl (lv_at hl 0 rfl) ?_
    refine ck_gr C h FR_many dR_branch_84 ?_
    refine lv_iload_n hx hb dR_branch_87 rfl (lv_at hl 1 rfl) ?_
    refine lv_dup2_11 hx hb dR_branch_88 rfl rfl ?_
    obtain ⟨hg, hf⟩ := ck_gd_e hf
    refine ck_ai (x := (st1 28 (x1).toNatClampNeg)) C h (show sh_R[28]? = some (.inr (0, 60)) from rfl) hg rfl dR_branch_89 ?_
    refine lv_iconst (v := 1) hx hb dR_branch_90 (by decide) ?_
    refine lv_iadd hx hb dR_branch_91 ?_
    obtain ⟨hg, hf⟩ := ck_gd_e hf
    refine ck_si C h (show sh_R[28]? = some (.inr (0, 60)) from rfl) hg dR_branch_92 (fun H locs h => ?_)
    exact ck_rv hf hret h dR_branch_93
  · have hf := ck_t hq hf
    refine lv_aload_n hx hb dR_branch_9 rfl (lv_at hl 0 rfl) ?_
    refine lv_iconst (v := 1) hx hb dR_branch_10 (by decide) ?_
    refine ck_pi C h GR_tooBig (ck_nz ck_z1) rfl dR_branch_11 (fun H locs h => ?_)
    exact ck_rv hf hret h dR_branch_14
def fR_growNumbers_b68 (k23 : Int32 → Int32 → Int32 → Int64 → Int32 → Int64 → Int32 → ck_S → Option ck_S) (k134 : Int32 → Int32 → Int32 → Int64 → Int32 → Int64 → ck_S → Option ck_S) (y0 : Int32) (x1 : Int32) (x2 : Int32) (x3 : Int32) (x4 : Int64) (x6 : Int32) (x7 : Int64) (x9 : Int32) (st : ck_S) : Option ck_S := (if y0 = 0 then (k23 x1 x2 x3 x4 x6 x7 (x9 + 1) st) else (ck_gd (((16 : Int32) * x9) + x2) 256 (if (lg_cmp (((st 18 ((((16 : Int32) * x9) + x2)).toNatClampNeg)).toInt64) x4) ≤ 0 then (k23 x1 x2 x3 x4 x6 x7 (x9 + 1) st) else (ck_gd (((16 : Int32) * x9) + x2) 256 (if 0 ≤ (lg_cmp (((st 18 ((((16 : Int32) * x9) + x2)).toNatClampNeg)).toInt64) x7) then (k23 x1 x2 x3 x4 x6 x7 (x9 + 1) st) else (ck_gd (((16 : Int32) * x9) + x2) 256 (k23 x1 x2 x3 x4 x6 (((st 18 ((((16 : Int32) * x9) + x2)).toNatClampNeg)).toInt64) (x9 + 1) st)))))))
set_option maxRecDepth 100000 in
set_option maxHeartbeats 4000000 in
theorem BR_growNumbers_68 (C : ck_X cm_cl D cA bR_growNumbers 11 R_R 2 p R s m args c) {st0 : ck_S} (hret : ∀ (pc : Nat) (H : Heap) (locs : List Loc) (ls : Array Slot), decode bR_growNumbers pc = .ok (.return_, 1) → ck_AT sh_R cm_cl D cA ad H0 st0 H locs → W p l e R s m args below meth c H locs 0 0 Q (F0 m pc ls [])) {k23 : Int32 → Int32 → Int32 → Int64 → Int32 → Int64 → Int32 → ck_S → Option ck_S} (hk23 : ∀ (x1 : Int32) (x2 : Int32) (x3 : Int32) (x4 : Int64) (x6 : Int32) (x7 : Int64) (x9 : Int32) (st : ck_S) (H : Heap) (locs : List Loc) (ls : Array Slot), ck_AT sh_R cm_cl D cA ad H0 st H locs → lv_has ls 11 [(0, .ref (ad 0)), (1, .int x1), (2, .int x2), (3, .int x3), (4, .long x4), (6, .int x6), (7, .long x7), (9, .int x9)] → k23 x1 x2 x3 x4 x6 x7 x9 st = some st0 → W p l e R s m args below meth c H locs 0 0 Q (F0 m 23 ls [])) {k134 : Int32 → Int32 → Int32 → Int64 → Int32 → Int64 → ck_S → Option ck_S} (hk134 : ∀ (x1 : Int32) (x2 : Int32) (x3 : Int32) (x4 : Int64) (x6 : Int32) (x7 : Int64) (st : ck_S) (H : Heap) (locs : List Loc) (ls : Array Slot), ck_AT sh_R cm_cl D cA ad H0 st H locs → lv_has ls 11 [(0, .ref (ad 0)), (1, .int x1), (2, .int x2), (3, .int x3), (4, .long x4), (6, .int x6), (7, .long x7)] → k134 x1 x2 x3 x4 x6 x7 st = some st0 → W p l e R s m args below meth c H locs 0 0 Q (F0 m 134 ls [])) (y0 : Int32) (x1 : Int32) (x2 : Int32) (x3 : Int32) (x4 : Int64) (x6 : Int32) (x7 : Int64) (x9 : Int32) (st : ck_S) (H : Heap) (locs : List Loc) (ls : Array Slot) (h : ck_AT sh_R cm_cl D cA ad H0 st H locs) (hl : lv_has ls 11 [(0, .ref (ad 0)), (1, .int x1), (2, .int x2), (3, .int x3), (4, .long x4), (6, .int x6), (7, .long x7), (9, .int x9)]) (hf : fR_growNumbers_b68 k23 k134 y0 x1 x2 x3 x4 x6 x7 x9 st = some st0) : W p l e R s m args below meth c H locs 0 0 Q (F0 m 68 ls [.int y0]) := by
  have C1 := C
  obtain ⟨hx, hb, hml, hown, hts, hK, hlv, hlo⟩ := C1
  unfold fR_growNumbers_b68 at hf
  refine lv_istore (lv' := [(10, .int y0), (0, .ref (ad 0)), (1, .int x1), (2, .int x2), (3, .int x3), (4, .long x4), (6, .int x6), (7, .long x7), (9, .int x9)]) hx hb dR_growNumbers_68 hl (by decide) rfl (fun ls hl => ?_)
  refine lv_iload hx hb dR_growNumbers_70 (lv_at hl 0 rfl) ?_
  refine lv_if_eq (tgt := 128) hx hb dR_growNumbers_72 rfl (fun hq => ?_) (fun hq => ?_)
  · have hf := ck_t hq hf
    refine lv_iinc (k := 8) (v := (x9 + 1)) (lv' := [(9, .int (x9 + 1)), (10, .int y0), (0, .ref (ad 0)), (1, .int x1), (2, .int x2), (3, .int x3), (4, .long x4), (6, .int x6), (7, .long x7)]) hx hb dR_growNumbers_128 hl rfl rfl (by decide) rfl (fun ls hl => ?_)
    refine lv_goto (tgt := 23) hx hb dR_growNumbers_131 rfl ?_
    exact hk23 _ _ _ _ _ _ _ _ _ _ _ h (lv_sub hl [2, 3, 4, 5, 6, 7, 8, 0] rfl) hf
  · have hf := ck_f hq hf
    refine lv_aload_n hx hb dR_growNumbers_75 rfl (lv_at hl 1 rfl) ?_
    refine ck_gr C h FR_asked dR_growNumbers_76 ?_
    refine lv_bipush (v := 16) hx hb dR_growNumbers_79 (by decide) ?_
    refine lv_iload hx hb dR_growNumbers_81 (lv_at hl 8 rfl) ?_
    refine lv_imul hx hb dR_growNumbers_83 ?_
    refine lv_iload_n hx hb dR_growNumbers_84 rfl (lv_at hl 3 rfl) ?_
    refine lv_iadd hx hb dR_growNumbers_85 ?_
    obtain ⟨hg, hf⟩ := ck_gd_e hf
    refine ck_ai (x := (st 18 ((((16 : Int32) * x9) + x2)).toNatClampNeg)) C h (show sh_R[18]? = some (.inr (0, 256)) from rfl) hg rfl dR_growNumbers_86 ?_
    refine lv_i2l hx hb dR_growNumbers_87 rfl ?_
    refine lv_lload hx hb dR_growNumbers_88 (lv_at hl 5 rfl) ?_
    refine W.lcmp hx hb dR_growNumbers_90 ?_
    refine lv_if_le (tgt := 128) hx hb dR_growNumbers_91 rfl (fun hq => ?_) (fun hq => ?_)
    · have hf := ck_t hq hf
      refine lv_iinc (k := 8) (v := (x9 + 1)) (lv' := [(9, .int (x9 + 1)), (10, .int y0), (0, .ref (ad 0)), (1, .int x1), (2, .int x2), (3, .int x3), (4, .long x4), (6, .int x6), (7, .long x7)]) hx hb dR_growNumbers_128 hl rfl rfl (by decide) rfl (fun ls hl => ?_)
      refine lv_goto (tgt := 23) hx hb dR_growNumbers_131 rfl ?_
      exact hk23 _ _ _ _ _ _ _ _ _ _ _ h (lv_sub hl [2, 3, 4, 5, 6, 7, 8, 0] rfl) hf
    · have hf := ck_f hq hf
      refine lv_aload_n hx hb dR_growNumbers_94 rfl (lv_at hl 1 rfl) ?_
      refine ck_gr C h FR_asked dR_growNumbers_95 ?_
      refine lv_bipush (v := 16) hx hb dR_growNumbers_98 (by decide) ?_
      refine lv_iload hx hb dR_growNumbers_100 (lv_at hl 8 rfl) ?_
      refine lv_imul hx hb dR_growNumbers_102 ?_
      refine lv_iload_n hx hb dR_growNumbers_103 rfl (lv_at hl 3 rfl) ?_
      refine lv_iadd hx hb dR_growNumbers_104 ?_
      obtain ⟨hg, hf⟩ := ck_gd_e hf
      refine ck_ai (x := (st 18 ((((16 : Int32) * x9) + x2)).toNatClampNeg)) C h (show sh_R[18]? = some (.inr (0, 256)) from rfl) hg rfl dR_growNumbers_105 ?_
      refine lv_i2l hx hb dR_growNumbers_106 rfl ?_
      refine lv_lload hx hb dR_growNumbers_107 (lv_at hl 7 rfl) ?_
      refine W.lcmp hx hb dR_growNumbers_109 ?_
      refine lv_if_ge (tgt := 128) hx hb dR_growNumbers_110 rfl (fun hq => ?_) (fun hq => ?_)
      · have hf := ck_t hq hf
        refine lv_iinc (k := 8) (v := (x9 + 1)) (lv' := [(9, .int (x9 + 1)), (10, .int y0), (0, .ref (ad 0)), (1, .int x1), (2, .int x2), (3, .int x3), (4, .long x4), (6, .int x6), (7, .long x7)]) hx hb dR_growNumbers_128 hl rfl rfl (by decide) rfl (fun ls hl => ?_)
        refine lv_goto (tgt := 23) hx hb dR_growNumbers_131 rfl ?_
        exact hk23 _ _ _ _ _ _ _ _ _ _ _ h (lv_sub hl [2, 3, 4, 5, 6, 7, 8, 0] rfl) hf
      · have hf := ck_f hq hf
        refine lv_aload_n hx hb dR_growNumbers_113 rfl (lv_at hl 1 rfl) ?_
        refine ck_gr C h FR_asked dR_growNumbers_114 ?_
        refine lv_bipush (v := 16) hx hb dR_growNumbers_117 (by decide) ?_
        refine lv_iload hx hb dR_growNumbers_119 (lv_at hl 8 rfl) ?_
        refine lv_imul hx hb dR_growNumbers_121 ?_
        refine lv_iload_n hx hb dR_growNumbers_122 rfl (lv_at hl 3 rfl) ?_
        refine lv_iadd hx hb dR_growNumbers_123 ?_
        obtain ⟨hg, hf⟩ := ck_gd_e hf
        refine ck_ai (x := (st 18 ((((16 : Int32) * x9) + x2)).toNatClampNeg)) C h (show sh_R[18]? = some (.inr (0, 256)) from rfl) hg rfl dR_growNumbers_124 ?_
        refine lv_i2l hx hb dR_growNumbers_125 rfl ?_
        refine lv_lstore (lv' := [(7, .long (((st 18 ((((16 : Int32) * x9) + x2)).toNatClampNeg)).toInt64)), (10, .int y0), (0, .ref (ad 0)), (1, .int x1), (2, .int x2), (3, .int x3), (4, .long x4), (6, .int x6), (9, .int x9)]) hx hb dR_growNumbers_126 hl (by decide) rfl (fun ls hl => ?_)
        refine lv_iinc (k := 8) (v := (x9 + 1)) (lv' := [(9, .int (x9 + 1)), (7, .long (((st 18 ((((16 : Int32) * x9) + x2)).toNatClampNeg)).toInt64)), (10, .int y0), (0, .ref (ad 0)), (1, .int x1), (2, .int x2), (3, .int x3), (4, .long x4), (6, .int x6)]) hx hb dR_growNumbers_128 hl rfl rfl (by decide) rfl (fun ls hl => ?_)
        refine lv_goto (tgt := 23) hx hb dR_growNumbers_131 rfl ?_
        exact hk23 _ _ _ _ _ _ _ _ _ _ _ h (lv_sub hl [3, 4, 5, 6, 7, 8, 1, 0] rfl) hf
def fR_growNumbers_l23 (k134 : Int32 → Int32 → Int32 → Int64 → Int32 → Int64 → ck_S → Option ck_S) : Nat → Int32 → Int32 → Int32 → Int64 → Int32 → Int64 → Int32 → ck_S → Option ck_S
  | 0, _, _, _, _, _, _, _, _ => none
  | n + 1, x1, x2, x3, x4, x6, x7, x9, st => (if (st 0 20) ≤ x9 then (k134 x1 x2 x3 x4 x6 x7 st) else (ck_gd x1 60 (if (((st 22 (x1).toNatClampNeg) >>> (x9 &&& 31)) &&& (1 : Int32)) = (1 : Int32) then (ck_gd (((16 : Int32) * x9) + x2) 256 (if (st 17 ((((16 : Int32) * x9) + x2)).toNatClampNeg) = (1 : Int32) then (fR_growNumbers_b68 (fR_growNumbers_l23 k134 n) k134 (1 : Int32) x1 x2 x3 x4 x6 x7 x9 st) else (fR_growNumbers_b68 (fR_growNumbers_l23 k134 n) k134 (0 : Int32) x1 x2 x3 x4 x6 x7 x9 st))) else (fR_growNumbers_b68 (fR_growNumbers_l23 k134 n) k134 (0 : Int32) x1 x2 x3 x4 x6 x7 x9 st))))
set_option maxRecDepth 100000 in
set_option maxHeartbeats 4000000 in
theorem BR_growNumbers_23 (C : ck_X cm_cl D cA bR_growNumbers 11 R_R 2 p R s m args c) {st0 : ck_S} (hret : ∀ (pc : Nat) (H : Heap) (locs : List Loc) (ls : Array Slot), decode bR_growNumbers pc = .ok (.return_, 1) → ck_AT sh_R cm_cl D cA ad H0 st0 H locs → W p l e R s m args below meth c H locs 0 0 Q (F0 m pc ls [])) {k134 : Int32 → Int32 → Int32 → Int64 → Int32 → Int64 → ck_S → Option ck_S} (hk134 : ∀ (x1 : Int32) (x2 : Int32) (x3 : Int32) (x4 : Int64) (x6 : Int32) (x7 : Int64) (st : ck_S) (H : Heap) (locs : List Loc) (ls : Array Slot), ck_AT sh_R cm_cl D cA ad H0 st H locs → lv_has ls 11 [(0, .ref (ad 0)), (1, .int x1), (2, .int x2), (3, .int x3), (4, .long x4), (6, .int x6), (7, .long x7)] → k134 x1 x2 x3 x4 x6 x7 st = some st0 → W p l e R s m args below meth c H locs 0 0 Q (F0 m 134 ls [])) : ∀ (n : Nat) (x1 : Int32) (x2 : Int32) (x3 : Int32) (x4 : Int64) (x6 : Int32) (x7 : Int64) (x9 : Int32) (st : ck_S) (H : Heap) (locs : List Loc) (ls : Array Slot), ck_AT sh_R cm_cl D cA ad H0 st H locs → lv_has ls 11 [(0, .ref (ad 0)), (1, .int x1), (2, .int x2), (3, .int x3), (4, .long x4), (6, .int x6), (7, .long x7), (9, .int x9)] → fR_growNumbers_l23 k134 n x1 x2 x3 x4 x6 x7 x9 st = some st0 → W p l e R s m args below meth c H locs 0 0 Q (F0 m 23 ls []) := by
  have C1 := C
  obtain ⟨hx, hb, hml, hown, hts, hK, hlv, hlo⟩ := C1
  intro n
  induction n with
  | zero => intro _ _ _ _ _ _ _ _ _ _ _ _ _ hf; cases hf
  | succ n ih =>
    intro x1 x2 x3 x4 x6 x7 x9 st H locs ls h hl hf
    rw [fR_growNumbers_l23] at hf
    refine lv_iload hx hb dR_growNumbers_23 (lv_at hl 7 rfl) ?_
    refine lv_aload_n hx hb dR_growNumbers_25 rfl (lv_at hl 0 rfl) ?_
    refine ck_gi (x := (st 0 20)) C h FR_clauses rfl dR_growNumbers_26 ?_
    refine lv_icmp_ge (tgt := 134) hx hb dR_growNumbers_29 rfl (fun hq => ?_) (fun hq => ?_)
    · have hf := ck_t hq hf
      exact hk134 _ _ _ _ _ _ _ _ _ _ h (lv_sub hl [0, 1, 2, 3, 4, 5, 6] rfl) hf
    · have hf := ck_f hq hf
      refine lv_aload_n hx hb dR_growNumbers_32 rfl (lv_at hl 0 rfl) ?_
      refine ck_gr C h FR_remain dR_growNumbers_33 ?_
      refine lv_iload_n hx hb dR_growNumbers_36 rfl (lv_at hl 1 rfl) ?_
      obtain ⟨hg, hf⟩ := ck_gd_e hf
      refine ck_ai (x := (st 22 (x1).toNatClampNeg)) C h (show sh_R[22]? = some (.inr (0, 60)) from rfl) hg rfl dR_growNumbers_37 ?_
      refine lv_iload hx hb dR_growNumbers_38 (lv_at hl 7 rfl) ?_
      refine lv_ishr hx hb dR_growNumbers_40 ?_
      refine lv_iconst (v := 1) hx hb dR_growNumbers_41 (by decide) ?_
      refine lv_iand hx hb dR_growNumbers_42 ?_
      refine lv_iconst (v := 1) hx hb dR_growNumbers_43 (by decide) ?_
      refine lv_icmp_ne (tgt := 67) hx hb dR_growNumbers_44 rfl (fun hq => ?_) (fun hq => ?_)
      · have hf := ck_f hq hf
        refine lv_iconst (v := 0) hx hb dR_growNumbers_67 (by decide) ?_
        exact BR_growNumbers_68 C hret ih hk134 _ _ _ _ _ _ _ _ _ _ _ _ h (lv_sub hl [0, 1, 2, 3, 4, 5, 6, 7] rfl) hf
      · have hf := ck_t hq hf
        refine lv_aload_n hx hb dR_growNumbers_47 rfl (lv_at hl 0 rfl) ?_
        refine ck_gr C h FR_asks dR_growNumbers_48 ?_
        refine lv_bipush (v := 16) hx hb dR_growNumbers_51 (by decide) ?_
        refine lv_iload hx hb dR_growNumbers_53 (lv_at hl 7 rfl) ?_
        refine lv_imul hx hb dR_growNumbers_55 ?_
        refine lv_iload_n hx hb dR_growNumbers_56 rfl (lv_at hl 2 rfl) ?_
        refine lv_iadd hx hb dR_growNumbers_57 ?_
        obtain ⟨hg, hf⟩ := ck_gd_e hf
        refine ck_ai (x := (st 17 ((((16 : Int32) * x9) + x2)).toNatClampNeg)) C h (show sh_R[17]? = some (.inr (0, 256)) from rfl) hg rfl dR_growNumbers_58 ?_
        refine lv_iconst (v := 1) hx hb dR_growNumbers_59 (by decide) ?_
        refine lv_icmp_ne (tgt := 67) hx hb dR_growNumbers_60 rfl (fun hq => ?_) (fun hq => ?_)
        · have hf := ck_f hq hf
          refine lv_iconst (v := 0) hx hb dR_growNumbers_67 (by decide) ?_
          exact BR_growNumbers_68 C hret ih hk134 _ _ _ _ _ _ _ _ _ _ _ _ h (lv_sub hl [0, 1, 2, 3, 4, 5, 6, 7] rfl) hf
        · have hf := ck_t hq hf
          refine lv_iconst (v := 1) hx hb dR_growNumbers_63 (by decide) ?_
          refine lv_goto (tgt := 68) hx hb dR_growNumbers_64 rfl ?_
          exact BR_growNumbers_68 C hret ih hk134 _ _ _ _ _ _ _ _ _ _ _ _ h (lv_sub hl [0, 1, 2, 3, 4, 5, 6, 7] rfl) hf
def fR_growNumbers_b134 (k8 : Int32 → Int32 → Int32 → Int64 → Int32 → ck_S → Option ck_S) (k163 : Int32 → Int32 → ck_S → Option ck_S) (x1 : Int32) (x2 : Int32) (x3 : Int32) (x4 : Int64) (x6 : Int32) (x7 : Int64) (st : ck_S) : Option ck_S := (if 0 ≤ (lg_cmp x7 (2147483648 : Int64)) then (k8 x1 x2 x3 x4 (x6 + 1) st) else (ck_bv (fR_branch x1 ((x7).toInt32) (0 : Int32) x3 st) fun st1 => (k8 x1 x2 x3 x7 (x6 + 1) st1)))
set_option maxRecDepth 100000 in
set_option maxHeartbeats 4000000 in
theorem BR_growNumbers_134 (C : ck_X cm_cl D cA bR_growNumbers 11 R_R 2 p R s m args c) {st0 : ck_S} (hret : ∀ (pc : Nat) (H : Heap) (locs : List Loc) (ls : Array Slot), decode bR_growNumbers pc = .ok (.return_, 1) → ck_AT sh_R cm_cl D cA ad H0 st0 H locs → W p l e R s m args below meth c H locs 0 0 Q (F0 m pc ls [])) {k8 : Int32 → Int32 → Int32 → Int64 → Int32 → ck_S → Option ck_S} (hk8 : ∀ (x1 : Int32) (x2 : Int32) (x3 : Int32) (x4 : Int64) (x6 : Int32) (st : ck_S) (H : Heap) (locs : List Loc) (ls : Array Slot), ck_AT sh_R cm_cl D cA ad H0 st H locs → lv_has ls 11 [(0, .ref (ad 0)), (1, .int x1), (2, .int x2), (3, .int x3), (4, .long x4), (6, .int x6)] → k8 x1 x2 x3 x4 x6 st = some st0 → W p l e R s m args below meth c H locs 0 0 Q (F0 m 8 ls [])) {k163 : Int32 → Int32 → ck_S → Option ck_S} (hk163 : ∀ (x1 : Int32) (x3 : Int32) (st : ck_S) (H : Heap) (locs : List Loc) (ls : Array Slot), ck_AT sh_R cm_cl D cA ad H0 st H locs → lv_has ls 11 [(0, .ref (ad 0)), (1, .int x1), (3, .int x3)] → k163 x1 x3 st = some st0 → W p l e R s m args below meth c H locs 0 0 Q (F0 m 163 ls [])) (x1 : Int32) (x2 : Int32) (x3 : Int32) (x4 : Int64) (x6 : Int32) (x7 : Int64) (st : ck_S) (H : Heap) (locs : List Loc) (ls : Array Slot) (h : ck_AT sh_R cm_cl D cA ad H0 st H locs) (hl : lv_has ls 11 [(0, .ref (ad 0)), (1, .int x1), (2, .int x2), (3, .int x3), (4, .long x4), (6, .int x6), (7, .long x7)]) (hf : fR_growNumbers_b134 k8 k163 x1 x2 x3 x4 x6 x7 st = some st0) : W p l e R s m args below meth c H locs 0 0 Q (F0 m 134 ls []) := by
  have C1 := C
  obtain ⟨hx, hb, hml, hown, hts, hK, hlv, hlo⟩ := C1
  unfold fR_growNumbers_b134 at hf
  refine lv_lload hx hb dR_growNumbers_134 (lv_at hl 6 rfl) ?_
  refine lv_ldc2 (v := 2147483648) hx hb hown (hts _ (ck_T_mk (List.mem_of_getElem? (i := 1009) (by decide +kernel)) (by decide +kernel))) dR_growNumbers_136 ?_
  refine W.lcmp hx hb dR_growNumbers_139 ?_
  refine lv_if_ge (tgt := 157) hx hb dR_growNumbers_140 rfl (fun hq => ?_) (fun hq => ?_)
  · have hf := ck_t hq hf
    refine lv_iinc (k := 5) (v := (x6 + 1)) (lv' := [(6, .int (x6 + 1)), (0, .ref (ad 0)), (1, .int x1), (2, .int x2), (3, .int x3), (4, .long x4), (7, .long x7)]) hx hb dR_growNumbers_157 hl rfl rfl (by decide) rfl (fun ls hl => ?_)
    refine lv_goto (tgt := 8) hx hb dR_growNumbers_160 rfl ?_
    exact hk8 _ _ _ _ _ _ _ _ _ h (lv_sub hl [1, 2, 3, 4, 5, 0] rfl) hf
  · have hf := ck_f hq hf
    refine lv_aload_n hx hb dR_growNumbers_143 rfl (lv_at hl 0 rfl) ?_
    refine lv_iload_n hx hb dR_growNumbers_144 rfl (lv_at hl 1 rfl) ?_
    refine lv_lload hx hb dR_growNumbers_145 (lv_at hl 6 rfl) ?_
    refine lv_l2i hx hb dR_growNumbers_147 rfl ?_
    refine lv_iconst (v := 0) hx hb dR_growNumbers_148 (by decide) ?_
    refine lv_iload_n hx hb dR_growNumbers_149 rfl (lv_at hl 3 rfl) ?_
    obtain ⟨st1, hc, hf⟩ := ck_bv_e hf
    refine ck_vv (As := [.int x1, .int ((x7).toInt32), .int (0 : Int32), .int x3]) (rest := []) (q := 0) C h hl CR_R_branch sR_branch q_R (cR_branch l D cA ad hc) (Nat.le_of_ble_eq_true rfl) rfl rfl (Nat.le_of_ble_eq_true rfl) dR_growNumbers_150 (fun H locs h => ?_)
    refine lv_lload hx hb dR_growNumbers_153 (lv_at hl 6 rfl) ?_
    refine lv_lstore (lv' := [(4, .long x7), (0, .ref (ad 0)), (1, .int x1), (2, .int x2), (3, .int x3), (6, .int x6), (7, .long x7)]) hx hb dR_growNumbers_155 hl (by decide) rfl (fun ls hl => ?_)
    refine lv_iinc (k := 5) (v := (x6 + 1)) (lv' := [(6, .int (x6 + 1)), (4, .long x7), (0, .ref (ad 0)), (1, .int x1), (2, .int x2), (3, .int x3), (7, .long x7)]) hx hb dR_growNumbers_157 hl rfl rfl (by decide) rfl (fun ls hl => ?_)
    refine lv_goto (tgt := 8) hx hb dR_growNumbers_160 rfl ?_
    exact hk8 _ _ _ _ _ _ _ _ _ h (lv_sub hl [2, 3, 4, 5, 1, 0] rfl) hf
def fR_growNumbers_l8 (k163 : Int32 → Int32 → ck_S → Option ck_S) : Nat → Int32 → Int32 → Int32 → Int64 → Int32 → ck_S → Option ck_S
  | 0, _, _, _, _, _, _ => none
  | n + 1, x1, x2, x3, x4, x6, st => (if (16 : Int32) ≤ x6 then (k163 x1 x3 st) else (fR_growNumbers_l23 (fun x1 x2 x3 x4 x6 x7 st => (fR_growNumbers_b134 (fR_growNumbers_l8 k163 n) k163 x1 x2 x3 x4 x6 x7 st)) 4096 x1 x2 x3 x4 x6 (2147483648 : Int64) (0 : Int32) st))
set_option maxRecDepth 100000 in
set_option maxHeartbeats 4000000 in
theorem BR_growNumbers_8 (C : ck_X cm_cl D cA bR_growNumbers 11 R_R 2 p R s m args c) {st0 : ck_S} (hret : ∀ (pc : Nat) (H : Heap) (locs : List Loc) (ls : Array Slot), decode bR_growNumbers pc = .ok (.return_, 1) → ck_AT sh_R cm_cl D cA ad H0 st0 H locs → W p l e R s m args below meth c H locs 0 0 Q (F0 m pc ls [])) {k163 : Int32 → Int32 → ck_S → Option ck_S} (hk163 : ∀ (x1 : Int32) (x3 : Int32) (st : ck_S) (H : Heap) (locs : List Loc) (ls : Array Slot), ck_AT sh_R cm_cl D cA ad H0 st H locs → lv_has ls 11 [(0, .ref (ad 0)), (1, .int x1), (3, .int x3)] → k163 x1 x3 st = some st0 → W p l e R s m args below meth c H locs 0 0 Q (F0 m 163 ls [])) : ∀ (n : Nat) (x1 : Int32) (x2 : Int32) (x3 : Int32) (x4 : Int64) (x6 : Int32) (st : ck_S) (H : Heap) (locs : List Loc) (ls : Array Slot), ck_AT sh_R cm_cl D cA ad H0 st H locs → lv_has ls 11 [(0, .ref (ad 0)), (1, .int x1), (2, .int x2), (3, .int x3), (4, .long x4), (6, .int x6)] → fR_growNumbers_l8 k163 n x1 x2 x3 x4 x6 st = some st0 → W p l e R s m args below meth c H locs 0 0 Q (F0 m 8 ls []) := by
  have C1 := C
  obtain ⟨hx, hb, hml, hown, hts, hK, hlv, hlo⟩ := C1
  intro n
  induction n with
  | zero => intro _ _ _ _ _ _ _ _ _ _ _ hf; cases hf
  | succ n ih =>
    intro x1 x2 x3 x4 x6 st H locs ls h hl hf
    rw [fR_growNumbers_l8] at hf
    refine lv_iload hx hb dR_growNumbers_8 (lv_at hl 5 rfl) ?_
    refine lv_bipush (v := 16) hx hb dR_growNumbers_10 (by decide) ?_
    refine lv_icmp_ge (tgt := 163) hx hb dR_growNumbers_12 rfl (fun hq => ?_) (fun hq => ?_)
    · have hf := ck_t hq hf
      exact hk163 _ _ _ _ _ _ h (lv_sub hl [0, 1, 3] rfl) hf
    · have hf := ck_f hq hf
      refine lv_ldc2 (v := 2147483648) hx hb hown (hts _ (ck_T_mk (List.mem_of_getElem? (i := 1009) (by decide +kernel)) (by decide +kernel))) dR_growNumbers_15 ?_
      refine lv_lstore (lv' := [(7, .long (2147483648 : Int64)), (0, .ref (ad 0)), (1, .int x1), (2, .int x2), (3, .int x3), (4, .long x4), (6, .int x6)]) hx hb dR_growNumbers_18 hl (by decide) rfl (fun ls hl => ?_)
      refine lv_iconst (v := 0) hx hb dR_growNumbers_20 (by decide) ?_
      refine lv_istore (lv' := [(9, .int (0 : Int32)), (7, .long (2147483648 : Int64)), (0, .ref (ad 0)), (1, .int x1), (2, .int x2), (3, .int x3), (4, .long x4), (6, .int x6)]) hx hb dR_growNumbers_21 hl (by decide) rfl (fun ls hl => ?_)
      exact BR_growNumbers_23 C hret (fun x1 x2 x3 x4 x6 x7 st H locs ls h hl hf => by
          exact BR_growNumbers_134 C hret ih hk163 _ _ _ _ _ _ _ _ _ _ h (lv_sub hl [0, 1, 2, 3, 4, 5, 6] rfl) hf) 4096 _ _ _ _ _ _ _ _ _ _ _ h (lv_sub hl [2, 3, 4, 5, 6, 7, 1, 0] rfl) hf
def fR_growNumbers_b163 (x1 : Int32) (x3 : Int32) (st : ck_S) : Option ck_S := (ck_bv (fR_branch x1 (0 : Int32) (1 : Int32) x3 st) fun st1 => (some st1))
set_option maxRecDepth 100000 in
set_option maxHeartbeats 4000000 in
theorem BR_growNumbers_163 (C : ck_X cm_cl D cA bR_growNumbers 11 R_R 2 p R s m args c) {st0 : ck_S} (hret : ∀ (pc : Nat) (H : Heap) (locs : List Loc) (ls : Array Slot), decode bR_growNumbers pc = .ok (.return_, 1) → ck_AT sh_R cm_cl D cA ad H0 st0 H locs → W p l e R s m args below meth c H locs 0 0 Q (F0 m pc ls [])) (x1 : Int32) (x3 : Int32) (st : ck_S) (H : Heap) (locs : List Loc) (ls : Array Slot) (h : ck_AT sh_R cm_cl D cA ad H0 st H locs) (hl : lv_has ls 11 [(0, .ref (ad 0)), (1, .int x1), (3, .int x3)]) (hf : fR_growNumbers_b163 x1 x3 st = some st0) : W p l e R s m args below meth c H locs 0 0 Q (F0 m 163 ls []) := by
  have C1 := C
  obtain ⟨hx, hb, hml, hown, hts, hK, hlv, hlo⟩ := C1
  unfold fR_growNumbers_b163 at hf
  refine lv_aload_n hx hb dR_growNumbers_163 rfl (lv_at hl 0 rfl) ?_
  refine lv_iload_n hx hb dR_growNumbers_164 rfl (lv_at hl 1 rfl) ?_
  refine lv_iconst (v := 0) hx hb dR_growNumbers_165 (by decide) ?_
  refine lv_iconst (v := 1) hx hb dR_growNumbers_166 (by decide) ?_
  refine lv_iload_n hx hb dR_growNumbers_167 rfl (lv_at hl 2 rfl) ?_
  obtain ⟨st1, hc, hf⟩ := ck_bv_e hf
  refine ck_vv (As := [.int x1, .int (0 : Int32), .int (1 : Int32), .int x3]) (rest := []) (q := 0) C h hl CR_R_branch sR_branch q_R (cR_branch l D cA ad hc) (Nat.le_of_ble_eq_true rfl) rfl rfl (Nat.le_of_ble_eq_true rfl) dR_growNumbers_168 (fun H locs h => ?_)
  exact ck_rv hf hret h dR_growNumbers_171
def fR_growNumbers (x1 : Int32) (x2 : Int32) (x3 : Int32) (st : ck_S) : Option ck_S := (fR_growNumbers_l8 (fun x1 x3 st => (fR_growNumbers_b163 x1 x3 st)) 4096 x1 x2 x3 (-2147483649 : Int64) (0 : Int32) st)
set_option maxRecDepth 100000 in
set_option maxHeartbeats 4000000 in
theorem cR_growNumbers (l : Launch) (D : va_G) (cA : Nat → ClassId) (ad : Nat → Nat) {x1 : Int32} {x2 : Int32} {x3 : Int32} {st : ck_S} {st0 : ck_S} (hf : fR_growNumbers x1 x2 x3 st = some st0) : Met l yR_growNumbers (.code yR_growNumbers bR_growNumbers 11 none :: ck_T) (ck_R 2) (va_Pc [.ref (ad 0), .int x1, .int x2, .int x3] (ck_P sh_R cm_cl D cA ad st)) (va_Qv (fun u => u = st0) (ck_P sh_R cm_cl D cA ad) (ck_A ad sh_R.length)) 0 0 (ck_A ad sh_R.length) := by
  refine ck_met_v (own := R_R) (by decide +kernel) rfl (Nat.le_of_ble_eq_true rfl) (fun p e R s m args below meth c H0 Q ls C hret h hl => ?_)
  have C1 := C
  obtain ⟨hx, hb, hml, hown, hts, hK, hlv, hlo⟩ := C1
  have hl : lv_has ls 11 [(0, .ref (ad 0)), (1, .int x1), (2, .int x2), (3, .int x3)] := hl
  unfold fR_growNumbers at hf
  refine lv_ldc2 (v := (-2147483649)) hx hb hown (hts _ (ck_T_mk (List.mem_of_getElem? (i := 1008) (by decide +kernel)) (by decide +kernel))) dR_growNumbers_0 ?_
  refine lv_lstore (lv' := [(4, .long (-2147483649 : Int64)), (0, .ref (ad 0)), (1, .int x1), (2, .int x2), (3, .int x3)]) hx hb dR_growNumbers_3 hl (by decide) rfl (fun ls hl => ?_)
  refine lv_iconst (v := 0) hx hb dR_growNumbers_5 (by decide) ?_
  refine lv_istore (lv' := [(6, .int (0 : Int32)), (4, .long (-2147483649 : Int64)), (0, .ref (ad 0)), (1, .int x1), (2, .int x2), (3, .int x3)]) hx hb dR_growNumbers_6 hl (by decide) rfl (fun ls hl => ?_)
  exact BR_growNumbers_8 C hret (fun x1 x3 st H locs ls h hl hf => by
      exact BR_growNumbers_163 C hret _ _ _ _ _ _ h (lv_sub hl [0, 1, 2] rfl) hf) 4096 _ _ _ _ _ _ _ _ _ h (lv_sub hl [2, 3, 4, 5, 1, 0] rfl) hf
def fR_grow_b233 (k146 : Int32 → Int32 → Int32 → Int32 → ck_S → Option ck_S) (y0 : Int32) (y1 : Int32) (y2 : Int32) (y3 : Int32) (x1 : Int32) (x2 : Int32) (x4 : Int32) (x5 : Int32) (st : ck_S) : Option ck_S := (ck_bv (fR_branch y3 y2 y1 y0 st) fun st1 => (k146 x1 x2 x4 (x5 + 1) st1))
set_option maxRecDepth 100000 in
set_option maxHeartbeats 4000000 in
theorem BR_grow_233 (C : ck_X cm_cl D cA bR_grow 7 R_R 3 p R s m args c) {st0 : ck_S} (hret : ∀ (pc : Nat) (H : Heap) (locs : List Loc) (ls : Array Slot), decode bR_grow pc = .ok (.return_, 1) → ck_AT sh_R cm_cl D cA ad H0 st0 H locs → W p l e R s m args below meth c H locs 0 0 Q (F0 m pc ls [])) {k146 : Int32 → Int32 → Int32 → Int32 → ck_S → Option ck_S} (hk146 : ∀ (x1 : Int32) (x2 : Int32) (x4 : Int32) (x5 : Int32) (st : ck_S) (H : Heap) (locs : List Loc) (ls : Array Slot), ck_AT sh_R cm_cl D cA ad H0 st H locs → lv_has ls 7 [(0, .ref (ad 0)), (1, .int x1), (2, .int x2), (4, .int x4), (5, .int x5)] → k146 x1 x2 x4 x5 st = some st0 → W p l e R s m args below meth c H locs 0 0 Q (F0 m 146 ls [])) (y0 : Int32) (y1 : Int32) (y2 : Int32) (y3 : Int32) (x1 : Int32) (x2 : Int32) (x4 : Int32) (x5 : Int32) (st : ck_S) (H : Heap) (locs : List Loc) (ls : Array Slot) (h : ck_AT sh_R cm_cl D cA ad H0 st H locs) (hl : lv_has ls 7 [(0, .ref (ad 0)), (1, .int x1), (2, .int x2), (4, .int x4), (5, .int x5)]) (hf : fR_grow_b233 k146 y0 y1 y2 y3 x1 x2 x4 x5 st = some st0) : W p l e R s m args below meth c H locs 0 0 Q (F0 m 233 ls [.int y0, .int y1, .int y2, .int y3, .ref (ad 0)]) := by
  have C1 := C
  obtain ⟨hx, hb, hml, hown, hts, hK, hlv, hlo⟩ := C1
  unfold fR_grow_b233 at hf
  obtain ⟨st1, hc, hf⟩ := ck_bv_e hf
  refine ck_vv (As := [.int y3, .int y2, .int y1, .int y0]) (rest := []) (q := 0) C h hl CR_R_branch sR_branch q_R (cR_branch l D cA ad hc) (Nat.le_of_ble_eq_true rfl) rfl rfl (Nat.le_of_ble_eq_true rfl) dR_grow_233 (fun H locs h => ?_)
  refine lv_iinc (k := 4) (v := (x5 + 1)) (lv' := [(5, .int (x5 + 1)), (0, .ref (ad 0)), (1, .int x1), (2, .int x2), (4, .int x4)]) hx hb dR_grow_236 hl rfl rfl (by decide) rfl (fun ls hl => ?_)
  refine lv_goto (tgt := 146) hx hb dR_grow_239 rfl ?_
  exact hk146 _ _ _ _ _ _ _ _ h (lv_sub hl [1, 2, 3, 4, 0] rfl) hf
def fR_grow_b209 (k146 : Int32 → Int32 → Int32 → Int32 → ck_S → Option ck_S) (y0 : Int32) (y1 : Int32) (x1 : Int32) (x2 : Int32) (x4 : Int32) (x5 : Int32) (st : ck_S) : Option ck_S := (if (8 : Int32) ≤ x2 then (fR_grow_b233 k146 x4 (0 : Int32) x5 x1 x1 x2 x4 x5 st) else (fR_grow_b233 k146 (x4 ||| (y1 ||| y0)) (0 : Int32) x5 x1 x1 x2 x4 x5 st))
set_option maxRecDepth 100000 in
set_option maxHeartbeats 4000000 in
theorem BR_grow_209 (C : ck_X cm_cl D cA bR_grow 7 R_R 3 p R s m args c) {st0 : ck_S} (hret : ∀ (pc : Nat) (H : Heap) (locs : List Loc) (ls : Array Slot), decode bR_grow pc = .ok (.return_, 1) → ck_AT sh_R cm_cl D cA ad H0 st0 H locs → W p l e R s m args below meth c H locs 0 0 Q (F0 m pc ls [])) {k146 : Int32 → Int32 → Int32 → Int32 → ck_S → Option ck_S} (hk146 : ∀ (x1 : Int32) (x2 : Int32) (x4 : Int32) (x5 : Int32) (st : ck_S) (H : Heap) (locs : List Loc) (ls : Array Slot), ck_AT sh_R cm_cl D cA ad H0 st H locs → lv_has ls 7 [(0, .ref (ad 0)), (1, .int x1), (2, .int x2), (4, .int x4), (5, .int x5)] → k146 x1 x2 x4 x5 st = some st0 → W p l e R s m args below meth c H locs 0 0 Q (F0 m 146 ls [])) (y0 : Int32) (y1 : Int32) (x1 : Int32) (x2 : Int32) (x4 : Int32) (x5 : Int32) (st : ck_S) (H : Heap) (locs : List Loc) (ls : Array Slot) (h : ck_AT sh_R cm_cl D cA ad H0 st H locs) (hl : lv_has ls 7 [(0, .ref (ad 0)), (1, .int x1), (2, .int x2), (4, .int x4), (5, .int x5)]) (hf : fR_grow_b209 k146 y0 y1 x1 x2 x4 x5 st = some st0) : W p l e R s m args below meth c H locs 0 0 Q (F0 m 209 ls [.int y0, .int y1]) := by
  have C1 := C
  obtain ⟨hx, hb, hml, hown, hts, hK, hlv, hlo⟩ := C1
  unfold fR_grow_b209 at hf
  refine lv_ior hx hb dR_grow_209 ?_
  refine lv_istore (lv' := [(6, .int (y1 ||| y0)), (0, .ref (ad 0)), (1, .int x1), (2, .int x2), (4, .int x4), (5, .int x5)]) hx hb dR_grow_210 hl (by decide) rfl (fun ls hl => ?_)
  refine lv_aload_n hx hb dR_grow_212 rfl (lv_at hl 1 rfl) ?_
  refine lv_iload_n hx hb dR_grow_213 rfl (lv_at hl 2 rfl) ?_
  refine lv_iload hx hb dR_grow_214 (lv_at hl 5 rfl) ?_
  refine lv_iconst (v := 0) hx hb dR_grow_216 (by decide) ?_
  refine lv_iload_n hx hb dR_grow_217 rfl (lv_at hl 3 rfl) ?_
  refine lv_bipush (v := 8) hx hb dR_grow_218 (by decide) ?_
  refine lv_icmp_ge (tgt := 231) hx hb dR_grow_220 rfl (fun hq => ?_) (fun hq => ?_)
  · have hf := ck_t hq hf
    refine lv_iload hx hb dR_grow_231 (lv_at hl 4 rfl) ?_
    exact BR_grow_233 C hret hk146 _ _ _ _ _ _ _ _ _ _ _ _ h (lv_sub hl [1, 2, 3, 4, 5] rfl) hf
  · have hf := ck_f hq hf
    refine lv_iload hx hb dR_grow_223 (lv_at hl 4 rfl) ?_
    refine lv_iload hx hb dR_grow_225 (lv_at hl 0 rfl) ?_
    refine lv_ior hx hb dR_grow_227 ?_
    refine lv_goto (tgt := 233) hx hb dR_grow_228 rfl ?_
    exact BR_grow_233 C hret hk146 _ _ _ _ _ _ _ _ _ _ _ _ h (lv_sub hl [1, 2, 3, 4, 5] rfl) hf
def fR_grow_b190 (k146 : Int32 → Int32 → Int32 → Int32 → ck_S → Option ck_S) (y0 : Int32) (x1 : Int32) (x2 : Int32) (x4 : Int32) (x5 : Int32) (st : ck_S) : Option ck_S := (ck_gd x5 12 (if (st 3 (x5).toNatClampNeg) < 0 then (fR_grow_b209 k146 (0 : Int32) y0 x1 x2 x4 x5 st) else (fR_grow_b209 k146 ((2 : Int32) <<< (((2 : Int32) * x2) &&& 31)) y0 x1 x2 x4 x5 st)))
set_option maxRecDepth 100000 in
set_option maxHeartbeats 4000000 in
theorem BR_grow_190 (C : ck_X cm_cl D cA bR_grow 7 R_R 3 p R s m args c) {st0 : ck_S} (hret : ∀ (pc : Nat) (H : Heap) (locs : List Loc) (ls : Array Slot), decode bR_grow pc = .ok (.return_, 1) → ck_AT sh_R cm_cl D cA ad H0 st0 H locs → W p l e R s m args below meth c H locs 0 0 Q (F0 m pc ls [])) {k146 : Int32 → Int32 → Int32 → Int32 → ck_S → Option ck_S} (hk146 : ∀ (x1 : Int32) (x2 : Int32) (x4 : Int32) (x5 : Int32) (st : ck_S) (H : Heap) (locs : List Loc) (ls : Array Slot), ck_AT sh_R cm_cl D cA ad H0 st H locs → lv_has ls 7 [(0, .ref (ad 0)), (1, .int x1), (2, .int x2), (4, .int x4), (5, .int x5)] → k146 x1 x2 x4 x5 st = some st0 → W p l e R s m args below meth c H locs 0 0 Q (F0 m 146 ls [])) (y0 : Int32) (x1 : Int32) (x2 : Int32) (x4 : Int32) (x5 : Int32) (st : ck_S) (H : Heap) (locs : List Loc) (ls : Array Slot) (h : ck_AT sh_R cm_cl D cA ad H0 st H locs) (hl : lv_has ls 7 [(0, .ref (ad 0)), (1, .int x1), (2, .int x2), (4, .int x4), (5, .int x5)]) (hf : fR_grow_b190 k146 y0 x1 x2 x4 x5 st = some st0) : W p l e R s m args below meth c H locs 0 0 Q (F0 m 190 ls [.int y0]) := by
  have C1 := C
  obtain ⟨hx, hb, hml, hown, hts, hK, hlv, hlo⟩ := C1
  unfold fR_grow_b190 at hf
  refine lv_aload_n hx hb dR_grow_190 rfl (lv_at hl 0 rfl) ?_
  refine ck_gr C h FR_second dR_grow_191 ?_
  refine lv_iload hx hb dR_grow_194 (lv_at hl 4 rfl) ?_
  obtain ⟨hg, hf⟩ := ck_gd_e hf
  refine ck_ai (x := (st 3 (x5).toNatClampNeg)) C h (show sh_R[3]? = some (.inr (0, 12)) from rfl) hg rfl dR_grow_196 ?_
  refine lv_if_lt (tgt := 208) hx hb dR_grow_197 rfl (fun hq => ?_) (fun hq => ?_)
  · have hf := ck_t hq hf
    refine lv_iconst (v := 0) hx hb dR_grow_208 (by decide) ?_
    exact BR_grow_209 C hret hk146 _ _ _ _ _ _ _ _ _ _ h (lv_sub hl [0, 1, 2, 3, 4] rfl) hf
  · have hf := ck_f hq hf
    refine lv_iconst (v := 2) hx hb dR_grow_200 (by decide) ?_
    refine lv_iconst (v := 2) hx hb dR_grow_201 (by decide) ?_
    refine lv_iload_n hx hb dR_grow_202 rfl (lv_at hl 2 rfl) ?_
    refine lv_imul hx hb dR_grow_203 ?_
    refine lv_ishl hx hb dR_grow_204 ?_
    refine lv_goto (tgt := 209) hx hb dR_grow_205 rfl ?_
    exact BR_grow_209 C hret hk146 _ _ _ _ _ _ _ _ _ _ h (lv_sub hl [0, 1, 2, 3, 4] rfl) hf
def fR_grow_l146 : Nat → Int32 → Int32 → Int32 → Int32 → ck_S → Option ck_S
  | 0, _, _, _, _, _ => none
  | n + 1, x1, x2, x4, x5, st => (if (st 0 1) ≤ x5 then (some st) else (ck_gd x5 12 (ck_gd x1 60 (if (st 1 (x5).toNatClampNeg) = (st 25 (x1).toNatClampNeg) then (ck_gd x5 12 (if (st 2 (x5).toNatClampNeg) < 0 then (fR_grow_b190 (fR_grow_l146 n) (0 : Int32) x1 x2 x4 x5 st) else (fR_grow_b190 (fR_grow_l146 n) ((1 : Int32) <<< (((2 : Int32) * x2) &&& 31)) x1 x2 x4 x5 st))) else (fR_grow_l146 n x1 x2 x4 (x5 + 1) st)))))
set_option maxRecDepth 100000 in
set_option maxHeartbeats 4000000 in
theorem BR_grow_146 (C : ck_X cm_cl D cA bR_grow 7 R_R 3 p R s m args c) {st0 : ck_S} (hret : ∀ (pc : Nat) (H : Heap) (locs : List Loc) (ls : Array Slot), decode bR_grow pc = .ok (.return_, 1) → ck_AT sh_R cm_cl D cA ad H0 st0 H locs → W p l e R s m args below meth c H locs 0 0 Q (F0 m pc ls [])) : ∀ (n : Nat) (x1 : Int32) (x2 : Int32) (x4 : Int32) (x5 : Int32) (st : ck_S) (H : Heap) (locs : List Loc) (ls : Array Slot), ck_AT sh_R cm_cl D cA ad H0 st H locs → lv_has ls 7 [(0, .ref (ad 0)), (1, .int x1), (2, .int x2), (4, .int x4), (5, .int x5)] → fR_grow_l146  n x1 x2 x4 x5 st = some st0 → W p l e R s m args below meth c H locs 0 0 Q (F0 m 146 ls []) := by
  have C1 := C
  obtain ⟨hx, hb, hml, hown, hts, hK, hlv, hlo⟩ := C1
  intro n
  induction n with
  | zero => intro _ _ _ _ _ _ _ _ _ _ hf; cases hf
  | succ n ih =>
    intro x1 x2 x4 x5 st H locs ls h hl hf
    rw [fR_grow_l146] at hf
    refine lv_iload hx hb dR_grow_146 (lv_at hl 4 rfl) ?_
    refine lv_aload_n hx hb dR_grow_148 rfl (lv_at hl 0 rfl) ?_
    refine ck_gi (x := (st 0 1)) C h FR_constructors rfl dR_grow_149 ?_
    refine lv_icmp_ge (tgt := 242) hx hb dR_grow_152 rfl (fun hq => ?_) (fun hq => ?_)
    · have hf := ck_t hq hf
      exact ck_rv hf hret h dR_grow_242
    · have hf := ck_f hq hf
      refine lv_aload_n hx hb dR_grow_155 rfl (lv_at hl 0 rfl) ?_
      refine ck_gr C h FR_owner dR_grow_156 ?_
      refine lv_iload hx hb dR_grow_159 (lv_at hl 4 rfl) ?_
      obtain ⟨hg, hf⟩ := ck_gd_e hf
      refine ck_ai (x := (st 1 (x5).toNatClampNeg)) C h (show sh_R[1]? = some (.inr (0, 12)) from rfl) hg rfl dR_grow_161 ?_
      refine lv_aload_n hx hb dR_grow_162 rfl (lv_at hl 0 rfl) ?_
      refine ck_gr C h FR_test dR_grow_163 ?_
      refine lv_iload_n hx hb dR_grow_166 rfl (lv_at hl 1 rfl) ?_
      obtain ⟨hg, hf⟩ := ck_gd_e hf
      refine ck_ai (x := (st 25 (x1).toNatClampNeg)) C h (show sh_R[25]? = some (.inr (0, 60)) from rfl) hg rfl dR_grow_167 ?_
      refine lv_icmp_ne (tgt := 236) hx hb dR_grow_168 rfl (fun hq => ?_) (fun hq => ?_)
      · have hf := ck_f hq hf
        refine lv_iinc (k := 4) (v := (x5 + 1)) (lv' := [(5, .int (x5 + 1)), (0, .ref (ad 0)), (1, .int x1), (2, .int x2), (4, .int x4)]) hx hb dR_grow_236 hl rfl rfl (by decide) rfl (fun ls hl => ?_)
        refine lv_goto (tgt := 146) hx hb dR_grow_239 rfl ?_
        exact ih _ _ _ _ _ _ _ _ h (lv_sub hl [1, 2, 3, 4, 0] rfl) hf
      · have hf := ck_t hq hf
        refine lv_aload_n hx hb dR_grow_171 rfl (lv_at hl 0 rfl) ?_
        refine ck_gr C h FR_first dR_grow_172 ?_
        refine lv_iload hx hb dR_grow_175 (lv_at hl 4 rfl) ?_
        obtain ⟨hg, hf⟩ := ck_gd_e hf
        refine ck_ai (x := (st 2 (x5).toNatClampNeg)) C h (show sh_R[2]? = some (.inr (0, 12)) from rfl) hg rfl dR_grow_177 ?_
        refine lv_if_lt (tgt := 189) hx hb dR_grow_178 rfl (fun hq => ?_) (fun hq => ?_)
        · have hf := ck_t hq hf
          refine lv_iconst (v := 0) hx hb dR_grow_189 (by decide) ?_
          exact BR_grow_190 C hret ih _ _ _ _ _ _ _ _ _ h (lv_sub hl [0, 1, 2, 3, 4] rfl) hf
        · have hf := ck_f hq hf
          refine lv_iconst (v := 1) hx hb dR_grow_181 (by decide) ?_
          refine lv_iconst (v := 2) hx hb dR_grow_182 (by decide) ?_
          refine lv_iload_n hx hb dR_grow_183 rfl (lv_at hl 2 rfl) ?_
          refine lv_imul hx hb dR_grow_184 ?_
          refine lv_ishl hx hb dR_grow_185 ?_
          refine lv_goto (tgt := 190) hx hb dR_grow_186 rfl ?_
          exact BR_grow_190 C hret ih _ _ _ _ _ _ _ _ _ h (lv_sub hl [0, 1, 2, 3, 4] rfl) hf
def fR_grow_b68 (y0 : Int32) (y1 : Int32) (x1 : Int32) (x2 : Int32) (st : ck_S) : Option ck_S := (ck_gd y1 60 (if x2 = 0 then (some (ck_u st 26 (y1).toNatClampNeg y0)) else (ck_gd x1 60 (ck_gd x1 60 (ck_gd (((16 : Int32) * ((ck_u st 26 (y1).toNatClampNeg y0) 26 (x1).toNatClampNeg)) + x2) 256 (if (st 17 ((((16 : Int32) * ((ck_u st 26 (y1).toNatClampNeg y0) 26 (x1).toNatClampNeg)) + x2)).toNatClampNeg) = (1 : Int32) then (ck_gd x1 60 (ck_bv (fR_growNumbers x1 x2 ((st 23 (x1).toNatClampNeg) &&& (((1 : Int32) <<< (x2 &&& 31)) ^^^ (-1 : Int32))) (ck_u (ck_u st 26 (y1).toNatClampNeg y0) 25 (x1).toNatClampNeg (0 : Int32))) fun st1 => (some st1))) else (ck_gd (((16 : Int32) * ((ck_u st 26 (y1).toNatClampNeg y0) 26 (x1).toNatClampNeg)) + x2) 256 (ck_gd (st 18 ((((16 : Int32) * ((ck_u st 26 (y1).toNatClampNeg y0) 26 (x1).toNatClampNeg)) + x2)).toNatClampNeg) 12 (ck_gd x1 60 (fR_grow_l146  4096 x1 x2 ((st 23 (x1).toNatClampNeg) &&& (((1 : Int32) <<< (x2 &&& 31)) ^^^ (-1 : Int32))) (0 : Int32) (ck_u (ck_u st 26 (y1).toNatClampNeg y0) 25 (x1).toNatClampNeg (st 1 ((st 18 ((((16 : Int32) * ((ck_u st 26 (y1).toNatClampNeg y0) 26 (x1).toNatClampNeg)) + x2)).toNatClampNeg)).toNatClampNeg))))))))))))
set_option maxRecDepth 100000 in
set_option maxHeartbeats 4000000 in
theorem BR_grow_68 (C : ck_X cm_cl D cA bR_grow 7 R_R 3 p R s m args c) {st0 : ck_S} (hret : ∀ (pc : Nat) (H : Heap) (locs : List Loc) (ls : Array Slot), decode bR_grow pc = .ok (.return_, 1) → ck_AT sh_R cm_cl D cA ad H0 st0 H locs → W p l e R s m args below meth c H locs 0 0 Q (F0 m pc ls [])) (y0 : Int32) (y1 : Int32) (x1 : Int32) (x2 : Int32) (st : ck_S) (H : Heap) (locs : List Loc) (ls : Array Slot) (h : ck_AT sh_R cm_cl D cA ad H0 st H locs) (hl : lv_has ls 7 [(0, .ref (ad 0)), (1, .int x1), (2, .int x2)]) (hf : fR_grow_b68 y0 y1 x1 x2 st = some st0) : W p l e R s m args below meth c H locs 0 0 Q (F0 m 68 ls [.int y0, .int y1, .ref (ad 26)]) := by
  have C1 := C
  obtain ⟨hx, hb, hml, hown, hts, hK, hlv, hlo⟩ := C1
  unfold fR_grow_b68 at hf
  obtain ⟨hg, hf⟩ := ck_gd_e hf
  refine ck_si C h (show sh_R[26]? = some (.inr (0, 60)) from rfl) hg dR_grow_68 (fun H locs h => ?_)
  refine lv_iload_n hx hb dR_grow_69 rfl (lv_at hl 2 rfl) ?_
  refine lv_if_ne (tgt := 74) hx hb dR_grow_70 rfl (fun hq => ?_) (fun hq => ?_)
  · have hf := ck_f hq hf
    refine lv_bipush (v := 16) hx hb dR_grow_74 (by decide) ?_
    refine lv_aload_n hx hb dR_grow_76 rfl (lv_at hl 0 rfl) ?_
    refine ck_gr C h FR_leaf dR_grow_77 ?_
    refine lv_iload_n hx hb dR_grow_80 rfl (lv_at hl 1 rfl) ?_
    obtain ⟨hg, hf⟩ := ck_gd_e hf
    refine ck_ai (x := ((ck_u st 26 (y1).toNatClampNeg y0) 26 (x1).toNatClampNeg)) C h (show sh_R[26]? = some (.inr (0, 60)) from rfl) hg rfl dR_grow_81 ?_
    refine lv_imul hx hb dR_grow_82 ?_
    refine lv_iload_n hx hb dR_grow_83 rfl (lv_at hl 2 rfl) ?_
    refine lv_iadd hx hb dR_grow_84 ?_
    refine lv_istore_n (lv' := [(3, .int (((16 : Int32) * ((ck_u st 26 (y1).toNatClampNeg y0) 26 (x1).toNatClampNeg)) + x2)), (0, .ref (ad 0)), (1, .int x1), (2, .int x2)]) hx hb dR_grow_85 rfl hl (by decide) rfl (fun ls hl => ?_)
    refine lv_aload_n hx hb dR_grow_86 rfl (lv_at hl 1 rfl) ?_
    refine ck_gr C h FR_open dR_grow_87 ?_
    refine lv_iload_n hx hb dR_grow_90 rfl (lv_at hl 2 rfl) ?_
    obtain ⟨hg, hf⟩ := ck_gd_e hf
    refine ck_ai (x := (st 23 (x1).toNatClampNeg)) C h (show sh_R[23]? = some (.inr (0, 60)) from rfl) hg rfl dR_grow_91 ?_
    refine lv_iconst (v := 1) hx hb dR_grow_92 (by decide) ?_
    refine lv_iload_n hx hb dR_grow_93 rfl (lv_at hl 3 rfl) ?_
    refine lv_ishl hx hb dR_grow_94 ?_
    refine lv_iconst (v := (-1)) hx hb dR_grow_95 (by decide) ?_
    refine lv_ixor hx hb dR_grow_96 ?_
    refine lv_iand hx hb dR_grow_97 ?_
    refine lv_istore (lv' := [(4, .int ((st 23 (x1).toNatClampNeg) &&& (((1 : Int32) <<< (x2 &&& 31)) ^^^ (-1 : Int32)))), (3, .int (((16 : Int32) * ((ck_u st 26 (y1).toNatClampNeg y0) 26 (x1).toNatClampNeg)) + x2)), (0, .ref (ad 0)), (1, .int x1), (2, .int x2)]) hx hb dR_grow_98 hl (by decide) rfl (fun ls hl => ?_)
    refine lv_aload_n hx hb dR_grow_100 rfl (lv_at hl 2 rfl) ?_
    refine ck_gr C h FR_asks dR_grow_101 ?_
    refine lv_iload_n hx hb dR_grow_104 rfl (lv_at hl 1 rfl) ?_
    obtain ⟨hg, hf⟩ := ck_gd_e hf
    refine ck_ai (x := (st 17 ((((16 : Int32) * ((ck_u st 26 (y1).toNatClampNeg y0) 26 (x1).toNatClampNeg)) + x2)).toNatClampNeg)) C h (show sh_R[17]? = some (.inr (0, 256)) from rfl) hg rfl dR_grow_105 ?_
    refine lv_iconst (v := 1) hx hb dR_grow_106 (by decide) ?_
    refine lv_icmp_ne (tgt := 126) hx hb dR_grow_107 rfl (fun hq => ?_) (fun hq => ?_)
    · have hf := ck_f hq hf
      refine lv_aload_n hx hb dR_grow_126 rfl (lv_at hl 2 rfl) ?_
      refine ck_gr C h FR_test dR_grow_127 ?_
      refine lv_iload_n hx hb dR_grow_130 rfl (lv_at hl 3 rfl) ?_
      refine lv_aload_n hx hb dR_grow_131 rfl (lv_at hl 2 rfl) ?_
      refine ck_gr C h FR_owner dR_grow_132 ?_
      refine lv_aload_n hx hb dR_grow_135 rfl (lv_at hl 2 rfl) ?_
      refine ck_gr C h FR_asked dR_grow_136 ?_
      refine lv_iload_n hx hb dR_grow_139 rfl (lv_at hl 1 rfl) ?_
      obtain ⟨hg, hf⟩ := ck_gd_e hf
      refine ck_ai (x := (st 18 ((((16 : Int32) * ((ck_u st 26 (y1).toNatClampNeg y0) 26 (x1).toNatClampNeg)) + x2)).toNatClampNeg)) C h (show sh_R[18]? = some (.inr (0, 256)) from rfl) hg rfl dR_grow_140 ?_
      obtain ⟨hg, hf⟩ := ck_gd_e hf
      refine ck_ai (x := (st 1 ((st 18 ((((16 : Int32) * ((ck_u st 26 (y1).toNatClampNeg y0) 26 (x1).toNatClampNeg)) + x2)).toNatClampNeg)).toNatClampNeg)) C h (show sh_R[1]? = some (.inr (0, 12)) from rfl) hg rfl dR_grow_141 ?_
      obtain ⟨hg, hf⟩ := ck_gd_e hf
      refine ck_si C h (show sh_R[25]? = some (.inr (0, 60)) from rfl) hg dR_grow_142 (fun H locs h => ?_)
      refine lv_iconst (v := 0) hx hb dR_grow_143 (by decide) ?_
      refine lv_istore (lv' := [(5, .int (0 : Int32)), (4, .int ((st 23 (x1).toNatClampNeg) &&& (((1 : Int32) <<< (x2 &&& 31)) ^^^ (-1 : Int32)))), (3, .int (((16 : Int32) * ((ck_u st 26 (y1).toNatClampNeg y0) 26 (x1).toNatClampNeg)) + x2)), (0, .ref (ad 0)), (1, .int x1), (2, .int x2)]) hx hb dR_grow_144 hl (by decide) rfl (fun ls hl => ?_)
      exact BR_grow_146 C hret  4096 _ _ _ _ _ _ _ _ h (lv_sub hl [3, 4, 5, 1, 0] rfl) hf
    · have hf := ck_t hq hf
      refine lv_aload_n hx hb dR_grow_110 rfl (lv_at hl 2 rfl) ?_
      refine ck_gr C h FR_test dR_grow_111 ?_
      refine lv_iload_n hx hb dR_grow_114 rfl (lv_at hl 3 rfl) ?_
      refine lv_iconst (v := 0) hx hb dR_grow_115 (by decide) ?_
      obtain ⟨hg, hf⟩ := ck_gd_e hf
      refine ck_si C h (show sh_R[25]? = some (.inr (0, 60)) from rfl) hg dR_grow_116 (fun H locs h => ?_)
      refine lv_aload_n hx hb dR_grow_117 rfl (lv_at hl 2 rfl) ?_
      refine lv_iload_n hx hb dR_grow_118 rfl (lv_at hl 3 rfl) ?_
      refine lv_iload_n hx hb dR_grow_119 rfl (lv_at hl 4 rfl) ?_
      refine lv_iload hx hb dR_grow_120 (lv_at hl 0 rfl) ?_
      obtain ⟨st1, hc, hf⟩ := ck_bv_e hf
      refine ck_vv (As := [.int x1, .int x2, .int ((st 23 (x1).toNatClampNeg) &&& (((1 : Int32) <<< (x2 &&& 31)) ^^^ (-1 : Int32)))]) (rest := []) (q := 0) C h hl CR_R_growNumbers sR_growNumbers q_R (cR_growNumbers l D cA ad hc) (Nat.le_of_ble_eq_true rfl) rfl rfl (Nat.le_of_ble_eq_true rfl) dR_grow_122 (fun H locs h => ?_)
      exact ck_rv hf hret h dR_grow_125
  · have hf := ck_t hq hf
    exact ck_rv hf hret h dR_grow_73
def fR_grow (x1 : Int32) (st : ck_S) : Option ck_S := (ck_gd x1 60 (ck_gd x1 60 (ck_b (fR_choose (st 22 (x1).toNatClampNeg) (st 23 (x1).toNatClampNeg) st) fun v2 st1 => (ck_gd x1 60 (ck_gd x1 60 (ck_gd x1 60 (ck_gd x1 60 (if (st1 22 (x1).toNatClampNeg) = 0 then (fR_grow_b68 (-1 : Int32) x1 x1 v2 (ck_u (ck_u (ck_u st1 24 (x1).toNatClampNeg v2) 28 (x1).toNatClampNeg (0 : Int32)) 27 (x1).toNatClampNeg (st1 0 29))) else (ck_gd x1 60 (ck_b (fR_lowest (st1 22 (x1).toNatClampNeg) (ck_u (ck_u (ck_u st1 24 (x1).toNatClampNeg v2) 28 (x1).toNatClampNeg (0 : Int32)) 27 (x1).toNatClampNeg (st1 0 29))) fun v4 st3 => (fR_grow_b68 v4 x1 x1 v2 st3)))))))))))
set_option maxRecDepth 100000 in
set_option maxHeartbeats 4000000 in
theorem cR_grow (l : Launch) (D : va_G) (cA : Nat → ClassId) (ad : Nat → Nat) {x1 : Int32} {st : ck_S} {st0 : ck_S} (hf : fR_grow x1 st = some st0) : Met l yR_grow (.code yR_grow bR_grow 7 none :: ck_T) (ck_R 3) (va_Pc [.ref (ad 0), .int x1] (ck_P sh_R cm_cl D cA ad st)) (va_Qv (fun u => u = st0) (ck_P sh_R cm_cl D cA ad) (ck_A ad sh_R.length)) 0 0 (ck_A ad sh_R.length) := by
  refine ck_met_v (own := R_R) (by decide +kernel) rfl (Nat.le_of_ble_eq_true rfl) (fun p e R s m args below meth c H0 Q ls C hret h hl => ?_)
  have C1 := C
  obtain ⟨hx, hb, hml, hown, hts, hK, hlv, hlo⟩ := C1
  have hl : lv_has ls 7 [(0, .ref (ad 0)), (1, .int x1)] := hl
  unfold fR_grow at hf
  refine lv_aload_n hx hb dR_grow_0 rfl (lv_at hl 0 rfl) ?_
  refine lv_aload_n hx hb dR_grow_1 rfl (lv_at hl 0 rfl) ?_
  refine ck_gr C h FR_remain dR_grow_2 ?_
  refine lv_iload_n hx hb dR_grow_5 rfl (lv_at hl 1 rfl) ?_
  obtain ⟨hg, hf⟩ := ck_gd_e hf
  refine ck_ai (x := (st 22 (x1).toNatClampNeg)) C h (show sh_R[22]? = some (.inr (0, 60)) from rfl) hg rfl dR_grow_6 ?_
  refine lv_aload_n hx hb dR_grow_7 rfl (lv_at hl 0 rfl) ?_
  refine ck_gr C h FR_open dR_grow_8 ?_
  refine lv_iload_n hx hb dR_grow_11 rfl (lv_at hl 1 rfl) ?_
  obtain ⟨hg, hf⟩ := ck_gd_e hf
  refine ck_ai (x := (st 23 (x1).toNatClampNeg)) C h (show sh_R[23]? = some (.inr (0, 60)) from rfl) hg rfl dR_grow_12 ?_
  obtain ⟨v2, st1, hc, hf⟩ := ck_b_e hf
  refine ck_vi (As := [.int (st 22 (x1).toNatClampNeg), .int (st 23 (x1).toNatClampNeg)]) (rest := []) (q := 0) C h hl CR_R_choose sR_choose q_R (cR_choose l D cA ad hc) (Nat.le_of_ble_eq_true rfl) rfl rfl (Nat.le_of_ble_eq_true rfl) dR_grow_13 (fun H locs h => ?_)
  refine lv_istore_n (lv' := [(2, .int v2), (0, .ref (ad 0)), (1, .int x1)]) hx hb dR_grow_16 rfl hl (by decide) rfl (fun ls hl => ?_)
  refine lv_aload_n hx hb dR_grow_17 rfl (lv_at hl 1 rfl) ?_
  refine ck_gr C h FR_place dR_grow_18 ?_
  refine lv_iload_n hx hb dR_grow_21 rfl (lv_at hl 2 rfl) ?_
  refine lv_iload_n hx hb dR_grow_22 rfl (lv_at hl 0 rfl) ?_
  obtain ⟨hg, hf⟩ := ck_gd_e hf
  refine ck_si C h (show sh_R[24]? = some (.inr (0, 60)) from rfl) hg dR_grow_23 (fun H locs h => ?_)
  refine lv_aload_n hx hb dR_grow_24 rfl (lv_at hl 1 rfl) ?_
  refine ck_gr C h FR_many dR_grow_25 ?_
  refine lv_iload_n hx hb dR_grow_28 rfl (lv_at hl 2 rfl) ?_
  refine lv_iconst (v := 0) hx hb dR_grow_29 (by decide) ?_
  obtain ⟨hg, hf⟩ := ck_gd_e hf
  refine ck_si C h (show sh_R[28]? = some (.inr (0, 60)) from rfl) hg dR_grow_30 (fun H locs h => ?_)
  refine lv_aload_n hx hb dR_grow_31 rfl (lv_at hl 1 rfl) ?_
  refine ck_gr C h FR_from dR_grow_32 ?_
  refine lv_iload_n hx hb dR_grow_35 rfl (lv_at hl 2 rfl) ?_
  refine lv_aload_n hx hb dR_grow_36 rfl (lv_at hl 1 rfl) ?_
  refine ck_gi (x := (st1 0 29)) C h FR_nodes rfl dR_grow_37 ?_
  obtain ⟨hg, hf⟩ := ck_gd_e hf
  refine ck_si C h (show sh_R[27]? = some (.inr (0, 60)) from rfl) hg dR_grow_40 (fun H locs h => ?_)
  refine lv_aload_n hx hb dR_grow_41 rfl (lv_at hl 1 rfl) ?_
  refine ck_gr C h FR_leaf dR_grow_42 ?_
  refine lv_iload_n hx hb dR_grow_45 rfl (lv_at hl 2 rfl) ?_
  refine lv_aload_n hx hb dR_grow_46 rfl (lv_at hl 1 rfl) ?_
  refine ck_gr C h FR_remain dR_grow_47 ?_
  refine lv_iload_n hx hb dR_grow_50 rfl (lv_at hl 2 rfl) ?_
  obtain ⟨hg, hf⟩ := ck_gd_e hf
  refine ck_ai (x := (st1 22 (x1).toNatClampNeg)) C h (show sh_R[22]? = some (.inr (0, 60)) from rfl) hg rfl dR_grow_51 ?_
  refine lv_if_ne (tgt := 59) hx hb dR_grow_52 rfl (fun hq => ?_) (fun hq => ?_)
  · have hf := ck_f hq hf
    refine lv_aload_n hx hb dR_grow_59 rfl (lv_at hl 1 rfl) ?_
    refine ck_gr C h FR_remain dR_grow_60 ?_
    refine lv_iload_n hx hb dR_grow_63 rfl (lv_at hl 2 rfl) ?_
    obtain ⟨hg, hf⟩ := ck_gd_e hf
    refine ck_ai (x := (st1 22 (x1).toNatClampNeg)) C h (show sh_R[22]? = some (.inr (0, 60)) from rfl) hg rfl dR_grow_64 ?_
    obtain ⟨v4, st3, hc, hf⟩ := ck_b_e hf
    refine ck_ti (As := [.int (st1 22 (x1).toNatClampNeg)]) (rest := [.int x1, .ref (ad 26)]) C h hl CR_R_lowest sR_lowest (cR_lowest l D cA ad hc) (Nat.le_of_ble_eq_true rfl) rfl rfl (Nat.le_of_ble_eq_true rfl) dR_grow_65 (fun H locs h => ?_)
    exact BR_grow_68 C hret _ _ _ _ _ _ _ _ h (lv_sub hl [1, 2, 0] rfl) hf
  · have hf := ck_t hq hf
    refine lv_iconst (v := (-1)) hx hb dR_grow_55 (by decide) ?_
    refine lv_goto (tgt := 68) hx hb dR_grow_56 rfl ?_
    exact BR_grow_68 C hret _ _ _ _ _ _ _ _ h (lv_sub hl [1, 2, 0] rfl) hf
def fR_hasBranch_l5 : Nat → Int32 → Int32 → Int32 → Int32 → ck_S → Option (Int32 × ck_S)
  | 0, _, _, _, _, _ => none
  | n + 1, x1, x2, x3, x4, st => (ck_gd x1 60 (if (st 28 (x1).toNatClampNeg) ≤ x4 then (ck_gz x3 (some (x3, st))) else (if x3 = 0 then (ck_gd x1 60 (ck_gd ((st 27 (x1).toNatClampNeg) + x4) 60 (if (st 30 (((st 27 (x1).toNatClampNeg) + x4)).toNatClampNeg) = 0 then (ck_gd x1 60 (ck_gd ((st 27 (x1).toNatClampNeg) + x4) 60 (if (st 29 (((st 27 (x1).toNatClampNeg) + x4)).toNatClampNeg) = x2 then (fR_hasBranch_l5 n x1 x2 (1 : Int32) (x4 + 1) st) else (fR_hasBranch_l5 n x1 x2 (0 : Int32) (x4 + 1) st)))) else (fR_hasBranch_l5 n x1 x2 (0 : Int32) (x4 + 1) st)))) else (fR_hasBranch_l5 n x1 x2 (1 : Int32) (x4 + 1) st))))
set_option maxRecDepth 100000 in
set_option maxHeartbeats 4000000 in
theorem BR_hasBranch_5 (C : ck_X cm_cl D cA bR_hasBranch 5 R_R 0 p R s m args c) {r0 : Int32} {st0 : ck_S} (hret : ∀ (pc : Nat) (H : Heap) (locs : List Loc) (ls : Array Slot), decode bR_hasBranch pc = .ok (.ireturn, 1) → (r0 = 0 ∨ r0 = 1) → ck_AT sh_R cm_cl D cA ad H0 st0 H locs → W p l e R s m args below meth c H locs 0 0 Q (F0 m pc ls [.int r0])) : ∀ (n : Nat) (x1 : Int32) (x2 : Int32) (x3 : Int32) (x4 : Int32) (st : ck_S) (H : Heap) (locs : List Loc) (ls : Array Slot), ck_AT sh_R cm_cl D cA ad H0 st H locs → lv_has ls 5 [(0, .ref (ad 0)), (1, .int x1), (2, .int x2), (3, .int x3), (4, .int x4)] → fR_hasBranch_l5  n x1 x2 x3 x4 st = some (r0, st0) → W p l e R s m args below meth c H locs 0 0 Q (F0 m 5 ls []) := by
  have C1 := C
  obtain ⟨hx, hb, hml, hown, hts, hK, hlv, hlo⟩ := C1
  intro n
  induction n with
  | zero => intro _ _ _ _ _ _ _ _ _ _ hf; cases hf
  | succ n ih =>
    intro x1 x2 x3 x4 st H locs ls h hl hf
    rw [fR_hasBranch_l5] at hf
    refine lv_iload hx hb dR_hasBranch_5 (lv_at hl 4 rfl) ?_
    refine lv_aload_n hx hb dR_hasBranch_7 rfl (lv_at hl 0 rfl) ?_
    refine ck_gr C h FR_many dR_hasBranch_8 ?_
    refine lv_iload_n hx hb dR_hasBranch_11 rfl (lv_at hl 1 rfl) ?_
    obtain ⟨hg, hf⟩ := ck_gd_e hf
    refine ck_ai (x := (st 28 (x1).toNatClampNeg)) C h (show sh_R[28]? = some (.inr (0, 60)) from rfl) hg rfl dR_hasBranch_12 ?_
    refine lv_icmp_ge (tgt := 67) hx hb dR_hasBranch_13 rfl (fun hq => ?_) (fun hq => ?_)
    · have hf := ck_t hq hf
      refine lv_iload_n hx hb dR_hasBranch_67 rfl (lv_at hl 3 rfl) ?_
      obtain ⟨hz, hf⟩ := ck_gz_e hf
      exact ck_rz hf hret hz h dR_hasBranch_68
    · have hf := ck_f hq hf
      refine lv_iload_n hx hb dR_hasBranch_16 rfl (lv_at hl 3 rfl) ?_
      refine lv_if_ne (tgt := 55) hx hb dR_hasBranch_17 rfl (fun hq => ?_) (fun hq => ?_)
      · have hf := ck_f hq hf
        refine lv_iconst (v := 1) hx hb dR_hasBranch_55 (by decide) ?_
        refine lv_goto (tgt := 60) hx hb dR_hasBranch_56 rfl ?_
        refine lv_istore_n (lv' := [(3, .int (1 : Int32)), (0, .ref (ad 0)), (1, .int x1), (2, .int x2), (4, .int x4)]) hx hb dR_hasBranch_60 rfl hl (by decide) rfl (fun ls hl => ?_)
        refine lv_iinc (k := 4) (v := (x4 + 1)) (lv' := [(4, .int (x4 + 1)), (3, .int (1 : Int32)), (0, .ref (ad 0)), (1, .int x1), (2, .int x2)]) hx hb dR_hasBranch_61 hl rfl rfl (by decide) rfl (fun ls hl => ?_)
        refine lv_goto (tgt := 5) hx hb dR_hasBranch_64 rfl ?_
        exact ih _ _ _ _ _ _ _ _ h (lv_sub hl [2, 3, 4, 1, 0] rfl) hf
      · have hf := ck_t hq hf
        refine lv_aload_n hx hb dR_hasBranch_20 rfl (lv_at hl 0 rfl) ?_
        refine ck_gr C h FR_others dR_hasBranch_21 ?_
        refine lv_aload_n hx hb dR_hasBranch_24 rfl (lv_at hl 0 rfl) ?_
        refine ck_gr C h FR_from dR_hasBranch_25 ?_
        refine lv_iload_n hx hb dR_hasBranch_28 rfl (lv_at hl 1 rfl) ?_
        obtain ⟨hg, hf⟩ := ck_gd_e hf
        refine ck_ai (x := (st 27 (x1).toNatClampNeg)) C h (show sh_R[27]? = some (.inr (0, 60)) from rfl) hg rfl dR_hasBranch_29 ?_
        refine lv_iload hx hb dR_hasBranch_30 (lv_at hl 4 rfl) ?_
        refine lv_iadd hx hb dR_hasBranch_32 ?_
        obtain ⟨hg, hf⟩ := ck_gd_e hf
        refine ck_az (x := (st 30 (((st 27 (x1).toNatClampNeg) + x4)).toNatClampNeg)) C h (show sh_R[30]? = some (.inr (1, 60)) from rfl) hg rfl dR_hasBranch_33 ?_
        refine lv_if_ne (tgt := 59) hx hb dR_hasBranch_34 rfl (fun hq => ?_) (fun hq => ?_)
        · have hf := ck_f hq hf
          refine lv_iconst (v := 0) hx hb dR_hasBranch_59 (by decide) ?_
          refine lv_istore_n (lv' := [(3, .int (0 : Int32)), (0, .ref (ad 0)), (1, .int x1), (2, .int x2), (4, .int x4)]) hx hb dR_hasBranch_60 rfl hl (by decide) rfl (fun ls hl => ?_)
          refine lv_iinc (k := 4) (v := (x4 + 1)) (lv' := [(4, .int (x4 + 1)), (3, .int (0 : Int32)), (0, .ref (ad 0)), (1, .int x1), (2, .int x2)]) hx hb dR_hasBranch_61 hl rfl rfl (by decide) rfl (fun ls hl => ?_)
          refine lv_goto (tgt := 5) hx hb dR_hasBranch_64 rfl ?_
          exact ih _ _ _ _ _ _ _ _ h (lv_sub hl [2, 3, 4, 1, 0] rfl) hf
        · have hf := ck_t hq hf
          refine lv_aload_n hx hb dR_hasBranch_37 rfl (lv_at hl 0 rfl) ?_
          refine ck_gr C h FR_label dR_hasBranch_38 ?_
          refine lv_aload_n hx hb dR_hasBranch_41 rfl (lv_at hl 0 rfl) ?_
          refine ck_gr C h FR_from dR_hasBranch_42 ?_
          refine lv_iload_n hx hb dR_hasBranch_45 rfl (lv_at hl 1 rfl) ?_
          obtain ⟨hg, hf⟩ := ck_gd_e hf
          refine ck_ai (x := (st 27 (x1).toNatClampNeg)) C h (show sh_R[27]? = some (.inr (0, 60)) from rfl) hg rfl dR_hasBranch_46 ?_
          refine lv_iload hx hb dR_hasBranch_47 (lv_at hl 4 rfl) ?_
          refine lv_iadd hx hb dR_hasBranch_49 ?_
          obtain ⟨hg, hf⟩ := ck_gd_e hf
          refine ck_ai (x := (st 29 (((st 27 (x1).toNatClampNeg) + x4)).toNatClampNeg)) C h (show sh_R[29]? = some (.inr (0, 60)) from rfl) hg rfl dR_hasBranch_50 ?_
          refine lv_iload_n hx hb dR_hasBranch_51 rfl (lv_at hl 2 rfl) ?_
          refine lv_icmp_ne (tgt := 59) hx hb dR_hasBranch_52 rfl (fun hq => ?_) (fun hq => ?_)
          · have hf := ck_f hq hf
            refine lv_iconst (v := 0) hx hb dR_hasBranch_59 (by decide) ?_
            refine lv_istore_n (lv' := [(3, .int (0 : Int32)), (0, .ref (ad 0)), (1, .int x1), (2, .int x2), (4, .int x4)]) hx hb dR_hasBranch_60 rfl hl (by decide) rfl (fun ls hl => ?_)
            refine lv_iinc (k := 4) (v := (x4 + 1)) (lv' := [(4, .int (x4 + 1)), (3, .int (0 : Int32)), (0, .ref (ad 0)), (1, .int x1), (2, .int x2)]) hx hb dR_hasBranch_61 hl rfl rfl (by decide) rfl (fun ls hl => ?_)
            refine lv_goto (tgt := 5) hx hb dR_hasBranch_64 rfl ?_
            exact ih _ _ _ _ _ _ _ _ h (lv_sub hl [2, 3, 4, 1, 0] rfl) hf
          · have hf := ck_t hq hf
            refine lv_iconst (v := 1) hx hb dR_hasBranch_55 (by decide) ?_
            refine lv_goto (tgt := 60) hx hb dR_hasBranch_56 rfl ?_
            refine lv_istore_n (lv' := [(3, .int (1 : Int32)), (0, .ref (ad 0)), (1, .int x1), (2, .int x2), (4, .int x4)]) hx hb dR_hasBranch_60 rfl hl (by decide) rfl (fun ls hl => ?_)
            refine lv_iinc (k := 4) (v := (x4 + 1)) (lv' := [(4, .int (x4 + 1)), (3, .int (1 : Int32)), (0, .ref (ad 0)), (1, .int x1), (2, .int x2)]) hx hb dR_hasBranch_61 hl rfl rfl (by decide) rfl (fun ls hl => ?_)
            refine lv_goto (tgt := 5) hx hb dR_hasBranch_64 rfl ?_
            exact ih _ _ _ _ _ _ _ _ h (lv_sub hl [2, 3, 4, 1, 0] rfl) hf
def fR_hasBranch (x1 : Int32) (x2 : Int32) (st : ck_S) : Option (Int32 × ck_S) := (fR_hasBranch_l5  4096 x1 x2 (0 : Int32) (0 : Int32) st)
set_option maxRecDepth 100000 in
set_option maxHeartbeats 4000000 in
theorem cR_hasBranch (l : Launch) (D : va_G) (cA : Nat → ClassId) (ad : Nat → Nat) {x1 : Int32} {x2 : Int32} {st : ck_S} {r0 : Int32} {st0 : ck_S} (hf : fR_hasBranch x1 x2 st = some (r0, st0)) : Met l yR_hasBranch (.code yR_hasBranch bR_hasBranch 5 (some .boolean) :: ck_T) (ck_R 0) (va_Pc [.ref (ad 0), .int x1, .int x2] (ck_P sh_R cm_cl D cA ad st)) (va_Qi (fun a u => a = r0 ∧ u = st0) (ck_P sh_R cm_cl D cA ad) (ck_A ad sh_R.length)) 0 0 (ck_A ad sh_R.length) := by
  refine ck_met_z (own := R_R) (by decide +kernel) rfl (Nat.le_of_ble_eq_true rfl) (fun p e R s m args below meth c H0 Q ls C hret h hl => ?_)
  have C1 := C
  obtain ⟨hx, hb, hml, hown, hts, hK, hlv, hlo⟩ := C1
  have hl : lv_has ls 5 [(0, .ref (ad 0)), (1, .int x1), (2, .int x2)] := hl
  unfold fR_hasBranch at hf
  refine lv_iconst (v := 0) hx hb dR_hasBranch_0 (by decide) ?_
  refine lv_istore_n (lv' := [(3, .int (0 : Int32)), (0, .ref (ad 0)), (1, .int x1), (2, .int x2)]) hx hb dR_hasBranch_1 rfl hl (by decide) rfl (fun ls hl => ?_)
  refine lv_iconst (v := 0) hx hb dR_hasBranch_2 (by decide) ?_
  refine lv_istore (lv' := [(4, .int (0 : Int32)), (3, .int (0 : Int32)), (0, .ref (ad 0)), (1, .int x1), (2, .int x2)]) hx hb dR_hasBranch_3 hl (by decide) rfl (fun ls hl => ?_)
  exact BR_hasBranch_5 C hret  4096 _ _ _ _ _ _ _ _ h (lv_sub hl [2, 3, 4, 1, 0] rfl) hf
def fR_writeWitness_b116 (k9 : Int32 → ck_S → Option ck_S) (x1 : Int32) (x2 : Int32) (x3 : Int32) (x4 : Int32) (st : ck_S) : Option ck_S := (if x3 = (2 : Int32) then (ck_gd x4 12 (if (st 2 (x4).toNatClampNeg) < 0 then (k9 x1 st) else (ck_gd x1 20 (k9 (x1 + 1) (ck_u st 21 (x1).toNatClampNeg ((2 : Int32) * x2)))))) else (k9 x1 st))
set_option maxRecDepth 100000 in
set_option maxHeartbeats 4000000 in
theorem BR_writeWitness_116 (C : ck_X cm_cl D cA bR_writeWitness 5 R_R 0 p R s m args c) {st0 : ck_S} (hret : ∀ (pc : Nat) (H : Heap) (locs : List Loc) (ls : Array Slot), decode bR_writeWitness pc = .ok (.return_, 1) → ck_AT sh_R cm_cl D cA ad H0 st0 H locs → W p l e R s m args below meth c H locs 0 0 Q (F0 m pc ls [])) {k9 : Int32 → ck_S → Option ck_S} (hk9 : ∀ (x1 : Int32) (st : ck_S) (H : Heap) (locs : List Loc) (ls : Array Slot), ck_AT sh_R cm_cl D cA ad H0 st H locs → lv_has ls 5 [(0, .ref (ad 0)), (1, .int x1)] → k9 x1 st = some st0 → W p l e R s m args below meth c H locs 0 0 Q (F0 m 9 ls [])) (x1 : Int32) (x2 : Int32) (x3 : Int32) (x4 : Int32) (st : ck_S) (H : Heap) (locs : List Loc) (ls : Array Slot) (h : ck_AT sh_R cm_cl D cA ad H0 st H locs) (hl : lv_has ls 5 [(0, .ref (ad 0)), (1, .int x1), (2, .int x2), (3, .int x3), (4, .int x4)]) (hf : fR_writeWitness_b116 k9 x1 x2 x3 x4 st = some st0) : W p l e R s m args below meth c H locs 0 0 Q (F0 m 116 ls []) := by
  have C1 := C
  obtain ⟨hx, hb, hml, hown, hts, hK, hlv, hlo⟩ := C1
  unfold fR_writeWitness_b116 at hf
  refine lv_iload_n hx hb dR_writeWitness_116 rfl (lv_at hl 3 rfl) ?_
  refine lv_iconst (v := 2) hx hb dR_writeWitness_117 (by decide) ?_
  refine lv_icmp_ne (tgt := 143) hx hb dR_writeWitness_118 rfl (fun hq => ?_) (fun hq => ?_)
  · have hf := ck_f hq hf
    refine lv_goto (tgt := 9) hx hb dR_writeWitness_143 rfl ?_
    exact hk9 _ _ _ _ _ h (lv_sub hl [0, 1] rfl) hf
  · have hf := ck_t hq hf
    refine lv_aload_n hx hb dR_writeWitness_121 rfl (lv_at hl 0 rfl) ?_
    refine ck_gr C h FR_first dR_writeWitness_122 ?_
    refine lv_iload hx hb dR_writeWitness_125 (lv_at hl 4 rfl) ?_
    obtain ⟨hg, hf⟩ := ck_gd_e hf
    refine ck_ai (x := (st 2 (x4).toNatClampNeg)) C h (show sh_R[2]? = some (.inr (0, 12)) from rfl) hg rfl dR_writeWitness_127 ?_
    refine lv_if_lt (tgt := 143) hx hb dR_writeWitness_128 rfl (fun hq => ?_) (fun hq => ?_)
    · have hf := ck_t hq hf
      refine lv_goto (tgt := 9) hx hb dR_writeWitness_143 rfl ?_
      exact hk9 _ _ _ _ _ h (lv_sub hl [0, 1] rfl) hf
    · have hf := ck_f hq hf
      refine lv_aload_n hx hb dR_writeWitness_131 rfl (lv_at hl 0 rfl) ?_
      refine ck_gr C h FR_spot dR_writeWitness_132 ?_
      refine lv_iload_n hx hb dR_writeWitness_135 rfl (lv_at hl 1 rfl) ?_
      refine lv_iconst (v := 2) hx hb dR_writeWitness_136 (by decide) ?_
      refine lv_iload_n hx hb dR_writeWitness_137 rfl (lv_at hl 2 rfl) ?_
      refine lv_imul hx hb dR_writeWitness_138 ?_
      obtain ⟨hg, hf⟩ := ck_gd_e hf
      refine ck_si C h (show sh_R[21]? = some (.inr (0, 20)) from rfl) hg dR_writeWitness_139 (fun H locs h => ?_)
      refine lv_iinc (k := 1) (v := (x1 + 1)) (lv' := [(1, .int (x1 + 1)), (0, .ref (ad 0)), (2, .int x2), (3, .int x3), (4, .int x4)]) hx hb dR_writeWitness_140 hl rfl rfl (by decide) rfl (fun ls hl => ?_)
      refine lv_goto (tgt := 9) hx hb dR_writeWitness_143 rfl ?_
      exact hk9 _ _ _ _ _ h (lv_sub hl [1, 0] rfl) hf
def fR_writeWitness_b54 (k9 : Int32 → ck_S → Option ck_S) (y0 : Int32) (x1 : Int32) (x2 : Int32) (x3 : Int32) (st : ck_S) : Option ck_S := (ck_gd (st 0 41) 32 (ck_gd (st 0 41) 32 (if x3 = (2 : Int32) then (ck_gd y0 12 (if (st 3 (y0).toNatClampNeg) < 0 then (fR_writeWitness_b116 k9 x1 x2 x3 y0 (ck_u (ck_u (ck_u st 32 ((st 0 41)).toNatClampNeg x3) 33 ((st 0 41)).toNatClampNeg y0) 0 41 ((st 0 41) + (1 : Int32)))) else (ck_gd x1 20 (fR_writeWitness_b116 k9 (x1 + 1) x2 x3 y0 (ck_u (ck_u (ck_u (ck_u st 32 ((st 0 41)).toNatClampNeg x3) 33 ((st 0 41)).toNatClampNeg y0) 0 41 ((st 0 41) + (1 : Int32))) 21 (x1).toNatClampNeg (((2 : Int32) * x2) + (1 : Int32))))))) else (fR_writeWitness_b116 k9 x1 x2 x3 y0 (ck_u (ck_u (ck_u st 32 ((st 0 41)).toNatClampNeg x3) 33 ((st 0 41)).toNatClampNeg y0) 0 41 ((st 0 41) + (1 : Int32)))))))
set_option maxRecDepth 100000 in
set_option maxHeartbeats 4000000 in
theorem BR_writeWitness_54 (C : ck_X cm_cl D cA bR_writeWitness 5 R_R 0 p R s m args c) {st0 : ck_S} (hret : ∀ (pc : Nat) (H : Heap) (locs : List Loc) (ls : Array Slot), decode bR_writeWitness pc = .ok (.return_, 1) → ck_AT sh_R cm_cl D cA ad H0 st0 H locs → W p l e R s m args below meth c H locs 0 0 Q (F0 m pc ls [])) {k9 : Int32 → ck_S → Option ck_S} (hk9 : ∀ (x1 : Int32) (st : ck_S) (H : Heap) (locs : List Loc) (ls : Array Slot), ck_AT sh_R cm_cl D cA ad H0 st H locs → lv_has ls 5 [(0, .ref (ad 0)), (1, .int x1)] → k9 x1 st = some st0 → W p l e R s m args below meth c H locs 0 0 Q (F0 m 9 ls [])) (y0 : Int32) (x1 : Int32) (x2 : Int32) (x3 : Int32) (st : ck_S) (H : Heap) (locs : List Loc) (ls : Array Slot) (h : ck_AT sh_R cm_cl D cA ad H0 st H locs) (hl : lv_has ls 5 [(0, .ref (ad 0)), (1, .int x1), (2, .int x2), (3, .int x3)]) (hf : fR_writeWitness_b54 k9 y0 x1 x2 x3 st = some st0) : W p l e R s m args below meth c H locs 0 0 Q (F0 m 54 ls [.int y0]) := by
  have C1 := C
  obtain ⟨hx, hb, hml, hown, hts, hK, hlv, hlo⟩ := C1
  unfold fR_writeWitness_b54 at hf
  refine lv_istore (lv' := [(4, .int y0), (0, .ref (ad 0)), (1, .int x1), (2, .int x2), (3, .int x3)]) hx hb dR_writeWitness_54 hl (by decide) rfl (fun ls hl => ?_)
  refine lv_aload_n hx hb dR_writeWitness_56 rfl (lv_at hl 1 rfl) ?_
  refine ck_gr C h FR_symbolKind dR_writeWitness_57 ?_
  refine lv_aload_n hx hb dR_writeWitness_60 rfl (lv_at hl 1 rfl) ?_
  refine ck_gi (x := (st 0 41)) C h FR_symbols rfl dR_writeWitness_61 ?_
  refine lv_iload_n hx hb dR_writeWitness_64 rfl (lv_at hl 4 rfl) ?_
  obtain ⟨hg, hf⟩ := ck_gd_e hf
  refine ck_si C h (show sh_R[32]? = some (.inr (0, 32)) from rfl) hg dR_writeWitness_65 (fun H locs h => ?_)
  refine lv_aload_n hx hb dR_writeWitness_66 rfl (lv_at hl 1 rfl) ?_
  refine ck_gr C h FR_symbol dR_writeWitness_67 ?_
  refine lv_aload_n hx hb dR_writeWitness_70 rfl (lv_at hl 1 rfl) ?_
  refine ck_gi (x := (st 0 41)) C h FR_symbols rfl dR_writeWitness_71 ?_
  refine lv_iload hx hb dR_writeWitness_74 (lv_at hl 0 rfl) ?_
  obtain ⟨hg, hf⟩ := ck_gd_e hf
  refine ck_si C h (show sh_R[33]? = some (.inr (0, 32)) from rfl) hg dR_writeWitness_76 (fun H locs h => ?_)
  refine lv_aload_n hx hb dR_writeWitness_77 rfl (lv_at hl 1 rfl) ?_
  refine lv_dup hx hb dR_writeWitness_78 rfl ?_
  refine ck_gi (x := (st 0 41)) C h FR_symbols rfl dR_writeWitness_79 ?_
  refine lv_iconst (v := 1) hx hb dR_writeWitness_82 (by decide) ?_
  refine lv_iadd hx hb dR_writeWitness_83 ?_
  refine ck_pi C h GR_symbols rfl rfl dR_writeWitness_84 (fun H locs h => ?_)
  refine lv_iload_n hx hb dR_writeWitness_87 rfl (lv_at hl 4 rfl) ?_
  refine lv_iconst (v := 2) hx hb dR_writeWitness_88 (by decide) ?_
  refine lv_icmp_ne (tgt := 116) hx hb dR_writeWitness_89 rfl (fun hq => ?_) (fun hq => ?_)
  · have hf := ck_f hq hf
    exact BR_writeWitness_116 C hret hk9 _ _ _ _ _ _ _ _ h (lv_sub hl [1, 2, 3, 4, 0] rfl) hf
  · have hf := ck_t hq hf
    refine lv_aload_n hx hb dR_writeWitness_92 rfl (lv_at hl 1 rfl) ?_
    refine ck_gr C h FR_second dR_writeWitness_93 ?_
    refine lv_iload hx hb dR_writeWitness_96 (lv_at hl 0 rfl) ?_
    obtain ⟨hg, hf⟩ := ck_gd_e hf
    refine ck_ai (x := (st 3 (y0).toNatClampNeg)) C h (show sh_R[3]? = some (.inr (0, 12)) from rfl) hg rfl dR_writeWitness_98 ?_
    refine lv_if_lt (tgt := 116) hx hb dR_writeWitness_99 rfl (fun hq => ?_) (fun hq => ?_)
    · have hf := ck_t hq hf
      exact BR_writeWitness_116 C hret hk9 _ _ _ _ _ _ _ _ h (lv_sub hl [1, 2, 3, 4, 0] rfl) hf
    · have hf := ck_f hq hf
      refine lv_aload_n hx hb dR_writeWitness_102 rfl (lv_at hl 1 rfl) ?_
      refine ck_gr C h FR_spot dR_writeWitness_103 ?_
      refine lv_iload_n hx hb dR_writeWitness_106 rfl (lv_at hl 2 rfl) ?_
      refine lv_iconst (v := 2) hx hb dR_writeWitness_107 (by decide) ?_
      refine lv_iload_n hx hb dR_writeWitness_108 rfl (lv_at hl 3 rfl) ?_
      refine lv_imul hx hb dR_writeWitness_109 ?_
      refine lv_iconst (v := 1) hx hb dR_writeWitness_110 (by decide) ?_
      refine lv_iadd hx hb dR_writeWitness_111 ?_
      obtain ⟨hg, hf⟩ := ck_gd_e hf
      refine ck_si C h (show sh_R[21]? = some (.inr (0, 20)) from rfl) hg dR_writeWitness_112 (fun H locs h => ?_)
      refine lv_iinc (k := 2) (v := (x1 + 1)) (lv' := [(1, .int (x1 + 1)), (4, .int y0), (0, .ref (ad 0)), (2, .int x2), (3, .int x3)]) hx hb dR_writeWitness_113 hl rfl rfl (by decide) rfl (fun ls hl => ?_)
      exact BR_writeWitness_116 C hret hk9 _ _ _ _ _ _ _ _ h (lv_sub hl [2, 0, 3, 4, 1] rfl) hf
def fR_writeWitness_b39 (k9 : Int32 → ck_S → Option ck_S) (y0 : Int32) (x1 : Int32) (x2 : Int32) (st : ck_S) : Option ck_S := (if y0 = 0 then (fR_writeWitness_b54 k9 (0 : Int32) x1 x2 y0 st) else (ck_gd x2 16 (fR_writeWitness_b54 k9 (st 35 (x2).toNatClampNeg) x1 x2 y0 st)))
set_option maxRecDepth 100000 in
set_option maxHeartbeats 4000000 in
theorem BR_writeWitness_39 (C : ck_X cm_cl D cA bR_writeWitness 5 R_R 0 p R s m args c) {st0 : ck_S} (hret : ∀ (pc : Nat) (H : Heap) (locs : List Loc) (ls : Array Slot), decode bR_writeWitness pc = .ok (.return_, 1) → ck_AT sh_R cm_cl D cA ad H0 st0 H locs → W p l e R s m args below meth c H locs 0 0 Q (F0 m pc ls [])) {k9 : Int32 → ck_S → Option ck_S} (hk9 : ∀ (x1 : Int32) (st : ck_S) (H : Heap) (locs : List Loc) (ls : Array Slot), ck_AT sh_R cm_cl D cA ad H0 st H locs → lv_has ls 5 [(0, .ref (ad 0)), (1, .int x1)] → k9 x1 st = some st0 → W p l e R s m args below meth c H locs 0 0 Q (F0 m 9 ls [])) (y0 : Int32) (x1 : Int32) (x2 : Int32) (st : ck_S) (H : Heap) (locs : List Loc) (ls : Array Slot) (h : ck_AT sh_R cm_cl D cA ad H0 st H locs) (hl : lv_has ls 5 [(0, .ref (ad 0)), (1, .int x1), (2, .int x2)]) (hf : fR_writeWitness_b39 k9 y0 x1 x2 st = some st0) : W p l e R s m args below meth c H locs 0 0 Q (F0 m 39 ls [.int y0]) := by
  have C1 := C
  obtain ⟨hx, hb, hml, hown, hts, hK, hlv, hlo⟩ := C1
  unfold fR_writeWitness_b39 at hf
  refine lv_istore_n (lv' := [(3, .int y0), (0, .ref (ad 0)), (1, .int x1), (2, .int x2)]) hx hb dR_writeWitness_39 rfl hl (by decide) rfl (fun ls hl => ?_)
  refine lv_iload_n hx hb dR_writeWitness_40 rfl (lv_at hl 0 rfl) ?_
  refine lv_if_ne (tgt := 48) hx hb dR_writeWitness_41 rfl (fun hq => ?_) (fun hq => ?_)
  · have hf := ck_f hq hf
    refine lv_aload_n hx hb dR_writeWitness_48 rfl (lv_at hl 1 rfl) ?_
    refine ck_gr C h FR_way dR_writeWitness_49 ?_
    refine lv_iload_n hx hb dR_writeWitness_52 rfl (lv_at hl 3 rfl) ?_
    obtain ⟨hg, hf⟩ := ck_gd_e hf
    refine ck_ai (x := (st 35 (x2).toNatClampNeg)) C h (show sh_R[35]? = some (.inr (0, 16)) from rfl) hg rfl dR_writeWitness_53 ?_
    exact BR_writeWitness_54 C hret hk9 _ _ _ _ _ _ _ _ h (lv_sub hl [1, 2, 3, 0] rfl) hf
  · have hf := ck_t hq hf
    refine lv_iconst (v := 0) hx hb dR_writeWitness_44 (by decide) ?_
    refine lv_goto (tgt := 54) hx hb dR_writeWitness_45 rfl ?_
    exact BR_writeWitness_54 C hret hk9 _ _ _ _ _ _ _ _ h (lv_sub hl [1, 2, 3, 0] rfl) hf
def fR_writeWitness_l9 : Nat → Int32 → ck_S → Option ck_S
  | 0, _, _ => none
  | n + 1, x1, st => (if x1 ≤ 0 then (some st) else (ck_gd (x1 + (-1)) 20 (if (16 : Int32) ≤ (st 21 ((x1 + (-1))).toNatClampNeg) then (fR_writeWitness_b39 (fR_writeWitness_l9 n) (0 : Int32) (x1 + (-1)) (st 21 ((x1 + (-1))).toNatClampNeg) st) else (ck_gd (st 21 ((x1 + (-1))).toNatClampNeg) 16 (fR_writeWitness_b39 (fR_writeWitness_l9 n) (st 34 ((st 21 ((x1 + (-1))).toNatClampNeg)).toNatClampNeg) (x1 + (-1)) (st 21 ((x1 + (-1))).toNatClampNeg) st)))))
set_option maxRecDepth 100000 in
set_option maxHeartbeats 4000000 in
theorem BR_writeWitness_9 (C : ck_X cm_cl D cA bR_writeWitness 5 R_R 0 p R s m args c) {st0 : ck_S} (hret : ∀ (pc : Nat) (H : Heap) (locs : List Loc) (ls : Array Slot), decode bR_writeWitness pc = .ok (.return_, 1) → ck_AT sh_R cm_cl D cA ad H0 st0 H locs → W p l e R s m args below meth c H locs 0 0 Q (F0 m pc ls [])) : ∀ (n : Nat) (x1 : Int32) (st : ck_S) (H : Heap) (locs : List Loc) (ls : Array Slot), ck_AT sh_R cm_cl D cA ad H0 st H locs → lv_has ls 5 [(0, .ref (ad 0)), (1, .int x1)] → fR_writeWitness_l9  n x1 st = some st0 → W p l e R s m args below meth c H locs 0 0 Q (F0 m 9 ls []) := by
  have C1 := C
  obtain ⟨hx, hb, hml, hown, hts, hK, hlv, hlo⟩ := C1
  intro n
  induction n with
  | zero => intro _ _ _ _ _ _ _ hf; cases hf
  | succ n ih =>
    intro x1 st H locs ls h hl hf
    rw [fR_writeWitness_l9] at hf
    refine lv_iload_n hx hb dR_writeWitness_9 rfl (lv_at hl 1 rfl) ?_
    refine lv_if_le (tgt := 146) hx hb dR_writeWitness_10 rfl (fun hq => ?_) (fun hq => ?_)
    · have hf := ck_t hq hf
      exact ck_rv hf hret h dR_writeWitness_146
    · have hf := ck_f hq hf
      refine lv_iinc (k := 1) (v := (x1 + (-1))) (lv' := [(1, .int (x1 + (-1))), (0, .ref (ad 0))]) hx hb dR_writeWitness_13 hl rfl rfl (by decide) rfl (fun ls hl => ?_)
      refine lv_aload_n hx hb dR_writeWitness_16 rfl (lv_at hl 1 rfl) ?_
      refine ck_gr C h FR_spot dR_writeWitness_17 ?_
      refine lv_iload_n hx hb dR_writeWitness_20 rfl (lv_at hl 0 rfl) ?_
      obtain ⟨hg, hf⟩ := ck_gd_e hf
      refine ck_ai (x := (st 21 ((x1 + (-1))).toNatClampNeg)) C h (show sh_R[21]? = some (.inr (0, 20)) from rfl) hg rfl dR_writeWitness_21 ?_
      refine lv_istore_n (lv' := [(2, .int (st 21 ((x1 + (-1))).toNatClampNeg)), (1, .int (x1 + (-1))), (0, .ref (ad 0))]) hx hb dR_writeWitness_22 rfl hl (by decide) rfl (fun ls hl => ?_)
      refine lv_iload_n hx hb dR_writeWitness_23 rfl (lv_at hl 0 rfl) ?_
      refine lv_bipush (v := 16) hx hb dR_writeWitness_24 (by decide) ?_
      refine lv_icmp_ge (tgt := 38) hx hb dR_writeWitness_26 rfl (fun hq => ?_) (fun hq => ?_)
      · have hf := ck_t hq hf
        refine lv_iconst (v := 0) hx hb dR_writeWitness_38 (by decide) ?_
        exact BR_writeWitness_39 C hret ih _ _ _ _ _ _ _ h (lv_sub hl [2, 1, 0] rfl) hf
      · have hf := ck_f hq hf
        refine lv_aload_n hx hb dR_writeWitness_29 rfl (lv_at hl 2 rfl) ?_
        refine ck_gr C h FR_wayKind dR_writeWitness_30 ?_
        refine lv_iload_n hx hb dR_writeWitness_33 rfl (lv_at hl 0 rfl) ?_
        obtain ⟨hg, hf⟩ := ck_gd_e hf
        refine ck_ai (x := (st 34 ((st 21 ((x1 + (-1))).toNatClampNeg)).toNatClampNeg)) C h (show sh_R[34]? = some (.inr (0, 16)) from rfl) hg rfl dR_writeWitness_34 ?_
        refine lv_goto (tgt := 39) hx hb dR_writeWitness_35 rfl ?_
        exact BR_writeWitness_39 C hret ih _ _ _ _ _ _ _ h (lv_sub hl [2, 1, 0] rfl) hf
def fR_writeWitness (st : ck_S) : Option ck_S := (ck_gd (0 : Int32) 20 (fR_writeWitness_l9  4096 (1 : Int32) (ck_u st 21 ((0 : Int32)).toNatClampNeg (1 : Int32))))
set_option maxRecDepth 100000 in
set_option maxHeartbeats 4000000 in
theorem cR_writeWitness (l : Launch) (D : va_G) (cA : Nat → ClassId) (ad : Nat → Nat) {st : ck_S} {st0 : ck_S} (hf : fR_writeWitness st = some st0) : Met l yR_writeWitness (.code yR_writeWitness bR_writeWitness 5 none :: ck_T) (ck_R 0) (va_Pc [.ref (ad 0)] (ck_P sh_R cm_cl D cA ad st)) (va_Qv (fun u => u = st0) (ck_P sh_R cm_cl D cA ad) (ck_A ad sh_R.length)) 0 0 (ck_A ad sh_R.length) := by
  refine ck_met_v (own := R_R) (by decide +kernel) rfl (Nat.le_of_ble_eq_true rfl) (fun p e R s m args below meth c H0 Q ls C hret h hl => ?_)
  have C1 := C
  obtain ⟨hx, hb, hml, hown, hts, hK, hlv, hlo⟩ := C1
  have hl : lv_has ls 5 [(0, .ref (ad 0))] := hl
  unfold fR_writeWitness at hf
  refine lv_aload_n hx hb dR_writeWitness_0 rfl (lv_at hl 0 rfl) ?_
  refine ck_gr C h FR_spot dR_writeWitness_1 ?_
  refine lv_iconst (v := 0) hx hb dR_writeWitness_4 (by decide) ?_
  refine lv_iconst (v := 1) hx hb dR_writeWitness_5 (by decide) ?_
  obtain ⟨hg, hf⟩ := ck_gd_e hf
  refine ck_si C h (show sh_R[21]? = some (.inr (0, 20)) from rfl) hg dR_writeWitness_6 (fun H locs h => ?_)
  refine lv_iconst (v := 1) hx hb dR_writeWitness_7 (by decide) ?_
  refine lv_istore_n (lv' := [(1, .int (1 : Int32)), (0, .ref (ad 0))]) hx hb dR_writeWitness_8 rfl hl (by decide) rfl (fun ls hl => ?_)
  exact BR_writeWitness_9 C hret  4096 _ _ _ _ _ h (lv_sub hl [1, 0] rfl) hf
def fR_findWitness_l47 (k89 : Int32 → ck_S → Option ck_S) : Nat → Int32 → Int32 → ck_S → Option ck_S
  | 0, _, _, _ => none
  | n + 1, x1, x2, st => (ck_gd x1 60 (if (st 28 (x1).toNatClampNeg) ≤ x2 then (k89 x1 st) else (ck_gd x1 60 (ck_gd x1 60 (ck_gd ((st 27 (x1).toNatClampNeg) + x2) 60 (ck_gd x1 60 (fR_findWitness_l47 k89 n x1 (x2 + 1) (ck_u st 31 (x1).toNatClampNeg ((st 31 (x1).toNatClampNeg) ||| (st 31 (((st 27 (x1).toNatClampNeg) + x2)).toNatClampNeg))))))))))
set_option maxRecDepth 100000 in
set_option maxHeartbeats 4000000 in
theorem BR_findWitness_47 (C : ck_X cm_cl D cA bR_findWitness 4 R_R 1 p R s m args c) {st0 : ck_S} (hret : ∀ (pc : Nat) (H : Heap) (locs : List Loc) (ls : Array Slot), decode bR_findWitness pc = .ok (.return_, 1) → ck_AT sh_R cm_cl D cA ad H0 st0 H locs → W p l e R s m args below meth c H locs 0 0 Q (F0 m pc ls [])) {k89 : Int32 → ck_S → Option ck_S} (hk89 : ∀ (x1 : Int32) (st : ck_S) (H : Heap) (locs : List Loc) (ls : Array Slot), ck_AT sh_R cm_cl D cA ad H0 st H locs → lv_has ls 4 [(0, .ref (ad 0)), (1, .int x1)] → k89 x1 st = some st0 → W p l e R s m args below meth c H locs 0 0 Q (F0 m 89 ls [])) : ∀ (n : Nat) (x1 : Int32) (x2 : Int32) (st : ck_S) (H : Heap) (locs : List Loc) (ls : Array Slot), ck_AT sh_R cm_cl D cA ad H0 st H locs → lv_has ls 4 [(0, .ref (ad 0)), (1, .int x1), (2, .int x2)] → fR_findWitness_l47 k89 n x1 x2 st = some st0 → W p l e R s m args below meth c H locs 0 0 Q (F0 m 47 ls []) := by
  have C1 := C
  obtain ⟨hx, hb, hml, hown, hts, hK, hlv, hlo⟩ := C1
  intro n
  induction n with
  | zero => intro _ _ _ _ _ _ _ _ hf; cases hf
  | succ n ih =>
    intro x1 x2 st H locs ls h hl hf
    rw [fR_findWitness_l47] at hf
    refine lv_iload_n hx hb dR_findWitness_47 rfl (lv_at hl 2 rfl) ?_
    refine lv_aload_n hx hb dR_findWitness_48 rfl (lv_at hl 0 rfl) ?_
    refine ck_gr C h FR_many dR_findWitness_49 ?_
    refine lv_iload_n hx hb dR_findWitness_52 rfl (lv_at hl 1 rfl) ?_
    obtain ⟨hg, hf⟩ := ck_gd_e hf
    refine ck_ai (x := (st 28 (x1).toNatClampNeg)) C h (show sh_R[28]? = some (.inr (0, 60)) from rfl) hg rfl dR_findWitness_53 ?_
    refine lv_icmp_ge (tgt := 89) hx hb dR_findWitness_54 rfl (fun hq => ?_) (fun hq => ?_)
    · have hf := ck_t hq hf
      exact hk89 _ _ _ _ _ h (lv_sub hl [0, 1] rfl) hf
    · have hf := ck_f hq hf
      refine lv_aload_n hx hb dR_findWitness_57 rfl (lv_at hl 0 rfl) ?_
      refine ck_gr C h FR_work dR_findWitness_58 ?_
      refine lv_iload_n hx hb dR_findWitness_61 rfl (lv_at hl 1 rfl) ?_
      refine lv_aload_n hx hb dR_findWitness_62 rfl (lv_at hl 0 rfl) ?_
      refine ck_gr C h FR_work dR_findWitness_63 ?_
      refine lv_iload_n hx hb dR_findWitness_66 rfl (lv_at hl 1 rfl) ?_
      obtain ⟨hg, hf⟩ := ck_gd_e hf
      refine ck_ai (x := (st 31 (x1).toNatClampNeg)) C h (show sh_R[31]? = some (.inr (0, 60)) from rfl) hg rfl dR_findWitness_67 ?_
      refine lv_aload_n hx hb dR_findWitness_68 rfl (lv_at hl 0 rfl) ?_
      refine ck_gr C h FR_work dR_findWitness_69 ?_
      refine lv_aload_n hx hb dR_findWitness_72 rfl (lv_at hl 0 rfl) ?_
      refine ck_gr C h FR_from dR_findWitness_73 ?_
      refine lv_iload_n hx hb dR_findWitness_76 rfl (lv_at hl 1 rfl) ?_
      obtain ⟨hg, hf⟩ := ck_gd_e hf
      refine ck_ai (x := (st 27 (x1).toNatClampNeg)) C h (show sh_R[27]? = some (.inr (0, 60)) from rfl) hg rfl dR_findWitness_77 ?_
      refine lv_iload_n hx hb dR_findWitness_78 rfl (lv_at hl 2 rfl) ?_
      refine lv_iadd hx hb dR_findWitness_79 ?_
      obtain ⟨hg, hf⟩ := ck_gd_e hf
      refine ck_ai (x := (st 31 (((st 27 (x1).toNatClampNeg) + x2)).toNatClampNeg)) C h (show sh_R[31]? = some (.inr (0, 60)) from rfl) hg rfl dR_findWitness_80 ?_
      refine lv_ior hx hb dR_findWitness_81 ?_
      obtain ⟨hg, hf⟩ := ck_gd_e hf
      refine ck_si C h (show sh_R[31]? = some (.inr (0, 60)) from rfl) hg dR_findWitness_82 (fun H locs h => ?_)
      refine lv_iinc (k := 2) (v := (x2 + 1)) (lv' := [(2, .int (x2 + 1)), (0, .ref (ad 0)), (1, .int x1)]) hx hb dR_findWitness_83 hl rfl rfl (by decide) rfl (fun ls hl => ?_)
      refine lv_goto (tgt := 47) hx hb dR_findWitness_86 rfl ?_
      exact ih _ _ _ _ _ _ h (lv_sub hl [1, 2, 0] rfl) hf
def fR_findWitness_b89 (k12 : Int32 → ck_S → Option ck_S) (k95 : ck_S → Option ck_S) (x1 : Int32) (st : ck_S) : Option ck_S := (k12 (x1 + (-1)) st)
set_option maxRecDepth 100000 in
set_option maxHeartbeats 4000000 in
theorem BR_findWitness_89 (C : ck_X cm_cl D cA bR_findWitness 4 R_R 1 p R s m args c) {st0 : ck_S} (hret : ∀ (pc : Nat) (H : Heap) (locs : List Loc) (ls : Array Slot), decode bR_findWitness pc = .ok (.return_, 1) → ck_AT sh_R cm_cl D cA ad H0 st0 H locs → W p l e R s m args below meth c H locs 0 0 Q (F0 m pc ls [])) {k12 : Int32 → ck_S → Option ck_S} (hk12 : ∀ (x1 : Int32) (st : ck_S) (H : Heap) (locs : List Loc) (ls : Array Slot), ck_AT sh_R cm_cl D cA ad H0 st H locs → lv_has ls 4 [(0, .ref (ad 0)), (1, .int x1)] → k12 x1 st = some st0 → W p l e R s m args below meth c H locs 0 0 Q (F0 m 12 ls [])) {k95 : ck_S → Option ck_S} (hk95 : ∀ (st : ck_S) (H : Heap) (locs : List Loc) (ls : Array Slot), ck_AT sh_R cm_cl D cA ad H0 st H locs → lv_has ls 4 [(0, .ref (ad 0))] → k95 st = some st0 → W p l e R s m args below meth c H locs 0 0 Q (F0 m 95 ls [])) (x1 : Int32) (st : ck_S) (H : Heap) (locs : List Loc) (ls : Array Slot) (h : ck_AT sh_R cm_cl D cA ad H0 st H locs) (hl : lv_has ls 4 [(0, .ref (ad 0)), (1, .int x1)]) (hf : fR_findWitness_b89 k12 k95 x1 st = some st0) : W p l e R s m args below meth c H locs 0 0 Q (F0 m 89 ls []) := by
  have C1 := C
  obtain ⟨hx, hb, hml, hown, hts, hK, hlv, hlo⟩ := C1
  unfold fR_findWitness_b89 at hf
  refine lv_iinc (k := 1) (v := (x1 + (-1))) (lv' := [(1, .int (x1 + (-1))), (0, .ref (ad 0))]) hx hb dR_findWitness_89 hl rfl rfl (by decide) rfl (fun ls hl => ?_)
  refine lv_goto (tgt := 12) hx hb dR_findWitness_92 rfl ?_
  exact hk12 _ _ _ _ _ h (lv_sub hl [1, 0] rfl) hf
def fR_findWitness_l12 (k95 : ck_S → Option ck_S) : Nat → Int32 → ck_S → Option ck_S
  | 0, _, _ => none
  | n + 1, x1, st => (if x1 < 0 then (k95 st) else (ck_gd x1 60 (if (st 24 (x1).toNatClampNeg) = 0 then (ck_gd x1 60 (if 0 ≤ (st 26 (x1).toNatClampNeg) then (ck_gd x1 60 (fR_findWitness_l47 (fun x1 st => (fR_findWitness_b89 (fR_findWitness_l12 k95 n) k95 x1 st)) 4096 x1 (0 : Int32) (ck_u st 31 (x1).toNatClampNeg (0 : Int32)))) else (ck_gd x1 60 (fR_findWitness_l47 (fun x1 st => (fR_findWitness_b89 (fR_findWitness_l12 k95 n) k95 x1 st)) 4096 x1 (0 : Int32) (ck_u st 31 (x1).toNatClampNeg (1 : Int32)))))) else (ck_gd x1 60 (fR_findWitness_l47 (fun x1 st => (fR_findWitness_b89 (fR_findWitness_l12 k95 n) k95 x1 st)) 4096 x1 (0 : Int32) (ck_u st 31 (x1).toNatClampNeg (0 : Int32)))))))
set_option maxRecDepth 100000 in
set_option maxHeartbeats 4000000 in
theorem BR_findWitness_12 (C : ck_X cm_cl D cA bR_findWitness 4 R_R 1 p R s m args c) {st0 : ck_S} (hret : ∀ (pc : Nat) (H : Heap) (locs : List Loc) (ls : Array Slot), decode bR_findWitness pc = .ok (.return_, 1) → ck_AT sh_R cm_cl D cA ad H0 st0 H locs → W p l e R s m args below meth c H locs 0 0 Q (F0 m pc ls [])) {k95 : ck_S → Option ck_S} (hk95 : ∀ (st : ck_S) (H : Heap) (locs : List Loc) (ls : Array Slot), ck_AT sh_R cm_cl D cA ad H0 st H locs → lv_has ls 4 [(0, .ref (ad 0))] → k95 st = some st0 → W p l e R s m args below meth c H locs 0 0 Q (F0 m 95 ls [])) : ∀ (n : Nat) (x1 : Int32) (st : ck_S) (H : Heap) (locs : List Loc) (ls : Array Slot), ck_AT sh_R cm_cl D cA ad H0 st H locs → lv_has ls 4 [(0, .ref (ad 0)), (1, .int x1)] → fR_findWitness_l12 k95 n x1 st = some st0 → W p l e R s m args below meth c H locs 0 0 Q (F0 m 12 ls []) := by
  have C1 := C
  obtain ⟨hx, hb, hml, hown, hts, hK, hlv, hlo⟩ := C1
  intro n
  induction n with
  | zero => intro _ _ _ _ _ _ _ hf; cases hf
  | succ n ih =>
    intro x1 st H locs ls h hl hf
    rw [fR_findWitness_l12] at hf
    refine lv_iload_n hx hb dR_findWitness_12 rfl (lv_at hl 1 rfl) ?_
    refine lv_if_lt (tgt := 95) hx hb dR_findWitness_13 rfl (fun hq => ?_) (fun hq => ?_)
    · have hf := ck_t hq hf
      exact hk95 _ _ _ _ h (lv_sub hl [0] rfl) hf
    · have hf := ck_f hq hf
      refine lv_aload_n hx hb dR_findWitness_16 rfl (lv_at hl 0 rfl) ?_
      refine ck_gr C h FR_work dR_findWitness_17 ?_
      refine lv_iload_n hx hb dR_findWitness_20 rfl (lv_at hl 1 rfl) ?_
      refine lv_aload_n hx hb dR_findWitness_21 rfl (lv_at hl 0 rfl) ?_
      refine ck_gr C h FR_place dR_findWitness_22 ?_
      refine lv_iload_n hx hb dR_findWitness_25 rfl (lv_at hl 1 rfl) ?_
      obtain ⟨hg, hf⟩ := ck_gd_e hf
      refine ck_ai (x := (st 24 (x1).toNatClampNeg)) C h (show sh_R[24]? = some (.inr (0, 60)) from rfl) hg rfl dR_findWitness_26 ?_
      refine lv_if_ne (tgt := 43) hx hb dR_findWitness_27 rfl (fun hq => ?_) (fun hq => ?_)
      · have hf := ck_f hq hf
        refine lv_iconst (v := 0) hx hb dR_findWitness_43 (by decide) ?_
        obtain ⟨hg, hf⟩ := ck_gd_e hf
        refine ck_si C h (show sh_R[31]? = some (.inr (0, 60)) from rfl) hg dR_findWitness_44 (fun H locs h => ?_)
        refine lv_iconst (v := 0) hx hb dR_findWitness_45 (by decide) ?_
        refine lv_istore_n (lv' := [(2, .int (0 : Int32)), (0, .ref (ad 0)), (1, .int x1)]) hx hb dR_findWitness_46 rfl hl (by decide) rfl (fun ls hl => ?_)
        exact BR_findWitness_47 C hret (fun x1 st H locs ls h hl hf => by
            exact BR_findWitness_89 C hret ih hk95 _ _ _ _ _ h (lv_sub hl [0, 1] rfl) hf) 4096 _ _ _ _ _ _ h (lv_sub hl [1, 2, 0] rfl) hf
      · have hf := ck_t hq hf
        refine lv_aload_n hx hb dR_findWitness_30 rfl (lv_at hl 0 rfl) ?_
        refine ck_gr C h FR_leaf dR_findWitness_31 ?_
        refine lv_iload_n hx hb dR_findWitness_34 rfl (lv_at hl 1 rfl) ?_
        obtain ⟨hg, hf⟩ := ck_gd_e hf
        refine ck_ai (x := (st 26 (x1).toNatClampNeg)) C h (show sh_R[26]? = some (.inr (0, 60)) from rfl) hg rfl dR_findWitness_35 ?_
        refine lv_if_ge (tgt := 43) hx hb dR_findWitness_36 rfl (fun hq => ?_) (fun hq => ?_)
        · have hf := ck_t hq hf
          refine lv_iconst (v := 0) hx hb dR_findWitness_43 (by decide) ?_
          obtain ⟨hg, hf⟩ := ck_gd_e hf
          refine ck_si C h (show sh_R[31]? = some (.inr (0, 60)) from rfl) hg dR_findWitness_44 (fun H locs h => ?_)
          refine lv_iconst (v := 0) hx hb dR_findWitness_45 (by decide) ?_
          refine lv_istore_n (lv' := [(2, .int (0 : Int32)), (0, .ref (ad 0)), (1, .int x1)]) hx hb dR_findWitness_46 rfl hl (by decide) rfl (fun ls hl => ?_)
          exact BR_findWitness_47 C hret (fun x1 st H locs ls h hl hf => by
              exact BR_findWitness_89 C hret ih hk95 _ _ _ _ _ h (lv_sub hl [0, 1] rfl) hf) 4096 _ _ _ _ _ _ h (lv_sub hl [1, 2, 0] rfl) hf
        · have hf := ck_f hq hf
          refine lv_iconst (v := 1) hx hb dR_findWitness_39 (by decide) ?_
          refine lv_goto (tgt := 44) hx hb dR_findWitness_40 rfl ?_
          obtain ⟨hg, hf⟩ := ck_gd_e hf
          refine ck_si C h (show sh_R[31]? = some (.inr (0, 60)) from rfl) hg dR_findWitness_44 (fun H locs h => ?_)
          refine lv_iconst (v := 0) hx hb dR_findWitness_45 (by decide) ?_
          refine lv_istore_n (lv' := [(2, .int (0 : Int32)), (0, .ref (ad 0)), (1, .int x1)]) hx hb dR_findWitness_46 rfl hl (by decide) rfl (fun ls hl => ?_)
          exact BR_findWitness_47 C hret (fun x1 st H locs ls h hl hf => by
              exact BR_findWitness_89 C hret ih hk95 _ _ _ _ _ h (lv_sub hl [0, 1] rfl) hf) 4096 _ _ _ _ _ _ h (lv_sub hl [1, 2, 0] rfl) hf
def fR_findWitness_l107 (k126 : ck_S → Option ck_S) : Nat → Int32 → ck_S → Option ck_S
  | 0, _, _ => none
  | n + 1, x1, st => (if (16 : Int32) ≤ x1 then (k126 st) else (ck_gd x1 16 (fR_findWitness_l107 k126 n (x1 + 1) (ck_u st 34 (x1).toNatClampNeg (0 : Int32)))))
set_option maxRecDepth 100000 in
set_option maxHeartbeats 4000000 in
theorem BR_findWitness_107 (C : ck_X cm_cl D cA bR_findWitness 4 R_R 1 p R s m args c) {st0 : ck_S} (hret : ∀ (pc : Nat) (H : Heap) (locs : List Loc) (ls : Array Slot), decode bR_findWitness pc = .ok (.return_, 1) → ck_AT sh_R cm_cl D cA ad H0 st0 H locs → W p l e R s m args below meth c H locs 0 0 Q (F0 m pc ls [])) {k126 : ck_S → Option ck_S} (hk126 : ∀ (st : ck_S) (H : Heap) (locs : List Loc) (ls : Array Slot), ck_AT sh_R cm_cl D cA ad H0 st H locs → lv_has ls 4 [(0, .ref (ad 0))] → k126 st = some st0 → W p l e R s m args below meth c H locs 0 0 Q (F0 m 126 ls [])) : ∀ (n : Nat) (x1 : Int32) (st : ck_S) (H : Heap) (locs : List Loc) (ls : Array Slot), ck_AT sh_R cm_cl D cA ad H0 st H locs → lv_has ls 4 [(0, .ref (ad 0)), (1, .int x1)] → fR_findWitness_l107 k126 n x1 st = some st0 → W p l e R s m args below meth c H locs 0 0 Q (F0 m 107 ls []) := by
  have C1 := C
  obtain ⟨hx, hb, hml, hown, hts, hK, hlv, hlo⟩ := C1
  intro n
  induction n with
  | zero => intro _ _ _ _ _ _ _ hf; cases hf
  | succ n ih =>
    intro x1 st H locs ls h hl hf
    rw [fR_findWitness_l107] at hf
    refine lv_iload_n hx hb dR_findWitness_107 rfl (lv_at hl 1 rfl) ?_
    refine lv_bipush (v := 16) hx hb dR_findWitness_108 (by decide) ?_
    refine lv_icmp_ge (tgt := 126) hx hb dR_findWitness_110 rfl (fun hq => ?_) (fun hq => ?_)
    · have hf := ck_t hq hf
      exact hk126 _ _ _ _ h (lv_sub hl [0] rfl) hf
    · have hf := ck_f hq hf
      refine lv_aload_n hx hb dR_findWitness_113 rfl (lv_at hl 0 rfl) ?_
      refine ck_gr C h FR_wayKind dR_findWitness_114 ?_
      refine lv_iload_n hx hb dR_findWitness_117 rfl (lv_at hl 1 rfl) ?_
      refine lv_iconst (v := 0) hx hb dR_findWitness_118 (by decide) ?_
      obtain ⟨hg, hf⟩ := ck_gd_e hf
      refine ck_si C h (show sh_R[34]? = some (.inr (0, 16)) from rfl) hg dR_findWitness_119 (fun H locs h => ?_)
      refine lv_iinc (k := 1) (v := (x1 + 1)) (lv' := [(1, .int (x1 + 1)), (0, .ref (ad 0))]) hx hb dR_findWitness_120 hl rfl rfl (by decide) rfl (fun ls hl => ?_)
      refine lv_goto (tgt := 107) hx hb dR_findWitness_123 rfl ?_
      exact ih _ _ _ _ _ h (lv_sub hl [1, 0] rfl) hf
def fR_findWitness_l144 (k159 : Int32 → Int32 → ck_S → Option ck_S) : Nat → Int32 → Int32 → ck_S → Option ck_S
  | 0, _, _, _ => none
  | n + 1, x1, x2, st => (ck_gd x2 60 (if (st 31 (x2).toNatClampNeg) = 0 then (fR_findWitness_l144 k159 n x1 (x2 + 1) st) else (k159 x1 x2 st)))
set_option maxRecDepth 100000 in
set_option maxHeartbeats 4000000 in
theorem BR_findWitness_144 (C : ck_X cm_cl D cA bR_findWitness 4 R_R 1 p R s m args c) {st0 : ck_S} (hret : ∀ (pc : Nat) (H : Heap) (locs : List Loc) (ls : Array Slot), decode bR_findWitness pc = .ok (.return_, 1) → ck_AT sh_R cm_cl D cA ad H0 st0 H locs → W p l e R s m args below meth c H locs 0 0 Q (F0 m pc ls [])) {k159 : Int32 → Int32 → ck_S → Option ck_S} (hk159 : ∀ (x1 : Int32) (x2 : Int32) (st : ck_S) (H : Heap) (locs : List Loc) (ls : Array Slot), ck_AT sh_R cm_cl D cA ad H0 st H locs → lv_has ls 4 [(0, .ref (ad 0)), (1, .int x1), (2, .int x2)] → k159 x1 x2 st = some st0 → W p l e R s m args below meth c H locs 0 0 Q (F0 m 159 ls [])) : ∀ (n : Nat) (x1 : Int32) (x2 : Int32) (st : ck_S) (H : Heap) (locs : List Loc) (ls : Array Slot), ck_AT sh_R cm_cl D cA ad H0 st H locs → lv_has ls 4 [(0, .ref (ad 0)), (1, .int x1), (2, .int x2)] → fR_findWitness_l144 k159 n x1 x2 st = some st0 → W p l e R s m args below meth c H locs 0 0 Q (F0 m 144 ls []) := by
  have C1 := C
  obtain ⟨hx, hb, hml, hown, hts, hK, hlv, hlo⟩ := C1
  intro n
  induction n with
  | zero => intro _ _ _ _ _ _ _ _ hf; cases hf
  | succ n ih =>
    intro x1 x2 st H locs ls h hl hf
    rw [fR_findWitness_l144] at hf
    refine lv_aload_n hx hb dR_findWitness_144 rfl (lv_at hl 0 rfl) ?_
    refine ck_gr C h FR_work dR_findWitness_145 ?_
    refine lv_iload_n hx hb dR_findWitness_148 rfl (lv_at hl 2 rfl) ?_
    obtain ⟨hg, hf⟩ := ck_gd_e hf
    refine ck_ai (x := (st 31 (x2).toNatClampNeg)) C h (show sh_R[31]? = some (.inr (0, 60)) from rfl) hg rfl dR_findWitness_149 ?_
    refine lv_if_ne (tgt := 159) hx hb dR_findWitness_150 rfl (fun hq => ?_) (fun hq => ?_)
    · have hf := ck_f hq hf
      exact hk159 _ _ _ _ _ _ h (lv_sub hl [0, 1, 2] rfl) hf
    · have hf := ck_t hq hf
      refine lv_iinc (k := 2) (v := (x2 + 1)) (lv' := [(2, .int (x2 + 1)), (0, .ref (ad 0)), (1, .int x1)]) hx hb dR_findWitness_153 hl rfl rfl (by decide) rfl (fun ls hl => ?_)
      refine lv_goto (tgt := 144) hx hb dR_findWitness_156 rfl ?_
      exact ih _ _ _ _ _ _ h (lv_sub hl [1, 2, 0] rfl) hf
def fR_findWitness_b216 (k128 : Int32 → ck_S → Option ck_S) (k234 : ck_S → Option ck_S) (y0 : Int32) (y1 : Int32) (x1 : Int32) (x2 : Int32) (x3 : Int32) (st : ck_S) : Option ck_S := (ck_gd y1 16 (ck_gd x1 60 (ck_gd (st 24 (x1).toNatClampNeg) 16 (k128 x2 (ck_u (ck_u st 34 (y1).toNatClampNeg y0) 35 ((st 24 (x1).toNatClampNeg)).toNatClampNeg x3)))))
set_option maxRecDepth 100000 in
set_option maxHeartbeats 4000000 in
theorem BR_findWitness_216 (C : ck_X cm_cl D cA bR_findWitness 4 R_R 1 p R s m args c) {st0 : ck_S} (hret : ∀ (pc : Nat) (H : Heap) (locs : List Loc) (ls : Array Slot), decode bR_findWitness pc = .ok (.return_, 1) → ck_AT sh_R cm_cl D cA ad H0 st0 H locs → W p l e R s m args below meth c H locs 0 0 Q (F0 m pc ls [])) {k128 : Int32 → ck_S → Option ck_S} (hk128 : ∀ (x1 : Int32) (st : ck_S) (H : Heap) (locs : List Loc) (ls : Array Slot), ck_AT sh_R cm_cl D cA ad H0 st H locs → lv_has ls 4 [(0, .ref (ad 0)), (1, .int x1)] → k128 x1 st = some st0 → W p l e R s m args below meth c H locs 0 0 Q (F0 m 128 ls [])) {k234 : ck_S → Option ck_S} (hk234 : ∀ (st : ck_S) (H : Heap) (locs : List Loc) (ls : Array Slot), ck_AT sh_R cm_cl D cA ad H0 st H locs → lv_has ls 4 [(0, .ref (ad 0))] → k234 st = some st0 → W p l e R s m args below meth c H locs 0 0 Q (F0 m 234 ls [])) (y0 : Int32) (y1 : Int32) (x1 : Int32) (x2 : Int32) (x3 : Int32) (st : ck_S) (H : Heap) (locs : List Loc) (ls : Array Slot) (h : ck_AT sh_R cm_cl D cA ad H0 st H locs) (hl : lv_has ls 4 [(0, .ref (ad 0)), (1, .int x1), (2, .int x2), (3, .int x3)]) (hf : fR_findWitness_b216 k128 k234 y0 y1 x1 x2 x3 st = some st0) : W p l e R s m args below meth c H locs 0 0 Q (F0 m 216 ls [.int y0, .int y1, .ref (ad 34)]) := by
  have C1 := C
  obtain ⟨hx, hb, hml, hown, hts, hK, hlv, hlo⟩ := C1
  unfold fR_findWitness_b216 at hf
  obtain ⟨hg, hf⟩ := ck_gd_e hf
  refine ck_si C h (show sh_R[34]? = some (.inr (0, 16)) from rfl) hg dR_findWitness_216 (fun H locs h => ?_)
  refine lv_aload_n hx hb dR_findWitness_217 rfl (lv_at hl 0 rfl) ?_
  refine ck_gr C h FR_way dR_findWitness_218 ?_
  refine lv_aload_n hx hb dR_findWitness_221 rfl (lv_at hl 0 rfl) ?_
  refine ck_gr C h FR_place dR_findWitness_222 ?_
  refine lv_iload_n hx hb dR_findWitness_225 rfl (lv_at hl 1 rfl) ?_
  obtain ⟨hg, hf⟩ := ck_gd_e hf
  refine ck_ai (x := (st 24 (x1).toNatClampNeg)) C h (show sh_R[24]? = some (.inr (0, 60)) from rfl) hg rfl dR_findWitness_226 ?_
  refine lv_iload_n hx hb dR_findWitness_227 rfl (lv_at hl 3 rfl) ?_
  obtain ⟨hg, hf⟩ := ck_gd_e hf
  refine ck_si C h (show sh_R[35]? = some (.inr (0, 16)) from rfl) hg dR_findWitness_228 (fun H locs h => ?_)
  refine lv_iload_n hx hb dR_findWitness_229 rfl (lv_at hl 2 rfl) ?_
  refine lv_istore_n (lv' := [(1, .int x2), (0, .ref (ad 0)), (2, .int x2), (3, .int x3)]) hx hb dR_findWitness_230 rfl hl (by decide) rfl (fun ls hl => ?_)
  refine lv_goto (tgt := 128) hx hb dR_findWitness_231 rfl ?_
  exact hk128 _ _ _ _ _ h (lv_sub hl [1, 0] rfl) hf
def fR_findWitness_b192 (k128 : Int32 → ck_S → Option ck_S) (k234 : ck_S → Option ck_S) (x1 : Int32) (x2 : Int32) (x3 : Int32) (st : ck_S) : Option ck_S := (ck_gd x1 60 (ck_gd x1 60 (if (st 25 (x1).toNatClampNeg) = 0 then (fR_findWitness_b216 k128 k234 (1 : Int32) (st 24 (x1).toNatClampNeg) x1 x2 x3 st) else (fR_findWitness_b216 k128 k234 (2 : Int32) (st 24 (x1).toNatClampNeg) x1 x2 x3 st))))
set_option maxRecDepth 100000 in
set_option maxHeartbeats 4000000 in
theorem BR_findWitness_192 (C : ck_X cm_cl D cA bR_findWitness 4 R_R 1 p R s m args c) {st0 : ck_S} (hret : ∀ (pc : Nat) (H : Heap) (locs : List Loc) (ls : Array Slot), decode bR_findWitness pc = .ok (.return_, 1) → ck_AT sh_R cm_cl D cA ad H0 st0 H locs → W p l e R s m args below meth c H locs 0 0 Q (F0 m pc ls [])) {k128 : Int32 → ck_S → Option ck_S} (hk128 : ∀ (x1 : Int32) (st : ck_S) (H : Heap) (locs : List Loc) (ls : Array Slot), ck_AT sh_R cm_cl D cA ad H0 st H locs → lv_has ls 4 [(0, .ref (ad 0)), (1, .int x1)] → k128 x1 st = some st0 → W p l e R s m args below meth c H locs 0 0 Q (F0 m 128 ls [])) {k234 : ck_S → Option ck_S} (hk234 : ∀ (st : ck_S) (H : Heap) (locs : List Loc) (ls : Array Slot), ck_AT sh_R cm_cl D cA ad H0 st H locs → lv_has ls 4 [(0, .ref (ad 0))] → k234 st = some st0 → W p l e R s m args below meth c H locs 0 0 Q (F0 m 234 ls [])) (x1 : Int32) (x2 : Int32) (x3 : Int32) (st : ck_S) (H : Heap) (locs : List Loc) (ls : Array Slot) (h : ck_AT sh_R cm_cl D cA ad H0 st H locs) (hl : lv_has ls 4 [(0, .ref (ad 0)), (1, .int x1), (2, .int x2), (3, .int x3)]) (hf : fR_findWitness_b192 k128 k234 x1 x2 x3 st = some st0) : W p l e R s m args below meth c H locs 0 0 Q (F0 m 192 ls []) := by
  have C1 := C
  obtain ⟨hx, hb, hml, hown, hts, hK, hlv, hlo⟩ := C1
  unfold fR_findWitness_b192 at hf
  refine lv_aload_n hx hb dR_findWitness_192 rfl (lv_at hl 0 rfl) ?_
  refine ck_gr C h FR_wayKind dR_findWitness_193 ?_
  refine lv_aload_n hx hb dR_findWitness_196 rfl (lv_at hl 0 rfl) ?_
  refine ck_gr C h FR_place dR_findWitness_197 ?_
  refine lv_iload_n hx hb dR_findWitness_200 rfl (lv_at hl 1 rfl) ?_
  obtain ⟨hg, hf⟩ := ck_gd_e hf
  refine ck_ai (x := (st 24 (x1).toNatClampNeg)) C h (show sh_R[24]? = some (.inr (0, 60)) from rfl) hg rfl dR_findWitness_201 ?_
  refine lv_aload_n hx hb dR_findWitness_202 rfl (lv_at hl 0 rfl) ?_
  refine ck_gr C h FR_test dR_findWitness_203 ?_
  refine lv_iload_n hx hb dR_findWitness_206 rfl (lv_at hl 1 rfl) ?_
  obtain ⟨hg, hf⟩ := ck_gd_e hf
  refine ck_ai (x := (st 25 (x1).toNatClampNeg)) C h (show sh_R[25]? = some (.inr (0, 60)) from rfl) hg rfl dR_findWitness_207 ?_
  refine lv_if_ne (tgt := 215) hx hb dR_findWitness_208 rfl (fun hq => ?_) (fun hq => ?_)
  · have hf := ck_f hq hf
    refine lv_iconst (v := 2) hx hb dR_findWitness_215 (by decide) ?_
    exact BR_findWitness_216 C hret hk128 hk234 _ _ _ _ _ _ _ _ _ h (lv_sub hl [0, 1, 2, 3] rfl) hf
  · have hf := ck_t hq hf
    refine lv_iconst (v := 1) hx hb dR_findWitness_211 (by decide) ?_
    refine lv_goto (tgt := 216) hx hb dR_findWitness_212 rfl ?_
    exact BR_findWitness_216 C hret hk128 hk234 _ _ _ _ _ _ _ _ _ h (lv_sub hl [0, 1, 2, 3] rfl) hf
def fR_findWitness_l177 (k192 : Int32 → Int32 → Int32 → ck_S → Option ck_S) : Nat → Int32 → Int32 → Int32 → ck_S → Option ck_S
  | 0, _, _, _, _ => none
  | n + 1, x1, x2, x3, st => (ck_b (fR_hasBranch x1 x3 st) fun v2 st1 => (if v2 = 0 then (k192 x1 x2 x3 st1) else (fR_findWitness_l177 k192 n x1 x2 (x3 + 1) st1)))
set_option maxRecDepth 100000 in
set_option maxHeartbeats 4000000 in
theorem BR_findWitness_177 (C : ck_X cm_cl D cA bR_findWitness 4 R_R 1 p R s m args c) {st0 : ck_S} (hret : ∀ (pc : Nat) (H : Heap) (locs : List Loc) (ls : Array Slot), decode bR_findWitness pc = .ok (.return_, 1) → ck_AT sh_R cm_cl D cA ad H0 st0 H locs → W p l e R s m args below meth c H locs 0 0 Q (F0 m pc ls [])) {k192 : Int32 → Int32 → Int32 → ck_S → Option ck_S} (hk192 : ∀ (x1 : Int32) (x2 : Int32) (x3 : Int32) (st : ck_S) (H : Heap) (locs : List Loc) (ls : Array Slot), ck_AT sh_R cm_cl D cA ad H0 st H locs → lv_has ls 4 [(0, .ref (ad 0)), (1, .int x1), (2, .int x2), (3, .int x3)] → k192 x1 x2 x3 st = some st0 → W p l e R s m args below meth c H locs 0 0 Q (F0 m 192 ls [])) : ∀ (n : Nat) (x1 : Int32) (x2 : Int32) (x3 : Int32) (st : ck_S) (H : Heap) (locs : List Loc) (ls : Array Slot), ck_AT sh_R cm_cl D cA ad H0 st H locs → lv_has ls 4 [(0, .ref (ad 0)), (1, .int x1), (2, .int x2), (3, .int x3)] → fR_findWitness_l177 k192 n x1 x2 x3 st = some st0 → W p l e R s m args below meth c H locs 0 0 Q (F0 m 177 ls []) := by
  have C1 := C
  obtain ⟨hx, hb, hml, hown, hts, hK, hlv, hlo⟩ := C1
  intro n
  induction n with
  | zero => intro _ _ _ _ _ _ _ _ _ hf; cases hf
  | succ n ih =>
    intro x1 x2 x3 st H locs ls h hl hf
    rw [fR_findWitness_l177] at hf
    refine lv_aload_n hx hb dR_findWitness_177 rfl (lv_at hl 0 rfl) ?_
    refine lv_iload_n hx hb dR_findWitness_178 rfl (lv_at hl 1 rfl) ?_
    refine lv_iload_n hx hb dR_findWitness_179 rfl (lv_at hl 3 rfl) ?_
    obtain ⟨v2, st1, hc, hf⟩ := ck_b_e hf
    refine ck_vi (As := [.int x1, .int x3]) (rest := []) (q := 0) C h hl CR_R_hasBranch sR_hasBranch q_R (cR_hasBranch l D cA ad hc) (Nat.le_of_ble_eq_true rfl) rfl rfl (Nat.le_of_ble_eq_true rfl) dR_findWitness_180 (fun H locs h => ?_)
    refine lv_if_eq (tgt := 192) hx hb dR_findWitness_183 rfl (fun hq => ?_) (fun hq => ?_)
    · have hf := ck_t hq hf
      exact hk192 _ _ _ _ _ _ _ h (lv_sub hl [0, 1, 2, 3] rfl) hf
    · have hf := ck_f hq hf
      refine lv_iinc (k := 3) (v := (x3 + 1)) (lv' := [(3, .int (x3 + 1)), (0, .ref (ad 0)), (1, .int x1), (2, .int x2)]) hx hb dR_findWitness_186 hl rfl rfl (by decide) rfl (fun ls hl => ?_)
      refine lv_goto (tgt := 177) hx hb dR_findWitness_189 rfl ?_
      exact ih _ _ _ _ _ _ _ h (lv_sub hl [1, 2, 3, 0] rfl) hf
def fR_findWitness_b159 (k128 : Int32 → ck_S → Option ck_S) (k234 : ck_S → Option ck_S) (x1 : Int32) (x2 : Int32) (st : ck_S) : Option ck_S := (ck_gd x2 60 (ck_gd x2 60 (if (st 30 (x2).toNatClampNeg) = 0 then (fR_findWitness_b192 k128 k234 x1 x2 (st 29 (x2).toNatClampNeg) st) else (fR_findWitness_l177 (fun x1 x2 x3 st => (fR_findWitness_b192 k128 k234 x1 x2 x3 st)) 4096 x1 x2 (0 : Int32) st))))
set_option maxRecDepth 100000 in
set_option maxHeartbeats 4000000 in
theorem BR_findWitness_159 (C : ck_X cm_cl D cA bR_findWitness 4 R_R 1 p R s m args c) {st0 : ck_S} (hret : ∀ (pc : Nat) (H : Heap) (locs : List Loc) (ls : Array Slot), decode bR_findWitness pc = .ok (.return_, 1) → ck_AT sh_R cm_cl D cA ad H0 st0 H locs → W p l e R s m args below meth c H locs 0 0 Q (F0 m pc ls [])) {k128 : Int32 → ck_S → Option ck_S} (hk128 : ∀ (x1 : Int32) (st : ck_S) (H : Heap) (locs : List Loc) (ls : Array Slot), ck_AT sh_R cm_cl D cA ad H0 st H locs → lv_has ls 4 [(0, .ref (ad 0)), (1, .int x1)] → k128 x1 st = some st0 → W p l e R s m args below meth c H locs 0 0 Q (F0 m 128 ls [])) {k234 : ck_S → Option ck_S} (hk234 : ∀ (st : ck_S) (H : Heap) (locs : List Loc) (ls : Array Slot), ck_AT sh_R cm_cl D cA ad H0 st H locs → lv_has ls 4 [(0, .ref (ad 0))] → k234 st = some st0 → W p l e R s m args below meth c H locs 0 0 Q (F0 m 234 ls [])) (x1 : Int32) (x2 : Int32) (st : ck_S) (H : Heap) (locs : List Loc) (ls : Array Slot) (h : ck_AT sh_R cm_cl D cA ad H0 st H locs) (hl : lv_has ls 4 [(0, .ref (ad 0)), (1, .int x1), (2, .int x2)]) (hf : fR_findWitness_b159 k128 k234 x1 x2 st = some st0) : W p l e R s m args below meth c H locs 0 0 Q (F0 m 159 ls []) := by
  have C1 := C
  obtain ⟨hx, hb, hml, hown, hts, hK, hlv, hlo⟩ := C1
  unfold fR_findWitness_b159 at hf
  refine lv_aload_n hx hb dR_findWitness_159 rfl (lv_at hl 0 rfl) ?_
  refine ck_gr C h FR_label dR_findWitness_160 ?_
  refine lv_iload_n hx hb dR_findWitness_163 rfl (lv_at hl 2 rfl) ?_
  obtain ⟨hg, hf⟩ := ck_gd_e hf
  refine ck_ai (x := (st 29 (x2).toNatClampNeg)) C h (show sh_R[29]? = some (.inr (0, 60)) from rfl) hg rfl dR_findWitness_164 ?_
  refine lv_istore_n (lv' := [(3, .int (st 29 (x2).toNatClampNeg)), (0, .ref (ad 0)), (1, .int x1), (2, .int x2)]) hx hb dR_findWitness_165 rfl hl (by decide) rfl (fun ls hl => ?_)
  refine lv_aload_n hx hb dR_findWitness_166 rfl (lv_at hl 1 rfl) ?_
  refine ck_gr C h FR_others dR_findWitness_167 ?_
  refine lv_iload_n hx hb dR_findWitness_170 rfl (lv_at hl 3 rfl) ?_
  obtain ⟨hg, hf⟩ := ck_gd_e hf
  refine ck_az (x := (st 30 (x2).toNatClampNeg)) C h (show sh_R[30]? = some (.inr (1, 60)) from rfl) hg rfl dR_findWitness_171 ?_
  refine lv_if_eq (tgt := 192) hx hb dR_findWitness_172 rfl (fun hq => ?_) (fun hq => ?_)
  · have hf := ck_t hq hf
    exact BR_findWitness_192 C hret hk128 hk234 _ _ _ _ _ _ _ h (lv_sub hl [1, 2, 3, 0] rfl) hf
  · have hf := ck_f hq hf
    refine lv_iconst (v := 0) hx hb dR_findWitness_175 (by decide) ?_
    refine lv_istore_n (lv' := [(3, .int (0 : Int32)), (0, .ref (ad 0)), (1, .int x1), (2, .int x2)]) hx hb dR_findWitness_176 rfl hl (by decide) rfl (fun ls hl => ?_)
    exact BR_findWitness_177 C hret (fun x1 x2 x3 st H locs ls h hl hf => by
        exact BR_findWitness_192 C hret hk128 hk234 _ _ _ _ _ _ _ h (lv_sub hl [0, 1, 2, 3] rfl) hf) 4096 _ _ _ _ _ _ _ h (lv_sub hl [1, 2, 3, 0] rfl) hf
def fR_findWitness_l128 (k234 : ck_S → Option ck_S) : Nat → Int32 → ck_S → Option ck_S
  | 0, _, _ => none
  | n + 1, x1, st => (ck_gd x1 60 (if (st 24 (x1).toNatClampNeg) ≤ 0 then (k234 st) else (ck_gd x1 60 (fR_findWitness_l144 (fun x1 x2 st => (fR_findWitness_b159 (fR_findWitness_l128 k234 n) k234 x1 x2 st)) 4096 x1 (st 27 (x1).toNatClampNeg) st))))
set_option maxRecDepth 100000 in
set_option maxHeartbeats 4000000 in
theorem BR_findWitness_128 (C : ck_X cm_cl D cA bR_findWitness 4 R_R 1 p R s m args c) {st0 : ck_S} (hret : ∀ (pc : Nat) (H : Heap) (locs : List Loc) (ls : Array Slot), decode bR_findWitness pc = .ok (.return_, 1) → ck_AT sh_R cm_cl D cA ad H0 st0 H locs → W p l e R s m args below meth c H locs 0 0 Q (F0 m pc ls [])) {k234 : ck_S → Option ck_S} (hk234 : ∀ (st : ck_S) (H : Heap) (locs : List Loc) (ls : Array Slot), ck_AT sh_R cm_cl D cA ad H0 st H locs → lv_has ls 4 [(0, .ref (ad 0))] → k234 st = some st0 → W p l e R s m args below meth c H locs 0 0 Q (F0 m 234 ls [])) : ∀ (n : Nat) (x1 : Int32) (st : ck_S) (H : Heap) (locs : List Loc) (ls : Array Slot), ck_AT sh_R cm_cl D cA ad H0 st H locs → lv_has ls 4 [(0, .ref (ad 0)), (1, .int x1)] → fR_findWitness_l128 k234 n x1 st = some st0 → W p l e R s m args below meth c H locs 0 0 Q (F0 m 128 ls []) := by
  have C1 := C
  obtain ⟨hx, hb, hml, hown, hts, hK, hlv, hlo⟩ := C1
  intro n
  induction n with
  | zero => intro _ _ _ _ _ _ _ hf; cases hf
  | succ n ih =>
    intro x1 st H locs ls h hl hf
    rw [fR_findWitness_l128] at hf
    refine lv_aload_n hx hb dR_findWitness_128 rfl (lv_at hl 0 rfl) ?_
    refine ck_gr C h FR_place dR_findWitness_129 ?_
    refine lv_iload_n hx hb dR_findWitness_132 rfl (lv_at hl 1 rfl) ?_
    obtain ⟨hg, hf⟩ := ck_gd_e hf
    refine ck_ai (x := (st 24 (x1).toNatClampNeg)) C h (show sh_R[24]? = some (.inr (0, 60)) from rfl) hg rfl dR_findWitness_133 ?_
    refine lv_if_le (tgt := 234) hx hb dR_findWitness_134 rfl (fun hq => ?_) (fun hq => ?_)
    · have hf := ck_t hq hf
      exact hk234 _ _ _ _ h (lv_sub hl [0] rfl) hf
    · have hf := ck_f hq hf
      refine lv_aload_n hx hb dR_findWitness_137 rfl (lv_at hl 0 rfl) ?_
      refine ck_gr C h FR_from dR_findWitness_138 ?_
      refine lv_iload_n hx hb dR_findWitness_141 rfl (lv_at hl 1 rfl) ?_
      obtain ⟨hg, hf⟩ := ck_gd_e hf
      refine ck_ai (x := (st 27 (x1).toNatClampNeg)) C h (show sh_R[27]? = some (.inr (0, 60)) from rfl) hg rfl dR_findWitness_142 ?_
      refine lv_istore_n (lv' := [(2, .int (st 27 (x1).toNatClampNeg)), (0, .ref (ad 0)), (1, .int x1)]) hx hb dR_findWitness_143 rfl hl (by decide) rfl (fun ls hl => ?_)
      exact BR_findWitness_144 C hret (fun x1 x2 st H locs ls h hl hf => by
          exact BR_findWitness_159 C hret ih hk234 _ _ _ _ _ _ h (lv_sub hl [0, 1, 2] rfl) hf) 4096 _ _ _ _ _ _ h (lv_sub hl [1, 2, 0] rfl) hf
def fR_findWitness_b234 (st : ck_S) : Option ck_S := (ck_bv (fR_writeWitness st) fun st1 => (some st1))
set_option maxRecDepth 100000 in
set_option maxHeartbeats 4000000 in
theorem BR_findWitness_234 (C : ck_X cm_cl D cA bR_findWitness 4 R_R 1 p R s m args c) {st0 : ck_S} (hret : ∀ (pc : Nat) (H : Heap) (locs : List Loc) (ls : Array Slot), decode bR_findWitness pc = .ok (.return_, 1) → ck_AT sh_R cm_cl D cA ad H0 st0 H locs → W p l e R s m args below meth c H locs 0 0 Q (F0 m pc ls [])) (st : ck_S) (H : Heap) (locs : List Loc) (ls : Array Slot) (h : ck_AT sh_R cm_cl D cA ad H0 st H locs) (hl : lv_has ls 4 [(0, .ref (ad 0))]) (hf : fR_findWitness_b234 st = some st0) : W p l e R s m args below meth c H locs 0 0 Q (F0 m 234 ls []) := by
  have C1 := C
  obtain ⟨hx, hb, hml, hown, hts, hK, hlv, hlo⟩ := C1
  unfold fR_findWitness_b234 at hf
  refine lv_aload_n hx hb dR_findWitness_234 rfl (lv_at hl 0 rfl) ?_
  obtain ⟨st1, hc, hf⟩ := ck_bv_e hf
  refine ck_vv (As := []) (rest := []) (q := 0) C h hl CR_R_writeWitness sR_writeWitness q_R (cR_writeWitness l D cA ad hc) (Nat.le_of_ble_eq_true rfl) rfl rfl (Nat.le_of_ble_eq_true rfl) dR_findWitness_235 (fun H locs h => ?_)
  exact ck_rv hf hret h dR_findWitness_238
def fR_findWitness_b126 (st : ck_S) : Option ck_S := (fR_findWitness_l128 (fun st => (fR_findWitness_b234 st)) 4096 (0 : Int32) st)
set_option maxRecDepth 100000 in
set_option maxHeartbeats 4000000 in
theorem BR_findWitness_126 (C : ck_X cm_cl D cA bR_findWitness 4 R_R 1 p R s m args c) {st0 : ck_S} (hret : ∀ (pc : Nat) (H : Heap) (locs : List Loc) (ls : Array Slot), decode bR_findWitness pc = .ok (.return_, 1) → ck_AT sh_R cm_cl D cA ad H0 st0 H locs → W p l e R s m args below meth c H locs 0 0 Q (F0 m pc ls [])) (st : ck_S) (H : Heap) (locs : List Loc) (ls : Array Slot) (h : ck_AT sh_R cm_cl D cA ad H0 st H locs) (hl : lv_has ls 4 [(0, .ref (ad 0))]) (hf : fR_findWitness_b126 st = some st0) : W p l e R s m args below meth c H locs 0 0 Q (F0 m 126 ls []) := by
  have C1 := C
  obtain ⟨hx, hb, hml, hown, hts, hK, hlv, hlo⟩ := C1
  unfold fR_findWitness_b126 at hf
  refine lv_iconst (v := 0) hx hb dR_findWitness_126 (by decide) ?_
  refine lv_istore_n (lv' := [(1, .int (0 : Int32)), (0, .ref (ad 0))]) hx hb dR_findWitness_127 rfl hl (by decide) rfl (fun ls hl => ?_)
  exact BR_findWitness_128 C hret (fun  st H locs ls h hl hf => by
      exact BR_findWitness_234 C hret _ _ _ _ h (lv_sub hl [0] rfl) hf) 4096 _ _ _ _ _ h (lv_sub hl [1, 0] rfl) hf
def fR_findWitness_b95 (st : ck_S) : Option ck_S := (ck_gd (0 : Int32) 60 (if (st 31 ((0 : Int32)).toNatClampNeg) = 0 then (some st) else (fR_findWitness_l107 (fun st => (fR_findWitness_b126 st)) 4096 (0 : Int32) st)))
set_option maxRecDepth 100000 in
set_option maxHeartbeats 4000000 in
theorem BR_findWitness_95 (C : ck_X cm_cl D cA bR_findWitness 4 R_R 1 p R s m args c) {st0 : ck_S} (hret : ∀ (pc : Nat) (H : Heap) (locs : List Loc) (ls : Array Slot), decode bR_findWitness pc = .ok (.return_, 1) → ck_AT sh_R cm_cl D cA ad H0 st0 H locs → W p l e R s m args below meth c H locs 0 0 Q (F0 m pc ls [])) (st : ck_S) (H : Heap) (locs : List Loc) (ls : Array Slot) (h : ck_AT sh_R cm_cl D cA ad H0 st H locs) (hl : lv_has ls 4 [(0, .ref (ad 0))]) (hf : fR_findWitness_b95 st = some st0) : W p l e R s m args below meth c H locs 0 0 Q (F0 m 95 ls []) := by
  have C1 := C
  obtain ⟨hx, hb, hml, hown, hts, hK, hlv, hlo⟩ := C1
  unfold fR_findWitness_b95 at hf
  refine lv_aload_n hx hb dR_findWitness_95 rfl (lv_at hl 0 rfl) ?_
  refine ck_gr C h FR_work dR_findWitness_96 ?_
  refine lv_iconst (v := 0) hx hb dR_findWitness_99 (by decide) ?_
  obtain ⟨hg, hf⟩ := ck_gd_e hf
  refine ck_ai (x := (st 31 ((0 : Int32)).toNatClampNeg)) C h (show sh_R[31]? = some (.inr (0, 60)) from rfl) hg rfl dR_findWitness_100 ?_
  refine lv_if_ne (tgt := 105) hx hb dR_findWitness_101 rfl (fun hq => ?_) (fun hq => ?_)
  · have hf := ck_f hq hf
    refine lv_iconst (v := 0) hx hb dR_findWitness_105 (by decide) ?_
    refine lv_istore_n (lv' := [(1, .int (0 : Int32)), (0, .ref (ad 0))]) hx hb dR_findWitness_106 rfl hl (by decide) rfl (fun ls hl => ?_)
    exact BR_findWitness_107 C hret (fun  st H locs ls h hl hf => by
        exact BR_findWitness_126 C hret _ _ _ _ h (lv_sub hl [0] rfl) hf) 4096 _ _ _ _ _ h (lv_sub hl [1, 0] rfl) hf
  · have hf := ck_t hq hf
    exact ck_rv hf hret h dR_findWitness_104
def fR_findWitness (st : ck_S) : Option ck_S := (fR_findWitness_l12 (fun st => (fR_findWitness_b95 st)) 4096 ((st 0 29) - (1 : Int32)) (ck_u st 0 41 (0 : Int32)))
set_option maxRecDepth 100000 in
set_option maxHeartbeats 4000000 in
theorem cR_findWitness (l : Launch) (D : va_G) (cA : Nat → ClassId) (ad : Nat → Nat) {st : ck_S} {st0 : ck_S} (hf : fR_findWitness st = some st0) : Met l yR_findWitness (.code yR_findWitness bR_findWitness 4 none :: ck_T) (ck_R 1) (va_Pc [.ref (ad 0)] (ck_P sh_R cm_cl D cA ad st)) (va_Qv (fun u => u = st0) (ck_P sh_R cm_cl D cA ad) (ck_A ad sh_R.length)) 0 0 (ck_A ad sh_R.length) := by
  refine ck_met_v (own := R_R) (by decide +kernel) rfl (Nat.le_of_ble_eq_true rfl) (fun p e R s m args below meth c H0 Q ls C hret h hl => ?_)
  have C1 := C
  obtain ⟨hx, hb, hml, hown, hts, hK, hlv, hlo⟩ := C1
  have hl : lv_has ls 4 [(0, .ref (ad 0))] := hl
  unfold fR_findWitness at hf
  refine lv_aload_n hx hb dR_findWitness_0 rfl (lv_at hl 0 rfl) ?_
  refine lv_iconst (v := 0) hx hb dR_findWitness_1 (by decide) ?_
  refine ck_pi C h GR_symbols rfl rfl dR_findWitness_2 (fun H locs h => ?_)
  refine lv_aload_n hx hb dR_findWitness_5 rfl (lv_at hl 0 rfl) ?_
  refine ck_gi (x := (st 0 29)) C h FR_nodes rfl dR_findWitness_6 ?_
  refine lv_iconst (v := 1) hx hb dR_findWitness_9 (by decide) ?_
  refine lv_isub hx hb dR_findWitness_10 ?_
  refine lv_istore_n (lv' := [(1, .int ((st 0 29) - (1 : Int32))), (0, .ref (ad 0))]) hx hb dR_findWitness_11 rfl hl (by decide) rfl (fun ls hl => ?_)
  exact BR_findWitness_12 C hret (fun  st H locs ls h hl hf => by
      exact BR_findWitness_95 C hret _ _ _ _ h (lv_sub hl [0] rfl) hf) 4096 _ _ _ _ _ h (lv_sub hl [1, 0] rfl) hf
end Srefe1
