theorem dR_compile_0 : decode bR_compile 0 = .ok (.aload_n 0, 1) := by decide +kernel
theorem dR_compile_1 : decode bR_compile 1 = .ok (.getfield 52, 3) := by decide +kernel
theorem dR_compile_4 : decode bR_compile 4 = .ok (.ifCond .ge 6, 3) := by decide +kernel
theorem dR_compile_7 : decode bR_compile 7 = .ok (.bipush (-12), 2) := by decide +kernel
theorem dR_compile_9 : decode bR_compile 9 = .ok (.ireturn, 1) := by decide +kernel
theorem dR_compile_10 : decode bR_compile 10 = .ok (.aload_n 0, 1) := by decide +kernel
theorem dR_compile_11 : decode bR_compile 11 = .ok (.iconst 1, 1) := by decide +kernel
theorem dR_compile_12 : decode bR_compile 12 = .ok (.putfield 182, 3) := by decide +kernel
theorem dR_compile_15 : decode bR_compile 15 = .ok (.aload_n 0, 1) := by decide +kernel
theorem dR_compile_16 : decode bR_compile 16 = .ok (.iconst 0, 1) := by decide +kernel
theorem dR_compile_17 : decode bR_compile 17 = .ok (.putfield 185, 3) := by decide +kernel
theorem dR_compile_20 : decode bR_compile 20 = .ok (.aload_n 0, 1) := by decide +kernel
theorem dR_compile_21 : decode bR_compile 21 = .ok (.getfield 77, 3) := by decide +kernel
theorem dR_compile_24 : decode bR_compile 24 = .ok (.iconst 0, 1) := by decide +kernel
theorem dR_compile_25 : decode bR_compile 25 = .ok (.iconst 1, 1) := by decide +kernel
theorem dR_compile_26 : decode bR_compile 26 = .ok (.aload_n 0, 1) := by decide +kernel
theorem dR_compile_27 : decode bR_compile 27 = .ok (.getfield 135, 3) := by decide +kernel
theorem dR_compile_30 : decode bR_compile 30 = .ok (.ishl, 1) := by decide +kernel
theorem dR_compile_31 : decode bR_compile 31 = .ok (.iconst 1, 1) := by decide +kernel
theorem dR_compile_32 : decode bR_compile 32 = .ok (.isub, 1) := by decide +kernel
theorem dR_compile_33 : decode bR_compile 33 = .ok (.iastore, 1) := by decide +kernel
theorem dR_compile_34 : decode bR_compile 34 = .ok (.aload_n 0, 1) := by decide +kernel
theorem dR_compile_35 : decode bR_compile 35 = .ok (.getfield 80, 3) := by decide +kernel
theorem dR_compile_38 : decode bR_compile 38 = .ok (.iconst 0, 1) := by decide +kernel
theorem dR_compile_39 : decode bR_compile 39 = .ok (.iconst 2, 1) := by decide +kernel
theorem dR_compile_40 : decode bR_compile 40 = .ok (.iastore, 1) := by decide +kernel
theorem dR_compile_41 : decode bR_compile 41 = .ok (.iconst 0, 1) := by decide +kernel
theorem dR_compile_42 : decode bR_compile 42 = .ok (.istore_n 1, 1) := by decide +kernel
theorem dR_compile_43 : decode bR_compile 43 = .ok (.iload_n 1, 1) := by decide +kernel
theorem dR_compile_44 : decode bR_compile 44 = .ok (.aload_n 0, 1) := by decide +kernel
theorem dR_compile_45 : decode bR_compile 45 = .ok (.getfield 182, 3) := by decide +kernel
theorem dR_compile_48 : decode bR_compile 48 = .ok (.if_icmp .ge 21, 3) := by decide +kernel
theorem dR_compile_51 : decode bR_compile 51 = .ok (.aload_n 0, 1) := by decide +kernel
theorem dR_compile_52 : decode bR_compile 52 = .ok (.getfield 185, 3) := by decide +kernel
theorem dR_compile_55 : decode bR_compile 55 = .ok (.ifCond .ne 14, 3) := by decide +kernel
theorem dR_compile_58 : decode bR_compile 58 = .ok (.aload_n 0, 1) := by decide +kernel
theorem dR_compile_59 : decode bR_compile 59 = .ok (.iload_n 1, 1) := by decide +kernel
theorem dR_compile_60 : decode bR_compile 60 = .ok (.invokevirtual 206, 3) := by decide +kernel
theorem dR_compile_63 : decode bR_compile 63 = .ok (.iinc 1 1, 3) := by decide +kernel
theorem dR_compile_66 : decode bR_compile 66 = .ok (.goto (-23), 3) := by decide +kernel
theorem dR_compile_69 : decode bR_compile 69 = .ok (.aload_n 0, 1) := by decide +kernel
theorem dR_compile_70 : decode bR_compile 70 = .ok (.aload_n 0, 1) := by decide +kernel
theorem dR_compile_71 : decode bR_compile 71 = .ok (.getfield 185, 3) := by decide +kernel
theorem dR_compile_74 : decode bR_compile 74 = .ok (.ifCond .ne 7, 3) := by decide +kernel
theorem dR_compile_77 : decode bR_compile 77 = .ok (.iconst 1, 1) := by decide +kernel
theorem dR_compile_78 : decode bR_compile 78 = .ok (.goto 4, 3) := by decide +kernel
theorem dR_compile_81 : decode bR_compile 81 = .ok (.iconst 0, 1) := by decide +kernel
theorem dR_compile_82 : decode bR_compile 82 = .ok (.putfield 138, 3) := by decide +kernel
theorem dR_compile_85 : decode bR_compile 85 = .ok (.aload_n 0, 1) := by decide +kernel
theorem dR_compile_86 : decode bR_compile 86 = .ok (.getfield 138, 3) := by decide +kernel
theorem dR_compile_89 : decode bR_compile 89 = .ok (.ifCond .ne 6, 3) := by decide +kernel
theorem dR_compile_92 : decode bR_compile 92 = .ok (.bipush (-14), 2) := by decide +kernel
theorem dR_compile_94 : decode bR_compile 94 = .ok (.ireturn, 1) := by decide +kernel
theorem dR_compile_95 : decode bR_compile 95 = .ok (.aload_n 0, 1) := by decide +kernel
theorem dR_compile_96 : decode bR_compile 96 = .ok (.invokevirtual 210, 3) := by decide +kernel
theorem dR_compile_99 : decode bR_compile 99 = .ok (.aload_n 0, 1) := by decide +kernel
theorem dR_compile_100 : decode bR_compile 100 = .ok (.getfield 182, 3) := by decide +kernel
theorem dR_compile_103 : decode bR_compile 103 = .ok (.ireturn, 1) := by decide +kernel
theorem dR_alike_0 : decode bR_alike 0 = .ok (.aload_n 0, 1) := by decide +kernel
theorem dR_alike_1 : decode bR_alike 1 = .ok (.getfield 83, 3) := by decide +kernel
theorem dR_alike_4 : decode bR_alike 4 = .ok (.iload_n 1, 1) := by decide +kernel
theorem dR_alike_5 : decode bR_alike 5 = .ok (.iaload, 1) := by decide +kernel
theorem dR_alike_6 : decode bR_alike 6 = .ok (.aload_n 0, 1) := by decide +kernel
theorem dR_alike_7 : decode bR_alike 7 = .ok (.getfield 83, 3) := by decide +kernel
theorem dR_alike_10 : decode bR_alike 10 = .ok (.iload_n 2, 1) := by decide +kernel
theorem dR_alike_11 : decode bR_alike 11 = .ok (.iaload, 1) := by decide +kernel
theorem dR_alike_12 : decode bR_alike 12 = .ok (.if_icmp .ne 18, 3) := by decide +kernel
theorem dR_alike_15 : decode bR_alike 15 = .ok (.aload_n 0, 1) := by decide +kernel
theorem dR_alike_16 : decode bR_alike 16 = .ok (.getfield 95, 3) := by decide +kernel
theorem dR_alike_19 : decode bR_alike 19 = .ok (.iload_n 1, 1) := by decide +kernel
theorem dR_alike_20 : decode bR_alike 20 = .ok (.iaload, 1) := by decide +kernel
theorem dR_alike_21 : decode bR_alike 21 = .ok (.aload_n 0, 1) := by decide +kernel
theorem dR_alike_22 : decode bR_alike 22 = .ok (.getfield 95, 3) := by decide +kernel
theorem dR_alike_25 : decode bR_alike 25 = .ok (.iload_n 2, 1) := by decide +kernel
theorem dR_alike_26 : decode bR_alike 26 = .ok (.iaload, 1) := by decide +kernel
theorem dR_alike_27 : decode bR_alike 27 = .ok (.if_icmp .eq 5, 3) := by decide +kernel
theorem dR_alike_30 : decode bR_alike 30 = .ok (.iconst 0, 1) := by decide +kernel
theorem dR_alike_31 : decode bR_alike 31 = .ok (.ireturn, 1) := by decide +kernel
theorem dR_alike_32 : decode bR_alike 32 = .ok (.aload_n 0, 1) := by decide +kernel
theorem dR_alike_33 : decode bR_alike 33 = .ok (.getfield 83, 3) := by decide +kernel
theorem dR_alike_36 : decode bR_alike 36 = .ok (.iload_n 1, 1) := by decide +kernel
theorem dR_alike_37 : decode bR_alike 37 = .ok (.iaload, 1) := by decide +kernel
theorem dR_alike_38 : decode bR_alike 38 = .ok (.ifCond .ne 24, 3) := by decide +kernel
theorem dR_alike_41 : decode bR_alike 41 = .ok (.aload_n 0, 1) := by decide +kernel
theorem dR_alike_42 : decode bR_alike 42 = .ok (.getfield 89, 3) := by decide +kernel
theorem dR_alike_45 : decode bR_alike 45 = .ok (.iload_n 1, 1) := by decide +kernel
theorem dR_alike_46 : decode bR_alike 46 = .ok (.iaload, 1) := by decide +kernel
theorem dR_alike_47 : decode bR_alike 47 = .ok (.aload_n 0, 1) := by decide +kernel
theorem dR_alike_48 : decode bR_alike 48 = .ok (.getfield 89, 3) := by decide +kernel
theorem dR_alike_51 : decode bR_alike 51 = .ok (.iload_n 2, 1) := by decide +kernel
theorem dR_alike_52 : decode bR_alike 52 = .ok (.iaload, 1) := by decide +kernel
theorem dR_alike_53 : decode bR_alike 53 = .ok (.if_icmp .ne 7, 3) := by decide +kernel
theorem dR_alike_56 : decode bR_alike 56 = .ok (.iconst 1, 1) := by decide +kernel
theorem dR_alike_57 : decode bR_alike 57 = .ok (.goto 4, 3) := by decide +kernel
theorem dR_alike_60 : decode bR_alike 60 = .ok (.iconst 0, 1) := by decide +kernel
theorem dR_alike_61 : decode bR_alike 61 = .ok (.ireturn, 1) := by decide +kernel
theorem dR_alike_62 : decode bR_alike 62 = .ok (.aload_n 0, 1) := by decide +kernel
theorem dR_alike_63 : decode bR_alike 63 = .ok (.getfield 86, 3) := by decide +kernel
theorem dR_alike_66 : decode bR_alike 66 = .ok (.iload_n 1, 1) := by decide +kernel
theorem dR_alike_67 : decode bR_alike 67 = .ok (.iaload, 1) := by decide +kernel
theorem dR_alike_68 : decode bR_alike 68 = .ok (.aload_n 0, 1) := by decide +kernel
theorem dR_alike_69 : decode bR_alike 69 = .ok (.getfield 86, 3) := by decide +kernel
theorem dR_alike_72 : decode bR_alike 72 = .ok (.iload_n 2, 1) := by decide +kernel
theorem dR_alike_73 : decode bR_alike 73 = .ok (.iaload, 1) := by decide +kernel
theorem dR_alike_74 : decode bR_alike 74 = .ok (.if_icmp .eq 5, 3) := by decide +kernel
theorem dR_alike_77 : decode bR_alike 77 = .ok (.iconst 0, 1) := by decide +kernel
theorem dR_alike_78 : decode bR_alike 78 = .ok (.ireturn, 1) := by decide +kernel
theorem dR_alike_79 : decode bR_alike 79 = .ok (.iconst 0, 1) := by decide +kernel
theorem dR_alike_80 : decode bR_alike 80 = .ok (.istore_n 3, 1) := by decide +kernel
theorem dR_alike_81 : decode bR_alike 81 = .ok (.iload_n 3, 1) := by decide +kernel
theorem dR_alike_82 : decode bR_alike 82 = .ok (.aload_n 0, 1) := by decide +kernel
theorem dR_alike_83 : decode bR_alike 83 = .ok (.getfield 95, 3) := by decide +kernel
theorem dR_alike_86 : decode bR_alike 86 = .ok (.iload_n 1, 1) := by decide +kernel
theorem dR_alike_87 : decode bR_alike 87 = .ok (.iaload, 1) := by decide +kernel
theorem dR_alike_88 : decode bR_alike 88 = .ok (.if_icmp .ge 92, 3) := by decide +kernel
theorem dR_alike_91 : decode bR_alike 91 = .ok (.aload_n 0, 1) := by decide +kernel
theorem dR_alike_92 : decode bR_alike 92 = .ok (.getfield 92, 3) := by decide +kernel
theorem dR_alike_95 : decode bR_alike 95 = .ok (.iload_n 1, 1) := by decide +kernel
theorem dR_alike_96 : decode bR_alike 96 = .ok (.iaload, 1) := by decide +kernel
theorem dR_alike_97 : decode bR_alike 97 = .ok (.iload_n 3, 1) := by decide +kernel
theorem dR_alike_98 : decode bR_alike 98 = .ok (.iadd, 1) := by decide +kernel
theorem dR_alike_99 : decode bR_alike 99 = .ok (.istore 4, 2) := by decide +kernel
theorem dR_alike_101 : decode bR_alike 101 = .ok (.aload_n 0, 1) := by decide +kernel
theorem dR_alike_102 : decode bR_alike 102 = .ok (.getfield 92, 3) := by decide +kernel
theorem dR_alike_105 : decode bR_alike 105 = .ok (.iload_n 2, 1) := by decide +kernel
theorem dR_alike_106 : decode bR_alike 106 = .ok (.iaload, 1) := by decide +kernel
theorem dR_alike_107 : decode bR_alike 107 = .ok (.iload_n 3, 1) := by decide +kernel
theorem dR_alike_108 : decode bR_alike 108 = .ok (.iadd, 1) := by decide +kernel
theorem dR_alike_109 : decode bR_alike 109 = .ok (.istore 5, 2) := by decide +kernel
theorem dR_alike_111 : decode bR_alike 111 = .ok (.aload_n 0, 1) := by decide +kernel
theorem dR_alike_112 : decode bR_alike 112 = .ok (.getfield 105, 3) := by decide +kernel
theorem dR_alike_115 : decode bR_alike 115 = .ok (.iload 4, 2) := by decide +kernel
theorem dR_alike_117 : decode bR_alike 117 = .ok (.iaload, 1) := by decide +kernel
theorem dR_alike_118 : decode bR_alike 118 = .ok (.aload_n 0, 1) := by decide +kernel
theorem dR_alike_119 : decode bR_alike 119 = .ok (.getfield 105, 3) := by decide +kernel
theorem dR_alike_122 : decode bR_alike 122 = .ok (.iload 5, 2) := by decide +kernel
theorem dR_alike_124 : decode bR_alike 124 = .ok (.iaload, 1) := by decide +kernel
theorem dR_alike_125 : decode bR_alike 125 = .ok (.if_icmp .ne 47, 3) := by decide +kernel
theorem dR_alike_128 : decode bR_alike 128 = .ok (.aload_n 0, 1) := by decide +kernel
theorem dR_alike_129 : decode bR_alike 129 = .ok (.getfield 101, 3) := by decide +kernel
theorem dR_alike_132 : decode bR_alike 132 = .ok (.iload 4, 2) := by decide +kernel
theorem dR_alike_134 : decode bR_alike 134 = .ok (.baload, 1) := by decide +kernel
theorem dR_alike_135 : decode bR_alike 135 = .ok (.aload_n 0, 1) := by decide +kernel
theorem dR_alike_136 : decode bR_alike 136 = .ok (.getfield 101, 3) := by decide +kernel
theorem dR_alike_139 : decode bR_alike 139 = .ok (.iload 5, 2) := by decide +kernel
theorem dR_alike_141 : decode bR_alike 141 = .ok (.baload, 1) := by decide +kernel
theorem dR_alike_142 : decode bR_alike 142 = .ok (.if_icmp .ne 30, 3) := by decide +kernel
theorem dR_alike_145 : decode bR_alike 145 = .ok (.aload_n 0, 1) := by decide +kernel
theorem dR_alike_146 : decode bR_alike 146 = .ok (.getfield 101, 3) := by decide +kernel
theorem dR_alike_149 : decode bR_alike 149 = .ok (.iload 4, 2) := by decide +kernel
theorem dR_alike_151 : decode bR_alike 151 = .ok (.baload, 1) := by decide +kernel
theorem dR_alike_152 : decode bR_alike 152 = .ok (.ifCond .ne 22, 3) := by decide +kernel
theorem dR_alike_155 : decode bR_alike 155 = .ok (.aload_n 0, 1) := by decide +kernel
theorem dR_alike_156 : decode bR_alike 156 = .ok (.getfield 98, 3) := by decide +kernel
theorem dR_alike_159 : decode bR_alike 159 = .ok (.iload 4, 2) := by decide +kernel
theorem dR_alike_161 : decode bR_alike 161 = .ok (.iaload, 1) := by decide +kernel
theorem dR_alike_162 : decode bR_alike 162 = .ok (.aload_n 0, 1) := by decide +kernel
theorem dR_alike_163 : decode bR_alike 163 = .ok (.getfield 98, 3) := by decide +kernel
theorem dR_alike_166 : decode bR_alike 166 = .ok (.iload 5, 2) := by decide +kernel
theorem dR_alike_168 : decode bR_alike 168 = .ok (.iaload, 1) := by decide +kernel
theorem dR_alike_169 : decode bR_alike 169 = .ok (.if_icmp .eq 5, 3) := by decide +kernel
theorem dR_alike_172 : decode bR_alike 172 = .ok (.iconst 0, 1) := by decide +kernel
theorem dR_alike_173 : decode bR_alike 173 = .ok (.ireturn, 1) := by decide +kernel
theorem dR_alike_174 : decode bR_alike 174 = .ok (.iinc 3 1, 3) := by decide +kernel
theorem dR_alike_177 : decode bR_alike 177 = .ok (.goto (-96), 3) := by decide +kernel
theorem dR_alike_180 : decode bR_alike 180 = .ok (.iconst 1, 1) := by decide +kernel
theorem dR_alike_181 : decode bR_alike 181 = .ok (.ireturn, 1) := by decide +kernel
theorem dR_kinds_0 : decode bR_kinds 0 = .ok (.aload_n 0, 1) := by decide +kernel
theorem dR_kinds_1 : decode bR_kinds 1 = .ok (.getfield 138, 3) := by decide +kernel
theorem dR_kinds_4 : decode bR_kinds 4 = .ok (.ifCond .ne 6, 3) := by decide +kernel
theorem dR_kinds_7 : decode bR_kinds 7 = .ok (.bipush (-13), 2) := by decide +kernel
theorem dR_kinds_9 : decode bR_kinds 9 = .ok (.ireturn, 1) := by decide +kernel
theorem dR_kinds_10 : decode bR_kinds 10 = .ok (.iconst 0, 1) := by decide +kernel
theorem dR_kinds_11 : decode bR_kinds 11 = .ok (.istore_n 1, 1) := by decide +kernel
theorem dR_kinds_12 : decode bR_kinds 12 = .ok (.aload_n 0, 1) := by decide +kernel
theorem dR_kinds_13 : decode bR_kinds 13 = .ok (.getfield 182, 3) := by decide +kernel
theorem dR_kinds_16 : decode bR_kinds 16 = .ok (.iconst 1, 1) := by decide +kernel
theorem dR_kinds_17 : decode bR_kinds 17 = .ok (.isub, 1) := by decide +kernel
theorem dR_kinds_18 : decode bR_kinds 18 = .ok (.istore_n 2, 1) := by decide +kernel
theorem dR_kinds_19 : decode bR_kinds 19 = .ok (.iload_n 2, 1) := by decide +kernel
theorem dR_kinds_20 : decode bR_kinds 20 = .ok (.ifCond .lt 87, 3) := by decide +kernel
theorem dR_kinds_23 : decode bR_kinds 23 = .ok (.aload_n 0, 1) := by decide +kernel
theorem dR_kinds_24 : decode bR_kinds 24 = .ok (.getfield 105, 3) := by decide +kernel
theorem dR_kinds_27 : decode bR_kinds 27 = .ok (.iload_n 2, 1) := by decide +kernel
theorem dR_kinds_28 : decode bR_kinds 28 = .ok (.iload_n 2, 1) := by decide +kernel
theorem dR_kinds_29 : decode bR_kinds 29 = .ok (.iastore, 1) := by decide +kernel
theorem dR_kinds_30 : decode bR_kinds 30 = .ok (.iload_n 2, 1) := by decide +kernel
theorem dR_kinds_31 : decode bR_kinds 31 = .ok (.iconst 1, 1) := by decide +kernel
theorem dR_kinds_32 : decode bR_kinds 32 = .ok (.iadd, 1) := by decide +kernel
theorem dR_kinds_33 : decode bR_kinds 33 = .ok (.istore_n 3, 1) := by decide +kernel
theorem dR_kinds_34 : decode bR_kinds 34 = .ok (.iload_n 3, 1) := by decide +kernel
theorem dR_kinds_35 : decode bR_kinds 35 = .ok (.aload_n 0, 1) := by decide +kernel
theorem dR_kinds_36 : decode bR_kinds 36 = .ok (.getfield 182, 3) := by decide +kernel
theorem dR_kinds_39 : decode bR_kinds 39 = .ok (.if_icmp .ge 44, 3) := by decide +kernel
theorem dR_kinds_42 : decode bR_kinds 42 = .ok (.aload_n 0, 1) := by decide +kernel
theorem dR_kinds_43 : decode bR_kinds 43 = .ok (.getfield 105, 3) := by decide +kernel
theorem dR_kinds_46 : decode bR_kinds 46 = .ok (.iload_n 2, 1) := by decide +kernel
theorem dR_kinds_47 : decode bR_kinds 47 = .ok (.aload_n 0, 1) := by decide +kernel
theorem dR_kinds_48 : decode bR_kinds 48 = .ok (.getfield 105, 3) := by decide +kernel
theorem dR_kinds_51 : decode bR_kinds 51 = .ok (.iload_n 3, 1) := by decide +kernel
theorem dR_kinds_52 : decode bR_kinds 52 = .ok (.iaload, 1) := by decide +kernel
theorem dR_kinds_53 : decode bR_kinds 53 = .ok (.iload_n 3, 1) := by decide +kernel
theorem dR_kinds_54 : decode bR_kinds 54 = .ok (.if_icmp .ne 16, 3) := by decide +kernel
theorem dR_kinds_57 : decode bR_kinds 57 = .ok (.aload_n 0, 1) := by decide +kernel
theorem dR_kinds_58 : decode bR_kinds 58 = .ok (.iload_n 2, 1) := by decide +kernel
theorem dR_kinds_59 : decode bR_kinds 59 = .ok (.iload_n 3, 1) := by decide +kernel
theorem dR_kinds_60 : decode bR_kinds 60 = .ok (.invokevirtual 213, 3) := by decide +kernel
theorem dR_kinds_63 : decode bR_kinds 63 = .ok (.ifCond .eq 7, 3) := by decide +kernel
theorem dR_kinds_66 : decode bR_kinds 66 = .ok (.iload_n 3, 1) := by decide +kernel
theorem dR_kinds_67 : decode bR_kinds 67 = .ok (.goto 9, 3) := by decide +kernel
theorem dR_kinds_70 : decode bR_kinds 70 = .ok (.aload_n 0, 1) := by decide +kernel
theorem dR_kinds_71 : decode bR_kinds 71 = .ok (.getfield 105, 3) := by decide +kernel
theorem dR_kinds_74 : decode bR_kinds 74 = .ok (.iload_n 2, 1) := by decide +kernel
theorem dR_kinds_75 : decode bR_kinds 75 = .ok (.iaload, 1) := by decide +kernel
theorem dR_kinds_76 : decode bR_kinds 76 = .ok (.iastore, 1) := by decide +kernel
theorem dR_kinds_77 : decode bR_kinds 77 = .ok (.iinc 3 1, 3) := by decide +kernel
theorem dR_kinds_80 : decode bR_kinds 80 = .ok (.goto (-46), 3) := by decide +kernel
theorem dR_kinds_83 : decode bR_kinds 83 = .ok (.aload_n 0, 1) := by decide +kernel
theorem dR_kinds_84 : decode bR_kinds 84 = .ok (.getfield 105, 3) := by decide +kernel
theorem dR_kinds_87 : decode bR_kinds 87 = .ok (.iload_n 2, 1) := by decide +kernel
theorem dR_kinds_88 : decode bR_kinds 88 = .ok (.iaload, 1) := by decide +kernel
theorem dR_kinds_89 : decode bR_kinds 89 = .ok (.iload_n 2, 1) := by decide +kernel
theorem dR_kinds_90 : decode bR_kinds 90 = .ok (.if_icmp .ne 9, 3) := by decide +kernel
theorem dR_kinds_93 : decode bR_kinds 93 = .ok (.iload_n 1, 1) := by decide +kernel
theorem dR_kinds_94 : decode bR_kinds 94 = .ok (.iconst 1, 1) := by decide +kernel
theorem dR_kinds_95 : decode bR_kinds 95 = .ok (.iadd, 1) := by decide +kernel
theorem dR_kinds_96 : decode bR_kinds 96 = .ok (.goto 4, 3) := by decide +kernel
theorem dR_kinds_99 : decode bR_kinds 99 = .ok (.iload_n 1, 1) := by decide +kernel
theorem dR_kinds_100 : decode bR_kinds 100 = .ok (.istore_n 1, 1) := by decide +kernel
theorem dR_kinds_101 : decode bR_kinds 101 = .ok (.iinc 2 (-1), 3) := by decide +kernel
theorem dR_kinds_104 : decode bR_kinds 104 = .ok (.goto (-85), 3) := by decide +kernel
theorem dR_kinds_107 : decode bR_kinds 107 = .ok (.iload_n 1, 1) := by decide +kernel
theorem dR_kinds_108 : decode bR_kinds 108 = .ok (.ireturn, 1) := by decide +kernel
theorem dR_longest_0 : decode bR_longest 0 = .ok (.aload_n 0, 1) := by decide +kernel
theorem dR_longest_1 : decode bR_longest 1 = .ok (.getfield 138, 3) := by decide +kernel
theorem dR_longest_4 : decode bR_longest 4 = .ok (.ifCond .ne 6, 3) := by decide +kernel
theorem dR_longest_7 : decode bR_longest 7 = .ok (.bipush (-13), 2) := by decide +kernel
theorem dR_longest_9 : decode bR_longest 9 = .ok (.ireturn, 1) := by decide +kernel
theorem dR_longest_10 : decode bR_longest 10 = .ok (.aload_n 0, 1) := by decide +kernel
theorem dR_longest_11 : decode bR_longest 11 = .ok (.getfield 182, 3) := by decide +kernel
theorem dR_longest_14 : decode bR_longest 14 = .ok (.iconst 1, 1) := by decide +kernel
theorem dR_longest_15 : decode bR_longest 15 = .ok (.isub, 1) := by decide +kernel
theorem dR_longest_16 : decode bR_longest 16 = .ok (.istore_n 1, 1) := by decide +kernel
theorem dR_longest_17 : decode bR_longest 17 = .ok (.iload_n 1, 1) := by decide +kernel
theorem dR_longest_18 : decode bR_longest 18 = .ok (.ifCond .lt 76, 3) := by decide +kernel
theorem dR_longest_21 : decode bR_longest 21 = .ok (.aload_n 0, 1) := by decide +kernel
theorem dR_longest_22 : decode bR_longest 22 = .ok (.getfield 105, 3) := by decide +kernel
theorem dR_longest_25 : decode bR_longest 25 = .ok (.iload_n 1, 1) := by decide +kernel
theorem dR_longest_26 : decode bR_longest 26 = .ok (.iconst 0, 1) := by decide +kernel
theorem dR_longest_27 : decode bR_longest 27 = .ok (.iastore, 1) := by decide +kernel
theorem dR_longest_28 : decode bR_longest 28 = .ok (.iconst 0, 1) := by decide +kernel
theorem dR_longest_29 : decode bR_longest 29 = .ok (.istore_n 2, 1) := by decide +kernel
theorem dR_longest_30 : decode bR_longest 30 = .ok (.iload_n 2, 1) := by decide +kernel
theorem dR_longest_31 : decode bR_longest 31 = .ok (.aload_n 0, 1) := by decide +kernel
theorem dR_longest_32 : decode bR_longest 32 = .ok (.getfield 95, 3) := by decide +kernel
theorem dR_longest_35 : decode bR_longest 35 = .ok (.iload_n 1, 1) := by decide +kernel
theorem dR_longest_36 : decode bR_longest 36 = .ok (.iaload, 1) := by decide +kernel
theorem dR_longest_37 : decode bR_longest 37 = .ok (.if_icmp .ge 51, 3) := by decide +kernel
theorem dR_longest_40 : decode bR_longest 40 = .ok (.aload_n 0, 1) := by decide +kernel
theorem dR_longest_41 : decode bR_longest 41 = .ok (.getfield 105, 3) := by decide +kernel
theorem dR_longest_44 : decode bR_longest 44 = .ok (.aload_n 0, 1) := by decide +kernel
theorem dR_longest_45 : decode bR_longest 45 = .ok (.getfield 92, 3) := by decide +kernel
theorem dR_longest_48 : decode bR_longest 48 = .ok (.iload_n 1, 1) := by decide +kernel
theorem dR_longest_49 : decode bR_longest 49 = .ok (.iaload, 1) := by decide +kernel
theorem dR_longest_50 : decode bR_longest 50 = .ok (.iload_n 2, 1) := by decide +kernel
theorem dR_longest_51 : decode bR_longest 51 = .ok (.iadd, 1) := by decide +kernel
theorem dR_longest_52 : decode bR_longest 52 = .ok (.iaload, 1) := by decide +kernel
theorem dR_longest_53 : decode bR_longest 53 = .ok (.iconst 1, 1) := by decide +kernel
theorem dR_longest_54 : decode bR_longest 54 = .ok (.iadd, 1) := by decide +kernel
theorem dR_longest_55 : decode bR_longest 55 = .ok (.istore_n 3, 1) := by decide +kernel
theorem dR_longest_56 : decode bR_longest 56 = .ok (.aload_n 0, 1) := by decide +kernel
theorem dR_longest_57 : decode bR_longest 57 = .ok (.getfield 105, 3) := by decide +kernel
theorem dR_longest_60 : decode bR_longest 60 = .ok (.iload_n 1, 1) := by decide +kernel
theorem dR_longest_61 : decode bR_longest 61 = .ok (.iload_n 3, 1) := by decide +kernel
theorem dR_longest_62 : decode bR_longest 62 = .ok (.aload_n 0, 1) := by decide +kernel
theorem dR_longest_63 : decode bR_longest 63 = .ok (.getfield 105, 3) := by decide +kernel
theorem dR_longest_66 : decode bR_longest 66 = .ok (.iload_n 1, 1) := by decide +kernel
theorem dR_longest_67 : decode bR_longest 67 = .ok (.iaload, 1) := by decide +kernel
theorem dR_longest_68 : decode bR_longest 68 = .ok (.if_icmp .le 7, 3) := by decide +kernel
theorem dR_longest_71 : decode bR_longest 71 = .ok (.iload_n 3, 1) := by decide +kernel
theorem dR_longest_72 : decode bR_longest 72 = .ok (.goto 9, 3) := by decide +kernel
theorem dR_longest_75 : decode bR_longest 75 = .ok (.aload_n 0, 1) := by decide +kernel
theorem dR_longest_76 : decode bR_longest 76 = .ok (.getfield 105, 3) := by decide +kernel
theorem dR_longest_79 : decode bR_longest 79 = .ok (.iload_n 1, 1) := by decide +kernel
theorem dR_longest_80 : decode bR_longest 80 = .ok (.iaload, 1) := by decide +kernel
theorem dR_longest_81 : decode bR_longest 81 = .ok (.iastore, 1) := by decide +kernel
theorem dR_longest_82 : decode bR_longest 82 = .ok (.iinc 2 1, 3) := by decide +kernel
theorem dR_longest_85 : decode bR_longest 85 = .ok (.goto (-55), 3) := by decide +kernel
theorem dR_longest_88 : decode bR_longest 88 = .ok (.iinc 1 (-1), 3) := by decide +kernel
theorem dR_longest_91 : decode bR_longest 91 = .ok (.goto (-74), 3) := by decide +kernel
theorem dR_longest_94 : decode bR_longest 94 = .ok (.aload_n 0, 1) := by decide +kernel
theorem dR_longest_95 : decode bR_longest 95 = .ok (.getfield 105, 3) := by decide +kernel
theorem dR_longest_98 : decode bR_longest 98 = .ok (.iconst 0, 1) := by decide +kernel
theorem dR_longest_99 : decode bR_longest 99 = .ok (.iaload, 1) := by decide +kernel
theorem dR_longest_100 : decode bR_longest 100 = .ok (.ireturn, 1) := by decide +kernel
theorem dR_useless_0 : decode bR_useless 0 = .ok (.aload_n 0, 1) := by decide +kernel
theorem dR_useless_1 : decode bR_useless 1 = .ok (.getfield 138, 3) := by decide +kernel
theorem dR_useless_4 : decode bR_useless 4 = .ok (.ifCond .ne 6, 3) := by decide +kernel
theorem dR_useless_7 : decode bR_useless 7 = .ok (.bipush (-13), 2) := by decide +kernel
theorem dR_useless_9 : decode bR_useless 9 = .ok (.ireturn, 1) := by decide +kernel
theorem dR_useless_10 : decode bR_useless 10 = .ok (.iload_n 1, 1) := by decide +kernel
theorem dR_useless_11 : decode bR_useless 11 = .ok (.ifCond .lt 11, 3) := by decide +kernel
theorem dR_useless_14 : decode bR_useless 14 = .ok (.iload_n 1, 1) := by decide +kernel
theorem dR_useless_15 : decode bR_useless 15 = .ok (.aload_n 0, 1) := by decide +kernel
theorem dR_useless_16 : decode bR_useless 16 = .ok (.getfield 132, 3) := by decide +kernel
theorem dR_useless_19 : decode bR_useless 19 = .ok (.if_icmp .lt 6, 3) := by decide +kernel
theorem dR_useless_22 : decode bR_useless 22 = .ok (.bipush (-15), 2) := by decide +kernel
theorem dR_useless_24 : decode bR_useless 24 = .ok (.ireturn, 1) := by decide +kernel
theorem dR_useless_25 : decode bR_useless 25 = .ok (.iconst 0, 1) := by decide +kernel
theorem dR_useless_26 : decode bR_useless 26 = .ok (.istore_n 2, 1) := by decide +kernel
theorem dR_useless_27 : decode bR_useless 27 = .ok (.iconst 0, 1) := by decide +kernel
theorem dR_useless_28 : decode bR_useless 28 = .ok (.istore_n 3, 1) := by decide +kernel
theorem dR_useless_29 : decode bR_useless 29 = .ok (.iload_n 3, 1) := by decide +kernel
theorem dR_useless_30 : decode bR_useless 30 = .ok (.aload_n 0, 1) := by decide +kernel
theorem dR_useless_31 : decode bR_useless 31 = .ok (.getfield 135, 3) := by decide +kernel
theorem dR_useless_34 : decode bR_useless 34 = .ok (.if_icmp .ge 97, 3) := by decide +kernel
theorem dR_useless_37 : decode bR_useless 37 = .ok (.aload_n 0, 1) := by decide +kernel
theorem dR_useless_38 : decode bR_useless 38 = .ok (.getfield 56, 3) := by decide +kernel
theorem dR_useless_41 : decode bR_useless 41 = .ok (.iload_n 3, 1) := by decide +kernel
theorem dR_useless_42 : decode bR_useless 42 = .ok (.iaload, 1) := by decide +kernel
theorem dR_useless_43 : decode bR_useless 43 = .ok (.iload_n 1, 1) := by decide +kernel
theorem dR_useless_44 : decode bR_useless 44 = .ok (.if_icmp .eq 7, 3) := by decide +kernel
theorem dR_useless_47 : decode bR_useless 47 = .ok (.iconst 1, 1) := by decide +kernel
theorem dR_useless_48 : decode bR_useless 48 = .ok (.goto 4, 3) := by decide +kernel
theorem dR_useless_51 : decode bR_useless 51 = .ok (.iconst 0, 1) := by decide +kernel
theorem dR_useless_52 : decode bR_useless 52 = .ok (.istore 4, 2) := by decide +kernel
theorem dR_useless_54 : decode bR_useless 54 = .ok (.iconst 0, 1) := by decide +kernel
theorem dR_useless_55 : decode bR_useless 55 = .ok (.istore 5, 2) := by decide +kernel
theorem dR_useless_57 : decode bR_useless 57 = .ok (.iload 5, 2) := by decide +kernel
theorem dR_useless_59 : decode bR_useless 59 = .ok (.aload_n 0, 1) := by decide +kernel
theorem dR_useless_60 : decode bR_useless 60 = .ok (.getfield 182, 3) := by decide +kernel
theorem dR_useless_63 : decode bR_useless 63 = .ok (.if_icmp .ge 42, 3) := by decide +kernel
theorem dR_useless_66 : decode bR_useless 66 = .ok (.iload 4, 2) := by decide +kernel
theorem dR_useless_68 : decode bR_useless 68 = .ok (.ifCond .ne 24, 3) := by decide +kernel
theorem dR_useless_71 : decode bR_useless 71 = .ok (.aload_n 0, 1) := by decide +kernel
theorem dR_useless_72 : decode bR_useless 72 = .ok (.getfield 83, 3) := by decide +kernel
theorem dR_useless_75 : decode bR_useless 75 = .ok (.iload 5, 2) := by decide +kernel
theorem dR_useless_77 : decode bR_useless 77 = .ok (.iaload, 1) := by decide +kernel
theorem dR_useless_78 : decode bR_useless 78 = .ok (.ifCond .ne 18, 3) := by decide +kernel
theorem dR_useless_81 : decode bR_useless 81 = .ok (.aload_n 0, 1) := by decide +kernel
theorem dR_useless_82 : decode bR_useless 82 = .ok (.getfield 89, 3) := by decide +kernel
theorem dR_useless_85 : decode bR_useless 85 = .ok (.iload 5, 2) := by decide +kernel
theorem dR_useless_87 : decode bR_useless 87 = .ok (.iaload, 1) := by decide +kernel
theorem dR_useless_88 : decode bR_useless 88 = .ok (.iload_n 3, 1) := by decide +kernel
theorem dR_useless_89 : decode bR_useless 89 = .ok (.if_icmp .ne 7, 3) := by decide +kernel
theorem dR_useless_92 : decode bR_useless 92 = .ok (.iconst 1, 1) := by decide +kernel
theorem dR_useless_93 : decode bR_useless 93 = .ok (.goto 4, 3) := by decide +kernel
theorem dR_useless_96 : decode bR_useless 96 = .ok (.iconst 0, 1) := by decide +kernel
theorem dR_useless_97 : decode bR_useless 97 = .ok (.istore 4, 2) := by decide +kernel
theorem dR_useless_99 : decode bR_useless 99 = .ok (.iinc 5 1, 3) := by decide +kernel
theorem dR_useless_102 : decode bR_useless 102 = .ok (.goto (-45), 3) := by decide +kernel
theorem dR_useless_105 : decode bR_useless 105 = .ok (.iload 4, 2) := by decide +kernel
theorem dR_useless_107 : decode bR_useless 107 = .ok (.ifCond .eq 7, 3) := by decide +kernel
theorem dR_useless_110 : decode bR_useless 110 = .ok (.iload_n 2, 1) := by decide +kernel
theorem dR_useless_111 : decode bR_useless 111 = .ok (.goto 13, 3) := by decide +kernel
theorem dR_useless_114 : decode bR_useless 114 = .ok (.iload_n 2, 1) := by decide +kernel
theorem dR_useless_115 : decode bR_useless 115 = .ok (.iconst 1, 1) := by decide +kernel
theorem dR_useless_116 : decode bR_useless 116 = .ok (.aload_n 0, 1) := by decide +kernel
theorem dR_useless_117 : decode bR_useless 117 = .ok (.getfield 59, 3) := by decide +kernel
theorem dR_useless_120 : decode bR_useless 120 = .ok (.iload_n 3, 1) := by decide +kernel
theorem dR_useless_121 : decode bR_useless 121 = .ok (.iaload, 1) := by decide +kernel
theorem dR_useless_122 : decode bR_useless 122 = .ok (.ishl, 1) := by decide +kernel
theorem dR_useless_123 : decode bR_useless 123 = .ok (.iadd, 1) := by decide +kernel
theorem dR_useless_124 : decode bR_useless 124 = .ok (.istore_n 2, 1) := by decide +kernel
theorem dR_useless_125 : decode bR_useless 125 = .ok (.iinc 3 1, 3) := by decide +kernel
theorem dR_useless_128 : decode bR_useless 128 = .ok (.goto (-99), 3) := by decide +kernel
theorem dR_useless_131 : decode bR_useless 131 = .ok (.iload_n 2, 1) := by decide +kernel
theorem dR_useless_132 : decode bR_useless 132 = .ok (.ireturn, 1) := by decide +kernel
theorem dR_witnessLength_0 : decode bR_witnessLength 0 = .ok (.aload_n 0, 1) := by decide +kernel
theorem dR_witnessLength_1 : decode bR_witnessLength 1 = .ok (.getfield 138, 3) := by decide +kernel
theorem dR_witnessLength_4 : decode bR_witnessLength 4 = .ok (.ifCond .eq 10, 3) := by decide +kernel
theorem dR_witnessLength_7 : decode bR_witnessLength 7 = .ok (.aload_n 0, 1) := by decide +kernel
theorem dR_witnessLength_8 : decode bR_witnessLength 8 = .ok (.getfield 216, 3) := by decide +kernel
theorem dR_witnessLength_11 : decode bR_witnessLength 11 = .ok (.goto 5, 3) := by decide +kernel
theorem dR_witnessLength_14 : decode bR_witnessLength 14 = .ok (.bipush (-13), 2) := by decide +kernel
theorem dR_witnessLength_16 : decode bR_witnessLength 16 = .ok (.ireturn, 1) := by decide +kernel
theorem dR_witnessKind_0 : decode bR_witnessKind 0 = .ok (.aload_n 0, 1) := by decide +kernel
theorem dR_witnessKind_1 : decode bR_witnessKind 1 = .ok (.getfield 138, 3) := by decide +kernel
theorem dR_witnessKind_4 : decode bR_witnessKind 4 = .ok (.ifCond .ne 6, 3) := by decide +kernel
theorem dR_witnessKind_7 : decode bR_witnessKind 7 = .ok (.bipush (-13), 2) := by decide +kernel
theorem dR_witnessKind_9 : decode bR_witnessKind 9 = .ok (.ireturn, 1) := by decide +kernel
theorem dR_witnessKind_10 : decode bR_witnessKind 10 = .ok (.iload_n 1, 1) := by decide +kernel
theorem dR_witnessKind_11 : decode bR_witnessKind 11 = .ok (.ifCond .lt 11, 3) := by decide +kernel
theorem dR_witnessKind_14 : decode bR_witnessKind 14 = .ok (.iload_n 1, 1) := by decide +kernel
theorem dR_witnessKind_15 : decode bR_witnessKind 15 = .ok (.aload_n 0, 1) := by decide +kernel
theorem dR_witnessKind_16 : decode bR_witnessKind 16 = .ok (.getfield 216, 3) := by decide +kernel
theorem dR_witnessKind_19 : decode bR_witnessKind 19 = .ok (.if_icmp .lt 8, 3) := by decide +kernel
theorem dR_witnessKind_22 : decode bR_witnessKind 22 = .ok (.bipush (-15), 2) := by decide +kernel
theorem dR_witnessKind_24 : decode bR_witnessKind 24 = .ok (.goto 9, 3) := by decide +kernel
theorem dR_witnessKind_27 : decode bR_witnessKind 27 = .ok (.aload_n 0, 1) := by decide +kernel
theorem dR_witnessKind_28 : decode bR_witnessKind 28 = .ok (.getfield 108, 3) := by decide +kernel
theorem dR_witnessKind_31 : decode bR_witnessKind 31 = .ok (.iload_n 1, 1) := by decide +kernel
theorem dR_witnessKind_32 : decode bR_witnessKind 32 = .ok (.iaload, 1) := by decide +kernel
theorem dR_witnessKind_33 : decode bR_witnessKind 33 = .ok (.ireturn, 1) := by decide +kernel
theorem dR_witness_0 : decode bR_witness 0 = .ok (.aload_n 0, 1) := by decide +kernel
theorem dR_witness_1 : decode bR_witness 1 = .ok (.getfield 138, 3) := by decide +kernel
theorem dR_witness_4 : decode bR_witness 4 = .ok (.ifCond .eq 15, 3) := by decide +kernel
theorem dR_witness_7 : decode bR_witness 7 = .ok (.iload_n 1, 1) := by decide +kernel
theorem dR_witness_8 : decode bR_witness 8 = .ok (.ifCond .lt 11, 3) := by decide +kernel
theorem dR_witness_11 : decode bR_witness 11 = .ok (.iload_n 1, 1) := by decide +kernel
theorem dR_witness_12 : decode bR_witness 12 = .ok (.aload_n 0, 1) := by decide +kernel
theorem dR_witness_13 : decode bR_witness 13 = .ok (.getfield 216, 3) := by decide +kernel
theorem dR_witness_16 : decode bR_witness 16 = .ok (.if_icmp .lt 7, 3) := by decide +kernel
theorem dR_witness_19 : decode bR_witness 19 = .ok (.iconst 0, 1) := by decide +kernel
theorem dR_witness_20 : decode bR_witness 20 = .ok (.goto 9, 3) := by decide +kernel
theorem dR_witness_23 : decode bR_witness 23 = .ok (.aload_n 0, 1) := by decide +kernel
theorem dR_witness_24 : decode bR_witness 24 = .ok (.getfield 111, 3) := by decide +kernel
theorem dR_witness_27 : decode bR_witness 27 = .ok (.iload_n 1, 1) := by decide +kernel
theorem dR_witness_28 : decode bR_witness 28 = .ok (.iaload, 1) := by decide +kernel
theorem dR_witness_29 : decode bR_witness 29 = .ok (.ireturn, 1) := by decide +kernel
theorem dR_isValue_0 : decode bR_isValue 0 = .ok (.iload_n 1, 1) := by decide +kernel
theorem dR_isValue_1 : decode bR_isValue 1 = .ok (.ifCond .lt 15, 3) := by decide +kernel
theorem dR_isValue_4 : decode bR_isValue 4 = .ok (.iload_n 1, 1) := by decide +kernel
theorem dR_isValue_5 : decode bR_isValue 5 = .ok (.aload_n 0, 1) := by decide +kernel
theorem dR_isValue_6 : decode bR_isValue 6 = .ok (.getfield 129, 3) := by decide +kernel
theorem dR_isValue_9 : decode bR_isValue 9 = .ok (.if_icmp .ge 7, 3) := by decide +kernel
theorem dR_isValue_12 : decode bR_isValue 12 = .ok (.iconst 1, 1) := by decide +kernel
theorem dR_isValue_13 : decode bR_isValue 13 = .ok (.goto 4, 3) := by decide +kernel
theorem dR_isValue_16 : decode bR_isValue 16 = .ok (.iconst 0, 1) := by decide +kernel
theorem dR_isValue_17 : decode bR_isValue 17 = .ok (.ireturn, 1) := by decide +kernel
theorem dR_typeOf_0 : decode bR_typeOf 0 = .ok (.aload_n 0, 1) := by decide +kernel
theorem dR_typeOf_1 : decode bR_typeOf 1 = .ok (.getfield 40, 3) := by decide +kernel
theorem dR_typeOf_4 : decode bR_typeOf 4 = .ok (.iload_n 1, 1) := by decide +kernel
theorem dR_typeOf_5 : decode bR_typeOf 5 = .ok (.iaload, 1) := by decide +kernel
theorem dR_typeOf_6 : decode bR_typeOf 6 = .ok (.iconst 1, 1) := by decide +kernel
theorem dR_typeOf_7 : decode bR_typeOf 7 = .ok (.if_icmp .ne 7, 3) := by decide +kernel
theorem dR_typeOf_10 : decode bR_typeOf 10 = .ok (.iconst 0, 1) := by decide +kernel
theorem dR_typeOf_11 : decode bR_typeOf 11 = .ok (.goto 14, 3) := by decide +kernel
theorem dR_typeOf_14 : decode bR_typeOf 14 = .ok (.aload_n 0, 1) := by decide +kernel
theorem dR_typeOf_15 : decode bR_typeOf 15 = .ok (.getfield 7, 3) := by decide +kernel
theorem dR_typeOf_18 : decode bR_typeOf 18 = .ok (.aload_n 0, 1) := by decide +kernel
theorem dR_typeOf_19 : decode bR_typeOf 19 = .ok (.getfield 43, 3) := by decide +kernel
theorem dR_typeOf_22 : decode bR_typeOf 22 = .ok (.iload_n 1, 1) := by decide +kernel
theorem dR_typeOf_23 : decode bR_typeOf 23 = .ok (.iaload, 1) := by decide +kernel
theorem dR_typeOf_24 : decode bR_typeOf 24 = .ok (.iaload, 1) := by decide +kernel
theorem dR_typeOf_25 : decode bR_typeOf 25 = .ok (.ireturn, 1) := by decide +kernel
theorem dR_value_0 : decode bR_value 0 = .ok (.aload_n 0, 1) := by decide +kernel
theorem dR_value_1 : decode bR_value 1 = .ok (.getfield 40, 3) := by decide +kernel
theorem dR_value_4 : decode bR_value 4 = .ok (.aload_n 0, 1) := by decide +kernel
theorem dR_value_5 : decode bR_value 5 = .ok (.getfield 129, 3) := by decide +kernel
theorem dR_value_8 : decode bR_value 8 = .ok (.iload_n 1, 1) := by decide +kernel
theorem dR_value_9 : decode bR_value 9 = .ok (.iastore, 1) := by decide +kernel
theorem dR_value_10 : decode bR_value 10 = .ok (.aload_n 0, 1) := by decide +kernel
theorem dR_value_11 : decode bR_value 11 = .ok (.getfield 43, 3) := by decide +kernel
theorem dR_value_14 : decode bR_value 14 = .ok (.aload_n 0, 1) := by decide +kernel
theorem dR_value_15 : decode bR_value 15 = .ok (.getfield 129, 3) := by decide +kernel
theorem dR_value_18 : decode bR_value 18 = .ok (.iload_n 2, 1) := by decide +kernel
theorem dR_value_19 : decode bR_value 19 = .ok (.iastore, 1) := by decide +kernel
theorem dR_value_20 : decode bR_value 20 = .ok (.aload_n 0, 1) := by decide +kernel
theorem dR_value_21 : decode bR_value 21 = .ok (.getfield 46, 3) := by decide +kernel
theorem dR_value_24 : decode bR_value 24 = .ok (.aload_n 0, 1) := by decide +kernel
theorem dR_value_25 : decode bR_value 25 = .ok (.getfield 129, 3) := by decide +kernel
theorem dR_value_28 : decode bR_value 28 = .ok (.iload_n 3, 1) := by decide +kernel
theorem dR_value_29 : decode bR_value 29 = .ok (.iastore, 1) := by decide +kernel
theorem dR_value_30 : decode bR_value 30 = .ok (.aload_n 0, 1) := by decide +kernel
theorem dR_value_31 : decode bR_value 31 = .ok (.getfield 49, 3) := by decide +kernel
theorem dR_value_34 : decode bR_value 34 = .ok (.aload_n 0, 1) := by decide +kernel
theorem dR_value_35 : decode bR_value 35 = .ok (.getfield 129, 3) := by decide +kernel
theorem dR_value_38 : decode bR_value 38 = .ok (.iload 4, 2) := by decide +kernel
theorem dR_value_40 : decode bR_value 40 = .ok (.iastore, 1) := by decide +kernel
theorem dR_value_41 : decode bR_value 41 = .ok (.aload_n 0, 1) := by decide +kernel
theorem dR_value_42 : decode bR_value 42 = .ok (.dup, 1) := by decide +kernel
theorem dR_value_43 : decode bR_value 43 = .ok (.getfield 129, 3) := by decide +kernel
theorem dR_value_46 : decode bR_value 46 = .ok (.iconst 1, 1) := by decide +kernel
theorem dR_value_47 : decode bR_value 47 = .ok (.iadd, 1) := by decide +kernel
theorem dR_value_48 : decode bR_value 48 = .ok (.putfield 129, 3) := by decide +kernel
theorem dR_value_51 : decode bR_value 51 = .ok (.aload_n 0, 1) := by decide +kernel
theorem dR_value_52 : decode bR_value 52 = .ok (.getfield 129, 3) := by decide +kernel
theorem dR_value_55 : decode bR_value 55 = .ok (.iconst 1, 1) := by decide +kernel
theorem dR_value_56 : decode bR_value 56 = .ok (.isub, 1) := by decide +kernel
theorem dR_value_57 : decode bR_value 57 = .ok (.ireturn, 1) := by decide +kernel
theorem dR_valueNumber_0 : decode bR_valueNumber 0 = .ok (.aload_n 0, 1) := by decide +kernel
theorem dR_valueNumber_1 : decode bR_valueNumber 1 = .ok (.getfield 129, 3) := by decide +kernel
theorem dR_valueNumber_4 : decode bR_valueNumber 4 = .ok (.bipush 60, 2) := by decide +kernel
theorem dR_valueNumber_6 : decode bR_valueNumber 6 = .ok (.if_icmp .ne 8, 3) := by decide +kernel
theorem dR_valueNumber_9 : decode bR_valueNumber 9 = .ok (.bipush (-8), 2) := by decide +kernel
theorem dR_valueNumber_11 : decode bR_valueNumber 11 = .ok (.goto 11, 3) := by decide +kernel
theorem dR_valueNumber_14 : decode bR_valueNumber 14 = .ok (.aload_n 0, 1) := by decide +kernel
theorem dR_valueNumber_15 : decode bR_valueNumber 15 = .ok (.iconst 1, 1) := by decide +kernel
theorem dR_valueNumber_16 : decode bR_valueNumber 16 = .ok (.iload_n 1, 1) := by decide +kernel
theorem dR_valueNumber_17 : decode bR_valueNumber 17 = .ok (.iconst (-1), 1) := by decide +kernel
theorem dR_valueNumber_18 : decode bR_valueNumber 18 = .ok (.iconst (-1), 1) := by decide +kernel
theorem dR_valueNumber_19 : decode bR_valueNumber 19 = .ok (.invokevirtual 225, 3) := by decide +kernel
theorem dR_valueNumber_22 : decode bR_valueNumber 22 = .ok (.ireturn, 1) := by decide +kernel
theorem dR_valueOf_0 : decode bR_valueOf 0 = .ok (.iload_n 1, 1) := by decide +kernel
theorem dR_valueOf_1 : decode bR_valueOf 1 = .ok (.ifCond .lt 11, 3) := by decide +kernel
theorem dR_valueOf_4 : decode bR_valueOf 4 = .ok (.iload_n 1, 1) := by decide +kernel
theorem dR_valueOf_5 : decode bR_valueOf 5 = .ok (.aload_n 0, 1) := by decide +kernel
theorem dR_valueOf_6 : decode bR_valueOf 6 = .ok (.getfield 123, 3) := by decide +kernel
theorem dR_valueOf_9 : decode bR_valueOf 9 = .ok (.if_icmp .lt 6, 3) := by decide +kernel
theorem dR_valueOf_12 : decode bR_valueOf 12 = .ok (.bipush (-4), 2) := by decide +kernel
theorem dR_valueOf_14 : decode bR_valueOf 14 = .ok (.ireturn, 1) := by decide +kernel
theorem dR_valueOf_15 : decode bR_valueOf 15 = .ok (.aload_n 0, 1) := by decide +kernel
theorem dR_valueOf_16 : decode bR_valueOf 16 = .ok (.getfield 13, 3) := by decide +kernel
theorem dR_valueOf_19 : decode bR_valueOf 19 = .ok (.iload_n 1, 1) := by decide +kernel
theorem dR_valueOf_20 : decode bR_valueOf 20 = .ok (.iaload, 1) := by decide +kernel
theorem dR_valueOf_21 : decode bR_valueOf 21 = .ok (.ifCond .lt 7, 3) := by decide +kernel
theorem dR_valueOf_24 : decode bR_valueOf 24 = .ok (.iconst 1, 1) := by decide +kernel
theorem dR_valueOf_25 : decode bR_valueOf 25 = .ok (.goto 4, 3) := by decide +kernel
theorem dR_valueOf_28 : decode bR_valueOf 28 = .ok (.iconst 0, 1) := by decide +kernel
theorem dR_valueOf_29 : decode bR_valueOf 29 = .ok (.istore 4, 2) := by decide +kernel
theorem dR_valueOf_31 : decode bR_valueOf 31 = .ok (.aload_n 0, 1) := by decide +kernel
theorem dR_valueOf_32 : decode bR_valueOf 32 = .ok (.getfield 16, 3) := by decide +kernel
theorem dR_valueOf_35 : decode bR_valueOf 35 = .ok (.iload_n 1, 1) := by decide +kernel
theorem dR_valueOf_36 : decode bR_valueOf 36 = .ok (.iaload, 1) := by decide +kernel
theorem dR_valueOf_37 : decode bR_valueOf 37 = .ok (.ifCond .lt 7, 3) := by decide +kernel
theorem dR_valueOf_40 : decode bR_valueOf 40 = .ok (.iconst 1, 1) := by decide +kernel
theorem dR_valueOf_41 : decode bR_valueOf 41 = .ok (.goto 4, 3) := by decide +kernel
theorem dR_valueOf_44 : decode bR_valueOf 44 = .ok (.iconst 0, 1) := by decide +kernel
theorem dR_valueOf_45 : decode bR_valueOf 45 = .ok (.istore 5, 2) := by decide +kernel
theorem dR_valueOf_47 : decode bR_valueOf 47 = .ok (.iload 4, 2) := by decide +kernel
theorem dR_valueOf_49 : decode bR_valueOf 49 = .ok (.ifCond .eq 11, 3) := by decide +kernel
theorem dR_valueOf_52 : decode bR_valueOf 52 = .ok (.aload_n 0, 1) := by decide +kernel
theorem dR_valueOf_53 : decode bR_valueOf 53 = .ok (.iload_n 2, 1) := by decide +kernel
theorem dR_valueOf_54 : decode bR_valueOf 54 = .ok (.invokevirtual 229, 3) := by decide +kernel
theorem dR_valueOf_57 : decode bR_valueOf 57 = .ok (.ifCond .eq 36, 3) := by decide +kernel
theorem dR_valueOf_60 : decode bR_valueOf 60 = .ok (.iload 4, 2) := by decide +kernel
theorem dR_valueOf_62 : decode bR_valueOf 62 = .ok (.ifCond .ne 8, 3) := by decide +kernel
theorem dR_valueOf_65 : decode bR_valueOf 65 = .ok (.iload_n 2, 1) := by decide +kernel
theorem dR_valueOf_66 : decode bR_valueOf 66 = .ok (.iconst (-1), 1) := by decide +kernel
theorem dR_valueOf_67 : decode bR_valueOf 67 = .ok (.if_icmp .ne 26, 3) := by decide +kernel
theorem dR_valueOf_70 : decode bR_valueOf 70 = .ok (.iload 5, 2) := by decide +kernel
theorem dR_valueOf_72 : decode bR_valueOf 72 = .ok (.ifCond .eq 11, 3) := by decide +kernel
theorem dR_valueOf_75 : decode bR_valueOf 75 = .ok (.aload_n 0, 1) := by decide +kernel
theorem dR_valueOf_76 : decode bR_valueOf 76 = .ok (.iload_n 3, 1) := by decide +kernel
theorem dR_valueOf_77 : decode bR_valueOf 77 = .ok (.invokevirtual 229, 3) := by decide +kernel
theorem dR_valueOf_80 : decode bR_valueOf 80 = .ok (.ifCond .eq 13, 3) := by decide +kernel
theorem dR_valueOf_83 : decode bR_valueOf 83 = .ok (.iload 5, 2) := by decide +kernel
theorem dR_valueOf_85 : decode bR_valueOf 85 = .ok (.ifCond .ne 11, 3) := by decide +kernel
theorem dR_valueOf_88 : decode bR_valueOf 88 = .ok (.iload_n 3, 1) := by decide +kernel
theorem dR_valueOf_89 : decode bR_valueOf 89 = .ok (.iconst (-1), 1) := by decide +kernel
theorem dR_valueOf_90 : decode bR_valueOf 90 = .ok (.if_icmp .eq 6, 3) := by decide +kernel
theorem dR_valueOf_93 : decode bR_valueOf 93 = .ok (.bipush (-6), 2) := by decide +kernel
theorem dR_valueOf_95 : decode bR_valueOf 95 = .ok (.ireturn, 1) := by decide +kernel
theorem dR_valueOf_96 : decode bR_valueOf 96 = .ok (.iload 4, 2) := by decide +kernel
theorem dR_valueOf_98 : decode bR_valueOf 98 = .ok (.ifCond .eq 17, 3) := by decide +kernel
theorem dR_valueOf_101 : decode bR_valueOf 101 = .ok (.aload_n 0, 1) := by decide +kernel
theorem dR_valueOf_102 : decode bR_valueOf 102 = .ok (.iload_n 2, 1) := by decide +kernel
theorem dR_valueOf_103 : decode bR_valueOf 103 = .ok (.invokevirtual 232, 3) := by decide +kernel
theorem dR_valueOf_106 : decode bR_valueOf 106 = .ok (.aload_n 0, 1) := by decide +kernel
theorem dR_valueOf_107 : decode bR_valueOf 107 = .ok (.getfield 13, 3) := by decide +kernel
theorem dR_valueOf_110 : decode bR_valueOf 110 = .ok (.iload_n 1, 1) := by decide +kernel
theorem dR_valueOf_111 : decode bR_valueOf 111 = .ok (.iaload, 1) := by decide +kernel
theorem dR_valueOf_112 : decode bR_valueOf 112 = .ok (.if_icmp .ne 22, 3) := by decide +kernel
theorem dR_valueOf_115 : decode bR_valueOf 115 = .ok (.iload 5, 2) := by decide +kernel
theorem dR_valueOf_117 : decode bR_valueOf 117 = .ok (.ifCond .eq 20, 3) := by decide +kernel
theorem dR_valueOf_120 : decode bR_valueOf 120 = .ok (.aload_n 0, 1) := by decide +kernel
theorem dR_valueOf_121 : decode bR_valueOf 121 = .ok (.iload_n 3, 1) := by decide +kernel
theorem dR_valueOf_122 : decode bR_valueOf 122 = .ok (.invokevirtual 232, 3) := by decide +kernel
theorem dR_valueOf_125 : decode bR_valueOf 125 = .ok (.aload_n 0, 1) := by decide +kernel
theorem dR_valueOf_126 : decode bR_valueOf 126 = .ok (.getfield 16, 3) := by decide +kernel
theorem dR_valueOf_129 : decode bR_valueOf 129 = .ok (.iload_n 1, 1) := by decide +kernel
theorem dR_valueOf_130 : decode bR_valueOf 130 = .ok (.iaload, 1) := by decide +kernel
theorem dR_valueOf_131 : decode bR_valueOf 131 = .ok (.if_icmp .eq 6, 3) := by decide +kernel
theorem dR_valueOf_134 : decode bR_valueOf 134 = .ok (.bipush (-7), 2) := by decide +kernel
theorem dR_valueOf_136 : decode bR_valueOf 136 = .ok (.ireturn, 1) := by decide +kernel
theorem dR_valueOf_137 : decode bR_valueOf 137 = .ok (.aload_n 0, 1) := by decide +kernel
theorem dR_valueOf_138 : decode bR_valueOf 138 = .ok (.getfield 129, 3) := by decide +kernel
theorem dR_valueOf_141 : decode bR_valueOf 141 = .ok (.bipush 60, 2) := by decide +kernel
theorem dR_valueOf_143 : decode bR_valueOf 143 = .ok (.if_icmp .ne 8, 3) := by decide +kernel
theorem dR_valueOf_146 : decode bR_valueOf 146 = .ok (.bipush (-8), 2) := by decide +kernel
theorem dR_valueOf_148 : decode bR_valueOf 148 = .ok (.goto 11, 3) := by decide +kernel
theorem dR_valueOf_151 : decode bR_valueOf 151 = .ok (.aload_n 0, 1) := by decide +kernel
theorem dR_valueOf_152 : decode bR_valueOf 152 = .ok (.iconst 2, 1) := by decide +kernel
theorem dR_valueOf_153 : decode bR_valueOf 153 = .ok (.iload_n 1, 1) := by decide +kernel
theorem dR_valueOf_154 : decode bR_valueOf 154 = .ok (.iload_n 2, 1) := by decide +kernel
theorem dR_valueOf_155 : decode bR_valueOf 155 = .ok (.iload_n 3, 1) := by decide +kernel
theorem dR_valueOf_156 : decode bR_valueOf 156 = .ok (.invokevirtual 225, 3) := by decide +kernel
theorem dR_valueOf_159 : decode bR_valueOf 159 = .ok (.ireturn, 1) := by decide +kernel
theorem dR_part_0 : decode bR_part 0 = .ok (.iload_n 1, 1) := by decide +kernel
theorem dR_part_1 : decode bR_part 1 = .ok (.istore_n 3, 1) := by decide +kernel
theorem dR_part_2 : decode bR_part 2 = .ok (.iload_n 2, 1) := by decide +kernel
theorem dR_part_3 : decode bR_part 3 = .ok (.bipush 7, 2) := by decide +kernel
theorem dR_part_5 : decode bR_part 5 = .ok (.if_icmp .le 7, 3) := by decide +kernel
theorem dR_part_8 : decode bR_part 8 = .ok (.iconst 3, 1) := by decide +kernel
theorem dR_part_9 : decode bR_part 9 = .ok (.goto 22, 3) := by decide +kernel
theorem dR_part_12 : decode bR_part 12 = .ok (.iload_n 2, 1) := by decide +kernel
theorem dR_part_13 : decode bR_part 13 = .ok (.iconst 3, 1) := by decide +kernel
theorem dR_part_14 : decode bR_part 14 = .ok (.if_icmp .le 7, 3) := by decide +kernel
theorem dR_part_17 : decode bR_part 17 = .ok (.iconst 2, 1) := by decide +kernel
theorem dR_part_18 : decode bR_part 18 = .ok (.goto 13, 3) := by decide +kernel
theorem dR_part_21 : decode bR_part 21 = .ok (.iload_n 2, 1) := by decide +kernel
theorem dR_part_22 : decode bR_part 22 = .ok (.iconst 1, 1) := by decide +kernel
theorem dR_part_23 : decode bR_part 23 = .ok (.if_icmp .le 7, 3) := by decide +kernel
theorem dR_part_26 : decode bR_part 26 = .ok (.iconst 1, 1) := by decide +kernel
theorem dR_part_27 : decode bR_part 27 = .ok (.goto 4, 3) := by decide +kernel
theorem dR_part_30 : decode bR_part 30 = .ok (.iconst 0, 1) := by decide +kernel
theorem dR_part_31 : decode bR_part 31 = .ok (.istore 4, 2) := by decide +kernel
theorem dR_part_33 : decode bR_part 33 = .ok (.iload 4, 2) := by decide +kernel
theorem dR_part_35 : decode bR_part 35 = .ok (.iconst 1, 1) := by decide +kernel
theorem dR_part_36 : decode bR_part 36 = .ok (.isub, 1) := by decide +kernel
theorem dR_part_37 : decode bR_part 37 = .ok (.istore 5, 2) := by decide +kernel
theorem dR_part_39 : decode bR_part 39 = .ok (.iload 5, 2) := by decide +kernel
theorem dR_part_41 : decode bR_part 41 = .ok (.ifCond .lt 38, 3) := by decide +kernel
theorem dR_part_44 : decode bR_part 44 = .ok (.iload_n 3, 1) := by decide +kernel
theorem dR_part_45 : decode bR_part 45 = .ok (.ifCond .lt 34, 3) := by decide +kernel
theorem dR_part_48 : decode bR_part 48 = .ok (.iload_n 2, 1) := by decide +kernel
theorem dR_part_49 : decode bR_part 49 = .ok (.iload 5, 2) := by decide +kernel
theorem dR_part_51 : decode bR_part 51 = .ok (.ishr, 1) := by decide +kernel
theorem dR_part_52 : decode bR_part 52 = .ok (.iconst 1, 1) := by decide +kernel
theorem dR_part_53 : decode bR_part 53 = .ok (.iand, 1) := by decide +kernel
theorem dR_part_54 : decode bR_part 54 = .ok (.ifCond .ne 12, 3) := by decide +kernel
theorem dR_part_57 : decode bR_part 57 = .ok (.aload_n 0, 1) := by decide +kernel
theorem dR_part_58 : decode bR_part 58 = .ok (.getfield 46, 3) := by decide +kernel
theorem dR_part_61 : decode bR_part 61 = .ok (.iload_n 3, 1) := by decide +kernel
theorem dR_part_62 : decode bR_part 62 = .ok (.iaload, 1) := by decide +kernel
theorem dR_part_63 : decode bR_part 63 = .ok (.goto 9, 3) := by decide +kernel
theorem dR_part_66 : decode bR_part 66 = .ok (.aload_n 0, 1) := by decide +kernel
theorem dR_part_67 : decode bR_part 67 = .ok (.getfield 49, 3) := by decide +kernel
theorem dR_part_70 : decode bR_part 70 = .ok (.iload_n 3, 1) := by decide +kernel
theorem dR_part_71 : decode bR_part 71 = .ok (.iaload, 1) := by decide +kernel
theorem dR_part_72 : decode bR_part 72 = .ok (.istore_n 3, 1) := by decide +kernel
theorem dR_part_73 : decode bR_part 73 = .ok (.iinc 5 (-1), 3) := by decide +kernel
theorem dR_part_76 : decode bR_part 76 = .ok (.goto (-37), 3) := by decide +kernel
theorem dR_part_79 : decode bR_part 79 = .ok (.iload_n 3, 1) := by decide +kernel
theorem dR_part_80 : decode bR_part 80 = .ok (.ireturn, 1) := by decide +kernel
theorem dR_fits_0 : decode bR_fits 0 = .ok (.iconst 1, 1) := by decide +kernel
theorem dR_fits_1 : decode bR_fits 1 = .ok (.istore_n 3, 1) := by decide +kernel
theorem dR_fits_2 : decode bR_fits 2 = .ok (.iload_n 3, 1) := by decide +kernel
theorem dR_fits_3 : decode bR_fits 3 = .ok (.bipush 16, 2) := by decide +kernel
theorem dR_fits_5 : decode bR_fits 5 = .ok (.if_icmp .ge 80, 3) := by decide +kernel
theorem dR_fits_8 : decode bR_fits 8 = .ok (.aload_n 0, 1) := by decide +kernel
theorem dR_fits_9 : decode bR_fits 9 = .ok (.getfield 62, 3) := by decide +kernel
theorem dR_fits_12 : decode bR_fits 12 = .ok (.bipush 16, 2) := by decide +kernel
theorem dR_fits_14 : decode bR_fits 14 = .ok (.iload_n 1, 1) := by decide +kernel
theorem dR_fits_15 : decode bR_fits 15 = .ok (.imul, 1) := by decide +kernel
theorem dR_fits_16 : decode bR_fits 16 = .ok (.iload_n 3, 1) := by decide +kernel
theorem dR_fits_17 : decode bR_fits 17 = .ok (.iadd, 1) := by decide +kernel
theorem dR_fits_18 : decode bR_fits 18 = .ok (.iaload, 1) := by decide +kernel
theorem dR_fits_19 : decode bR_fits 19 = .ok (.ifCond .le 60, 3) := by decide +kernel
theorem dR_fits_22 : decode bR_fits 22 = .ok (.aload_n 0, 1) := by decide +kernel
theorem dR_fits_23 : decode bR_fits 23 = .ok (.iload_n 2, 1) := by decide +kernel
theorem dR_fits_24 : decode bR_fits 24 = .ok (.iload_n 3, 1) := by decide +kernel
theorem dR_fits_25 : decode bR_fits 25 = .ok (.invokevirtual 235, 3) := by decide +kernel
theorem dR_fits_28 : decode bR_fits 28 = .ok (.istore 4, 2) := by decide +kernel
theorem dR_fits_30 : decode bR_fits 30 = .ok (.iload 4, 2) := by decide +kernel
theorem dR_fits_32 : decode bR_fits 32 = .ok (.ifCond .lt 45, 3) := by decide +kernel
theorem dR_fits_35 : decode bR_fits 35 = .ok (.aload_n 0, 1) := by decide +kernel
theorem dR_fits_36 : decode bR_fits 36 = .ok (.getfield 40, 3) := by decide +kernel
theorem dR_fits_39 : decode bR_fits 39 = .ok (.iload 4, 2) := by decide +kernel
theorem dR_fits_41 : decode bR_fits 41 = .ok (.iaload, 1) := by decide +kernel
theorem dR_fits_42 : decode bR_fits 42 = .ok (.aload_n 0, 1) := by decide +kernel
theorem dR_fits_43 : decode bR_fits 43 = .ok (.getfield 62, 3) := by decide +kernel
theorem dR_fits_46 : decode bR_fits 46 = .ok (.bipush 16, 2) := by decide +kernel
theorem dR_fits_48 : decode bR_fits 48 = .ok (.iload_n 1, 1) := by decide +kernel
theorem dR_fits_49 : decode bR_fits 49 = .ok (.imul, 1) := by decide +kernel
theorem dR_fits_50 : decode bR_fits 50 = .ok (.iload_n 3, 1) := by decide +kernel
theorem dR_fits_51 : decode bR_fits 51 = .ok (.iadd, 1) := by decide +kernel
theorem dR_fits_52 : decode bR_fits 52 = .ok (.iaload, 1) := by decide +kernel
theorem dR_fits_53 : decode bR_fits 53 = .ok (.if_icmp .ne 24, 3) := by decide +kernel
theorem dR_fits_56 : decode bR_fits 56 = .ok (.aload_n 0, 1) := by decide +kernel
theorem dR_fits_57 : decode bR_fits 57 = .ok (.getfield 43, 3) := by decide +kernel
theorem dR_fits_60 : decode bR_fits 60 = .ok (.iload 4, 2) := by decide +kernel
theorem dR_fits_62 : decode bR_fits 62 = .ok (.iaload, 1) := by decide +kernel
theorem dR_fits_63 : decode bR_fits 63 = .ok (.aload_n 0, 1) := by decide +kernel
theorem dR_fits_64 : decode bR_fits 64 = .ok (.getfield 65, 3) := by decide +kernel
theorem dR_fits_67 : decode bR_fits 67 = .ok (.bipush 16, 2) := by decide +kernel
theorem dR_fits_69 : decode bR_fits 69 = .ok (.iload_n 1, 1) := by decide +kernel
theorem dR_fits_70 : decode bR_fits 70 = .ok (.imul, 1) := by decide +kernel
theorem dR_fits_71 : decode bR_fits 71 = .ok (.iload_n 3, 1) := by decide +kernel
theorem dR_fits_72 : decode bR_fits 72 = .ok (.iadd, 1) := by decide +kernel
theorem dR_fits_73 : decode bR_fits 73 = .ok (.iaload, 1) := by decide +kernel
theorem dR_fits_74 : decode bR_fits 74 = .ok (.if_icmp .eq 5, 3) := by decide +kernel
theorem dR_fits_77 : decode bR_fits 77 = .ok (.iconst 0, 1) := by decide +kernel
theorem dR_fits_78 : decode bR_fits 78 = .ok (.ireturn, 1) := by decide +kernel
theorem dR_fits_79 : decode bR_fits 79 = .ok (.iinc 3 1, 3) := by decide +kernel
theorem dR_fits_82 : decode bR_fits 82 = .ok (.goto (-80), 3) := by decide +kernel
theorem dR_fits_85 : decode bR_fits 85 = .ok (.iconst 1, 1) := by decide +kernel
theorem dR_fits_86 : decode bR_fits 86 = .ok (.ireturn, 1) := by decide +kernel
theorem dR_walk_0 : decode bR_walk 0 = .ok (.iconst 0, 1) := by decide +kernel
theorem dR_walk_1 : decode bR_walk 1 = .ok (.istore_n 2, 1) := by decide +kernel
theorem dR_walk_2 : decode bR_walk 2 = .ok (.iconst 0, 1) := by decide +kernel
theorem dR_walk_3 : decode bR_walk 3 = .ok (.istore_n 3, 1) := by decide +kernel
theorem dR_walk_4 : decode bR_walk 4 = .ok (.aload_n 0, 1) := by decide +kernel
theorem dR_walk_5 : decode bR_walk 5 = .ok (.getfield 83, 3) := by decide +kernel
theorem dR_walk_8 : decode bR_walk 8 = .ok (.iload_n 3, 1) := by decide +kernel
theorem dR_walk_9 : decode bR_walk 9 = .ok (.iaload, 1) := by decide +kernel
theorem dR_walk_10 : decode bR_walk 10 = .ok (.ifCond .le 72, 3) := by decide +kernel
theorem dR_walk_13 : decode bR_walk 13 = .ok (.iload_n 2, 1) := by decide +kernel
theorem dR_walk_14 : decode bR_walk 14 = .ok (.bipush 60, 2) := by decide +kernel
theorem dR_walk_16 : decode bR_walk 16 = .ok (.if_icmp .ge 66, 3) := by decide +kernel
theorem dR_walk_19 : decode bR_walk 19 = .ok (.aload_n 0, 1) := by decide +kernel
theorem dR_walk_20 : decode bR_walk 20 = .ok (.iload_n 1, 1) := by decide +kernel
theorem dR_walk_21 : decode bR_walk 21 = .ok (.aload_n 0, 1) := by decide +kernel
theorem dR_walk_22 : decode bR_walk 22 = .ok (.getfield 83, 3) := by decide +kernel
theorem dR_walk_25 : decode bR_walk 25 = .ok (.iload_n 3, 1) := by decide +kernel
theorem dR_walk_26 : decode bR_walk 26 = .ok (.iaload, 1) := by decide +kernel
theorem dR_walk_27 : decode bR_walk 27 = .ok (.invokevirtual 235, 3) := by decide +kernel
theorem dR_walk_30 : decode bR_walk 30 = .ok (.istore 4, 2) := by decide +kernel
theorem dR_walk_32 : decode bR_walk 32 = .ok (.aload_n 0, 1) := by decide +kernel
theorem dR_walk_33 : decode bR_walk 33 = .ok (.getfield 92, 3) := by decide +kernel
theorem dR_walk_36 : decode bR_walk 36 = .ok (.iload_n 3, 1) := by decide +kernel
theorem dR_walk_37 : decode bR_walk 37 = .ok (.iaload, 1) := by decide +kernel
theorem dR_walk_38 : decode bR_walk 38 = .ok (.istore 5, 2) := by decide +kernel
theorem dR_walk_40 : decode bR_walk 40 = .ok (.aload_n 0, 1) := by decide +kernel
theorem dR_walk_41 : decode bR_walk 41 = .ok (.getfield 101, 3) := by decide +kernel
theorem dR_walk_44 : decode bR_walk 44 = .ok (.iload 5, 2) := by decide +kernel
theorem dR_walk_46 : decode bR_walk 46 = .ok (.baload, 1) := by decide +kernel
theorem dR_walk_47 : decode bR_walk 47 = .ok (.ifCond .ne 26, 3) := by decide +kernel
theorem dR_walk_50 : decode bR_walk 50 = .ok (.aload_n 0, 1) := by decide +kernel
theorem dR_walk_51 : decode bR_walk 51 = .ok (.getfield 98, 3) := by decide +kernel
theorem dR_walk_54 : decode bR_walk 54 = .ok (.iload 5, 2) := by decide +kernel
theorem dR_walk_56 : decode bR_walk 56 = .ok (.iaload, 1) := by decide +kernel
theorem dR_walk_57 : decode bR_walk 57 = .ok (.aload_n 0, 1) := by decide +kernel
theorem dR_walk_58 : decode bR_walk 58 = .ok (.getfield 43, 3) := by decide +kernel
theorem dR_walk_61 : decode bR_walk 61 = .ok (.iload 4, 2) := by decide +kernel
theorem dR_walk_63 : decode bR_walk 63 = .ok (.iaload, 1) := by decide +kernel
theorem dR_walk_64 : decode bR_walk 64 = .ok (.if_icmp .eq 9, 3) := by decide +kernel
theorem dR_walk_67 : decode bR_walk 67 = .ok (.iinc 5 1, 3) := by decide +kernel
theorem dR_walk_70 : decode bR_walk 70 = .ok (.goto (-30), 3) := by decide +kernel
theorem dR_walk_73 : decode bR_walk 73 = .ok (.iinc 2 1, 3) := by decide +kernel
theorem dR_walk_76 : decode bR_walk 76 = .ok (.iload 5, 2) := by decide +kernel
theorem dR_walk_78 : decode bR_walk 78 = .ok (.istore_n 3, 1) := by decide +kernel
theorem dR_walk_79 : decode bR_walk 79 = .ok (.goto (-75), 3) := by decide +kernel
theorem dR_walk_82 : decode bR_walk 82 = .ok (.iload_n 2, 1) := by decide +kernel
theorem dR_walk_83 : decode bR_walk 83 = .ok (.ireturn, 1) := by decide +kernel
theorem dR_run_0 : decode bR_run 0 = .ok (.aload_n 0, 1) := by decide +kernel
theorem dR_run_1 : decode bR_run 1 = .ok (.getfield 138, 3) := by decide +kernel
theorem dR_run_4 : decode bR_run 4 = .ok (.ifCond .ne 6, 3) := by decide +kernel
theorem dR_run_7 : decode bR_run 7 = .ok (.bipush (-13), 2) := by decide +kernel
theorem dR_run_9 : decode bR_run 9 = .ok (.ireturn, 1) := by decide +kernel
theorem dR_run_10 : decode bR_run 10 = .ok (.aload_n 0, 1) := by decide +kernel
theorem dR_run_11 : decode bR_run 11 = .ok (.iload_n 1, 1) := by decide +kernel
theorem dR_run_12 : decode bR_run 12 = .ok (.invokevirtual 229, 3) := by decide +kernel
theorem dR_run_15 : decode bR_run 15 = .ok (.ifCond .ne 6, 3) := by decide +kernel
theorem dR_run_18 : decode bR_run 18 = .ok (.bipush (-6), 2) := by decide +kernel
theorem dR_run_20 : decode bR_run 20 = .ok (.ireturn, 1) := by decide +kernel
theorem dR_run_21 : decode bR_run 21 = .ok (.aload_n 0, 1) := by decide +kernel
theorem dR_run_22 : decode bR_run 22 = .ok (.iload_n 1, 1) := by decide +kernel
theorem dR_run_23 : decode bR_run 23 = .ok (.invokevirtual 232, 3) := by decide +kernel
theorem dR_run_26 : decode bR_run 26 = .ok (.aload_n 0, 1) := by decide +kernel
theorem dR_run_27 : decode bR_run 27 = .ok (.getfield 52, 3) := by decide +kernel
theorem dR_run_30 : decode bR_run 30 = .ok (.if_icmp .eq 6, 3) := by decide +kernel
theorem dR_run_33 : decode bR_run 33 = .ok (.bipush (-7), 2) := by decide +kernel
theorem dR_run_35 : decode bR_run 35 = .ok (.ireturn, 1) := by decide +kernel
theorem dR_run_36 : decode bR_run 36 = .ok (.aload_n 0, 1) := by decide +kernel
theorem dR_run_37 : decode bR_run 37 = .ok (.aload_n 0, 1) := by decide +kernel
theorem dR_run_38 : decode bR_run 38 = .ok (.iload_n 1, 1) := by decide +kernel
theorem dR_run_39 : decode bR_run 39 = .ok (.invokevirtual 238, 3) := by decide +kernel
theorem dR_run_42 : decode bR_run 42 = .ok (.putfield 142, 3) := by decide +kernel
theorem dR_run_45 : decode bR_run 45 = .ok (.iconst 0, 1) := by decide +kernel
theorem dR_run_46 : decode bR_run 46 = .ok (.istore_n 2, 1) := by decide +kernel
theorem dR_run_47 : decode bR_run 47 = .ok (.iload_n 2, 1) := by decide +kernel
theorem dR_run_48 : decode bR_run 48 = .ok (.aload_n 0, 1) := by decide +kernel
theorem dR_run_49 : decode bR_run 49 = .ok (.getfield 135, 3) := by decide +kernel
theorem dR_run_52 : decode bR_run 52 = .ok (.if_icmp .ge 25, 3) := by decide +kernel
theorem dR_run_55 : decode bR_run 55 = .ok (.aload_n 0, 1) := by decide +kernel
theorem dR_run_56 : decode bR_run 56 = .ok (.iload_n 2, 1) := by decide +kernel
theorem dR_run_57 : decode bR_run 57 = .ok (.iload_n 1, 1) := by decide +kernel
theorem dR_run_58 : decode bR_run 58 = .ok (.invokevirtual 241, 3) := by decide +kernel
theorem dR_run_61 : decode bR_run 61 = .ok (.ifCond .eq 10, 3) := by decide +kernel
theorem dR_run_64 : decode bR_run 64 = .ok (.aload_n 0, 1) := by decide +kernel
theorem dR_run_65 : decode bR_run 65 = .ok (.getfield 56, 3) := by decide +kernel
theorem dR_run_68 : decode bR_run 68 = .ok (.iload_n 2, 1) := by decide +kernel
theorem dR_run_69 : decode bR_run 69 = .ok (.iaload, 1) := by decide +kernel
theorem dR_run_70 : decode bR_run 70 = .ok (.ireturn, 1) := by decide +kernel
theorem dR_run_71 : decode bR_run 71 = .ok (.iinc 2 1, 3) := by decide +kernel
theorem dR_run_74 : decode bR_run 74 = .ok (.goto (-27), 3) := by decide +kernel
theorem dR_run_77 : decode bR_run 77 = .ok (.iconst (-1), 1) := by decide +kernel
theorem dR_run_78 : decode bR_run 78 = .ok (.ireturn, 1) := by decide +kernel
theorem dR_tests_0 : decode bR_tests 0 = .ok (.aload_n 0, 1) := by decide +kernel
theorem dR_tests_1 : decode bR_tests 1 = .ok (.getfield 142, 3) := by decide +kernel
theorem dR_tests_4 : decode bR_tests 4 = .ok (.ireturn, 1) := by decide +kernel
section Srefe2
variable {p : Program} {l : Launch} {e : Env} {R : Room} {s : State} {m : MethodId} {args : Array Value} {below : List Frame} {meth : Method} {c : Code} {Q : State → Prop} {D : va_G} {cA : Nat → ClassId} {ad : Nat → Nat} {H0 : Heap}
def fR_compile_l43 (k69 : ck_S → Option (Int32 × ck_S)) : Nat → Int32 → ck_S → Option (Int32 × ck_S)
  | 0, _, _ => none
  | n + 1, x1, st => (if (st 0 29) ≤ x1 then (k69 st) else (if (st 0 30) = 0 then (ck_bv (fR_grow x1 st) fun st1 => (fR_compile_l43 k69 n (x1 + 1) st1)) else (k69 st)))
set_option maxRecDepth 100000 in
set_option maxHeartbeats 4000000 in
theorem BR_compile_43 (C : ck_X cm_cl D cA bR_compile 2 R_R 4 p R s m args c) {r0 : Int32} {st0 : ck_S} (hret : ∀ (pc : Nat) (H : Heap) (locs : List Loc) (ls : Array Slot), decode bR_compile pc = .ok (.ireturn, 1) → ck_AT sh_R cm_cl D cA ad H0 st0 H locs → W p l e R s m args below meth c H locs 0 0 Q (F0 m pc ls [.int r0])) {k69 : ck_S → Option (Int32 × ck_S)} (hk69 : ∀ (st : ck_S) (H : Heap) (locs : List Loc) (ls : Array Slot), ck_AT sh_R cm_cl D cA ad H0 st H locs → lv_has ls 2 [(0, .ref (ad 0))] → k69 st = some (r0, st0) → W p l e R s m args below meth c H locs 0 0 Q (F0 m 69 ls [])) : ∀ (n : Nat) (x1 : Int32) (st : ck_S) (H : Heap) (locs : List Loc) (ls : Array Slot), ck_AT sh_R cm_cl D cA ad H0 st H locs → lv_has ls 2 [(0, .ref (ad 0)), (1, .int x1)] → fR_compile_l43 k69 n x1 st = some (r0, st0) → W p l e R s m args below meth c H locs 0 0 Q (F0 m 43 ls []) := by
  have C1 := C
  obtain ⟨hx, hb, hml, hown, hts, hK, hlv, hlo⟩ := C1
  intro n
  induction n with
  | zero => intro _ _ _ _ _ _ _ hf; cases hf
  | succ n ih =>
    intro x1 st H locs ls h hl hf
    rw [fR_compile_l43] at hf
    refine lv_iload_n hx hb dR_compile_43 rfl (lv_at hl 1 rfl) ?_
    refine lv_aload_n hx hb dR_compile_44 rfl (lv_at hl 0 rfl) ?_
    refine ck_gi (x := (st 0 29)) C h FR_nodes rfl dR_compile_45 ?_
    refine lv_icmp_ge (tgt := 69) hx hb dR_compile_48 rfl (fun hq => ?_) (fun hq => ?_)
    · have hf := ck_t hq hf
      exact hk69 _ _ _ _ h (lv_sub hl [0] rfl) hf
    · have hf := ck_f hq hf
      refine lv_aload_n hx hb dR_compile_51 rfl (lv_at hl 0 rfl) ?_
      refine ck_gi (x := (st 0 30)) C h FR_tooBig rfl dR_compile_52 ?_
      refine lv_if_ne (tgt := 69) hx hb dR_compile_55 rfl (fun hq => ?_) (fun hq => ?_)
      · have hf := ck_f hq hf
        exact hk69 _ _ _ _ h (lv_sub hl [0] rfl) hf
      · have hf := ck_t hq hf
        refine lv_aload_n hx hb dR_compile_58 rfl (lv_at hl 0 rfl) ?_
        refine lv_iload_n hx hb dR_compile_59 rfl (lv_at hl 1 rfl) ?_
        obtain ⟨st1, hc, hf⟩ := ck_bv_e hf
        refine ck_vv (As := [.int x1]) (rest := []) (q := 0) C h hl CR_R_grow sR_grow q_R (cR_grow l D cA ad hc) (Nat.le_of_ble_eq_true rfl) rfl rfl (Nat.le_of_ble_eq_true rfl) dR_compile_60 (fun H locs h => ?_)
        refine lv_iinc (k := 1) (v := (x1 + 1)) (lv' := [(1, .int (x1 + 1)), (0, .ref (ad 0))]) hx hb dR_compile_63 hl rfl rfl (by decide) rfl (fun ls hl => ?_)
        refine lv_goto (tgt := 43) hx hb dR_compile_66 rfl ?_
        exact ih _ _ _ _ _ h (lv_sub hl [1, 0] rfl) hf
def fR_compile_b82 (y0 : Int32) (st : ck_S) : Option (Int32 × ck_S) := (ck_gz y0 (if y0 = 0 then (some ((-14 : Int32), (ck_u st 0 28 y0))) else (ck_bv (fR_findWitness (ck_u st 0 28 y0)) fun st1 => (some ((st1 0 29), st1)))))
set_option maxRecDepth 100000 in
set_option maxHeartbeats 4000000 in
theorem BR_compile_82 (C : ck_X cm_cl D cA bR_compile 2 R_R 4 p R s m args c) {r0 : Int32} {st0 : ck_S} (hret : ∀ (pc : Nat) (H : Heap) (locs : List Loc) (ls : Array Slot), decode bR_compile pc = .ok (.ireturn, 1) → ck_AT sh_R cm_cl D cA ad H0 st0 H locs → W p l e R s m args below meth c H locs 0 0 Q (F0 m pc ls [.int r0])) (y0 : Int32) (st : ck_S) (H : Heap) (locs : List Loc) (ls : Array Slot) (h : ck_AT sh_R cm_cl D cA ad H0 st H locs) (hl : lv_has ls 2 [(0, .ref (ad 0))]) (hf : fR_compile_b82 y0 st = some (r0, st0)) : W p l e R s m args below meth c H locs 0 0 Q (F0 m 82 ls [.int y0, .ref (ad 0)]) := by
  have C1 := C
  obtain ⟨hx, hb, hml, hown, hts, hK, hlv, hlo⟩ := C1
  unfold fR_compile_b82 at hf
  obtain ⟨hz, hf⟩ := ck_gz_e hf
  refine ck_pi C h GR_grown (ck_nz hz) (by rcases hz with hz | hz <;> rw [hz] <;> rfl) dR_compile_82 (fun H locs h => ?_)
  refine lv_aload_n hx hb dR_compile_85 rfl (lv_at hl 0 rfl) ?_
  refine ck_gi (x := y0) C h FR_grown rfl dR_compile_86 ?_
  refine lv_if_ne (tgt := 95) hx hb dR_compile_89 rfl (fun hq => ?_) (fun hq => ?_)
  · have hf := ck_f hq hf
    refine lv_aload_n hx hb dR_compile_95 rfl (lv_at hl 0 rfl) ?_
    obtain ⟨st1, hc, hf⟩ := ck_bv_e hf
    refine ck_vv (As := []) (rest := []) (q := 0) C h hl CR_R_findWitness sR_findWitness q_R (cR_findWitness l D cA ad hc) (Nat.le_of_ble_eq_true rfl) rfl rfl (Nat.le_of_ble_eq_true rfl) dR_compile_96 (fun H locs h => ?_)
    refine lv_aload_n hx hb dR_compile_99 rfl (lv_at hl 0 rfl) ?_
    refine ck_gi (x := (st1 0 29)) C h FR_nodes rfl dR_compile_100 ?_
    exact ck_ri hf hret h dR_compile_103
  · have hf := ck_t hq hf
    refine lv_bipush (v := (-14)) hx hb dR_compile_92 (by decide) ?_
    exact ck_ri hf hret h dR_compile_94
def fR_compile_b69 (st : ck_S) : Option (Int32 × ck_S) := (if (st 0 30) = 0 then (fR_compile_b82 (1 : Int32) st) else (fR_compile_b82 (0 : Int32) st))
set_option maxRecDepth 100000 in
set_option maxHeartbeats 4000000 in
theorem BR_compile_69 (C : ck_X cm_cl D cA bR_compile 2 R_R 4 p R s m args c) {r0 : Int32} {st0 : ck_S} (hret : ∀ (pc : Nat) (H : Heap) (locs : List Loc) (ls : Array Slot), decode bR_compile pc = .ok (.ireturn, 1) → ck_AT sh_R cm_cl D cA ad H0 st0 H locs → W p l e R s m args below meth c H locs 0 0 Q (F0 m pc ls [.int r0])) (st : ck_S) (H : Heap) (locs : List Loc) (ls : Array Slot) (h : ck_AT sh_R cm_cl D cA ad H0 st H locs) (hl : lv_has ls 2 [(0, .ref (ad 0))]) (hf : fR_compile_b69 st = some (r0, st0)) : W p l e R s m args below meth c H locs 0 0 Q (F0 m 69 ls []) := by
  have C1 := C
  obtain ⟨hx, hb, hml, hown, hts, hK, hlv, hlo⟩ := C1
  unfold fR_compile_b69 at hf
  refine lv_aload_n hx hb dR_compile_69 rfl (lv_at hl 0 rfl) ?_
  refine lv_aload_n hx hb dR_compile_70 rfl (lv_at hl 0 rfl) ?_
  refine ck_gi (x := (st 0 30)) C h FR_tooBig rfl dR_compile_71 ?_
  refine lv_if_ne (tgt := 81) hx hb dR_compile_74 rfl (fun hq => ?_) (fun hq => ?_)
  · have hf := ck_f hq hf
    refine lv_iconst (v := 0) hx hb dR_compile_81 (by decide) ?_
    exact BR_compile_82 C hret _ _ _ _ _ h (lv_sub hl [0] rfl) hf
  · have hf := ck_t hq hf
    refine lv_iconst (v := 1) hx hb dR_compile_77 (by decide) ?_
    refine lv_goto (tgt := 82) hx hb dR_compile_78 rfl ?_
    exact BR_compile_82 C hret _ _ _ _ _ h (lv_sub hl [0] rfl) hf
def fR_compile (st : ck_S) : Option (Int32 × ck_S) := (if 0 ≤ (st 0 18) then (ck_gd (0 : Int32) 60 (ck_gd (0 : Int32) 60 (fR_compile_l43 (fun st => (fR_compile_b69 st)) 4096 (0 : Int32) (ck_u (ck_u (ck_u (ck_u st 0 29 (1 : Int32)) 0 30 (0 : Int32)) 22 ((0 : Int32)).toNatClampNeg (((1 : Int32) <<< ((st 0 20) &&& 31)) - (1 : Int32))) 23 ((0 : Int32)).toNatClampNeg (2 : Int32))))) else (some ((-12 : Int32), st)))
set_option maxRecDepth 100000 in
set_option maxHeartbeats 4000000 in
theorem cR_compile (l : Launch) (D : va_G) (cA : Nat → ClassId) (ad : Nat → Nat) {st : ck_S} {r0 : Int32} {st0 : ck_S} (hf : fR_compile st = some (r0, st0)) : Met l yR_compile (.code yR_compile bR_compile 2 (some .int) :: ck_T) (ck_R 4) (va_Pc [.ref (ad 0)] (ck_P sh_R cm_cl D cA ad st)) (va_Qi (fun a u => a = r0 ∧ u = st0) (ck_P sh_R cm_cl D cA ad) (ck_A ad sh_R.length)) 0 0 (ck_A ad sh_R.length) := by
  refine ck_met_i (own := R_R) (by decide +kernel) rfl (Nat.le_of_ble_eq_true rfl) (fun p e R s m args below meth c H0 Q ls C hret h hl => ?_)
  have C1 := C
  obtain ⟨hx, hb, hml, hown, hts, hK, hlv, hlo⟩ := C1
  have hl : lv_has ls 2 [(0, .ref (ad 0))] := hl
  unfold fR_compile at hf
  refine lv_aload_n hx hb dR_compile_0 rfl (lv_at hl 0 rfl) ?_
  refine ck_gi (x := (st 0 18)) C h FR_over rfl dR_compile_1 ?_
  refine lv_if_ge (tgt := 10) hx hb dR_compile_4 rfl (fun hq => ?_) (fun hq => ?_)
  · have hf := ck_t hq hf
    refine lv_aload_n hx hb dR_compile_10 rfl (lv_at hl 0 rfl) ?_
    refine lv_iconst (v := 1) hx hb dR_compile_11 (by decide) ?_
    refine ck_pi C h GR_nodes rfl rfl dR_compile_12 (fun H locs h => ?_)
    refine lv_aload_n hx hb dR_compile_15 rfl (lv_at hl 0 rfl) ?_
    refine lv_iconst (v := 0) hx hb dR_compile_16 (by decide) ?_
    refine ck_pi C h GR_tooBig (ck_nz ck_z0) rfl dR_compile_17 (fun H locs h => ?_)
    refine lv_aload_n hx hb dR_compile_20 rfl (lv_at hl 0 rfl) ?_
    refine ck_gr C h FR_remain dR_compile_21 ?_
    refine lv_iconst (v := 0) hx hb dR_compile_24 (by decide) ?_
    refine lv_iconst (v := 1) hx hb dR_compile_25 (by decide) ?_
    refine lv_aload_n hx hb dR_compile_26 rfl (lv_at hl 0 rfl) ?_
    refine ck_gi (x := (st 0 20)) C h FR_clauses rfl dR_compile_27 ?_
    refine lv_ishl hx hb dR_compile_30 ?_
    refine lv_iconst (v := 1) hx hb dR_compile_31 (by decide) ?_
    refine lv_isub hx hb dR_compile_32 ?_
    obtain ⟨hg, hf⟩ := ck_gd_e hf
    refine ck_si C h (show sh_R[22]? = some (.inr (0, 60)) from rfl) hg dR_compile_33 (fun H locs h => ?_)
    refine lv_aload_n hx hb dR_compile_34 rfl (lv_at hl 0 rfl) ?_
    refine ck_gr C h FR_open dR_compile_35 ?_
    refine lv_iconst (v := 0) hx hb dR_compile_38 (by decide) ?_
    refine lv_iconst (v := 2) hx hb dR_compile_39 (by decide) ?_
    obtain ⟨hg, hf⟩ := ck_gd_e hf
    refine ck_si C h (show sh_R[23]? = some (.inr (0, 60)) from rfl) hg dR_compile_40 (fun H locs h => ?_)
    refine lv_iconst (v := 0) hx hb dR_compile_41 (by decide) ?_
    refine lv_istore_n (lv' := [(1, .int (0 : Int32)), (0, .ref (ad 0))]) hx hb dR_compile_42 rfl hl (by decide) rfl (fun ls hl => ?_)
    exact BR_compile_43 C hret (fun  st H locs ls h hl hf => by
        exact BR_compile_69 C hret _ _ _ _ h (lv_sub hl [0] rfl) hf) 4096 _ _ _ _ _ h (lv_sub hl [1, 0] rfl) hf
  · have hf := ck_f hq hf
    refine lv_bipush (v := (-12)) hx hb dR_compile_7 (by decide) ?_
    exact ck_ri hf hret h dR_compile_9
def fR_alike_l81 : Nat → Int32 → Int32 → Int32 → ck_S → Option (Int32 × ck_S)
  | 0, _, _, _, _ => none
  | n + 1, x1, x2, x3, st => (ck_gd x1 60 (if (st 28 (x1).toNatClampNeg) ≤ x3 then (some ((1 : Int32), st)) else (ck_gd x1 60 (ck_gd x2 60 (ck_gd ((st 27 (x1).toNatClampNeg) + x3) 60 (ck_gd ((st 27 (x2).toNatClampNeg) + x3) 60 (if (st 31 (((st 27 (x1).toNatClampNeg) + x3)).toNatClampNeg) = (st 31 (((st 27 (x2).toNatClampNeg) + x3)).toNatClampNeg) then (ck_gd ((st 27 (x1).toNatClampNeg) + x3) 60 (ck_gd ((st 27 (x2).toNatClampNeg) + x3) 60 (if (st 30 (((st 27 (x1).toNatClampNeg) + x3)).toNatClampNeg) = (st 30 (((st 27 (x2).toNatClampNeg) + x3)).toNatClampNeg) then (ck_gd ((st 27 (x1).toNatClampNeg) + x3) 60 (if (st 30 (((st 27 (x1).toNatClampNeg) + x3)).toNatClampNeg) = 0 then (ck_gd ((st 27 (x1).toNatClampNeg) + x3) 60 (ck_gd ((st 27 (x2).toNatClampNeg) + x3) 60 (if (st 29 (((st 27 (x1).toNatClampNeg) + x3)).toNatClampNeg) = (st 29 (((st 27 (x2).toNatClampNeg) + x3)).toNatClampNeg) then (fR_alike_l81 n x1 x2 (x3 + 1) st) else (some ((0 : Int32), st))))) else (fR_alike_l81 n x1 x2 (x3 + 1) st))) else (some ((0 : Int32), st))))) else (some ((0 : Int32), st)))))))))
set_option maxRecDepth 100000 in
set_option maxHeartbeats 4000000 in
theorem BR_alike_81 (C : ck_X cm_cl D cA bR_alike 6 R_R 0 p R s m args c) {r0 : Int32} {st0 : ck_S} (hret : ∀ (pc : Nat) (H : Heap) (locs : List Loc) (ls : Array Slot), decode bR_alike pc = .ok (.ireturn, 1) → (r0 = 0 ∨ r0 = 1) → ck_AT sh_R cm_cl D cA ad H0 st0 H locs → W p l e R s m args below meth c H locs 0 0 Q (F0 m pc ls [.int r0])) : ∀ (n : Nat) (x1 : Int32) (x2 : Int32) (x3 : Int32) (st : ck_S) (H : Heap) (locs : List Loc) (ls : Array Slot), ck_AT sh_R cm_cl D cA ad H0 st H locs → lv_has ls 6 [(0, .ref (ad 0)), (1, .int x1), (2, .int x2), (3, .int x3)] → fR_alike_l81  n x1 x2 x3 st = some (r0, st0) → W p l e R s m args below meth c H locs 0 0 Q (F0 m 81 ls []) := by
  have C1 := C
  obtain ⟨hx, hb, hml, hown, hts, hK, hlv, hlo⟩ := C1
  intro n
  induction n with
  | zero => intro _ _ _ _ _ _ _ _ _ hf; cases hf
  | succ n ih =>
    intro x1 x2 x3 st H locs ls h hl hf
    rw [fR_alike_l81] at hf
    refine lv_iload_n hx hb dR_alike_81 rfl (lv_at hl 3 rfl) ?_
    refine lv_aload_n hx hb dR_alike_82 rfl (lv_at hl 0 rfl) ?_
    refine ck_gr C h FR_many dR_alike_83 ?_
    refine lv_iload_n hx hb dR_alike_86 rfl (lv_at hl 1 rfl) ?_
    obtain ⟨hg, hf⟩ := ck_gd_e hf
    refine ck_ai (x := (st 28 (x1).toNatClampNeg)) C h (show sh_R[28]? = some (.inr (0, 60)) from rfl) hg rfl dR_alike_87 ?_
    refine lv_icmp_ge (tgt := 180) hx hb dR_alike_88 rfl (fun hq => ?_) (fun hq => ?_)
    · have hf := ck_t hq hf
      refine lv_iconst (v := 1) hx hb dR_alike_180 (by decide) ?_
      exact ck_rz hf hret ck_z1 h dR_alike_181
    · have hf := ck_f hq hf
      refine lv_aload_n hx hb dR_alike_91 rfl (lv_at hl 0 rfl) ?_
      refine ck_gr C h FR_from dR_alike_92 ?_
      refine lv_iload_n hx hb dR_alike_95 rfl (lv_at hl 1 rfl) ?_
      obtain ⟨hg, hf⟩ := ck_gd_e hf
      refine ck_ai (x := (st 27 (x1).toNatClampNeg)) C h (show sh_R[27]? = some (.inr (0, 60)) from rfl) hg rfl dR_alike_96 ?_
      refine lv_iload_n hx hb dR_alike_97 rfl (lv_at hl 3 rfl) ?_
      refine lv_iadd hx hb dR_alike_98 ?_
      refine lv_istore (lv' := [(4, .int ((st 27 (x1).toNatClampNeg) + x3)), (0, .ref (ad 0)), (1, .int x1), (2, .int x2), (3, .int x3)]) hx hb dR_alike_99 hl (by decide) rfl (fun ls hl => ?_)
      refine lv_aload_n hx hb dR_alike_101 rfl (lv_at hl 1 rfl) ?_
      refine ck_gr C h FR_from dR_alike_102 ?_
      refine lv_iload_n hx hb dR_alike_105 rfl (lv_at hl 3 rfl) ?_
      obtain ⟨hg, hf⟩ := ck_gd_e hf
      refine ck_ai (x := (st 27 (x2).toNatClampNeg)) C h (show sh_R[27]? = some (.inr (0, 60)) from rfl) hg rfl dR_alike_106 ?_
      refine lv_iload_n hx hb dR_alike_107 rfl (lv_at hl 4 rfl) ?_
      refine lv_iadd hx hb dR_alike_108 ?_
      refine lv_istore (lv' := [(5, .int ((st 27 (x2).toNatClampNeg) + x3)), (4, .int ((st 27 (x1).toNatClampNeg) + x3)), (0, .ref (ad 0)), (1, .int x1), (2, .int x2), (3, .int x3)]) hx hb dR_alike_109 hl (by decide) rfl (fun ls hl => ?_)
      refine lv_aload_n hx hb dR_alike_111 rfl (lv_at hl 2 rfl) ?_
      refine ck_gr C h FR_work dR_alike_112 ?_
      refine lv_iload hx hb dR_alike_115 (lv_at hl 1 rfl) ?_
      obtain ⟨hg, hf⟩ := ck_gd_e hf
      refine ck_ai (x := (st 31 (((st 27 (x1).toNatClampNeg) + x3)).toNatClampNeg)) C h (show sh_R[31]? = some (.inr (0, 60)) from rfl) hg rfl dR_alike_117 ?_
      refine lv_aload_n hx hb dR_alike_118 rfl (lv_at hl 2 rfl) ?_
      refine ck_gr C h FR_work dR_alike_119 ?_
      refine lv_iload hx hb dR_alike_122 (lv_at hl 0 rfl) ?_
      obtain ⟨hg, hf⟩ := ck_gd_e hf
      refine ck_ai (x := (st 31 (((st 27 (x2).toNatClampNeg) + x3)).toNatClampNeg)) C h (show sh_R[31]? = some (.inr (0, 60)) from rfl) hg rfl dR_alike_124 ?_
      refine lv_icmp_ne (tgt := 172) hx hb dR_alike_125 rfl (fun hq => ?_) (fun hq => ?_)
      · have hf := ck_f hq hf
        refine lv_iconst (v := 0) hx hb dR_alike_172 (by decide) ?_
        exact ck_rz hf hret ck_z0 h dR_alike_173
      · have hf := ck_t hq hf
        refine lv_aload_n hx hb dR_alike_128 rfl (lv_at hl 2 rfl) ?_
        refine ck_gr C h FR_others dR_alike_129 ?_
        refine lv_iload hx hb dR_alike_132 (lv_at hl 1 rfl) ?_
        obtain ⟨hg, hf⟩ := ck_gd_e hf
        refine ck_az (x := (st 30 (((st 27 (x1).toNatClampNeg) + x3)).toNatClampNeg)) C h (show sh_R[30]? = some (.inr (1, 60)) from rfl) hg rfl dR_alike_134 ?_
        refine lv_aload_n hx hb dR_alike_135 rfl (lv_at hl 2 rfl) ?_
        refine ck_gr C h FR_others dR_alike_136 ?_
        refine lv_iload hx hb dR_alike_139 (lv_at hl 0 rfl) ?_
        obtain ⟨hg, hf⟩ := ck_gd_e hf
        refine ck_az (x := (st 30 (((st 27 (x2).toNatClampNeg) + x3)).toNatClampNeg)) C h (show sh_R[30]? = some (.inr (1, 60)) from rfl) hg rfl dR_alike_141 ?_
        refine lv_icmp_ne (tgt := 172) hx hb dR_alike_142 rfl (fun hq => ?_) (fun hq => ?_)
        · have hf := ck_f hq hf
          refine lv_iconst (v := 0) hx hb dR_alike_172 (by decide) ?_
          exact ck_rz hf hret ck_z0 h dR_alike_173
        · have hf := ck_t hq hf
          refine lv_aload_n hx hb dR_alike_145 rfl (lv_at hl 2 rfl) ?_
          refine ck_gr C h FR_others dR_alike_146 ?_
          refine lv_iload hx hb dR_alike_149 (lv_at hl 1 rfl) ?_
          obtain ⟨hg, hf⟩ := ck_gd_e hf
          refine ck_az (x := (st 30 (((st 27 (x1).toNatClampNeg) + x3)).toNatClampNeg)) C h (show sh_R[30]? = some (.inr (1, 60)) from rfl) hg rfl dR_alike_151 ?_
          refine lv_if_ne (tgt := 174) hx hb dR_alike_152 rfl (fun hq => ?_) (fun hq => ?_)
          · have hf := ck_f hq hf
            refine lv_iinc (k := 5) (v := (x3 + 1)) (lv' := [(3, .int (x3 + 1)), (5, .int ((st 27 (x2).toNatClampNeg) + x3)), (4, .int ((st 27 (x1).toNatClampNeg) + x3)), (0, .ref (ad 0)), (1, .int x1), (2, .int x2)]) hx hb dR_alike_174 hl rfl rfl (by decide) rfl (fun ls hl => ?_)
            refine lv_goto (tgt := 81) hx hb dR_alike_177 rfl ?_
            exact ih _ _ _ _ _ _ _ h (lv_sub hl [3, 4, 5, 0] rfl) hf
          · have hf := ck_t hq hf
            refine lv_aload_n hx hb dR_alike_155 rfl (lv_at hl 2 rfl) ?_
            refine ck_gr C h FR_label dR_alike_156 ?_
            refine lv_iload hx hb dR_alike_159 (lv_at hl 1 rfl) ?_
            obtain ⟨hg, hf⟩ := ck_gd_e hf
            refine ck_ai (x := (st 29 (((st 27 (x1).toNatClampNeg) + x3)).toNatClampNeg)) C h (show sh_R[29]? = some (.inr (0, 60)) from rfl) hg rfl dR_alike_161 ?_
            refine lv_aload_n hx hb dR_alike_162 rfl (lv_at hl 2 rfl) ?_
            refine ck_gr C h FR_label dR_alike_163 ?_
            refine lv_iload hx hb dR_alike_166 (lv_at hl 0 rfl) ?_
            obtain ⟨hg, hf⟩ := ck_gd_e hf
            refine ck_ai (x := (st 29 (((st 27 (x2).toNatClampNeg) + x3)).toNatClampNeg)) C h (show sh_R[29]? = some (.inr (0, 60)) from rfl) hg rfl dR_alike_168 ?_
            refine lv_icmp_eq (tgt := 174) hx hb dR_alike_169 rfl (fun hq => ?_) (fun hq => ?_)
            · have hf := ck_t hq hf
              refine lv_iinc (k := 5) (v := (x3 + 1)) (lv' := [(3, .int (x3 + 1)), (5, .int ((st 27 (x2).toNatClampNeg) + x3)), (4, .int ((st 27 (x1).toNatClampNeg) + x3)), (0, .ref (ad 0)), (1, .int x1), (2, .int x2)]) hx hb dR_alike_174 hl rfl rfl (by decide) rfl (fun ls hl => ?_)
              refine lv_goto (tgt := 81) hx hb dR_alike_177 rfl ?_
              exact ih _ _ _ _ _ _ _ h (lv_sub hl [3, 4, 5, 0] rfl) hf
            · have hf := ck_f hq hf
              refine lv_iconst (v := 0) hx hb dR_alike_172 (by decide) ?_
              exact ck_rz hf hret ck_z0 h dR_alike_173
def fR_alike (x1 : Int32) (x2 : Int32) (st : ck_S) : Option (Int32 × ck_S) := (ck_gd x1 60 (ck_gd x2 60 (if (st 24 (x1).toNatClampNeg) = (st 24 (x2).toNatClampNeg) then (ck_gd x1 60 (ck_gd x2 60 (if (st 28 (x1).toNatClampNeg) = (st 28 (x2).toNatClampNeg) then (ck_gd x1 60 (if (st 24 (x1).toNatClampNeg) = 0 then (ck_gd x1 60 (ck_gd x2 60 (if (st 26 (x1).toNatClampNeg) = (st 26 (x2).toNatClampNeg) then (some ((1 : Int32), st)) else (some ((0 : Int32), st))))) else (ck_gd x1 60 (ck_gd x2 60 (if (st 25 (x1).toNatClampNeg) = (st 25 (x2).toNatClampNeg) then (fR_alike_l81  4096 x1 x2 (0 : Int32) st) else (some ((0 : Int32), st))))))) else (some ((0 : Int32), st))))) else (some ((0 : Int32), st)))))
set_option maxRecDepth 100000 in
set_option maxHeartbeats 4000000 in
theorem cR_alike (l : Launch) (D : va_G) (cA : Nat → ClassId) (ad : Nat → Nat) {x1 : Int32} {x2 : Int32} {st : ck_S} {r0 : Int32} {st0 : ck_S} (hf : fR_alike x1 x2 st = some (r0, st0)) : Met l yR_alike (.code yR_alike bR_alike 6 (some .boolean) :: ck_T) (ck_R 0) (va_Pc [.ref (ad 0), .int x1, .int x2] (ck_P sh_R cm_cl D cA ad st)) (va_Qi (fun a u => a = r0 ∧ u = st0) (ck_P sh_R cm_cl D cA ad) (ck_A ad sh_R.length)) 0 0 (ck_A ad sh_R.length) := by
  refine ck_met_z (own := R_R) (by decide +kernel) rfl (Nat.le_of_ble_eq_true rfl) (fun p e R s m args below meth c H0 Q ls C hret h hl => ?_)
  have C1 := C
  obtain ⟨hx, hb, hml, hown, hts, hK, hlv, hlo⟩ := C1
  have hl : lv_has ls 6 [(0, .ref (ad 0)), (1, .int x1), (2, .int x2)] := hl
  unfold fR_alike at hf
  refine lv_aload_n hx hb dR_alike_0 rfl (lv_at hl 0 rfl) ?_
  refine ck_gr C h FR_place dR_alike_1 ?_
  refine lv_iload_n hx hb dR_alike_4 rfl (lv_at hl 1 rfl) ?_
  obtain ⟨hg, hf⟩ := ck_gd_e hf
  refine ck_ai (x := (st 24 (x1).toNatClampNeg)) C h (show sh_R[24]? = some (.inr (0, 60)) from rfl) hg rfl dR_alike_5 ?_
  refine lv_aload_n hx hb dR_alike_6 rfl (lv_at hl 0 rfl) ?_
  refine ck_gr C h FR_place dR_alike_7 ?_
  refine lv_iload_n hx hb dR_alike_10 rfl (lv_at hl 2 rfl) ?_
  obtain ⟨hg, hf⟩ := ck_gd_e hf
  refine ck_ai (x := (st 24 (x2).toNatClampNeg)) C h (show sh_R[24]? = some (.inr (0, 60)) from rfl) hg rfl dR_alike_11 ?_
  refine lv_icmp_ne (tgt := 30) hx hb dR_alike_12 rfl (fun hq => ?_) (fun hq => ?_)
  · have hf := ck_f hq hf
    refine lv_iconst (v := 0) hx hb dR_alike_30 (by decide) ?_
    exact ck_rz hf hret ck_z0 h dR_alike_31
  · have hf := ck_t hq hf
    refine lv_aload_n hx hb dR_alike_15 rfl (lv_at hl 0 rfl) ?_
    refine ck_gr C h FR_many dR_alike_16 ?_
    refine lv_iload_n hx hb dR_alike_19 rfl (lv_at hl 1 rfl) ?_
    obtain ⟨hg, hf⟩ := ck_gd_e hf
    refine ck_ai (x := (st 28 (x1).toNatClampNeg)) C h (show sh_R[28]? = some (.inr (0, 60)) from rfl) hg rfl dR_alike_20 ?_
    refine lv_aload_n hx hb dR_alike_21 rfl (lv_at hl 0 rfl) ?_
    refine ck_gr C h FR_many dR_alike_22 ?_
    refine lv_iload_n hx hb dR_alike_25 rfl (lv_at hl 2 rfl) ?_
    obtain ⟨hg, hf⟩ := ck_gd_e hf
    refine ck_ai (x := (st 28 (x2).toNatClampNeg)) C h (show sh_R[28]? = some (.inr (0, 60)) from rfl) hg rfl dR_alike_26 ?_
    refine lv_icmp_eq (tgt := 32) hx hb dR_alike_27 rfl (fun hq => ?_) (fun hq => ?_)
    · have hf := ck_t hq hf
      refine lv_aload_n hx hb dR_alike_32 rfl (lv_at hl 0 rfl) ?_
      refine ck_gr C h FR_place dR_alike_33 ?_
      refine lv_iload_n hx hb dR_alike_36 rfl (lv_at hl 1 rfl) ?_
      obtain ⟨hg, hf⟩ := ck_gd_e hf
      refine ck_ai (x := (st 24 (x1).toNatClampNeg)) C h (show sh_R[24]? = some (.inr (0, 60)) from rfl) hg rfl dR_alike_37 ?_
      refine lv_if_ne (tgt := 62) hx hb dR_alike_38 rfl (fun hq => ?_) (fun hq => ?_)
      · have hf := ck_f hq hf
        refine lv_aload_n hx hb dR_alike_62 rfl (lv_at hl 0 rfl) ?_
        refine ck_gr C h FR_test dR_alike_63 ?_
        refine lv_iload_n hx hb dR_alike_66 rfl (lv_at hl 1 rfl) ?_
        obtain ⟨hg, hf⟩ := ck_gd_e hf
        refine ck_ai (x := (st 25 (x1).toNatClampNeg)) C h (show sh_R[25]? = some (.inr (0, 60)) from rfl) hg rfl dR_alike_67 ?_
        refine lv_aload_n hx hb dR_alike_68 rfl (lv_at hl 0 rfl) ?_
        refine ck_gr C h FR_test dR_alike_69 ?_
        refine lv_iload_n hx hb dR_alike_72 rfl (lv_at hl 2 rfl) ?_
        obtain ⟨hg, hf⟩ := ck_gd_e hf
        refine ck_ai (x := (st 25 (x2).toNatClampNeg)) C h (show sh_R[25]? = some (.inr (0, 60)) from rfl) hg rfl dR_alike_73 ?_
        refine lv_icmp_eq (tgt := 79) hx hb dR_alike_74 rfl (fun hq => ?_) (fun hq => ?_)
        · have hf := ck_t hq hf
          refine lv_iconst (v := 0) hx hb dR_alike_79 (by decide) ?_
          refine lv_istore_n (lv' := [(3, .int (0 : Int32)), (0, .ref (ad 0)), (1, .int x1), (2, .int x2)]) hx hb dR_alike_80 rfl hl (by decide) rfl (fun ls hl => ?_)
          exact BR_alike_81 C hret  4096 _ _ _ _ _ _ _ h (lv_sub hl [1, 2, 3, 0] rfl) hf
        · have hf := ck_f hq hf
          refine lv_iconst (v := 0) hx hb dR_alike_77 (by decide) ?_
          exact ck_rz hf hret ck_z0 h dR_alike_78
      · have hf := ck_t hq hf
        refine lv_aload_n hx hb dR_alike_41 rfl (lv_at hl 0 rfl) ?_
        refine ck_gr C h FR_leaf dR_alike_42 ?_
        refine lv_iload_n hx hb dR_alike_45 rfl (lv_at hl 1 rfl) ?_
        obtain ⟨hg, hf⟩ := ck_gd_e hf
        refine ck_ai (x := (st 26 (x1).toNatClampNeg)) C h (show sh_R[26]? = some (.inr (0, 60)) from rfl) hg rfl dR_alike_46 ?_
        refine lv_aload_n hx hb dR_alike_47 rfl (lv_at hl 0 rfl) ?_
        refine ck_gr C h FR_leaf dR_alike_48 ?_
        refine lv_iload_n hx hb dR_alike_51 rfl (lv_at hl 2 rfl) ?_
        obtain ⟨hg, hf⟩ := ck_gd_e hf
        refine ck_ai (x := (st 26 (x2).toNatClampNeg)) C h (show sh_R[26]? = some (.inr (0, 60)) from rfl) hg rfl dR_alike_52 ?_
        refine lv_icmp_ne (tgt := 60) hx hb dR_alike_53 rfl (fun hq => ?_) (fun hq => ?_)
        · have hf := ck_f hq hf
          refine lv_iconst (v := 0) hx hb dR_alike_60 (by decide) ?_
          exact ck_rz hf hret ck_z0 h dR_alike_61
        · have hf := ck_t hq hf
          refine lv_iconst (v := 1) hx hb dR_alike_56 (by decide) ?_
          refine lv_goto (tgt := 61) hx hb dR_alike_57 rfl ?_
          exact ck_rz hf hret ck_z1 h dR_alike_61
    · have hf := ck_f hq hf
      refine lv_iconst (v := 0) hx hb dR_alike_30 (by decide) ?_
      exact ck_rz hf hret ck_z0 h dR_alike_31
def fR_kinds_l34 (k83 : Int32 → Int32 → ck_S → Option (Int32 × ck_S)) : Nat → Int32 → Int32 → Int32 → ck_S → Option (Int32 × ck_S)
  | 0, _, _, _, _ => none
  | n + 1, x1, x2, x3, st => (if (st 0 29) ≤ x3 then (k83 x1 x2 st) else (ck_gd x3 60 (if (st 31 (x3).toNatClampNeg) = x3 then (ck_b (fR_alike x2 x3 st) fun v2 st1 => (if v2 = 0 then (ck_gd x2 60 (ck_gd x2 60 (fR_kinds_l34 k83 n x1 x2 (x3 + 1) (ck_u st1 31 (x2).toNatClampNeg (st1 31 (x2).toNatClampNeg))))) else (ck_gd x2 60 (fR_kinds_l34 k83 n x1 x2 (x3 + 1) (ck_u st1 31 (x2).toNatClampNeg x3))))) else (ck_gd x2 60 (ck_gd x2 60 (fR_kinds_l34 k83 n x1 x2 (x3 + 1) (ck_u st 31 (x2).toNatClampNeg (st 31 (x2).toNatClampNeg))))))))
set_option maxRecDepth 100000 in
set_option maxHeartbeats 4000000 in
theorem BR_kinds_34 (C : ck_X cm_cl D cA bR_kinds 4 R_R 1 p R s m args c) {r0 : Int32} {st0 : ck_S} (hret : ∀ (pc : Nat) (H : Heap) (locs : List Loc) (ls : Array Slot), decode bR_kinds pc = .ok (.ireturn, 1) → ck_AT sh_R cm_cl D cA ad H0 st0 H locs → W p l e R s m args below meth c H locs 0 0 Q (F0 m pc ls [.int r0])) {k83 : Int32 → Int32 → ck_S → Option (Int32 × ck_S)} (hk83 : ∀ (x1 : Int32) (x2 : Int32) (st : ck_S) (H : Heap) (locs : List Loc) (ls : Array Slot), ck_AT sh_R cm_cl D cA ad H0 st H locs → lv_has ls 4 [(0, .ref (ad 0)), (1, .int x1), (2, .int x2)] → k83 x1 x2 st = some (r0, st0) → W p l e R s m args below meth c H locs 0 0 Q (F0 m 83 ls [])) : ∀ (n : Nat) (x1 : Int32) (x2 : Int32) (x3 : Int32) (st : ck_S) (H : Heap) (locs : List Loc) (ls : Array Slot), ck_AT sh_R cm_cl D cA ad H0 st H locs → lv_has ls 4 [(0, .ref (ad 0)), (1, .int x1), (2, .int x2), (3, .int x3)] → fR_kinds_l34 k83 n x1 x2 x3 st = some (r0, st0) → W p l e R s m args below meth c H locs 0 0 Q (F0 m 34 ls []) := by
  have C1 := C
  obtain ⟨hx, hb, hml, hown, hts, hK, hlv, hlo⟩ := C1
  intro n
  induction n with
  | zero => intro _ _ _ _ _ _ _ _ _ hf; cases hf
  | succ n ih =>
    intro x1 x2 x3 st H locs ls h hl hf
    rw [fR_kinds_l34] at hf
    refine lv_iload_n hx hb dR_kinds_34 rfl (lv_at hl 3 rfl) ?_
    refine lv_aload_n hx hb dR_kinds_35 rfl (lv_at hl 0 rfl) ?_
    refine ck_gi (x := (st 0 29)) C h FR_nodes rfl dR_kinds_36 ?_
    refine lv_icmp_ge (tgt := 83) hx hb dR_kinds_39 rfl (fun hq => ?_) (fun hq => ?_)
    · have hf := ck_t hq hf
      exact hk83 _ _ _ _ _ _ h (lv_sub hl [0, 1, 2] rfl) hf
    · have hf := ck_f hq hf
      refine lv_aload_n hx hb dR_kinds_42 rfl (lv_at hl 0 rfl) ?_
      refine ck_gr C h FR_work dR_kinds_43 ?_
      refine lv_iload_n hx hb dR_kinds_46 rfl (lv_at hl 2 rfl) ?_
      refine lv_aload_n hx hb dR_kinds_47 rfl (lv_at hl 0 rfl) ?_
      refine ck_gr C h FR_work dR_kinds_48 ?_
      refine lv_iload_n hx hb dR_kinds_51 rfl (lv_at hl 3 rfl) ?_
      obtain ⟨hg, hf⟩ := ck_gd_e hf
      refine ck_ai (x := (st 31 (x3).toNatClampNeg)) C h (show sh_R[31]? = some (.inr (0, 60)) from rfl) hg rfl dR_kinds_52 ?_
      refine lv_iload_n hx hb dR_kinds_53 rfl (lv_at hl 3 rfl) ?_
      refine lv_icmp_ne (tgt := 70) hx hb dR_kinds_54 rfl (fun hq => ?_) (fun hq => ?_)
      · have hf := ck_f hq hf
        refine lv_aload_n hx hb dR_kinds_70 rfl (lv_at hl 0 rfl) ?_
        refine ck_gr C h FR_work dR_kinds_71 ?_
        refine lv_iload_n hx hb dR_kinds_74 rfl (lv_at hl 2 rfl) ?_
        obtain ⟨hg, hf⟩ := ck_gd_e hf
        refine ck_ai (x := (st 31 (x2).toNatClampNeg)) C h (show sh_R[31]? = some (.inr (0, 60)) from rfl) hg rfl dR_kinds_75 ?_
        obtain ⟨hg, hf⟩ := ck_gd_e hf
        refine ck_si C h (show sh_R[31]? = some (.inr (0, 60)) from rfl) hg dR_kinds_76 (fun H locs h => ?_)
        refine lv_iinc (k := 3) (v := (x3 + 1)) (lv' := [(3, .int (x3 + 1)), (0, .ref (ad 0)), (1, .int x1), (2, .int x2)]) hx hb dR_kinds_77 hl rfl rfl (by decide) rfl (fun ls hl => ?_)
        refine lv_goto (tgt := 34) hx hb dR_kinds_80 rfl ?_
        exact ih _ _ _ _ _ _ _ h (lv_sub hl [1, 2, 3, 0] rfl) hf
      · have hf := ck_t hq hf
        refine lv_aload_n hx hb dR_kinds_57 rfl (lv_at hl 0 rfl) ?_
        refine lv_iload_n hx hb dR_kinds_58 rfl (lv_at hl 2 rfl) ?_
        refine lv_iload_n hx hb dR_kinds_59 rfl (lv_at hl 3 rfl) ?_
        obtain ⟨v2, st1, hc, hf⟩ := ck_b_e hf
        refine ck_vi (As := [.int x2, .int x3]) (rest := [.int x2, .ref (ad 31)]) (q := 0) C h hl CR_R_alike sR_alike q_R (cR_alike l D cA ad hc) (Nat.le_of_ble_eq_true rfl) rfl rfl (Nat.le_of_ble_eq_true rfl) dR_kinds_60 (fun H locs h => ?_)
        refine lv_if_eq (tgt := 70) hx hb dR_kinds_63 rfl (fun hq => ?_) (fun hq => ?_)
        · have hf := ck_t hq hf
          refine lv_aload_n hx hb dR_kinds_70 rfl (lv_at hl 0 rfl) ?_
          refine ck_gr C h FR_work dR_kinds_71 ?_
          refine lv_iload_n hx hb dR_kinds_74 rfl (lv_at hl 2 rfl) ?_
          obtain ⟨hg, hf⟩ := ck_gd_e hf
          refine ck_ai (x := (st1 31 (x2).toNatClampNeg)) C h (show sh_R[31]? = some (.inr (0, 60)) from rfl) hg rfl dR_kinds_75 ?_
          obtain ⟨hg, hf⟩ := ck_gd_e hf
          refine ck_si C h (show sh_R[31]? = some (.inr (0, 60)) from rfl) hg dR_kinds_76 (fun H locs h => ?_)
          refine lv_iinc (k := 3) (v := (x3 + 1)) (lv' := [(3, .int (x3 + 1)), (0, .ref (ad 0)), (1, .int x1), (2, .int x2)]) hx hb dR_kinds_77 hl rfl rfl (by decide) rfl (fun ls hl => ?_)
          refine lv_goto (tgt := 34) hx hb dR_kinds_80 rfl ?_
          exact ih _ _ _ _ _ _ _ h (lv_sub hl [1, 2, 3, 0] rfl) hf
        · have hf := ck_f hq hf
          refine lv_iload_n hx hb dR_kinds_66 rfl (lv_at hl 3 rfl) ?_
          refine lv_goto (tgt := 76) hx hb dR_kinds_67 rfl ?_
          obtain ⟨hg, hf⟩ := ck_gd_e hf
          refine ck_si C h (show sh_R[31]? = some (.inr (0, 60)) from rfl) hg dR_kinds_76 (fun H locs h => ?_)
          refine lv_iinc (k := 3) (v := (x3 + 1)) (lv' := [(3, .int (x3 + 1)), (0, .ref (ad 0)), (1, .int x1), (2, .int x2)]) hx hb dR_kinds_77 hl rfl rfl (by decide) rfl (fun ls hl => ?_)
          refine lv_goto (tgt := 34) hx hb dR_kinds_80 rfl ?_
          exact ih _ _ _ _ _ _ _ h (lv_sub hl [1, 2, 3, 0] rfl) hf
def fR_kinds_b83 (k19 : Int32 → Int32 → ck_S → Option (Int32 × ck_S)) (x1 : Int32) (x2 : Int32) (st : ck_S) : Option (Int32 × ck_S) := (ck_gd x2 60 (if (st 31 (x2).toNatClampNeg) = x2 then (k19 (x1 + (1 : Int32)) (x2 + (-1)) st) else (k19 x1 (x2 + (-1)) st)))
set_option maxRecDepth 100000 in
set_option maxHeartbeats 4000000 in
theorem BR_kinds_83 (C : ck_X cm_cl D cA bR_kinds 4 R_R 1 p R s m args c) {r0 : Int32} {st0 : ck_S} (hret : ∀ (pc : Nat) (H : Heap) (locs : List Loc) (ls : Array Slot), decode bR_kinds pc = .ok (.ireturn, 1) → ck_AT sh_R cm_cl D cA ad H0 st0 H locs → W p l e R s m args below meth c H locs 0 0 Q (F0 m pc ls [.int r0])) {k19 : Int32 → Int32 → ck_S → Option (Int32 × ck_S)} (hk19 : ∀ (x1 : Int32) (x2 : Int32) (st : ck_S) (H : Heap) (locs : List Loc) (ls : Array Slot), ck_AT sh_R cm_cl D cA ad H0 st H locs → lv_has ls 4 [(0, .ref (ad 0)), (1, .int x1), (2, .int x2)] → k19 x1 x2 st = some (r0, st0) → W p l e R s m args below meth c H locs 0 0 Q (F0 m 19 ls [])) (x1 : Int32) (x2 : Int32) (st : ck_S) (H : Heap) (locs : List Loc) (ls : Array Slot) (h : ck_AT sh_R cm_cl D cA ad H0 st H locs) (hl : lv_has ls 4 [(0, .ref (ad 0)), (1, .int x1), (2, .int x2)]) (hf : fR_kinds_b83 k19 x1 x2 st = some (r0, st0)) : W p l e R s m args below meth c H locs 0 0 Q (F0 m 83 ls []) := by
  have C1 := C
  obtain ⟨hx, hb, hml, hown, hts, hK, hlv, hlo⟩ := C1
  unfold fR_kinds_b83 at hf
  refine lv_aload_n hx hb dR_kinds_83 rfl (lv_at hl 0 rfl) ?_
  refine ck_gr C h FR_work dR_kinds_84 ?_
  refine lv_iload_n hx hb dR_kinds_87 rfl (lv_at hl 2 rfl) ?_
  obtain ⟨hg, hf⟩ := ck_gd_e hf
  refine ck_ai (x := (st 31 (x2).toNatClampNeg)) C h (show sh_R[31]? = some (.inr (0, 60)) from rfl) hg rfl dR_kinds_88 ?_
  refine lv_iload_n hx hb dR_kinds_89 rfl (lv_at hl 2 rfl) ?_
  refine lv_icmp_ne (tgt := 99) hx hb dR_kinds_90 rfl (fun hq => ?_) (fun hq => ?_)
  · have hf := ck_f hq hf
    refine lv_iload_n hx hb dR_kinds_99 rfl (lv_at hl 1 rfl) ?_
    refine lv_istore_n (lv' := [(1, .int x1), (0, .ref (ad 0)), (2, .int x2)]) hx hb dR_kinds_100 rfl hl (by decide) rfl (fun ls hl => ?_)
    refine lv_iinc (k := 2) (v := (x2 + (-1))) (lv' := [(2, .int (x2 + (-1))), (1, .int x1), (0, .ref (ad 0))]) hx hb dR_kinds_101 hl rfl rfl (by decide) rfl (fun ls hl => ?_)
    refine lv_goto (tgt := 19) hx hb dR_kinds_104 rfl ?_
    exact hk19 _ _ _ _ _ _ h (lv_sub hl [2, 1, 0] rfl) hf
  · have hf := ck_t hq hf
    refine lv_iload_n hx hb dR_kinds_93 rfl (lv_at hl 1 rfl) ?_
    refine lv_iconst (v := 1) hx hb dR_kinds_94 (by decide) ?_
    refine lv_iadd hx hb dR_kinds_95 ?_
    refine lv_goto (tgt := 100) hx hb dR_kinds_96 rfl ?_
    refine lv_istore_n (lv' := [(1, .int (x1 + (1 : Int32))), (0, .ref (ad 0)), (2, .int x2)]) hx hb dR_kinds_100 rfl hl (by decide) rfl (fun ls hl => ?_)
    refine lv_iinc (k := 2) (v := (x2 + (-1))) (lv' := [(2, .int (x2 + (-1))), (1, .int (x1 + (1 : Int32))), (0, .ref (ad 0))]) hx hb dR_kinds_101 hl rfl rfl (by decide) rfl (fun ls hl => ?_)
    refine lv_goto (tgt := 19) hx hb dR_kinds_104 rfl ?_
    exact hk19 _ _ _ _ _ _ h (lv_sub hl [2, 1, 0] rfl) hf
def fR_kinds_l19 : Nat → Int32 → Int32 → ck_S → Option (Int32 × ck_S)
  | 0, _, _, _ => none
  | n + 1, x1, x2, st => (if x2 < 0 then (some (x1, st)) else (ck_gd x2 60 (fR_kinds_l34 (fun x1 x2 st => (fR_kinds_b83 (fR_kinds_l19 n) x1 x2 st)) 4096 x1 x2 (x2 + (1 : Int32)) (ck_u st 31 (x2).toNatClampNeg x2))))
set_option maxRecDepth 100000 in
set_option maxHeartbeats 4000000 in
theorem BR_kinds_19 (C : ck_X cm_cl D cA bR_kinds 4 R_R 1 p R s m args c) {r0 : Int32} {st0 : ck_S} (hret : ∀ (pc : Nat) (H : Heap) (locs : List Loc) (ls : Array Slot), decode bR_kinds pc = .ok (.ireturn, 1) → ck_AT sh_R cm_cl D cA ad H0 st0 H locs → W p l e R s m args below meth c H locs 0 0 Q (F0 m pc ls [.int r0])) : ∀ (n : Nat) (x1 : Int32) (x2 : Int32) (st : ck_S) (H : Heap) (locs : List Loc) (ls : Array Slot), ck_AT sh_R cm_cl D cA ad H0 st H locs → lv_has ls 4 [(0, .ref (ad 0)), (1, .int x1), (2, .int x2)] → fR_kinds_l19  n x1 x2 st = some (r0, st0) → W p l e R s m args below meth c H locs 0 0 Q (F0 m 19 ls []) := by
  have C1 := C
  obtain ⟨hx, hb, hml, hown, hts, hK, hlv, hlo⟩ := C1
  intro n
  induction n with
  | zero => intro _ _ _ _ _ _ _ _ hf; cases hf
  | succ n ih =>
    intro x1 x2 st H locs ls h hl hf
    rw [fR_kinds_l19] at hf
    refine lv_iload_n hx hb dR_kinds_19 rfl (lv_at hl 2 rfl) ?_
    refine lv_if_lt (tgt := 107) hx hb dR_kinds_20 rfl (fun hq => ?_) (fun hq => ?_)
    · have hf := ck_t hq hf
      refine lv_iload_n hx hb dR_kinds_107 rfl (lv_at hl 1 rfl) ?_
      exact ck_ri hf hret h dR_kinds_108
    · have hf := ck_f hq hf
      refine lv_aload_n hx hb dR_kinds_23 rfl (lv_at hl 0 rfl) ?_
      refine ck_gr C h FR_work dR_kinds_24 ?_
      refine lv_iload_n hx hb dR_kinds_27 rfl (lv_at hl 2 rfl) ?_
      refine lv_iload_n hx hb dR_kinds_28 rfl (lv_at hl 2 rfl) ?_
      obtain ⟨hg, hf⟩ := ck_gd_e hf
      refine ck_si C h (show sh_R[31]? = some (.inr (0, 60)) from rfl) hg dR_kinds_29 (fun H locs h => ?_)
      refine lv_iload_n hx hb dR_kinds_30 rfl (lv_at hl 2 rfl) ?_
      refine lv_iconst (v := 1) hx hb dR_kinds_31 (by decide) ?_
      refine lv_iadd hx hb dR_kinds_32 ?_
      refine lv_istore_n (lv' := [(3, .int (x2 + (1 : Int32))), (0, .ref (ad 0)), (1, .int x1), (2, .int x2)]) hx hb dR_kinds_33 rfl hl (by decide) rfl (fun ls hl => ?_)
      exact BR_kinds_34 C hret (fun x1 x2 st H locs ls h hl hf => by
          exact BR_kinds_83 C hret ih _ _ _ _ _ _ h (lv_sub hl [0, 1, 2] rfl) hf) 4096 _ _ _ _ _ _ _ h (lv_sub hl [1, 2, 3, 0] rfl) hf
def fR_kinds (st : ck_S) : Option (Int32 × ck_S) := (if (st 0 28) = 0 then (some ((-13 : Int32), st)) else (fR_kinds_l19  4096 (0 : Int32) ((st 0 29) - (1 : Int32)) st))
set_option maxRecDepth 100000 in
set_option maxHeartbeats 4000000 in
theorem cR_kinds (l : Launch) (D : va_G) (cA : Nat → ClassId) (ad : Nat → Nat) {st : ck_S} {r0 : Int32} {st0 : ck_S} (hf : fR_kinds st = some (r0, st0)) : Met l yR_kinds (.code yR_kinds bR_kinds 4 (some .int) :: ck_T) (ck_R 1) (va_Pc [.ref (ad 0)] (ck_P sh_R cm_cl D cA ad st)) (va_Qi (fun a u => a = r0 ∧ u = st0) (ck_P sh_R cm_cl D cA ad) (ck_A ad sh_R.length)) 0 0 (ck_A ad sh_R.length) := by
  refine ck_met_i (own := R_R) (by decide +kernel) rfl (Nat.le_of_ble_eq_true rfl) (fun p e R s m args below meth c H0 Q ls C hret h hl => ?_)
  have C1 := C
  obtain ⟨hx, hb, hml, hown, hts, hK, hlv, hlo⟩ := C1
  have hl : lv_has ls 4 [(0, .ref (ad 0))] := hl
  unfold fR_kinds at hf
  refine lv_aload_n hx hb dR_kinds_0 rfl (lv_at hl 0 rfl) ?_
  refine ck_gi (x := (st 0 28)) C h FR_grown rfl dR_kinds_1 ?_
  refine lv_if_ne (tgt := 10) hx hb dR_kinds_4 rfl (fun hq => ?_) (fun hq => ?_)
  · have hf := ck_f hq hf
    refine lv_iconst (v := 0) hx hb dR_kinds_10 (by decide) ?_
    refine lv_istore_n (lv' := [(1, .int (0 : Int32)), (0, .ref (ad 0))]) hx hb dR_kinds_11 rfl hl (by decide) rfl (fun ls hl => ?_)
    refine lv_aload_n hx hb dR_kinds_12 rfl (lv_at hl 1 rfl) ?_
    refine ck_gi (x := (st 0 29)) C h FR_nodes rfl dR_kinds_13 ?_
    refine lv_iconst (v := 1) hx hb dR_kinds_16 (by decide) ?_
    refine lv_isub hx hb dR_kinds_17 ?_
    refine lv_istore_n (lv' := [(2, .int ((st 0 29) - (1 : Int32))), (1, .int (0 : Int32)), (0, .ref (ad 0))]) hx hb dR_kinds_18 rfl hl (by decide) rfl (fun ls hl => ?_)
    exact BR_kinds_19 C hret  4096 _ _ _ _ _ _ h (lv_sub hl [2, 1, 0] rfl) hf
  · have hf := ck_t hq hf
    refine lv_bipush (v := (-13)) hx hb dR_kinds_7 (by decide) ?_
    exact ck_ri hf hret h dR_kinds_9
def fR_longest_l30 (k88 : Int32 → ck_S → Option (Int32 × ck_S)) : Nat → Int32 → Int32 → ck_S → Option (Int32 × ck_S)
  | 0, _, _, _ => none
  | n + 1, x1, x2, st => (ck_gd x1 60 (if (st 28 (x1).toNatClampNeg) ≤ x2 then (k88 x1 st) else (ck_gd x1 60 (ck_gd ((st 27 (x1).toNatClampNeg) + x2) 60 (ck_gd x1 60 (if ((st 31 (((st 27 (x1).toNatClampNeg) + x2)).toNatClampNeg) + (1 : Int32)) ≤ (st 31 (x1).toNatClampNeg) then (ck_gd x1 60 (ck_gd x1 60 (fR_longest_l30 k88 n x1 (x2 + 1) (ck_u st 31 (x1).toNatClampNeg (st 31 (x1).toNatClampNeg))))) else (ck_gd x1 60 (fR_longest_l30 k88 n x1 (x2 + 1) (ck_u st 31 (x1).toNatClampNeg ((st 31 (((st 27 (x1).toNatClampNeg) + x2)).toNatClampNeg) + (1 : Int32)))))))))))
set_option maxRecDepth 100000 in
set_option maxHeartbeats 4000000 in
theorem BR_longest_30 (C : ck_X cm_cl D cA bR_longest 4 R_R 0 p R s m args c) {r0 : Int32} {st0 : ck_S} (hret : ∀ (pc : Nat) (H : Heap) (locs : List Loc) (ls : Array Slot), decode bR_longest pc = .ok (.ireturn, 1) → ck_AT sh_R cm_cl D cA ad H0 st0 H locs → W p l e R s m args below meth c H locs 0 0 Q (F0 m pc ls [.int r0])) {k88 : Int32 → ck_S → Option (Int32 × ck_S)} (hk88 : ∀ (x1 : Int32) (st : ck_S) (H : Heap) (locs : List Loc) (ls : Array Slot), ck_AT sh_R cm_cl D cA ad H0 st H locs → lv_has ls 4 [(0, .ref (ad 0)), (1, .int x1)] → k88 x1 st = some (r0, st0) → W p l e R s m args below meth c H locs 0 0 Q (F0 m 88 ls [])) : ∀ (n : Nat) (x1 : Int32) (x2 : Int32) (st : ck_S) (H : Heap) (locs : List Loc) (ls : Array Slot), ck_AT sh_R cm_cl D cA ad H0 st H locs → lv_has ls 4 [(0, .ref (ad 0)), (1, .int x1), (2, .int x2)] → fR_longest_l30 k88 n x1 x2 st = some (r0, st0) → W p l e R s m args below meth c H locs 0 0 Q (F0 m 30 ls []) := by
  have C1 := C
  obtain ⟨hx, hb, hml, hown, hts, hK, hlv, hlo⟩ := C1
  intro n
  induction n with
  | zero => intro _ _ _ _ _ _ _ _ hf; cases hf
  | succ n ih =>
    intro x1 x2 st H locs ls h hl hf
    rw [fR_longest_l30] at hf
    refine lv_iload_n hx hb dR_longest_30 rfl (lv_at hl 2 rfl) ?_
    refine lv_aload_n hx hb dR_longest_31 rfl (lv_at hl 0 rfl) ?_
    refine ck_gr C h FR_many dR_longest_32 ?_
    refine lv_iload_n hx hb dR_longest_35 rfl (lv_at hl 1 rfl) ?_
    obtain ⟨hg, hf⟩ := ck_gd_e hf
    refine ck_ai (x := (st 28 (x1).toNatClampNeg)) C h (show sh_R[28]? = some (.inr (0, 60)) from rfl) hg rfl dR_longest_36 ?_
    refine lv_icmp_ge (tgt := 88) hx hb dR_longest_37 rfl (fun hq => ?_) (fun hq => ?_)
    · have hf := ck_t hq hf
      exact hk88 _ _ _ _ _ h (lv_sub hl [0, 1] rfl) hf
    · have hf := ck_f hq hf
      refine lv_aload_n hx hb dR_longest_40 rfl (lv_at hl 0 rfl) ?_
      refine ck_gr C h FR_work dR_longest_41 ?_
      refine lv_aload_n hx hb dR_longest_44 rfl (lv_at hl 0 rfl) ?_
      refine ck_gr C h FR_from dR_longest_45 ?_
      refine lv_iload_n hx hb dR_longest_48 rfl (lv_at hl 1 rfl) ?_
      obtain ⟨hg, hf⟩ := ck_gd_e hf
      refine ck_ai (x := (st 27 (x1).toNatClampNeg)) C h (show sh_R[27]? = some (.inr (0, 60)) from rfl) hg rfl dR_longest_49 ?_
      refine lv_iload_n hx hb dR_longest_50 rfl (lv_at hl 2 rfl) ?_
      refine lv_iadd hx hb dR_longest_51 ?_
      obtain ⟨hg, hf⟩ := ck_gd_e hf
      refine ck_ai (x := (st 31 (((st 27 (x1).toNatClampNeg) + x2)).toNatClampNeg)) C h (show sh_R[31]? = some (.inr (0, 60)) from rfl) hg rfl dR_longest_52 ?_
      refine lv_iconst (v := 1) hx hb dR_longest_53 (by decide) ?_
      refine lv_iadd hx hb dR_longest_54 ?_
      refine lv_istore_n (lv' := [(3, .int ((st 31 (((st 27 (x1).toNatClampNeg) + x2)).toNatClampNeg) + (1 : Int32))), (0, .ref (ad 0)), (1, .int x1), (2, .int x2)]) hx hb dR_longest_55 rfl hl (by decide) rfl (fun ls hl => ?_)
      refine lv_aload_n hx hb dR_longest_56 rfl (lv_at hl 1 rfl) ?_
      refine ck_gr C h FR_work dR_longest_57 ?_
      refine lv_iload_n hx hb dR_longest_60 rfl (lv_at hl 2 rfl) ?_
      refine lv_iload_n hx hb dR_longest_61 rfl (lv_at hl 0 rfl) ?_
      refine lv_aload_n hx hb dR_longest_62 rfl (lv_at hl 1 rfl) ?_
      refine ck_gr C h FR_work dR_longest_63 ?_
      refine lv_iload_n hx hb dR_longest_66 rfl (lv_at hl 2 rfl) ?_
      obtain ⟨hg, hf⟩ := ck_gd_e hf
      refine ck_ai (x := (st 31 (x1).toNatClampNeg)) C h (show sh_R[31]? = some (.inr (0, 60)) from rfl) hg rfl dR_longest_67 ?_
      refine lv_icmp_le (tgt := 75) hx hb dR_longest_68 rfl (fun hq => ?_) (fun hq => ?_)
      · have hf := ck_t hq hf
        refine lv_aload_n hx hb dR_longest_75 rfl (lv_at hl 1 rfl) ?_
        refine ck_gr C h FR_work dR_longest_76 ?_
        refine lv_iload_n hx hb dR_longest_79 rfl (lv_at hl 2 rfl) ?_
        obtain ⟨hg, hf⟩ := ck_gd_e hf
        refine ck_ai (x := (st 31 (x1).toNatClampNeg)) C h (show sh_R[31]? = some (.inr (0, 60)) from rfl) hg rfl dR_longest_80 ?_
        obtain ⟨hg, hf⟩ := ck_gd_e hf
        refine ck_si C h (show sh_R[31]? = some (.inr (0, 60)) from rfl) hg dR_longest_81 (fun H locs h => ?_)
        refine lv_iinc (k := 3) (v := (x2 + 1)) (lv' := [(2, .int (x2 + 1)), (3, .int ((st 31 (((st 27 (x1).toNatClampNeg) + x2)).toNatClampNeg) + (1 : Int32))), (0, .ref (ad 0)), (1, .int x1)]) hx hb dR_longest_82 hl rfl rfl (by decide) rfl (fun ls hl => ?_)
        refine lv_goto (tgt := 30) hx hb dR_longest_85 rfl ?_
        exact ih _ _ _ _ _ _ h (lv_sub hl [2, 3, 0] rfl) hf
      · have hf := ck_f hq hf
        refine lv_iload_n hx hb dR_longest_71 rfl (lv_at hl 0 rfl) ?_
        refine lv_goto (tgt := 81) hx hb dR_longest_72 rfl ?_
        obtain ⟨hg, hf⟩ := ck_gd_e hf
        refine ck_si C h (show sh_R[31]? = some (.inr (0, 60)) from rfl) hg dR_longest_81 (fun H locs h => ?_)
        refine lv_iinc (k := 3) (v := (x2 + 1)) (lv' := [(2, .int (x2 + 1)), (3, .int ((st 31 (((st 27 (x1).toNatClampNeg) + x2)).toNatClampNeg) + (1 : Int32))), (0, .ref (ad 0)), (1, .int x1)]) hx hb dR_longest_82 hl rfl rfl (by decide) rfl (fun ls hl => ?_)
        refine lv_goto (tgt := 30) hx hb dR_longest_85 rfl ?_
        exact ih _ _ _ _ _ _ h (lv_sub hl [2, 3, 0] rfl) hf
def fR_longest_b88 (k17 : Int32 → ck_S → Option (Int32 × ck_S)) (x1 : Int32) (st : ck_S) : Option (Int32 × ck_S) := (k17 (x1 + (-1)) st)
set_option maxRecDepth 100000 in
set_option maxHeartbeats 4000000 in
theorem BR_longest_88 (C : ck_X cm_cl D cA bR_longest 4 R_R 0 p R s m args c) {r0 : Int32} {st0 : ck_S} (hret : ∀ (pc : Nat) (H : Heap) (locs : List Loc) (ls : Array Slot), decode bR_longest pc = .ok (.ireturn, 1) → ck_AT sh_R cm_cl D cA ad H0 st0 H locs → W p l e R s m args below meth c H locs 0 0 Q (F0 m pc ls [.int r0])) {k17 : Int32 → ck_S → Option (Int32 × ck_S)} (hk17 : ∀ (x1 : Int32) (st : ck_S) (H : Heap) (locs : List Loc) (ls : Array Slot), ck_AT sh_R cm_cl D cA ad H0 st H locs → lv_has ls 4 [(0, .ref (ad 0)), (1, .int x1)] → k17 x1 st = some (r0, st0) → W p l e R s m args below meth c H locs 0 0 Q (F0 m 17 ls [])) (x1 : Int32) (st : ck_S) (H : Heap) (locs : List Loc) (ls : Array Slot) (h : ck_AT sh_R cm_cl D cA ad H0 st H locs) (hl : lv_has ls 4 [(0, .ref (ad 0)), (1, .int x1)]) (hf : fR_longest_b88 k17 x1 st = some (r0, st0)) : W p l e R s m args below meth c H locs 0 0 Q (F0 m 88 ls []) := by
  have C1 := C
  obtain ⟨hx, hb, hml, hown, hts, hK, hlv, hlo⟩ := C1
  unfold fR_longest_b88 at hf
  refine lv_iinc (k := 1) (v := (x1 + (-1))) (lv' := [(1, .int (x1 + (-1))), (0, .ref (ad 0))]) hx hb dR_longest_88 hl rfl rfl (by decide) rfl (fun ls hl => ?_)
  refine lv_goto (tgt := 17) hx hb dR_longest_91 rfl ?_
  exact hk17 _ _ _ _ _ h (lv_sub hl [1, 0] rfl) hf
def fR_longest_l17 : Nat → Int32 → ck_S → Option (Int32 × ck_S)
  | 0, _, _ => none
  | n + 1, x1, st => (if x1 < 0 then (ck_gd (0 : Int32) 60 (some ((st 31 ((0 : Int32)).toNatClampNeg), st))) else (ck_gd x1 60 (fR_longest_l30 (fun x1 st => (fR_longest_b88 (fR_longest_l17 n) x1 st)) 4096 x1 (0 : Int32) (ck_u st 31 (x1).toNatClampNeg (0 : Int32)))))
set_option maxRecDepth 100000 in
set_option maxHeartbeats 4000000 in
theorem BR_longest_17 (C : ck_X cm_cl D cA bR_longest 4 R_R 0 p R s m args c) {r0 : Int32} {st0 : ck_S} (hret : ∀ (pc : Nat) (H : Heap) (locs : List Loc) (ls : Array Slot), decode bR_longest pc = .ok (.ireturn, 1) → ck_AT sh_R cm_cl D cA ad H0 st0 H locs → W p l e R s m args below meth c H locs 0 0 Q (F0 m pc ls [.int r0])) : ∀ (n : Nat) (x1 : Int32) (st : ck_S) (H : Heap) (locs : List Loc) (ls : Array Slot), ck_AT sh_R cm_cl D cA ad H0 st H locs → lv_has ls 4 [(0, .ref (ad 0)), (1, .int x1)] → fR_longest_l17  n x1 st = some (r0, st0) → W p l e R s m args below meth c H locs 0 0 Q (F0 m 17 ls []) := by
  have C1 := C
  obtain ⟨hx, hb, hml, hown, hts, hK, hlv, hlo⟩ := C1
  intro n
  induction n with
  | zero => intro _ _ _ _ _ _ _ hf; cases hf
  | succ n ih =>
    intro x1 st H locs ls h hl hf
    rw [fR_longest_l17] at hf
    refine lv_iload_n hx hb dR_longest_17 rfl (lv_at hl 1 rfl) ?_
    refine lv_if_lt (tgt := 94) hx hb dR_longest_18 rfl (fun hq => ?_) (fun hq => ?_)
    · have hf := ck_t hq hf
      refine lv_aload_n hx hb dR_longest_94 rfl (lv_at hl 0 rfl) ?_
      refine ck_gr C h FR_work dR_longest_95 ?_
      refine lv_iconst (v := 0) hx hb dR_longest_98 (by decide) ?_
      obtain ⟨hg, hf⟩ := ck_gd_e hf
      refine ck_ai (x := (st 31 ((0 : Int32)).toNatClampNeg)) C h (show sh_R[31]? = some (.inr (0, 60)) from rfl) hg rfl dR_longest_99 ?_
      exact ck_ri hf hret h dR_longest_100
    · have hf := ck_f hq hf
      refine lv_aload_n hx hb dR_longest_21 rfl (lv_at hl 0 rfl) ?_
      refine ck_gr C h FR_work dR_longest_22 ?_
      refine lv_iload_n hx hb dR_longest_25 rfl (lv_at hl 1 rfl) ?_
      refine lv_iconst (v := 0) hx hb dR_longest_26 (by decide) ?_
      obtain ⟨hg, hf⟩ := ck_gd_e hf
      refine ck_si C h (show sh_R[31]? = some (.inr (0, 60)) from rfl) hg dR_longest_27 (fun H locs h => ?_)
      refine lv_iconst (v := 0) hx hb dR_longest_28 (by decide) ?_
      refine lv_istore_n (lv' := [(2, .int (0 : Int32)), (0, .ref (ad 0)), (1, .int x1)]) hx hb dR_longest_29 rfl hl (by decide) rfl (fun ls hl => ?_)
      exact BR_longest_30 C hret (fun x1 st H locs ls h hl hf => by
          exact BR_longest_88 C hret ih _ _ _ _ _ h (lv_sub hl [0, 1] rfl) hf) 4096 _ _ _ _ _ _ h (lv_sub hl [1, 2, 0] rfl) hf
def fR_longest (st : ck_S) : Option (Int32 × ck_S) := (if (st 0 28) = 0 then (some ((-13 : Int32), st)) else (fR_longest_l17  4096 ((st 0 29) - (1 : Int32)) st))
set_option maxRecDepth 100000 in
set_option maxHeartbeats 4000000 in
theorem cR_longest (l : Launch) (D : va_G) (cA : Nat → ClassId) (ad : Nat → Nat) {st : ck_S} {r0 : Int32} {st0 : ck_S} (hf : fR_longest st = some (r0, st0)) : Met l yR_longest (.code yR_longest bR_longest 4 (some .int) :: ck_T) (ck_R 0) (va_Pc [.ref (ad 0)] (ck_P sh_R cm_cl D cA ad st)) (va_Qi (fun a u => a = r0 ∧ u = st0) (ck_P sh_R cm_cl D cA ad) (ck_A ad sh_R.length)) 0 0 (ck_A ad sh_R.length) := by
  refine ck_met_i (own := R_R) (by decide +kernel) rfl (Nat.le_of_ble_eq_true rfl) (fun p e R s m args below meth c H0 Q ls C hret h hl => ?_)
  have C1 := C
  obtain ⟨hx, hb, hml, hown, hts, hK, hlv, hlo⟩ := C1
  have hl : lv_has ls 4 [(0, .ref (ad 0))] := hl
  unfold fR_longest at hf
  refine lv_aload_n hx hb dR_longest_0 rfl (lv_at hl 0 rfl) ?_
  refine ck_gi (x := (st 0 28)) C h FR_grown rfl dR_longest_1 ?_
  refine lv_if_ne (tgt := 10) hx hb dR_longest_4 rfl (fun hq => ?_) (fun hq => ?_)
  · have hf := ck_f hq hf
    refine lv_aload_n hx hb dR_longest_10 rfl (lv_at hl 0 rfl) ?_
    refine ck_gi (x := (st 0 29)) C h FR_nodes rfl dR_longest_11 ?_
    refine lv_iconst (v := 1) hx hb dR_longest_14 (by decide) ?_
    refine lv_isub hx hb dR_longest_15 ?_
    refine lv_istore_n (lv' := [(1, .int ((st 0 29) - (1 : Int32))), (0, .ref (ad 0))]) hx hb dR_longest_16 rfl hl (by decide) rfl (fun ls hl => ?_)
    exact BR_longest_17 C hret  4096 _ _ _ _ _ h (lv_sub hl [1, 0] rfl) hf
  · have hf := ck_t hq hf
    refine lv_bipush (v := (-13)) hx hb dR_longest_7 (by decide) ?_
    exact ck_ri hf hret h dR_longest_9
def fR_useless_l57 (k105 : Int32 → Int32 → Int32 → Int32 → ck_S → Option (Int32 × ck_S)) : Nat → Int32 → Int32 → Int32 → Int32 → Int32 → ck_S → Option (Int32 × ck_S)
  | 0, _, _, _, _, _, _ => none
  | n + 1, x1, x2, x3, x4, x5, st => (if (st 0 29) ≤ x5 then (k105 x1 x2 x3 x4 st) else (if x4 = 0 then (ck_gd x5 60 (if (st 24 (x5).toNatClampNeg) = 0 then (ck_gd x5 60 (if (st 26 (x5).toNatClampNeg) = x3 then (fR_useless_l57 k105 n x1 x2 x3 (1 : Int32) (x5 + 1) st) else (fR_useless_l57 k105 n x1 x2 x3 (0 : Int32) (x5 + 1) st))) else (fR_useless_l57 k105 n x1 x2 x3 (0 : Int32) (x5 + 1) st))) else (fR_useless_l57 k105 n x1 x2 x3 (1 : Int32) (x5 + 1) st)))
set_option maxRecDepth 100000 in
set_option maxHeartbeats 4000000 in
theorem BR_useless_57 (C : ck_X cm_cl D cA bR_useless 6 R_R 0 p R s m args c) {r0 : Int32} {st0 : ck_S} (hret : ∀ (pc : Nat) (H : Heap) (locs : List Loc) (ls : Array Slot), decode bR_useless pc = .ok (.ireturn, 1) → ck_AT sh_R cm_cl D cA ad H0 st0 H locs → W p l e R s m args below meth c H locs 0 0 Q (F0 m pc ls [.int r0])) {k105 : Int32 → Int32 → Int32 → Int32 → ck_S → Option (Int32 × ck_S)} (hk105 : ∀ (x1 : Int32) (x2 : Int32) (x3 : Int32) (x4 : Int32) (st : ck_S) (H : Heap) (locs : List Loc) (ls : Array Slot), ck_AT sh_R cm_cl D cA ad H0 st H locs → lv_has ls 6 [(0, .ref (ad 0)), (1, .int x1), (2, .int x2), (3, .int x3), (4, .int x4)] → k105 x1 x2 x3 x4 st = some (r0, st0) → W p l e R s m args below meth c H locs 0 0 Q (F0 m 105 ls [])) : ∀ (n : Nat) (x1 : Int32) (x2 : Int32) (x3 : Int32) (x4 : Int32) (x5 : Int32) (st : ck_S) (H : Heap) (locs : List Loc) (ls : Array Slot), ck_AT sh_R cm_cl D cA ad H0 st H locs → lv_has ls 6 [(0, .ref (ad 0)), (1, .int x1), (2, .int x2), (3, .int x3), (4, .int x4), (5, .int x5)] → fR_useless_l57 k105 n x1 x2 x3 x4 x5 st = some (r0, st0) → W p l e R s m args below meth c H locs 0 0 Q (F0 m 57 ls []) := by
  have C1 := C
  obtain ⟨hx, hb, hml, hown, hts, hK, hlv, hlo⟩ := C1
  intro n
  induction n with
  | zero => intro _ _ _ _ _ _ _ _ _ _ _ hf; cases hf
  | succ n ih =>
    intro x1 x2 x3 x4 x5 st H locs ls h hl hf
    rw [fR_useless_l57] at hf
    refine lv_iload hx hb dR_useless_57 (lv_at hl 5 rfl) ?_
    refine lv_aload_n hx hb dR_useless_59 rfl (lv_at hl 0 rfl) ?_
    refine ck_gi (x := (st 0 29)) C h FR_nodes rfl dR_useless_60 ?_
    refine lv_icmp_ge (tgt := 105) hx hb dR_useless_63 rfl (fun hq => ?_) (fun hq => ?_)
    · have hf := ck_t hq hf
      exact hk105 _ _ _ _ _ _ _ _ h (lv_sub hl [0, 1, 2, 3, 4] rfl) hf
    · have hf := ck_f hq hf
      refine lv_iload hx hb dR_useless_66 (lv_at hl 4 rfl) ?_
      refine lv_if_ne (tgt := 92) hx hb dR_useless_68 rfl (fun hq => ?_) (fun hq => ?_)
      · have hf := ck_f hq hf
        refine lv_iconst (v := 1) hx hb dR_useless_92 (by decide) ?_
        refine lv_goto (tgt := 97) hx hb dR_useless_93 rfl ?_
        refine lv_istore (lv' := [(4, .int (1 : Int32)), (0, .ref (ad 0)), (1, .int x1), (2, .int x2), (3, .int x3), (5, .int x5)]) hx hb dR_useless_97 hl (by decide) rfl (fun ls hl => ?_)
        refine lv_iinc (k := 5) (v := (x5 + 1)) (lv' := [(5, .int (x5 + 1)), (4, .int (1 : Int32)), (0, .ref (ad 0)), (1, .int x1), (2, .int x2), (3, .int x3)]) hx hb dR_useless_99 hl rfl rfl (by decide) rfl (fun ls hl => ?_)
        refine lv_goto (tgt := 57) hx hb dR_useless_102 rfl ?_
        exact ih _ _ _ _ _ _ _ _ _ h (lv_sub hl [2, 3, 4, 5, 1, 0] rfl) hf
      · have hf := ck_t hq hf
        refine lv_aload_n hx hb dR_useless_71 rfl (lv_at hl 0 rfl) ?_
        refine ck_gr C h FR_place dR_useless_72 ?_
        refine lv_iload hx hb dR_useless_75 (lv_at hl 5 rfl) ?_
        obtain ⟨hg, hf⟩ := ck_gd_e hf
        refine ck_ai (x := (st 24 (x5).toNatClampNeg)) C h (show sh_R[24]? = some (.inr (0, 60)) from rfl) hg rfl dR_useless_77 ?_
        refine lv_if_ne (tgt := 96) hx hb dR_useless_78 rfl (fun hq => ?_) (fun hq => ?_)
        · have hf := ck_f hq hf
          refine lv_iconst (v := 0) hx hb dR_useless_96 (by decide) ?_
          refine lv_istore (lv' := [(4, .int (0 : Int32)), (0, .ref (ad 0)), (1, .int x1), (2, .int x2), (3, .int x3), (5, .int x5)]) hx hb dR_useless_97 hl (by decide) rfl (fun ls hl => ?_)
          refine lv_iinc (k := 5) (v := (x5 + 1)) (lv' := [(5, .int (x5 + 1)), (4, .int (0 : Int32)), (0, .ref (ad 0)), (1, .int x1), (2, .int x2), (3, .int x3)]) hx hb dR_useless_99 hl rfl rfl (by decide) rfl (fun ls hl => ?_)
          refine lv_goto (tgt := 57) hx hb dR_useless_102 rfl ?_
          exact ih _ _ _ _ _ _ _ _ _ h (lv_sub hl [2, 3, 4, 5, 1, 0] rfl) hf
        · have hf := ck_t hq hf
          refine lv_aload_n hx hb dR_useless_81 rfl (lv_at hl 0 rfl) ?_
          refine ck_gr C h FR_leaf dR_useless_82 ?_
          refine lv_iload hx hb dR_useless_85 (lv_at hl 5 rfl) ?_
          obtain ⟨hg, hf⟩ := ck_gd_e hf
          refine ck_ai (x := (st 26 (x5).toNatClampNeg)) C h (show sh_R[26]? = some (.inr (0, 60)) from rfl) hg rfl dR_useless_87 ?_
          refine lv_iload_n hx hb dR_useless_88 rfl (lv_at hl 3 rfl) ?_
          refine lv_icmp_ne (tgt := 96) hx hb dR_useless_89 rfl (fun hq => ?_) (fun hq => ?_)
          · have hf := ck_f hq hf
            refine lv_iconst (v := 0) hx hb dR_useless_96 (by decide) ?_
            refine lv_istore (lv' := [(4, .int (0 : Int32)), (0, .ref (ad 0)), (1, .int x1), (2, .int x2), (3, .int x3), (5, .int x5)]) hx hb dR_useless_97 hl (by decide) rfl (fun ls hl => ?_)
            refine lv_iinc (k := 5) (v := (x5 + 1)) (lv' := [(5, .int (x5 + 1)), (4, .int (0 : Int32)), (0, .ref (ad 0)), (1, .int x1), (2, .int x2), (3, .int x3)]) hx hb dR_useless_99 hl rfl rfl (by decide) rfl (fun ls hl => ?_)
            refine lv_goto (tgt := 57) hx hb dR_useless_102 rfl ?_
            exact ih _ _ _ _ _ _ _ _ _ h (lv_sub hl [2, 3, 4, 5, 1, 0] rfl) hf
          · have hf := ck_t hq hf
            refine lv_iconst (v := 1) hx hb dR_useless_92 (by decide) ?_
            refine lv_goto (tgt := 97) hx hb dR_useless_93 rfl ?_
            refine lv_istore (lv' := [(4, .int (1 : Int32)), (0, .ref (ad 0)), (1, .int x1), (2, .int x2), (3, .int x3), (5, .int x5)]) hx hb dR_useless_97 hl (by decide) rfl (fun ls hl => ?_)
            refine lv_iinc (k := 5) (v := (x5 + 1)) (lv' := [(5, .int (x5 + 1)), (4, .int (1 : Int32)), (0, .ref (ad 0)), (1, .int x1), (2, .int x2), (3, .int x3)]) hx hb dR_useless_99 hl rfl rfl (by decide) rfl (fun ls hl => ?_)
            refine lv_goto (tgt := 57) hx hb dR_useless_102 rfl ?_
            exact ih _ _ _ _ _ _ _ _ _ h (lv_sub hl [2, 3, 4, 5, 1, 0] rfl) hf
def fR_useless_b105 (k29 : Int32 → Int32 → Int32 → ck_S → Option (Int32 × ck_S)) (x1 : Int32) (x2 : Int32) (x3 : Int32) (x4 : Int32) (st : ck_S) : Option (Int32 × ck_S) := (if x4 = 0 then (ck_gd x3 16 (k29 x1 (x2 + ((1 : Int32) <<< ((st 16 (x3).toNatClampNeg) &&& 31))) (x3 + 1) st)) else (k29 x1 x2 (x3 + 1) st))
set_option maxRecDepth 100000 in
set_option maxHeartbeats 4000000 in
theorem BR_useless_105 (C : ck_X cm_cl D cA bR_useless 6 R_R 0 p R s m args c) {r0 : Int32} {st0 : ck_S} (hret : ∀ (pc : Nat) (H : Heap) (locs : List Loc) (ls : Array Slot), decode bR_useless pc = .ok (.ireturn, 1) → ck_AT sh_R cm_cl D cA ad H0 st0 H locs → W p l e R s m args below meth c H locs 0 0 Q (F0 m pc ls [.int r0])) {k29 : Int32 → Int32 → Int32 → ck_S → Option (Int32 × ck_S)} (hk29 : ∀ (x1 : Int32) (x2 : Int32) (x3 : Int32) (st : ck_S) (H : Heap) (locs : List Loc) (ls : Array Slot), ck_AT sh_R cm_cl D cA ad H0 st H locs → lv_has ls 6 [(0, .ref (ad 0)), (1, .int x1), (2, .int x2), (3, .int x3)] → k29 x1 x2 x3 st = some (r0, st0) → W p l e R s m args below meth c H locs 0 0 Q (F0 m 29 ls [])) (x1 : Int32) (x2 : Int32) (x3 : Int32) (x4 : Int32) (st : ck_S) (H : Heap) (locs : List Loc) (ls : Array Slot) (h : ck_AT sh_R cm_cl D cA ad H0 st H locs) (hl : lv_has ls 6 [(0, .ref (ad 0)), (1, .int x1), (2, .int x2), (3, .int x3), (4, .int x4)]) (hf : fR_useless_b105 k29 x1 x2 x3 x4 st = some (r0, st0)) : W p l e R s m args below meth c H locs 0 0 Q (F0 m 105 ls []) := by
  have C1 := C
  obtain ⟨hx, hb, hml, hown, hts, hK, hlv, hlo⟩ := C1
  unfold fR_useless_b105 at hf
  refine lv_iload hx hb dR_useless_105 (lv_at hl 4 rfl) ?_
  refine lv_if_eq (tgt := 114) hx hb dR_useless_107 rfl (fun hq => ?_) (fun hq => ?_)
  · have hf := ck_t hq hf
    refine lv_iload_n hx hb dR_useless_114 rfl (lv_at hl 2 rfl) ?_
    refine lv_iconst (v := 1) hx hb dR_useless_115 (by decide) ?_
    refine lv_aload_n hx hb dR_useless_116 rfl (lv_at hl 0 rfl) ?_
    refine ck_gr C h FR_numberOf dR_useless_117 ?_
    refine lv_iload_n hx hb dR_useless_120 rfl (lv_at hl 3 rfl) ?_
    obtain ⟨hg, hf⟩ := ck_gd_e hf
    refine ck_ai (x := (st 16 (x3).toNatClampNeg)) C h (show sh_R[16]? = some (.inr (0, 16)) from rfl) hg rfl dR_useless_121 ?_
    refine lv_ishl hx hb dR_useless_122 ?_
    refine lv_iadd hx hb dR_useless_123 ?_
    refine lv_istore_n (lv' := [(2, .int (x2 + ((1 : Int32) <<< ((st 16 (x3).toNatClampNeg) &&& 31)))), (0, .ref (ad 0)), (1, .int x1), (3, .int x3), (4, .int x4)]) hx hb dR_useless_124 rfl hl (by decide) rfl (fun ls hl => ?_)
    refine lv_iinc (k := 3) (v := (x3 + 1)) (lv' := [(3, .int (x3 + 1)), (2, .int (x2 + ((1 : Int32) <<< ((st 16 (x3).toNatClampNeg) &&& 31)))), (0, .ref (ad 0)), (1, .int x1), (4, .int x4)]) hx hb dR_useless_125 hl rfl rfl (by decide) rfl (fun ls hl => ?_)
    refine lv_goto (tgt := 29) hx hb dR_useless_128 rfl ?_
    exact hk29 _ _ _ _ _ _ _ h (lv_sub hl [2, 3, 1, 0] rfl) hf
  · have hf := ck_f hq hf
    refine lv_iload_n hx hb dR_useless_110 rfl (lv_at hl 2 rfl) ?_
    refine lv_goto (tgt := 124) hx hb dR_useless_111 rfl ?_
    refine lv_istore_n (lv' := [(2, .int x2), (0, .ref (ad 0)), (1, .int x1), (3, .int x3), (4, .int x4)]) hx hb dR_useless_124 rfl hl (by decide) rfl (fun ls hl => ?_)
    refine lv_iinc (k := 3) (v := (x3 + 1)) (lv' := [(3, .int (x3 + 1)), (2, .int x2), (0, .ref (ad 0)), (1, .int x1), (4, .int x4)]) hx hb dR_useless_125 hl rfl rfl (by decide) rfl (fun ls hl => ?_)
    refine lv_goto (tgt := 29) hx hb dR_useless_128 rfl ?_
    exact hk29 _ _ _ _ _ _ _ h (lv_sub hl [2, 3, 1, 0] rfl) hf
def fR_useless_l29 : Nat → Int32 → Int32 → Int32 → ck_S → Option (Int32 × ck_S)
  | 0, _, _, _, _ => none
  | n + 1, x1, x2, x3, st => (if (st 0 20) ≤ x3 then (some (x2, st)) else (ck_gd x3 16 (if (st 15 (x3).toNatClampNeg) = x1 then (fR_useless_l57 (fun x1 x2 x3 x4 st => (fR_useless_b105 (fR_useless_l29 n) x1 x2 x3 x4 st)) 4096 x1 x2 x3 (0 : Int32) (0 : Int32) st) else (fR_useless_l57 (fun x1 x2 x3 x4 st => (fR_useless_b105 (fR_useless_l29 n) x1 x2 x3 x4 st)) 4096 x1 x2 x3 (1 : Int32) (0 : Int32) st))))
set_option maxRecDepth 100000 in
set_option maxHeartbeats 4000000 in
theorem BR_useless_29 (C : ck_X cm_cl D cA bR_useless 6 R_R 0 p R s m args c) {r0 : Int32} {st0 : ck_S} (hret : ∀ (pc : Nat) (H : Heap) (locs : List Loc) (ls : Array Slot), decode bR_useless pc = .ok (.ireturn, 1) → ck_AT sh_R cm_cl D cA ad H0 st0 H locs → W p l e R s m args below meth c H locs 0 0 Q (F0 m pc ls [.int r0])) : ∀ (n : Nat) (x1 : Int32) (x2 : Int32) (x3 : Int32) (st : ck_S) (H : Heap) (locs : List Loc) (ls : Array Slot), ck_AT sh_R cm_cl D cA ad H0 st H locs → lv_has ls 6 [(0, .ref (ad 0)), (1, .int x1), (2, .int x2), (3, .int x3)] → fR_useless_l29  n x1 x2 x3 st = some (r0, st0) → W p l e R s m args below meth c H locs 0 0 Q (F0 m 29 ls []) := by
  have C1 := C
  obtain ⟨hx, hb, hml, hown, hts, hK, hlv, hlo⟩ := C1
  intro n
  induction n with
  | zero => intro _ _ _ _ _ _ _ _ _ hf; cases hf
  | succ n ih =>
    intro x1 x2 x3 st H locs ls h hl hf
    rw [fR_useless_l29] at hf
    refine lv_iload_n hx hb dR_useless_29 rfl (lv_at hl 3 rfl) ?_
    refine lv_aload_n hx hb dR_useless_30 rfl (lv_at hl 0 rfl) ?_
    refine ck_gi (x := (st 0 20)) C h FR_clauses rfl dR_useless_31 ?_
    refine lv_icmp_ge (tgt := 131) hx hb dR_useless_34 rfl (fun hq => ?_) (fun hq => ?_)
    · have hf := ck_t hq hf
      refine lv_iload_n hx hb dR_useless_131 rfl (lv_at hl 2 rfl) ?_
      exact ck_ri hf hret h dR_useless_132
    · have hf := ck_f hq hf
      refine lv_aload_n hx hb dR_useless_37 rfl (lv_at hl 0 rfl) ?_
      refine ck_gr C h FR_rowOf dR_useless_38 ?_
      refine lv_iload_n hx hb dR_useless_41 rfl (lv_at hl 3 rfl) ?_
      obtain ⟨hg, hf⟩ := ck_gd_e hf
      refine ck_ai (x := (st 15 (x3).toNatClampNeg)) C h (show sh_R[15]? = some (.inr (0, 16)) from rfl) hg rfl dR_useless_42 ?_
      refine lv_iload_n hx hb dR_useless_43 rfl (lv_at hl 1 rfl) ?_
      refine lv_icmp_eq (tgt := 51) hx hb dR_useless_44 rfl (fun hq => ?_) (fun hq => ?_)
      · have hf := ck_t hq hf
        refine lv_iconst (v := 0) hx hb dR_useless_51 (by decide) ?_
        refine lv_istore (lv' := [(4, .int (0 : Int32)), (0, .ref (ad 0)), (1, .int x1), (2, .int x2), (3, .int x3)]) hx hb dR_useless_52 hl (by decide) rfl (fun ls hl => ?_)
        refine lv_iconst (v := 0) hx hb dR_useless_54 (by decide) ?_
        refine lv_istore (lv' := [(5, .int (0 : Int32)), (4, .int (0 : Int32)), (0, .ref (ad 0)), (1, .int x1), (2, .int x2), (3, .int x3)]) hx hb dR_useless_55 hl (by decide) rfl (fun ls hl => ?_)
        exact BR_useless_57 C hret (fun x1 x2 x3 x4 st H locs ls h hl hf => by
            exact BR_useless_105 C hret ih _ _ _ _ _ _ _ _ h (lv_sub hl [0, 1, 2, 3, 4] rfl) hf) 4096 _ _ _ _ _ _ _ _ _ h (lv_sub hl [2, 3, 4, 5, 1, 0] rfl) hf
      · have hf := ck_f hq hf
        refine lv_iconst (v := 1) hx hb dR_useless_47 (by decide) ?_
        refine lv_goto (tgt := 52) hx hb dR_useless_48 rfl ?_
        refine lv_istore (lv' := [(4, .int (1 : Int32)), (0, .ref (ad 0)), (1, .int x1), (2, .int x2), (3, .int x3)]) hx hb dR_useless_52 hl (by decide) rfl (fun ls hl => ?_)
        refine lv_iconst (v := 0) hx hb dR_useless_54 (by decide) ?_
        refine lv_istore (lv' := [(5, .int (0 : Int32)), (4, .int (1 : Int32)), (0, .ref (ad 0)), (1, .int x1), (2, .int x2), (3, .int x3)]) hx hb dR_useless_55 hl (by decide) rfl (fun ls hl => ?_)
        exact BR_useless_57 C hret (fun x1 x2 x3 x4 st H locs ls h hl hf => by
            exact BR_useless_105 C hret ih _ _ _ _ _ _ _ _ h (lv_sub hl [0, 1, 2, 3, 4] rfl) hf) 4096 _ _ _ _ _ _ _ _ _ h (lv_sub hl [2, 3, 4, 5, 1, 0] rfl) hf
def fR_useless (x1 : Int32) (st : ck_S) : Option (Int32 × ck_S) := (if (st 0 28) = 0 then (some ((-13 : Int32), st)) else (if x1 < 0 then (some ((-15 : Int32), st)) else (if x1 < (st 0 19) then (fR_useless_l29  4096 x1 (0 : Int32) (0 : Int32) st) else (some ((-15 : Int32), st)))))
set_option maxRecDepth 100000 in
set_option maxHeartbeats 4000000 in
theorem cR_useless (l : Launch) (D : va_G) (cA : Nat → ClassId) (ad : Nat → Nat) {x1 : Int32} {st : ck_S} {r0 : Int32} {st0 : ck_S} (hf : fR_useless x1 st = some (r0, st0)) : Met l yR_useless (.code yR_useless bR_useless 6 (some .int) :: ck_T) (ck_R 0) (va_Pc [.ref (ad 0), .int x1] (ck_P sh_R cm_cl D cA ad st)) (va_Qi (fun a u => a = r0 ∧ u = st0) (ck_P sh_R cm_cl D cA ad) (ck_A ad sh_R.length)) 0 0 (ck_A ad sh_R.length) := by
  refine ck_met_i (own := R_R) (by decide +kernel) rfl (Nat.le_of_ble_eq_true rfl) (fun p e R s m args below meth c H0 Q ls C hret h hl => ?_)
  have C1 := C
  obtain ⟨hx, hb, hml, hown, hts, hK, hlv, hlo⟩ := C1
  have hl : lv_has ls 6 [(0, .ref (ad 0)), (1, .int x1)] := hl
  unfold fR_useless at hf
  refine lv_aload_n hx hb dR_useless_0 rfl (lv_at hl 0 rfl) ?_
  refine ck_gi (x := (st 0 28)) C h FR_grown rfl dR_useless_1 ?_
  refine lv_if_ne (tgt := 10) hx hb dR_useless_4 rfl (fun hq => ?_) (fun hq => ?_)
  · have hf := ck_f hq hf
    refine lv_iload_n hx hb dR_useless_10 rfl (lv_at hl 1 rfl) ?_
    refine lv_if_lt (tgt := 22) hx hb dR_useless_11 rfl (fun hq => ?_) (fun hq => ?_)
    · have hf := ck_t hq hf
      refine lv_bipush (v := (-15)) hx hb dR_useless_22 (by decide) ?_
      exact ck_ri hf hret h dR_useless_24
    · have hf := ck_f hq hf
      refine lv_iload_n hx hb dR_useless_14 rfl (lv_at hl 1 rfl) ?_
      refine lv_aload_n hx hb dR_useless_15 rfl (lv_at hl 0 rfl) ?_
      refine ck_gi (x := (st 0 19)) C h FR_rows rfl dR_useless_16 ?_
      refine lv_icmp_lt (tgt := 25) hx hb dR_useless_19 rfl (fun hq => ?_) (fun hq => ?_)
      · have hf := ck_t hq hf
        refine lv_iconst (v := 0) hx hb dR_useless_25 (by decide) ?_
        refine lv_istore_n (lv' := [(2, .int (0 : Int32)), (0, .ref (ad 0)), (1, .int x1)]) hx hb dR_useless_26 rfl hl (by decide) rfl (fun ls hl => ?_)
        refine lv_iconst (v := 0) hx hb dR_useless_27 (by decide) ?_
        refine lv_istore_n (lv' := [(3, .int (0 : Int32)), (2, .int (0 : Int32)), (0, .ref (ad 0)), (1, .int x1)]) hx hb dR_useless_28 rfl hl (by decide) rfl (fun ls hl => ?_)
        exact BR_useless_29 C hret  4096 _ _ _ _ _ _ _ h (lv_sub hl [2, 3, 1, 0] rfl) hf
      · have hf := ck_f hq hf
        refine lv_bipush (v := (-15)) hx hb dR_useless_22 (by decide) ?_
        exact ck_ri hf hret h dR_useless_24
  · have hf := ck_t hq hf
    refine lv_bipush (v := (-13)) hx hb dR_useless_7 (by decide) ?_
    exact ck_ri hf hret h dR_useless_9
def fR_witnessLength (st : ck_S) : Option (Int32 × ck_S) := (if (st 0 28) = 0 then (some ((-13 : Int32), st)) else (some ((st 0 41), st)))
set_option maxRecDepth 100000 in
set_option maxHeartbeats 4000000 in
theorem cR_witnessLength (l : Launch) (D : va_G) (cA : Nat → ClassId) (ad : Nat → Nat) {st : ck_S} {r0 : Int32} {st0 : ck_S} (hf : fR_witnessLength st = some (r0, st0)) : Met l yR_witnessLength (.code yR_witnessLength bR_witnessLength 1 (some .int) :: ck_T) (ck_R 0) (va_Pc [.ref (ad 0)] (ck_P sh_R cm_cl D cA ad st)) (va_Qi (fun a u => a = r0 ∧ u = st0) (ck_P sh_R cm_cl D cA ad) (ck_A ad sh_R.length)) 0 0 (ck_A ad sh_R.length) := by
  refine ck_met_i (own := R_R) (by decide +kernel) rfl (Nat.le_of_ble_eq_true rfl) (fun p e R s m args below meth c H0 Q ls C hret h hl => ?_)
  have C1 := C
  obtain ⟨hx, hb, hml, hown, hts, hK, hlv, hlo⟩ := C1
  have hl : lv_has ls 1 [(0, .ref (ad 0))] := hl
  unfold fR_witnessLength at hf
  refine lv_aload_n hx hb dR_witnessLength_0 rfl (lv_at hl 0 rfl) ?_
  refine ck_gi (x := (st 0 28)) C h FR_grown rfl dR_witnessLength_1 ?_
  refine lv_if_eq (tgt := 14) hx hb dR_witnessLength_4 rfl (fun hq => ?_) (fun hq => ?_)
  · have hf := ck_t hq hf
    refine lv_bipush (v := (-13)) hx hb dR_witnessLength_14 (by decide) ?_
    exact ck_ri hf hret h dR_witnessLength_16
  · have hf := ck_f hq hf
    refine lv_aload_n hx hb dR_witnessLength_7 rfl (lv_at hl 0 rfl) ?_
    refine ck_gi (x := (st 0 41)) C h FR_symbols rfl dR_witnessLength_8 ?_
    refine lv_goto (tgt := 16) hx hb dR_witnessLength_11 rfl ?_
    exact ck_ri hf hret h dR_witnessLength_16
def fR_witnessKind (x1 : Int32) (st : ck_S) : Option (Int32 × ck_S) := (if (st 0 28) = 0 then (some ((-13 : Int32), st)) else (if x1 < 0 then (some ((-15 : Int32), st)) else (if x1 < (st 0 41) then (ck_gd x1 32 (some ((st 32 (x1).toNatClampNeg), st))) else (some ((-15 : Int32), st)))))
set_option maxRecDepth 100000 in
set_option maxHeartbeats 4000000 in
theorem cR_witnessKind (l : Launch) (D : va_G) (cA : Nat → ClassId) (ad : Nat → Nat) {x1 : Int32} {st : ck_S} {r0 : Int32} {st0 : ck_S} (hf : fR_witnessKind x1 st = some (r0, st0)) : Met l yR_witnessKind (.code yR_witnessKind bR_witnessKind 2 (some .int) :: ck_T) (ck_R 0) (va_Pc [.ref (ad 0), .int x1] (ck_P sh_R cm_cl D cA ad st)) (va_Qi (fun a u => a = r0 ∧ u = st0) (ck_P sh_R cm_cl D cA ad) (ck_A ad sh_R.length)) 0 0 (ck_A ad sh_R.length) := by
  refine ck_met_i (own := R_R) (by decide +kernel) rfl (Nat.le_of_ble_eq_true rfl) (fun p e R s m args below meth c H0 Q ls C hret h hl => ?_)
  have C1 := C
  obtain ⟨hx, hb, hml, hown, hts, hK, hlv, hlo⟩ := C1
  have hl : lv_has ls 2 [(0, .ref (ad 0)), (1, .int x1)] := hl
  unfold fR_witnessKind at hf
  refine lv_aload_n hx hb dR_witnessKind_0 rfl (lv_at hl 0 rfl) ?_
  refine ck_gi (x := (st 0 28)) C h FR_grown rfl dR_witnessKind_1 ?_
  refine lv_if_ne (tgt := 10) hx hb dR_witnessKind_4 rfl (fun hq => ?_) (fun hq => ?_)
  · have hf := ck_f hq hf
    refine lv_iload_n hx hb dR_witnessKind_10 rfl (lv_at hl 1 rfl) ?_
    refine lv_if_lt (tgt := 22) hx hb dR_witnessKind_11 rfl (fun hq => ?_) (fun hq => ?_)
    · have hf := ck_t hq hf
      refine lv_bipush (v := (-15)) hx hb dR_witnessKind_22 (by decide) ?_
      refine lv_goto (tgt := 33) hx hb dR_witnessKind_24 rfl ?_
      exact ck_ri hf hret h dR_witnessKind_33
    · have hf := ck_f hq hf
      refine lv_iload_n hx hb dR_witnessKind_14 rfl (lv_at hl 1 rfl) ?_
      refine lv_aload_n hx hb dR_witnessKind_15 rfl (lv_at hl 0 rfl) ?_
      refine ck_gi (x := (st 0 41)) C h FR_symbols rfl dR_witnessKind_16 ?_
      refine lv_icmp_lt (tgt := 27) hx hb dR_witnessKind_19 rfl (fun hq => ?_) (fun hq => ?_)
      · have hf := ck_t hq hf
        refine lv_aload_n hx hb dR_witnessKind_27 rfl (lv_at hl 0 rfl) ?_
        refine ck_gr C h FR_symbolKind dR_witnessKind_28 ?_
        refine lv_iload_n hx hb dR_witnessKind_31 rfl (lv_at hl 1 rfl) ?_
        obtain ⟨hg, hf⟩ := ck_gd_e hf
        refine ck_ai (x := (st 32 (x1).toNatClampNeg)) C h (show sh_R[32]? = some (.inr (0, 32)) from rfl) hg rfl dR_witnessKind_32 ?_
        exact ck_ri hf hret h dR_witnessKind_33
      · have hf := ck_f hq hf
        refine lv_bipush (v := (-15)) hx hb dR_witnessKind_22 (by decide) ?_
        refine lv_goto (tgt := 33) hx hb dR_witnessKind_24 rfl ?_
        exact ck_ri hf hret h dR_witnessKind_33
  · have hf := ck_t hq hf
    refine lv_bipush (v := (-13)) hx hb dR_witnessKind_7 (by decide) ?_
    exact ck_ri hf hret h dR_witnessKind_9
def fR_witness (x1 : Int32) (st : ck_S) : Option (Int32 × ck_S) := (if (st 0 28) = 0 then (some ((0 : Int32), st)) else (if x1 < 0 then (some ((0 : Int32), st)) else (if x1 < (st 0 41) then (ck_gd x1 32 (some ((st 33 (x1).toNatClampNeg), st))) else (some ((0 : Int32), st)))))
set_option maxRecDepth 100000 in
set_option maxHeartbeats 4000000 in
theorem cR_witness (l : Launch) (D : va_G) (cA : Nat → ClassId) (ad : Nat → Nat) {x1 : Int32} {st : ck_S} {r0 : Int32} {st0 : ck_S} (hf : fR_witness x1 st = some (r0, st0)) : Met l yR_witness (.code yR_witness bR_witness 2 (some .int) :: ck_T) (ck_R 0) (va_Pc [.ref (ad 0), .int x1] (ck_P sh_R cm_cl D cA ad st)) (va_Qi (fun a u => a = r0 ∧ u = st0) (ck_P sh_R cm_cl D cA ad) (ck_A ad sh_R.length)) 0 0 (ck_A ad sh_R.length) := by
  refine ck_met_i (own := R_R) (by decide +kernel) rfl (Nat.le_of_ble_eq_true rfl) (fun p e R s m args below meth c H0 Q ls C hret h hl => ?_)
  have C1 := C
  obtain ⟨hx, hb, hml, hown, hts, hK, hlv, hlo⟩ := C1
  have hl : lv_has ls 2 [(0, .ref (ad 0)), (1, .int x1)] := hl
  unfold fR_witness at hf
  refine lv_aload_n hx hb dR_witness_0 rfl (lv_at hl 0 rfl) ?_
  refine ck_gi (x := (st 0 28)) C h FR_grown rfl dR_witness_1 ?_
  refine lv_if_eq (tgt := 19) hx hb dR_witness_4 rfl (fun hq => ?_) (fun hq => ?_)
  · have hf := ck_t hq hf
    refine lv_iconst (v := 0) hx hb dR_witness_19 (by decide) ?_
    refine lv_goto (tgt := 29) hx hb dR_witness_20 rfl ?_
    exact ck_ri hf hret h dR_witness_29
  · have hf := ck_f hq hf
    refine lv_iload_n hx hb dR_witness_7 rfl (lv_at hl 1 rfl) ?_
    refine lv_if_lt (tgt := 19) hx hb dR_witness_8 rfl (fun hq => ?_) (fun hq => ?_)
    · have hf := ck_t hq hf
      refine lv_iconst (v := 0) hx hb dR_witness_19 (by decide) ?_
      refine lv_goto (tgt := 29) hx hb dR_witness_20 rfl ?_
      exact ck_ri hf hret h dR_witness_29
    · have hf := ck_f hq hf
      refine lv_iload_n hx hb dR_witness_11 rfl (lv_at hl 1 rfl) ?_
      refine lv_aload_n hx hb dR_witness_12 rfl (lv_at hl 0 rfl) ?_
      refine ck_gi (x := (st 0 41)) C h FR_symbols rfl dR_witness_13 ?_
      refine lv_icmp_lt (tgt := 23) hx hb dR_witness_16 rfl (fun hq => ?_) (fun hq => ?_)
      · have hf := ck_t hq hf
        refine lv_aload_n hx hb dR_witness_23 rfl (lv_at hl 0 rfl) ?_
        refine ck_gr C h FR_symbol dR_witness_24 ?_
        refine lv_iload_n hx hb dR_witness_27 rfl (lv_at hl 1 rfl) ?_
        obtain ⟨hg, hf⟩ := ck_gd_e hf
        refine ck_ai (x := (st 33 (x1).toNatClampNeg)) C h (show sh_R[33]? = some (.inr (0, 32)) from rfl) hg rfl dR_witness_28 ?_
        exact ck_ri hf hret h dR_witness_29
      · have hf := ck_f hq hf
        refine lv_iconst (v := 0) hx hb dR_witness_19 (by decide) ?_
        refine lv_goto (tgt := 29) hx hb dR_witness_20 rfl ?_
        exact ck_ri hf hret h dR_witness_29
def fR_isValue (x1 : Int32) (st : ck_S) : Option (Int32 × ck_S) := (if x1 < 0 then (some ((0 : Int32), st)) else (if (st 0 13) ≤ x1 then (some ((0 : Int32), st)) else (some ((1 : Int32), st))))
set_option maxRecDepth 100000 in
set_option maxHeartbeats 4000000 in
theorem cR_isValue (l : Launch) (D : va_G) (cA : Nat → ClassId) (ad : Nat → Nat) {x1 : Int32} {st : ck_S} {r0 : Int32} {st0 : ck_S} (hf : fR_isValue x1 st = some (r0, st0)) : Met l yR_isValue (.code yR_isValue bR_isValue 2 (some .boolean) :: ck_T) (ck_R 0) (va_Pc [.ref (ad 0), .int x1] (ck_P sh_R cm_cl D cA ad st)) (va_Qi (fun a u => a = r0 ∧ u = st0) (ck_P sh_R cm_cl D cA ad) (ck_A ad sh_R.length)) 0 0 (ck_A ad sh_R.length) := by
  refine ck_met_z (own := R_R) (by decide +kernel) rfl (Nat.le_of_ble_eq_true rfl) (fun p e R s m args below meth c H0 Q ls C hret h hl => ?_)
  have C1 := C
  obtain ⟨hx, hb, hml, hown, hts, hK, hlv, hlo⟩ := C1
  have hl : lv_has ls 2 [(0, .ref (ad 0)), (1, .int x1)] := hl
  unfold fR_isValue at hf
  refine lv_iload_n hx hb dR_isValue_0 rfl (lv_at hl 1 rfl) ?_
  refine lv_if_lt (tgt := 16) hx hb dR_isValue_1 rfl (fun hq => ?_) (fun hq => ?_)
  · have hf := ck_t hq hf
    refine lv_iconst (v := 0) hx hb dR_isValue_16 (by decide) ?_
    exact ck_rz hf hret ck_z0 h dR_isValue_17
  · have hf := ck_f hq hf
    refine lv_iload_n hx hb dR_isValue_4 rfl (lv_at hl 1 rfl) ?_
    refine lv_aload_n hx hb dR_isValue_5 rfl (lv_at hl 0 rfl) ?_
    refine ck_gi (x := (st 0 13)) C h FR_values rfl dR_isValue_6 ?_
    refine lv_icmp_ge (tgt := 16) hx hb dR_isValue_9 rfl (fun hq => ?_) (fun hq => ?_)
    · have hf := ck_t hq hf
      refine lv_iconst (v := 0) hx hb dR_isValue_16 (by decide) ?_
      exact ck_rz hf hret ck_z0 h dR_isValue_17
    · have hf := ck_f hq hf
      refine lv_iconst (v := 1) hx hb dR_isValue_12 (by decide) ?_
      refine lv_goto (tgt := 17) hx hb dR_isValue_13 rfl ?_
      exact ck_rz hf hret ck_z1 h dR_isValue_17
def fR_typeOf (x1 : Int32) (st : ck_S) : Option (Int32 × ck_S) := (ck_gd x1 60 (if (st 11 (x1).toNatClampNeg) = (1 : Int32) then (some ((0 : Int32), st)) else (ck_gd x1 60 (ck_gd (st 12 (x1).toNatClampNeg) 12 (some ((st 1 ((st 12 (x1).toNatClampNeg)).toNatClampNeg), st))))))
set_option maxRecDepth 100000 in
set_option maxHeartbeats 4000000 in
theorem cR_typeOf (l : Launch) (D : va_G) (cA : Nat → ClassId) (ad : Nat → Nat) {x1 : Int32} {st : ck_S} {r0 : Int32} {st0 : ck_S} (hf : fR_typeOf x1 st = some (r0, st0)) : Met l yR_typeOf (.code yR_typeOf bR_typeOf 2 (some .int) :: ck_T) (ck_R 0) (va_Pc [.ref (ad 0), .int x1] (ck_P sh_R cm_cl D cA ad st)) (va_Qi (fun a u => a = r0 ∧ u = st0) (ck_P sh_R cm_cl D cA ad) (ck_A ad sh_R.length)) 0 0 (ck_A ad sh_R.length) := by
  refine ck_met_i (own := R_R) (by decide +kernel) rfl (Nat.le_of_ble_eq_true rfl) (fun p e R s m args below meth c H0 Q ls C hret h hl => ?_)
  have C1 := C
  obtain ⟨hx, hb, hml, hown, hts, hK, hlv, hlo⟩ := C1
  have hl : lv_has ls 2 [(0, .ref (ad 0)), (1, .int x1)] := hl
  unfold fR_typeOf at hf
  refine lv_aload_n hx hb dR_typeOf_0 rfl (lv_at hl 0 rfl) ?_
  refine ck_gr C h FR_valueKind dR_typeOf_1 ?_
  refine lv_iload_n hx hb dR_typeOf_4 rfl (lv_at hl 1 rfl) ?_
  obtain ⟨hg, hf⟩ := ck_gd_e hf
  refine ck_ai (x := (st 11 (x1).toNatClampNeg)) C h (show sh_R[11]? = some (.inr (0, 60)) from rfl) hg rfl dR_typeOf_5 ?_
  refine lv_iconst (v := 1) hx hb dR_typeOf_6 (by decide) ?_
  refine lv_icmp_ne (tgt := 14) hx hb dR_typeOf_7 rfl (fun hq => ?_) (fun hq => ?_)
  · have hf := ck_f hq hf
    refine lv_aload_n hx hb dR_typeOf_14 rfl (lv_at hl 0 rfl) ?_
    refine ck_gr C h FR_owner dR_typeOf_15 ?_
    refine lv_aload_n hx hb dR_typeOf_18 rfl (lv_at hl 0 rfl) ?_
    refine ck_gr C h FR_valueWhat dR_typeOf_19 ?_
    refine lv_iload_n hx hb dR_typeOf_22 rfl (lv_at hl 1 rfl) ?_
    obtain ⟨hg, hf⟩ := ck_gd_e hf
    refine ck_ai (x := (st 12 (x1).toNatClampNeg)) C h (show sh_R[12]? = some (.inr (0, 60)) from rfl) hg rfl dR_typeOf_23 ?_
    obtain ⟨hg, hf⟩ := ck_gd_e hf
    refine ck_ai (x := (st 1 ((st 12 (x1).toNatClampNeg)).toNatClampNeg)) C h (show sh_R[1]? = some (.inr (0, 12)) from rfl) hg rfl dR_typeOf_24 ?_
    exact ck_ri hf hret h dR_typeOf_25
  · have hf := ck_t hq hf
    refine lv_iconst (v := 0) hx hb dR_typeOf_10 (by decide) ?_
    refine lv_goto (tgt := 25) hx hb dR_typeOf_11 rfl ?_
    exact ck_ri hf hret h dR_typeOf_25
def fR_value (x1 : Int32) (x2 : Int32) (x3 : Int32) (x4 : Int32) (st : ck_S) : Option (Int32 × ck_S) := (ck_gd (st 0 13) 60 (ck_gd (st 0 13) 60 (ck_gd (st 0 13) 60 (ck_gd (st 0 13) 60 (some ((((st 0 13) + (1 : Int32)) - (1 : Int32)), (ck_u (ck_u (ck_u (ck_u (ck_u st 11 ((st 0 13)).toNatClampNeg x1) 12 ((st 0 13)).toNatClampNeg x2) 13 ((st 0 13)).toNatClampNeg x3) 14 ((st 0 13)).toNatClampNeg x4) 0 13 ((st 0 13) + (1 : Int32)))))))))
set_option maxRecDepth 100000 in
set_option maxHeartbeats 4000000 in
theorem cR_value (l : Launch) (D : va_G) (cA : Nat → ClassId) (ad : Nat → Nat) {x1 : Int32} {x2 : Int32} {x3 : Int32} {x4 : Int32} {st : ck_S} {r0 : Int32} {st0 : ck_S} (hf : fR_value x1 x2 x3 x4 st = some (r0, st0)) : Met l yR_value (.code yR_value bR_value 5 (some .int) :: ck_T) (ck_R 0) (va_Pc [.ref (ad 0), .int x1, .int x2, .int x3, .int x4] (ck_P sh_R cm_cl D cA ad st)) (va_Qi (fun a u => a = r0 ∧ u = st0) (ck_P sh_R cm_cl D cA ad) (ck_A ad sh_R.length)) 0 0 (ck_A ad sh_R.length) := by
  refine ck_met_i (own := R_R) (by decide +kernel) rfl (Nat.le_of_ble_eq_true rfl) (fun p e R s m args below meth c H0 Q ls C hret h hl => ?_)
  have C1 := C
  obtain ⟨hx, hb, hml, hown, hts, hK, hlv, hlo⟩ := C1
  have hl : lv_has ls 5 [(0, .ref (ad 0)), (1, .int x1), (2, .int x2), (3, .int x3), (4, .int x4)] := hl
  unfold fR_value at hf
  refine lv_aload_n hx hb dR_value_0 rfl (lv_at hl 0 rfl) ?_
  refine ck_gr C h FR_valueKind dR_value_1 ?_
  refine lv_aload_n hx hb dR_value_4 rfl (lv_at hl 0 rfl) ?_
  refine ck_gi (x := (st 0 13)) C h FR_values rfl dR_value_5 ?_
  refine lv_iload_n hx hb dR_value_8 rfl (lv_at hl 1 rfl) ?_
  obtain ⟨hg, hf⟩ := ck_gd_e hf
  refine ck_si C h (show sh_R[11]? = some (.inr (0, 60)) from rfl) hg dR_value_9 (fun H locs h => ?_)
  refine lv_aload_n hx hb dR_value_10 rfl (lv_at hl 0 rfl) ?_
  refine ck_gr C h FR_valueWhat dR_value_11 ?_
  refine lv_aload_n hx hb dR_value_14 rfl (lv_at hl 0 rfl) ?_
  refine ck_gi (x := (st 0 13)) C h FR_values rfl dR_value_15 ?_
  refine lv_iload_n hx hb dR_value_18 rfl (lv_at hl 2 rfl) ?_
  obtain ⟨hg, hf⟩ := ck_gd_e hf
  refine ck_si C h (show sh_R[12]? = some (.inr (0, 60)) from rfl) hg dR_value_19 (fun H locs h => ?_)
  refine lv_aload_n hx hb dR_value_20 rfl (lv_at hl 0 rfl) ?_
  refine ck_gr C h FR_valueLeft dR_value_21 ?_
  refine lv_aload_n hx hb dR_value_24 rfl (lv_at hl 0 rfl) ?_
  refine ck_gi (x := (st 0 13)) C h FR_values rfl dR_value_25 ?_
  refine lv_iload_n hx hb dR_value_28 rfl (lv_at hl 3 rfl) ?_
  obtain ⟨hg, hf⟩ := ck_gd_e hf
  refine ck_si C h (show sh_R[13]? = some (.inr (0, 60)) from rfl) hg dR_value_29 (fun H locs h => ?_)
  refine lv_aload_n hx hb dR_value_30 rfl (lv_at hl 0 rfl) ?_
  refine ck_gr C h FR_valueRight dR_value_31 ?_
  refine lv_aload_n hx hb dR_value_34 rfl (lv_at hl 0 rfl) ?_
  refine ck_gi (x := (st 0 13)) C h FR_values rfl dR_value_35 ?_
  refine lv_iload hx hb dR_value_38 (lv_at hl 4 rfl) ?_
  obtain ⟨hg, hf⟩ := ck_gd_e hf
  refine ck_si C h (show sh_R[14]? = some (.inr (0, 60)) from rfl) hg dR_value_40 (fun H locs h => ?_)
  refine lv_aload_n hx hb dR_value_41 rfl (lv_at hl 0 rfl) ?_
  refine lv_dup hx hb dR_value_42 rfl ?_
  refine ck_gi (x := (st 0 13)) C h FR_values rfl dR_value_43 ?_
  refine lv_iconst (v := 1) hx hb dR_value_46 (by decide) ?_
  refine lv_iadd hx hb dR_value_47 ?_
  refine ck_pi C h GR_values rfl rfl dR_value_48 (fun H locs h => ?_)
  refine lv_aload_n hx hb dR_value_51 rfl (lv_at hl 0 rfl) ?_
  refine ck_gi (x := ((st 0 13) + (1 : Int32))) C h FR_values rfl dR_value_52 ?_
  refine lv_iconst (v := 1) hx hb dR_value_55 (by decide) ?_
  refine lv_isub hx hb dR_value_56 ?_
  exact ck_ri hf hret h dR_value_57
def fR_valueNumber (x1 : Int32) (st : ck_S) : Option (Int32 × ck_S) := (if (st 0 13) = (60 : Int32) then (some ((-8 : Int32), st)) else (ck_b (fR_value (1 : Int32) x1 (-1 : Int32) (-1 : Int32) st) fun v2 st1 => (some (v2, st1))))
set_option maxRecDepth 100000 in
set_option maxHeartbeats 4000000 in
theorem cR_valueNumber (l : Launch) (D : va_G) (cA : Nat → ClassId) (ad : Nat → Nat) {x1 : Int32} {st : ck_S} {r0 : Int32} {st0 : ck_S} (hf : fR_valueNumber x1 st = some (r0, st0)) : Met l yR_valueNumber (.code yR_valueNumber bR_valueNumber 2 (some .int) :: ck_T) (ck_R 1) (va_Pc [.ref (ad 0), .int x1] (ck_P sh_R cm_cl D cA ad st)) (va_Qi (fun a u => a = r0 ∧ u = st0) (ck_P sh_R cm_cl D cA ad) (ck_A ad sh_R.length)) 0 0 (ck_A ad sh_R.length) := by
  refine ck_met_i (own := R_R) (by decide +kernel) rfl (Nat.le_of_ble_eq_true rfl) (fun p e R s m args below meth c H0 Q ls C hret h hl => ?_)
  have C1 := C
  obtain ⟨hx, hb, hml, hown, hts, hK, hlv, hlo⟩ := C1
  have hl : lv_has ls 2 [(0, .ref (ad 0)), (1, .int x1)] := hl
  unfold fR_valueNumber at hf
  refine lv_aload_n hx hb dR_valueNumber_0 rfl (lv_at hl 0 rfl) ?_
  refine ck_gi (x := (st 0 13)) C h FR_values rfl dR_valueNumber_1 ?_
  refine lv_bipush (v := 60) hx hb dR_valueNumber_4 (by decide) ?_
  refine lv_icmp_ne (tgt := 14) hx hb dR_valueNumber_6 rfl (fun hq => ?_) (fun hq => ?_)
  · have hf := ck_f hq hf
    refine lv_aload_n hx hb dR_valueNumber_14 rfl (lv_at hl 0 rfl) ?_
    refine lv_iconst (v := 1) hx hb dR_valueNumber_15 (by decide) ?_
    refine lv_iload_n hx hb dR_valueNumber_16 rfl (lv_at hl 1 rfl) ?_
    refine lv_iconst (v := (-1)) hx hb dR_valueNumber_17 (by decide) ?_
    refine lv_iconst (v := (-1)) hx hb dR_valueNumber_18 (by decide) ?_
    obtain ⟨v2, st1, hc, hf⟩ := ck_b_e hf
    refine ck_vi (As := [.int (1 : Int32), .int x1, .int (-1 : Int32), .int (-1 : Int32)]) (rest := []) (q := 0) C h hl CR_R_value sR_value q_R (cR_value l D cA ad hc) (Nat.le_of_ble_eq_true rfl) rfl rfl (Nat.le_of_ble_eq_true rfl) dR_valueNumber_19 (fun H locs h => ?_)
    exact ck_ri hf hret h dR_valueNumber_22
  · have hf := ck_t hq hf
    refine lv_bipush (v := (-8)) hx hb dR_valueNumber_9 (by decide) ?_
    refine lv_goto (tgt := 22) hx hb dR_valueNumber_11 rfl ?_
    exact ck_ri hf hret h dR_valueNumber_22
def fR_valueOf_b137 (x1 : Int32) (x2 : Int32) (x3 : Int32) (st : ck_S) : Option (Int32 × ck_S) := (if (st 0 13) = (60 : Int32) then (some ((-8 : Int32), st)) else (ck_b (fR_value (2 : Int32) x1 x2 x3 st) fun v2 st1 => (some (v2, st1))))
set_option maxRecDepth 100000 in
set_option maxHeartbeats 4000000 in
theorem BR_valueOf_137 (C : ck_X cm_cl D cA bR_valueOf 6 R_R 1 p R s m args c) {r0 : Int32} {st0 : ck_S} (hret : ∀ (pc : Nat) (H : Heap) (locs : List Loc) (ls : Array Slot), decode bR_valueOf pc = .ok (.ireturn, 1) → ck_AT sh_R cm_cl D cA ad H0 st0 H locs → W p l e R s m args below meth c H locs 0 0 Q (F0 m pc ls [.int r0])) (x1 : Int32) (x2 : Int32) (x3 : Int32) (st : ck_S) (H : Heap) (locs : List Loc) (ls : Array Slot) (h : ck_AT sh_R cm_cl D cA ad H0 st H locs) (hl : lv_has ls 6 [(0, .ref (ad 0)), (1, .int x1), (2, .int x2), (3, .int x3)]) (hf : fR_valueOf_b137 x1 x2 x3 st = some (r0, st0)) : W p l e R s m args below meth c H locs 0 0 Q (F0 m 137 ls []) := by
  have C1 := C
  obtain ⟨hx, hb, hml, hown, hts, hK, hlv, hlo⟩ := C1
  unfold fR_valueOf_b137 at hf
  refine lv_aload_n hx hb dR_valueOf_137 rfl (lv_at hl 0 rfl) ?_
  refine ck_gi (x := (st 0 13)) C h FR_values rfl dR_valueOf_138 ?_
  refine lv_bipush (v := 60) hx hb dR_valueOf_141 (by decide) ?_
  refine lv_icmp_ne (tgt := 151) hx hb dR_valueOf_143 rfl (fun hq => ?_) (fun hq => ?_)
  · have hf := ck_f hq hf
    refine lv_aload_n hx hb dR_valueOf_151 rfl (lv_at hl 0 rfl) ?_
    refine lv_iconst (v := 2) hx hb dR_valueOf_152 (by decide) ?_
    refine lv_iload_n hx hb dR_valueOf_153 rfl (lv_at hl 1 rfl) ?_
    refine lv_iload_n hx hb dR_valueOf_154 rfl (lv_at hl 2 rfl) ?_
    refine lv_iload_n hx hb dR_valueOf_155 rfl (lv_at hl 3 rfl) ?_
    obtain ⟨v2, st1, hc, hf⟩ := ck_b_e hf
    refine ck_vi (As := [.int (2 : Int32), .int x1, .int x2, .int x3]) (rest := []) (q := 0) C h hl CR_R_value sR_value q_R (cR_value l D cA ad hc) (Nat.le_of_ble_eq_true rfl) rfl rfl (Nat.le_of_ble_eq_true rfl) dR_valueOf_156 (fun H locs h => ?_)
    exact ck_ri hf hret h dR_valueOf_159
  · have hf := ck_t hq hf
    refine lv_bipush (v := (-8)) hx hb dR_valueOf_146 (by decide) ?_
    refine lv_goto (tgt := 159) hx hb dR_valueOf_148 rfl ?_
    exact ck_ri hf hret h dR_valueOf_159
def fR_valueOf_b115 (x1 : Int32) (x2 : Int32) (x3 : Int32) (x5 : Int32) (st : ck_S) : Option (Int32 × ck_S) := (if x5 = 0 then (fR_valueOf_b137 x1 x2 x3 st) else (ck_b (fR_typeOf x3 st) fun v2 st1 => (ck_gd x1 12 (if v2 = (st1 3 (x1).toNatClampNeg) then (fR_valueOf_b137 x1 x2 x3 st1) else (some ((-7 : Int32), st1))))))
set_option maxRecDepth 100000 in
set_option maxHeartbeats 4000000 in
theorem BR_valueOf_115 (C : ck_X cm_cl D cA bR_valueOf 6 R_R 1 p R s m args c) {r0 : Int32} {st0 : ck_S} (hret : ∀ (pc : Nat) (H : Heap) (locs : List Loc) (ls : Array Slot), decode bR_valueOf pc = .ok (.ireturn, 1) → ck_AT sh_R cm_cl D cA ad H0 st0 H locs → W p l e R s m args below meth c H locs 0 0 Q (F0 m pc ls [.int r0])) (x1 : Int32) (x2 : Int32) (x3 : Int32) (x5 : Int32) (st : ck_S) (H : Heap) (locs : List Loc) (ls : Array Slot) (h : ck_AT sh_R cm_cl D cA ad H0 st H locs) (hl : lv_has ls 6 [(0, .ref (ad 0)), (1, .int x1), (2, .int x2), (3, .int x3), (5, .int x5)]) (hf : fR_valueOf_b115 x1 x2 x3 x5 st = some (r0, st0)) : W p l e R s m args below meth c H locs 0 0 Q (F0 m 115 ls []) := by
  have C1 := C
  obtain ⟨hx, hb, hml, hown, hts, hK, hlv, hlo⟩ := C1
  unfold fR_valueOf_b115 at hf
  refine lv_iload hx hb dR_valueOf_115 (lv_at hl 4 rfl) ?_
  refine lv_if_eq (tgt := 137) hx hb dR_valueOf_117 rfl (fun hq => ?_) (fun hq => ?_)
  · have hf := ck_t hq hf
    exact BR_valueOf_137 C hret _ _ _ _ _ _ _ h (lv_sub hl [0, 1, 2, 3] rfl) hf
  · have hf := ck_f hq hf
    refine lv_aload_n hx hb dR_valueOf_120 rfl (lv_at hl 0 rfl) ?_
    refine lv_iload_n hx hb dR_valueOf_121 rfl (lv_at hl 3 rfl) ?_
    obtain ⟨v2, st1, hc, hf⟩ := ck_b_e hf
    refine ck_vi (As := [.int x3]) (rest := []) (q := 0) C h hl CR_R_typeOf sR_typeOf q_R (cR_typeOf l D cA ad hc) (Nat.le_of_ble_eq_true rfl) rfl rfl (Nat.le_of_ble_eq_true rfl) dR_valueOf_122 (fun H locs h => ?_)
    refine lv_aload_n hx hb dR_valueOf_125 rfl (lv_at hl 0 rfl) ?_
    refine ck_gr C h FR_second dR_valueOf_126 ?_
    refine lv_iload_n hx hb dR_valueOf_129 rfl (lv_at hl 1 rfl) ?_
    obtain ⟨hg, hf⟩ := ck_gd_e hf
    refine ck_ai (x := (st1 3 (x1).toNatClampNeg)) C h (show sh_R[3]? = some (.inr (0, 12)) from rfl) hg rfl dR_valueOf_130 ?_
    refine lv_icmp_eq (tgt := 137) hx hb dR_valueOf_131 rfl (fun hq => ?_) (fun hq => ?_)
    · have hf := ck_t hq hf
      exact BR_valueOf_137 C hret _ _ _ _ _ _ _ h (lv_sub hl [0, 1, 2, 3] rfl) hf
    · have hf := ck_f hq hf
      refine lv_bipush (v := (-7)) hx hb dR_valueOf_134 (by decide) ?_
      exact ck_ri hf hret h dR_valueOf_136
def fR_valueOf_b96 (x1 : Int32) (x2 : Int32) (x3 : Int32) (x4 : Int32) (x5 : Int32) (st : ck_S) : Option (Int32 × ck_S) := (if x4 = 0 then (fR_valueOf_b115 x1 x2 x3 x5 st) else (ck_b (fR_typeOf x2 st) fun v2 st1 => (ck_gd x1 12 (if v2 = (st1 2 (x1).toNatClampNeg) then (fR_valueOf_b115 x1 x2 x3 x5 st1) else (some ((-7 : Int32), st1))))))
set_option maxRecDepth 100000 in
set_option maxHeartbeats 4000000 in
theorem BR_valueOf_96 (C : ck_X cm_cl D cA bR_valueOf 6 R_R 1 p R s m args c) {r0 : Int32} {st0 : ck_S} (hret : ∀ (pc : Nat) (H : Heap) (locs : List Loc) (ls : Array Slot), decode bR_valueOf pc = .ok (.ireturn, 1) → ck_AT sh_R cm_cl D cA ad H0 st0 H locs → W p l e R s m args below meth c H locs 0 0 Q (F0 m pc ls [.int r0])) (x1 : Int32) (x2 : Int32) (x3 : Int32) (x4 : Int32) (x5 : Int32) (st : ck_S) (H : Heap) (locs : List Loc) (ls : Array Slot) (h : ck_AT sh_R cm_cl D cA ad H0 st H locs) (hl : lv_has ls 6 [(0, .ref (ad 0)), (1, .int x1), (2, .int x2), (3, .int x3), (4, .int x4), (5, .int x5)]) (hf : fR_valueOf_b96 x1 x2 x3 x4 x5 st = some (r0, st0)) : W p l e R s m args below meth c H locs 0 0 Q (F0 m 96 ls []) := by
  have C1 := C
  obtain ⟨hx, hb, hml, hown, hts, hK, hlv, hlo⟩ := C1
  unfold fR_valueOf_b96 at hf
  refine lv_iload hx hb dR_valueOf_96 (lv_at hl 4 rfl) ?_
  refine lv_if_eq (tgt := 115) hx hb dR_valueOf_98 rfl (fun hq => ?_) (fun hq => ?_)
  · have hf := ck_t hq hf
    exact BR_valueOf_115 C hret _ _ _ _ _ _ _ _ h (lv_sub hl [0, 1, 2, 3, 5] rfl) hf
  · have hf := ck_f hq hf
    refine lv_aload_n hx hb dR_valueOf_101 rfl (lv_at hl 0 rfl) ?_
    refine lv_iload_n hx hb dR_valueOf_102 rfl (lv_at hl 2 rfl) ?_
    obtain ⟨v2, st1, hc, hf⟩ := ck_b_e hf
    refine ck_vi (As := [.int x2]) (rest := []) (q := 0) C h hl CR_R_typeOf sR_typeOf q_R (cR_typeOf l D cA ad hc) (Nat.le_of_ble_eq_true rfl) rfl rfl (Nat.le_of_ble_eq_true rfl) dR_valueOf_103 (fun H locs h => ?_)
    refine lv_aload_n hx hb dR_valueOf_106 rfl (lv_at hl 0 rfl) ?_
    refine ck_gr C h FR_first dR_valueOf_107 ?_
    refine lv_iload_n hx hb dR_valueOf_110 rfl (lv_at hl 1 rfl) ?_
    obtain ⟨hg, hf⟩ := ck_gd_e hf
    refine ck_ai (x := (st1 2 (x1).toNatClampNeg)) C h (show sh_R[2]? = some (.inr (0, 12)) from rfl) hg rfl dR_valueOf_111 ?_
    refine lv_icmp_ne (tgt := 134) hx hb dR_valueOf_112 rfl (fun hq => ?_) (fun hq => ?_)
    · have hf := ck_f hq hf
      refine lv_bipush (v := (-7)) hx hb dR_valueOf_134 (by decide) ?_
      exact ck_ri hf hret h dR_valueOf_136
    · have hf := ck_t hq hf
      exact BR_valueOf_115 C hret _ _ _ _ _ _ _ _ h (lv_sub hl [0, 1, 2, 3, 5] rfl) hf
def fR_valueOf_b83 (x1 : Int32) (x2 : Int32) (x3 : Int32) (x4 : Int32) (x5 : Int32) (st : ck_S) : Option (Int32 × ck_S) := (if x5 = 0 then (if x3 = (-1 : Int32) then (fR_valueOf_b96 x1 x2 x3 x4 x5 st) else (some ((-6 : Int32), st))) else (fR_valueOf_b96 x1 x2 x3 x4 x5 st))
set_option maxRecDepth 100000 in
set_option maxHeartbeats 4000000 in
theorem BR_valueOf_83 (C : ck_X cm_cl D cA bR_valueOf 6 R_R 1 p R s m args c) {r0 : Int32} {st0 : ck_S} (hret : ∀ (pc : Nat) (H : Heap) (locs : List Loc) (ls : Array Slot), decode bR_valueOf pc = .ok (.ireturn, 1) → ck_AT sh_R cm_cl D cA ad H0 st0 H locs → W p l e R s m args below meth c H locs 0 0 Q (F0 m pc ls [.int r0])) (x1 : Int32) (x2 : Int32) (x3 : Int32) (x4 : Int32) (x5 : Int32) (st : ck_S) (H : Heap) (locs : List Loc) (ls : Array Slot) (h : ck_AT sh_R cm_cl D cA ad H0 st H locs) (hl : lv_has ls 6 [(0, .ref (ad 0)), (1, .int x1), (2, .int x2), (3, .int x3), (4, .int x4), (5, .int x5)]) (hf : fR_valueOf_b83 x1 x2 x3 x4 x5 st = some (r0, st0)) : W p l e R s m args below meth c H locs 0 0 Q (F0 m 83 ls []) := by
  have C1 := C
  obtain ⟨hx, hb, hml, hown, hts, hK, hlv, hlo⟩ := C1
  unfold fR_valueOf_b83 at hf
  refine lv_iload hx hb dR_valueOf_83 (lv_at hl 5 rfl) ?_
  refine lv_if_ne (tgt := 96) hx hb dR_valueOf_85 rfl (fun hq => ?_) (fun hq => ?_)
  · have hf := ck_f hq hf
    exact BR_valueOf_96 C hret _ _ _ _ _ _ _ _ _ h (lv_sub hl [0, 1, 2, 3, 4, 5] rfl) hf
  · have hf := ck_t hq hf
    refine lv_iload_n hx hb dR_valueOf_88 rfl (lv_at hl 3 rfl) ?_
    refine lv_iconst (v := (-1)) hx hb dR_valueOf_89 (by decide) ?_
    refine lv_icmp_eq (tgt := 96) hx hb dR_valueOf_90 rfl (fun hq => ?_) (fun hq => ?_)
    · have hf := ck_t hq hf
      exact BR_valueOf_96 C hret _ _ _ _ _ _ _ _ _ h (lv_sub hl [0, 1, 2, 3, 4, 5] rfl) hf
    · have hf := ck_f hq hf
      refine lv_bipush (v := (-6)) hx hb dR_valueOf_93 (by decide) ?_
      exact ck_ri hf hret h dR_valueOf_95
def fR_valueOf_b70 (x1 : Int32) (x2 : Int32) (x3 : Int32) (x4 : Int32) (x5 : Int32) (st : ck_S) : Option (Int32 × ck_S) := (if x5 = 0 then (fR_valueOf_b83 x1 x2 x3 x4 x5 st) else (ck_b (fR_isValue x3 st) fun v2 st1 => (if v2 = 0 then (some ((-6 : Int32), st1)) else (fR_valueOf_b83 x1 x2 x3 x4 x5 st1))))
set_option maxRecDepth 100000 in
set_option maxHeartbeats 4000000 in
theorem BR_valueOf_70 (C : ck_X cm_cl D cA bR_valueOf 6 R_R 1 p R s m args c) {r0 : Int32} {st0 : ck_S} (hret : ∀ (pc : Nat) (H : Heap) (locs : List Loc) (ls : Array Slot), decode bR_valueOf pc = .ok (.ireturn, 1) → ck_AT sh_R cm_cl D cA ad H0 st0 H locs → W p l e R s m args below meth c H locs 0 0 Q (F0 m pc ls [.int r0])) (x1 : Int32) (x2 : Int32) (x3 : Int32) (x4 : Int32) (x5 : Int32) (st : ck_S) (H : Heap) (locs : List Loc) (ls : Array Slot) (h : ck_AT sh_R cm_cl D cA ad H0 st H locs) (hl : lv_has ls 6 [(0, .ref (ad 0)), (1, .int x1), (2, .int x2), (3, .int x3), (4, .int x4), (5, .int x5)]) (hf : fR_valueOf_b70 x1 x2 x3 x4 x5 st = some (r0, st0)) : W p l e R s m args below meth c H locs 0 0 Q (F0 m 70 ls []) := by
  have C1 := C
  obtain ⟨hx, hb, hml, hown, hts, hK, hlv, hlo⟩ := C1
  unfold fR_valueOf_b70 at hf
  refine lv_iload hx hb dR_valueOf_70 (lv_at hl 5 rfl) ?_
  refine lv_if_eq (tgt := 83) hx hb dR_valueOf_72 rfl (fun hq => ?_) (fun hq => ?_)
  · have hf := ck_t hq hf
    exact BR_valueOf_83 C hret _ _ _ _ _ _ _ _ _ h (lv_sub hl [0, 1, 2, 3, 4, 5] rfl) hf
  · have hf := ck_f hq hf
    refine lv_aload_n hx hb dR_valueOf_75 rfl (lv_at hl 0 rfl) ?_
    refine lv_iload_n hx hb dR_valueOf_76 rfl (lv_at hl 3 rfl) ?_
    obtain ⟨v2, st1, hc, hf⟩ := ck_b_e hf
    refine ck_vi (As := [.int x3]) (rest := []) (q := 0) C h hl CR_R_isValue sR_isValue q_R (cR_isValue l D cA ad hc) (Nat.le_of_ble_eq_true rfl) rfl rfl (Nat.le_of_ble_eq_true rfl) dR_valueOf_77 (fun H locs h => ?_)
    refine lv_if_eq (tgt := 93) hx hb dR_valueOf_80 rfl (fun hq => ?_) (fun hq => ?_)
    · have hf := ck_t hq hf
      refine lv_bipush (v := (-6)) hx hb dR_valueOf_93 (by decide) ?_
      exact ck_ri hf hret h dR_valueOf_95
    · have hf := ck_f hq hf
      exact BR_valueOf_83 C hret _ _ _ _ _ _ _ _ _ h (lv_sub hl [0, 1, 2, 3, 4, 5] rfl) hf
def fR_valueOf_b60 (x1 : Int32) (x2 : Int32) (x3 : Int32) (x4 : Int32) (x5 : Int32) (st : ck_S) : Option (Int32 × ck_S) := (if x4 = 0 then (if x2 = (-1 : Int32) then (fR_valueOf_b70 x1 x2 x3 x4 x5 st) else (some ((-6 : Int32), st))) else (fR_valueOf_b70 x1 x2 x3 x4 x5 st))
set_option maxRecDepth 100000 in
set_option maxHeartbeats 4000000 in
theorem BR_valueOf_60 (C : ck_X cm_cl D cA bR_valueOf 6 R_R 1 p R s m args c) {r0 : Int32} {st0 : ck_S} (hret : ∀ (pc : Nat) (H : Heap) (locs : List Loc) (ls : Array Slot), decode bR_valueOf pc = .ok (.ireturn, 1) → ck_AT sh_R cm_cl D cA ad H0 st0 H locs → W p l e R s m args below meth c H locs 0 0 Q (F0 m pc ls [.int r0])) (x1 : Int32) (x2 : Int32) (x3 : Int32) (x4 : Int32) (x5 : Int32) (st : ck_S) (H : Heap) (locs : List Loc) (ls : Array Slot) (h : ck_AT sh_R cm_cl D cA ad H0 st H locs) (hl : lv_has ls 6 [(0, .ref (ad 0)), (1, .int x1), (2, .int x2), (3, .int x3), (4, .int x4), (5, .int x5)]) (hf : fR_valueOf_b60 x1 x2 x3 x4 x5 st = some (r0, st0)) : W p l e R s m args below meth c H locs 0 0 Q (F0 m 60 ls []) := by
  have C1 := C
  obtain ⟨hx, hb, hml, hown, hts, hK, hlv, hlo⟩ := C1
  unfold fR_valueOf_b60 at hf
  refine lv_iload hx hb dR_valueOf_60 (lv_at hl 4 rfl) ?_
  refine lv_if_ne (tgt := 70) hx hb dR_valueOf_62 rfl (fun hq => ?_) (fun hq => ?_)
  · have hf := ck_f hq hf
    exact BR_valueOf_70 C hret _ _ _ _ _ _ _ _ _ h (lv_sub hl [0, 1, 2, 3, 4, 5] rfl) hf
  · have hf := ck_t hq hf
    refine lv_iload_n hx hb dR_valueOf_65 rfl (lv_at hl 2 rfl) ?_
    refine lv_iconst (v := (-1)) hx hb dR_valueOf_66 (by decide) ?_
    refine lv_icmp_ne (tgt := 93) hx hb dR_valueOf_67 rfl (fun hq => ?_) (fun hq => ?_)
    · have hf := ck_f hq hf
      refine lv_bipush (v := (-6)) hx hb dR_valueOf_93 (by decide) ?_
      exact ck_ri hf hret h dR_valueOf_95
    · have hf := ck_t hq hf
      exact BR_valueOf_70 C hret _ _ _ _ _ _ _ _ _ h (lv_sub hl [0, 1, 2, 3, 4, 5] rfl) hf
def fR_valueOf_b45 (y0 : Int32) (x1 : Int32) (x2 : Int32) (x3 : Int32) (x4 : Int32) (st : ck_S) : Option (Int32 × ck_S) := (if x4 = 0 then (fR_valueOf_b60 x1 x2 x3 x4 y0 st) else (ck_b (fR_isValue x2 st) fun v2 st1 => (if v2 = 0 then (some ((-6 : Int32), st1)) else (fR_valueOf_b60 x1 x2 x3 x4 y0 st1))))
set_option maxRecDepth 100000 in
set_option maxHeartbeats 4000000 in
theorem BR_valueOf_45 (C : ck_X cm_cl D cA bR_valueOf 6 R_R 1 p R s m args c) {r0 : Int32} {st0 : ck_S} (hret : ∀ (pc : Nat) (H : Heap) (locs : List Loc) (ls : Array Slot), decode bR_valueOf pc = .ok (.ireturn, 1) → ck_AT sh_R cm_cl D cA ad H0 st0 H locs → W p l e R s m args below meth c H locs 0 0 Q (F0 m pc ls [.int r0])) (y0 : Int32) (x1 : Int32) (x2 : Int32) (x3 : Int32) (x4 : Int32) (st : ck_S) (H : Heap) (locs : List Loc) (ls : Array Slot) (h : ck_AT sh_R cm_cl D cA ad H0 st H locs) (hl : lv_has ls 6 [(0, .ref (ad 0)), (1, .int x1), (2, .int x2), (3, .int x3), (4, .int x4)]) (hf : fR_valueOf_b45 y0 x1 x2 x3 x4 st = some (r0, st0)) : W p l e R s m args below meth c H locs 0 0 Q (F0 m 45 ls [.int y0]) := by
  have C1 := C
  obtain ⟨hx, hb, hml, hown, hts, hK, hlv, hlo⟩ := C1
  unfold fR_valueOf_b45 at hf
  refine lv_istore (lv' := [(5, .int y0), (0, .ref (ad 0)), (1, .int x1), (2, .int x2), (3, .int x3), (4, .int x4)]) hx hb dR_valueOf_45 hl (by decide) rfl (fun ls hl => ?_)
  refine lv_iload hx hb dR_valueOf_47 (lv_at hl 5 rfl) ?_
  refine lv_if_eq (tgt := 60) hx hb dR_valueOf_49 rfl (fun hq => ?_) (fun hq => ?_)
  · have hf := ck_t hq hf
    exact BR_valueOf_60 C hret _ _ _ _ _ _ _ _ _ h (lv_sub hl [1, 2, 3, 4, 5, 0] rfl) hf
  · have hf := ck_f hq hf
    refine lv_aload_n hx hb dR_valueOf_52 rfl (lv_at hl 1 rfl) ?_
    refine lv_iload_n hx hb dR_valueOf_53 rfl (lv_at hl 3 rfl) ?_
    obtain ⟨v2, st1, hc, hf⟩ := ck_b_e hf
    refine ck_vi (As := [.int x2]) (rest := []) (q := 0) C h hl CR_R_isValue sR_isValue q_R (cR_isValue l D cA ad hc) (Nat.le_of_ble_eq_true rfl) rfl rfl (Nat.le_of_ble_eq_true rfl) dR_valueOf_54 (fun H locs h => ?_)
    refine lv_if_eq (tgt := 93) hx hb dR_valueOf_57 rfl (fun hq => ?_) (fun hq => ?_)
    · have hf := ck_t hq hf
      refine lv_bipush (v := (-6)) hx hb dR_valueOf_93 (by decide) ?_
      exact ck_ri hf hret h dR_valueOf_95
    · have hf := ck_f hq hf
      exact BR_valueOf_60 C hret _ _ _ _ _ _ _ _ _ h (lv_sub hl [1, 2, 3, 4, 5, 0] rfl) hf
def fR_valueOf_b29 (y0 : Int32) (x1 : Int32) (x2 : Int32) (x3 : Int32) (st : ck_S) : Option (Int32 × ck_S) := (ck_gd x1 12 (if (st 3 (x1).toNatClampNeg) < 0 then (fR_valueOf_b45 (0 : Int32) x1 x2 x3 y0 st) else (fR_valueOf_b45 (1 : Int32) x1 x2 x3 y0 st)))
set_option maxRecDepth 100000 in
set_option maxHeartbeats 4000000 in
theorem BR_valueOf_29 (C : ck_X cm_cl D cA bR_valueOf 6 R_R 1 p R s m args c) {r0 : Int32} {st0 : ck_S} (hret : ∀ (pc : Nat) (H : Heap) (locs : List Loc) (ls : Array Slot), decode bR_valueOf pc = .ok (.ireturn, 1) → ck_AT sh_R cm_cl D cA ad H0 st0 H locs → W p l e R s m args below meth c H locs 0 0 Q (F0 m pc ls [.int r0])) (y0 : Int32) (x1 : Int32) (x2 : Int32) (x3 : Int32) (st : ck_S) (H : Heap) (locs : List Loc) (ls : Array Slot) (h : ck_AT sh_R cm_cl D cA ad H0 st H locs) (hl : lv_has ls 6 [(0, .ref (ad 0)), (1, .int x1), (2, .int x2), (3, .int x3)]) (hf : fR_valueOf_b29 y0 x1 x2 x3 st = some (r0, st0)) : W p l e R s m args below meth c H locs 0 0 Q (F0 m 29 ls [.int y0]) := by
  have C1 := C
  obtain ⟨hx, hb, hml, hown, hts, hK, hlv, hlo⟩ := C1
  unfold fR_valueOf_b29 at hf
  refine lv_istore (lv' := [(4, .int y0), (0, .ref (ad 0)), (1, .int x1), (2, .int x2), (3, .int x3)]) hx hb dR_valueOf_29 hl (by decide) rfl (fun ls hl => ?_)
  refine lv_aload_n hx hb dR_valueOf_31 rfl (lv_at hl 1 rfl) ?_
  refine ck_gr C h FR_second dR_valueOf_32 ?_
  refine lv_iload_n hx hb dR_valueOf_35 rfl (lv_at hl 2 rfl) ?_
  obtain ⟨hg, hf⟩ := ck_gd_e hf
  refine ck_ai (x := (st 3 (x1).toNatClampNeg)) C h (show sh_R[3]? = some (.inr (0, 12)) from rfl) hg rfl dR_valueOf_36 ?_
  refine lv_if_lt (tgt := 44) hx hb dR_valueOf_37 rfl (fun hq => ?_) (fun hq => ?_)
  · have hf := ck_t hq hf
    refine lv_iconst (v := 0) hx hb dR_valueOf_44 (by decide) ?_
    exact BR_valueOf_45 C hret _ _ _ _ _ _ _ _ _ h (lv_sub hl [1, 2, 3, 4, 0] rfl) hf
  · have hf := ck_f hq hf
    refine lv_iconst (v := 1) hx hb dR_valueOf_40 (by decide) ?_
    refine lv_goto (tgt := 45) hx hb dR_valueOf_41 rfl ?_
    exact BR_valueOf_45 C hret _ _ _ _ _ _ _ _ _ h (lv_sub hl [1, 2, 3, 4, 0] rfl) hf
def fR_valueOf (x1 : Int32) (x2 : Int32) (x3 : Int32) (st : ck_S) : Option (Int32 × ck_S) := (if x1 < 0 then (some ((-4 : Int32), st)) else (if x1 < (st 0 1) then (ck_gd x1 12 (if (st 2 (x1).toNatClampNeg) < 0 then (fR_valueOf_b29 (0 : Int32) x1 x2 x3 st) else (fR_valueOf_b29 (1 : Int32) x1 x2 x3 st))) else (some ((-4 : Int32), st))))
set_option maxRecDepth 100000 in
set_option maxHeartbeats 4000000 in
theorem cR_valueOf (l : Launch) (D : va_G) (cA : Nat → ClassId) (ad : Nat → Nat) {x1 : Int32} {x2 : Int32} {x3 : Int32} {st : ck_S} {r0 : Int32} {st0 : ck_S} (hf : fR_valueOf x1 x2 x3 st = some (r0, st0)) : Met l yR_valueOf (.code yR_valueOf bR_valueOf 6 (some .int) :: ck_T) (ck_R 1) (va_Pc [.ref (ad 0), .int x1, .int x2, .int x3] (ck_P sh_R cm_cl D cA ad st)) (va_Qi (fun a u => a = r0 ∧ u = st0) (ck_P sh_R cm_cl D cA ad) (ck_A ad sh_R.length)) 0 0 (ck_A ad sh_R.length) := by
  refine ck_met_i (own := R_R) (by decide +kernel) rfl (Nat.le_of_ble_eq_true rfl) (fun p e R s m args below meth c H0 Q ls C hret h hl => ?_)
  have C1 := C
  obtain ⟨hx, hb, hml, hown, hts, hK, hlv, hlo⟩ := C1
  have hl : lv_has ls 6 [(0, .ref (ad 0)), (1, .int x1), (2, .int x2), (3, .int x3)] := hl
  unfold fR_valueOf at hf
  refine lv_iload_n hx hb dR_valueOf_0 rfl (lv_at hl 1 rfl) ?_
  refine lv_if_lt (tgt := 12) hx hb dR_valueOf_1 rfl (fun hq => ?_) (fun hq => ?_)
  · have hf := ck_t hq hf
    refine lv_bipush (v := (-4)) hx hb dR_valueOf_12 (by decide) ?_
    exact ck_ri hf hret h dR_valueOf_14
  · have hf := ck_f hq hf
    refine lv_iload_n hx hb dR_valueOf_4 rfl (lv_at hl 1 rfl) ?_
    refine lv_aload_n hx hb dR_valueOf_5 rfl (lv_at hl 0 rfl) ?_
    refine ck_gi (x := (st 0 1)) C h FR_constructors rfl dR_valueOf_6 ?_
    refine lv_icmp_lt (tgt := 15) hx hb dR_valueOf_9 rfl (fun hq => ?_) (fun hq => ?_)
    · have hf := ck_t hq hf
      refine lv_aload_n hx hb dR_valueOf_15 rfl (lv_at hl 0 rfl) ?_
      refine ck_gr C h FR_first dR_valueOf_16 ?_
      refine lv_iload_n hx hb dR_valueOf_19 rfl (lv_at hl 1 rfl) ?_
      obtain ⟨hg, hf⟩ := ck_gd_e hf
      refine ck_ai (x := (st 2 (x1).toNatClampNeg)) C h (show sh_R[2]? = some (.inr (0, 12)) from rfl) hg rfl dR_valueOf_20 ?_
      refine lv_if_lt (tgt := 28) hx hb dR_valueOf_21 rfl (fun hq => ?_) (fun hq => ?_)
      · have hf := ck_t hq hf
        refine lv_iconst (v := 0) hx hb dR_valueOf_28 (by decide) ?_
        exact BR_valueOf_29 C hret _ _ _ _ _ _ _ _ h (lv_sub hl [0, 1, 2, 3] rfl) hf
      · have hf := ck_f hq hf
        refine lv_iconst (v := 1) hx hb dR_valueOf_24 (by decide) ?_
        refine lv_goto (tgt := 29) hx hb dR_valueOf_25 rfl ?_
        exact BR_valueOf_29 C hret _ _ _ _ _ _ _ _ h (lv_sub hl [0, 1, 2, 3] rfl) hf
    · have hf := ck_f hq hf
      refine lv_bipush (v := (-4)) hx hb dR_valueOf_12 (by decide) ?_
      exact ck_ri hf hret h dR_valueOf_14
def fR_part_l39 : Nat → Int32 → Int32 → Int32 → ck_S → Option (Int32 × ck_S)
  | 0, _, _, _, _ => none
  | n + 1, x2, x3, x5, st => (if x5 < 0 then (some (x3, st)) else (if x3 < 0 then (some (x3, st)) else (if ((x2 >>> (x5 &&& 31)) &&& (1 : Int32)) = 0 then (ck_gd x3 60 (fR_part_l39 n x2 (st 13 (x3).toNatClampNeg) (x5 + (-1)) st)) else (ck_gd x3 60 (fR_part_l39 n x2 (st 14 (x3).toNatClampNeg) (x5 + (-1)) st)))))
set_option maxRecDepth 100000 in
set_option maxHeartbeats 4000000 in
theorem BR_part_39 (C : ck_X cm_cl D cA bR_part 6 R_R 0 p R s m args c) {r0 : Int32} {st0 : ck_S} (hret : ∀ (pc : Nat) (H : Heap) (locs : List Loc) (ls : Array Slot), decode bR_part pc = .ok (.ireturn, 1) → ck_AT sh_R cm_cl D cA ad H0 st0 H locs → W p l e R s m args below meth c H locs 0 0 Q (F0 m pc ls [.int r0])) : ∀ (n : Nat) (x2 : Int32) (x3 : Int32) (x5 : Int32) (st : ck_S) (H : Heap) (locs : List Loc) (ls : Array Slot), ck_AT sh_R cm_cl D cA ad H0 st H locs → lv_has ls 6 [(0, .ref (ad 0)), (2, .int x2), (3, .int x3), (5, .int x5)] → fR_part_l39  n x2 x3 x5 st = some (r0, st0) → W p l e R s m args below meth c H locs 0 0 Q (F0 m 39 ls []) := by
  have C1 := C
  obtain ⟨hx, hb, hml, hown, hts, hK, hlv, hlo⟩ := C1
  intro n
  induction n with
  | zero => intro _ _ _ _ _ _ _ _ _ hf; cases hf
  | succ n ih =>
    intro x2 x3 x5 st H locs ls h hl hf
    rw [fR_part_l39] at hf
    refine lv_iload hx hb dR_part_39 (lv_at hl 3 rfl) ?_
    refine lv_if_lt (tgt := 79) hx hb dR_part_41 rfl (fun hq => ?_) (fun hq => ?_)
    · have hf := ck_t hq hf
      refine lv_iload_n hx hb dR_part_79 rfl (lv_at hl 2 rfl) ?_
      exact ck_ri hf hret h dR_part_80
    · have hf := ck_f hq hf
      refine lv_iload_n hx hb dR_part_44 rfl (lv_at hl 2 rfl) ?_
      refine lv_if_lt (tgt := 79) hx hb dR_part_45 rfl (fun hq => ?_) (fun hq => ?_)
      · have hf := ck_t hq hf
        refine lv_iload_n hx hb dR_part_79 rfl (lv_at hl 2 rfl) ?_
        exact ck_ri hf hret h dR_part_80
      · have hf := ck_f hq hf
        refine lv_iload_n hx hb dR_part_48 rfl (lv_at hl 1 rfl) ?_
        refine lv_iload hx hb dR_part_49 (lv_at hl 3 rfl) ?_
        refine lv_ishr hx hb dR_part_51 ?_
        refine lv_iconst (v := 1) hx hb dR_part_52 (by decide) ?_
        refine lv_iand hx hb dR_part_53 ?_
        refine lv_if_ne (tgt := 66) hx hb dR_part_54 rfl (fun hq => ?_) (fun hq => ?_)
        · have hf := ck_f hq hf
          refine lv_aload_n hx hb dR_part_66 rfl (lv_at hl 0 rfl) ?_
          refine ck_gr C h FR_valueRight dR_part_67 ?_
          refine lv_iload_n hx hb dR_part_70 rfl (lv_at hl 2 rfl) ?_
          obtain ⟨hg, hf⟩ := ck_gd_e hf
          refine ck_ai (x := (st 14 (x3).toNatClampNeg)) C h (show sh_R[14]? = some (.inr (0, 60)) from rfl) hg rfl dR_part_71 ?_
          refine lv_istore_n (lv' := [(3, .int (st 14 (x3).toNatClampNeg)), (0, .ref (ad 0)), (2, .int x2), (5, .int x5)]) hx hb dR_part_72 rfl hl (by decide) rfl (fun ls hl => ?_)
          refine lv_iinc (k := 3) (v := (x5 + (-1))) (lv' := [(5, .int (x5 + (-1))), (3, .int (st 14 (x3).toNatClampNeg)), (0, .ref (ad 0)), (2, .int x2)]) hx hb dR_part_73 hl rfl rfl (by decide) rfl (fun ls hl => ?_)
          refine lv_goto (tgt := 39) hx hb dR_part_76 rfl ?_
          exact ih _ _ _ _ _ _ _ h (lv_sub hl [2, 3, 1, 0] rfl) hf
        · have hf := ck_t hq hf
          refine lv_aload_n hx hb dR_part_57 rfl (lv_at hl 0 rfl) ?_
          refine ck_gr C h FR_valueLeft dR_part_58 ?_
          refine lv_iload_n hx hb dR_part_61 rfl (lv_at hl 2 rfl) ?_
          obtain ⟨hg, hf⟩ := ck_gd_e hf
          refine ck_ai (x := (st 13 (x3).toNatClampNeg)) C h (show sh_R[13]? = some (.inr (0, 60)) from rfl) hg rfl dR_part_62 ?_
          refine lv_goto (tgt := 72) hx hb dR_part_63 rfl ?_
          refine lv_istore_n (lv' := [(3, .int (st 13 (x3).toNatClampNeg)), (0, .ref (ad 0)), (2, .int x2), (5, .int x5)]) hx hb dR_part_72 rfl hl (by decide) rfl (fun ls hl => ?_)
          refine lv_iinc (k := 3) (v := (x5 + (-1))) (lv' := [(5, .int (x5 + (-1))), (3, .int (st 13 (x3).toNatClampNeg)), (0, .ref (ad 0)), (2, .int x2)]) hx hb dR_part_73 hl rfl rfl (by decide) rfl (fun ls hl => ?_)
          refine lv_goto (tgt := 39) hx hb dR_part_76 rfl ?_
          exact ih _ _ _ _ _ _ _ h (lv_sub hl [2, 3, 1, 0] rfl) hf
def fR_part (x1 : Int32) (x2 : Int32) (st : ck_S) : Option (Int32 × ck_S) := (if x2 ≤ (7 : Int32) then (if x2 ≤ (3 : Int32) then (if x2 ≤ (1 : Int32) then (fR_part_l39  4096 x2 x1 ((0 : Int32) - (1 : Int32)) st) else (fR_part_l39  4096 x2 x1 ((1 : Int32) - (1 : Int32)) st)) else (fR_part_l39  4096 x2 x1 ((2 : Int32) - (1 : Int32)) st)) else (fR_part_l39  4096 x2 x1 ((3 : Int32) - (1 : Int32)) st))
set_option maxRecDepth 100000 in
set_option maxHeartbeats 4000000 in
theorem cR_part (l : Launch) (D : va_G) (cA : Nat → ClassId) (ad : Nat → Nat) {x1 : Int32} {x2 : Int32} {st : ck_S} {r0 : Int32} {st0 : ck_S} (hf : fR_part x1 x2 st = some (r0, st0)) : Met l yR_part (.code yR_part bR_part 6 (some .int) :: ck_T) (ck_R 0) (va_Pc [.ref (ad 0), .int x1, .int x2] (ck_P sh_R cm_cl D cA ad st)) (va_Qi (fun a u => a = r0 ∧ u = st0) (ck_P sh_R cm_cl D cA ad) (ck_A ad sh_R.length)) 0 0 (ck_A ad sh_R.length) := by
  refine ck_met_i (own := R_R) (by decide +kernel) rfl (Nat.le_of_ble_eq_true rfl) (fun p e R s m args below meth c H0 Q ls C hret h hl => ?_)
  have C1 := C
  obtain ⟨hx, hb, hml, hown, hts, hK, hlv, hlo⟩ := C1
  have hl : lv_has ls 6 [(0, .ref (ad 0)), (1, .int x1), (2, .int x2)] := hl
  unfold fR_part at hf
  refine lv_iload_n hx hb dR_part_0 rfl (lv_at hl 1 rfl) ?_
  refine lv_istore_n (lv' := [(3, .int x1), (0, .ref (ad 0)), (1, .int x1), (2, .int x2)]) hx hb dR_part_1 rfl hl (by decide) rfl (fun ls hl => ?_)
  refine lv_iload_n hx hb dR_part_2 rfl (lv_at hl 3 rfl) ?_
  refine lv_bipush (v := 7) hx hb dR_part_3 (by decide) ?_
  refine lv_icmp_le (tgt := 12) hx hb dR_part_5 rfl (fun hq => ?_) (fun hq => ?_)
  · have hf := ck_t hq hf
    refine lv_iload_n hx hb dR_part_12 rfl (lv_at hl 3 rfl) ?_
    refine lv_iconst (v := 3) hx hb dR_part_13 (by decide) ?_
    refine lv_icmp_le (tgt := 21) hx hb dR_part_14 rfl (fun hq => ?_) (fun hq => ?_)
    · have hf := ck_t hq hf
      refine lv_iload_n hx hb dR_part_21 rfl (lv_at hl 3 rfl) ?_
      refine lv_iconst (v := 1) hx hb dR_part_22 (by decide) ?_
      refine lv_icmp_le (tgt := 30) hx hb dR_part_23 rfl (fun hq => ?_) (fun hq => ?_)
      · have hf := ck_t hq hf
        refine lv_iconst (v := 0) hx hb dR_part_30 (by decide) ?_
        refine lv_istore (lv' := [(4, .int (0 : Int32)), (3, .int x1), (0, .ref (ad 0)), (1, .int x1), (2, .int x2)]) hx hb dR_part_31 hl (by decide) rfl (fun ls hl => ?_)
        refine lv_iload hx hb dR_part_33 (lv_at hl 0 rfl) ?_
        refine lv_iconst (v := 1) hx hb dR_part_35 (by decide) ?_
        refine lv_isub hx hb dR_part_36 ?_
        refine lv_istore (lv' := [(5, .int ((0 : Int32) - (1 : Int32))), (4, .int (0 : Int32)), (3, .int x1), (0, .ref (ad 0)), (1, .int x1), (2, .int x2)]) hx hb dR_part_37 hl (by decide) rfl (fun ls hl => ?_)
        exact BR_part_39 C hret  4096 _ _ _ _ _ _ _ h (lv_sub hl [3, 5, 2, 0] rfl) hf
      · have hf := ck_f hq hf
        refine lv_iconst (v := 1) hx hb dR_part_26 (by decide) ?_
        refine lv_goto (tgt := 31) hx hb dR_part_27 rfl ?_
        refine lv_istore (lv' := [(4, .int (1 : Int32)), (3, .int x1), (0, .ref (ad 0)), (1, .int x1), (2, .int x2)]) hx hb dR_part_31 hl (by decide) rfl (fun ls hl => ?_)
        refine lv_iload hx hb dR_part_33 (lv_at hl 0 rfl) ?_
        refine lv_iconst (v := 1) hx hb dR_part_35 (by decide) ?_
        refine lv_isub hx hb dR_part_36 ?_
        refine lv_istore (lv' := [(5, .int ((1 : Int32) - (1 : Int32))), (4, .int (1 : Int32)), (3, .int x1), (0, .ref (ad 0)), (1, .int x1), (2, .int x2)]) hx hb dR_part_37 hl (by decide) rfl (fun ls hl => ?_)
        exact BR_part_39 C hret  4096 _ _ _ _ _ _ _ h (lv_sub hl [3, 5, 2, 0] rfl) hf
    · have hf := ck_f hq hf
      refine lv_iconst (v := 2) hx hb dR_part_17 (by decide) ?_
      refine lv_goto (tgt := 31) hx hb dR_part_18 rfl ?_
      refine lv_istore (lv' := [(4, .int (2 : Int32)), (3, .int x1), (0, .ref (ad 0)), (1, .int x1), (2, .int x2)]) hx hb dR_part_31 hl (by decide) rfl (fun ls hl => ?_)
      refine lv_iload hx hb dR_part_33 (lv_at hl 0 rfl) ?_
      refine lv_iconst (v := 1) hx hb dR_part_35 (by decide) ?_
      refine lv_isub hx hb dR_part_36 ?_
      refine lv_istore (lv' := [(5, .int ((2 : Int32) - (1 : Int32))), (4, .int (2 : Int32)), (3, .int x1), (0, .ref (ad 0)), (1, .int x1), (2, .int x2)]) hx hb dR_part_37 hl (by decide) rfl (fun ls hl => ?_)
      exact BR_part_39 C hret  4096 _ _ _ _ _ _ _ h (lv_sub hl [3, 5, 2, 0] rfl) hf
  · have hf := ck_f hq hf
    refine lv_iconst (v := 3) hx hb dR_part_8 (by decide) ?_
    refine lv_goto (tgt := 31) hx hb dR_part_9 rfl ?_
    refine lv_istore (lv' := [(4, .int (3 : Int32)), (3, .int x1), (0, .ref (ad 0)), (1, .int x1), (2, .int x2)]) hx hb dR_part_31 hl (by decide) rfl (fun ls hl => ?_)
    refine lv_iload hx hb dR_part_33 (lv_at hl 0 rfl) ?_
    refine lv_iconst (v := 1) hx hb dR_part_35 (by decide) ?_
    refine lv_isub hx hb dR_part_36 ?_
    refine lv_istore (lv' := [(5, .int ((3 : Int32) - (1 : Int32))), (4, .int (3 : Int32)), (3, .int x1), (0, .ref (ad 0)), (1, .int x1), (2, .int x2)]) hx hb dR_part_37 hl (by decide) rfl (fun ls hl => ?_)
    exact BR_part_39 C hret  4096 _ _ _ _ _ _ _ h (lv_sub hl [3, 5, 2, 0] rfl) hf
def fR_fits_l2 : Nat → Int32 → Int32 → Int32 → ck_S → Option (Int32 × ck_S)
  | 0, _, _, _, _ => none
  | n + 1, x1, x2, x3, st => (if (16 : Int32) ≤ x3 then (some ((1 : Int32), st)) else (ck_gd (((16 : Int32) * x1) + x3) 256 (if (st 17 ((((16 : Int32) * x1) + x3)).toNatClampNeg) ≤ 0 then (fR_fits_l2 n x1 x2 (x3 + 1) st) else (ck_b (fR_part x2 x3 st) fun v2 st1 => (if v2 < 0 then (some ((0 : Int32), st1)) else (ck_gd v2 60 (ck_gd (((16 : Int32) * x1) + x3) 256 (if (st1 11 (v2).toNatClampNeg) = (st1 17 ((((16 : Int32) * x1) + x3)).toNatClampNeg) then (ck_gd v2 60 (ck_gd (((16 : Int32) * x1) + x3) 256 (if (st1 12 (v2).toNatClampNeg) = (st1 18 ((((16 : Int32) * x1) + x3)).toNatClampNeg) then (fR_fits_l2 n x1 x2 (x3 + 1) st1) else (some ((0 : Int32), st1))))) else (some ((0 : Int32), st1))))))))))
set_option maxRecDepth 100000 in
set_option maxHeartbeats 4000000 in
theorem BR_fits_2 (C : ck_X cm_cl D cA bR_fits 5 R_R 1 p R s m args c) {r0 : Int32} {st0 : ck_S} (hret : ∀ (pc : Nat) (H : Heap) (locs : List Loc) (ls : Array Slot), decode bR_fits pc = .ok (.ireturn, 1) → (r0 = 0 ∨ r0 = 1) → ck_AT sh_R cm_cl D cA ad H0 st0 H locs → W p l e R s m args below meth c H locs 0 0 Q (F0 m pc ls [.int r0])) : ∀ (n : Nat) (x1 : Int32) (x2 : Int32) (x3 : Int32) (st : ck_S) (H : Heap) (locs : List Loc) (ls : Array Slot), ck_AT sh_R cm_cl D cA ad H0 st H locs → lv_has ls 5 [(0, .ref (ad 0)), (1, .int x1), (2, .int x2), (3, .int x3)] → fR_fits_l2  n x1 x2 x3 st = some (r0, st0) → W p l e R s m args below meth c H locs 0 0 Q (F0 m 2 ls []) := by
  have C1 := C
  obtain ⟨hx, hb, hml, hown, hts, hK, hlv, hlo⟩ := C1
  intro n
  induction n with
  | zero => intro _ _ _ _ _ _ _ _ _ hf; cases hf
  | succ n ih =>
    intro x1 x2 x3 st H locs ls h hl hf
    rw [fR_fits_l2] at hf
    refine lv_iload_n hx hb dR_fits_2 rfl (lv_at hl 3 rfl) ?_
    refine lv_bipush (v := 16) hx hb dR_fits_3 (by decide) ?_
    refine lv_icmp_ge (tgt := 85) hx hb dR_fits_5 rfl (fun hq => ?_) (fun hq => ?_)
    · have hf := ck_t hq hf
      refine lv_iconst (v := 1) hx hb dR_fits_85 (by decide) ?_
      exact ck_rz hf hret ck_z1 h dR_fits_86
    · have hf := ck_f hq hf
      refine lv_aload_n hx hb dR_fits_8 rfl (lv_at hl 0 rfl) ?_
      refine ck_gr C h FR_asks dR_fits_9 ?_
      refine lv_bipush (v := 16) hx hb dR_fits_12 (by decide) ?_
      refine lv_iload_n hx hb dR_fits_14 rfl (lv_at hl 1 rfl) ?_
      refine lv_imul hx hb dR_fits_15 ?_
      refine lv_iload_n hx hb dR_fits_16 rfl (lv_at hl 3 rfl) ?_
      refine lv_iadd hx hb dR_fits_17 ?_
      obtain ⟨hg, hf⟩ := ck_gd_e hf
      refine ck_ai (x := (st 17 ((((16 : Int32) * x1) + x3)).toNatClampNeg)) C h (show sh_R[17]? = some (.inr (0, 256)) from rfl) hg rfl dR_fits_18 ?_
      refine lv_if_le (tgt := 79) hx hb dR_fits_19 rfl (fun hq => ?_) (fun hq => ?_)
      · have hf := ck_t hq hf
        refine lv_iinc (k := 3) (v := (x3 + 1)) (lv' := [(3, .int (x3 + 1)), (0, .ref (ad 0)), (1, .int x1), (2, .int x2)]) hx hb dR_fits_79 hl rfl rfl (by decide) rfl (fun ls hl => ?_)
        refine lv_goto (tgt := 2) hx hb dR_fits_82 rfl ?_
        exact ih _ _ _ _ _ _ _ h (lv_sub hl [1, 2, 3, 0] rfl) hf
      · have hf := ck_f hq hf
        refine lv_aload_n hx hb dR_fits_22 rfl (lv_at hl 0 rfl) ?_
        refine lv_iload_n hx hb dR_fits_23 rfl (lv_at hl 2 rfl) ?_
        refine lv_iload_n hx hb dR_fits_24 rfl (lv_at hl 3 rfl) ?_
        obtain ⟨v2, st1, hc, hf⟩ := ck_b_e hf
        refine ck_vi (As := [.int x2, .int x3]) (rest := []) (q := 0) C h hl CR_R_part sR_part q_R (cR_part l D cA ad hc) (Nat.le_of_ble_eq_true rfl) rfl rfl (Nat.le_of_ble_eq_true rfl) dR_fits_25 (fun H locs h => ?_)
        refine lv_istore (lv' := [(4, .int v2), (0, .ref (ad 0)), (1, .int x1), (2, .int x2), (3, .int x3)]) hx hb dR_fits_28 hl (by decide) rfl (fun ls hl => ?_)
        refine lv_iload hx hb dR_fits_30 (lv_at hl 0 rfl) ?_
        refine lv_if_lt (tgt := 77) hx hb dR_fits_32 rfl (fun hq => ?_) (fun hq => ?_)
        · have hf := ck_t hq hf
          refine lv_iconst (v := 0) hx hb dR_fits_77 (by decide) ?_
          exact ck_rz hf hret ck_z0 h dR_fits_78
        · have hf := ck_f hq hf
          refine lv_aload_n hx hb dR_fits_35 rfl (lv_at hl 1 rfl) ?_
          refine ck_gr C h FR_valueKind dR_fits_36 ?_
          refine lv_iload hx hb dR_fits_39 (lv_at hl 0 rfl) ?_
          obtain ⟨hg, hf⟩ := ck_gd_e hf
          refine ck_ai (x := (st1 11 (v2).toNatClampNeg)) C h (show sh_R[11]? = some (.inr (0, 60)) from rfl) hg rfl dR_fits_41 ?_
          refine lv_aload_n hx hb dR_fits_42 rfl (lv_at hl 1 rfl) ?_
          refine ck_gr C h FR_asks dR_fits_43 ?_
          refine lv_bipush (v := 16) hx hb dR_fits_46 (by decide) ?_
          refine lv_iload_n hx hb dR_fits_48 rfl (lv_at hl 2 rfl) ?_
          refine lv_imul hx hb dR_fits_49 ?_
          refine lv_iload_n hx hb dR_fits_50 rfl (lv_at hl 4 rfl) ?_
          refine lv_iadd hx hb dR_fits_51 ?_
          obtain ⟨hg, hf⟩ := ck_gd_e hf
          refine ck_ai (x := (st1 17 ((((16 : Int32) * x1) + x3)).toNatClampNeg)) C h (show sh_R[17]? = some (.inr (0, 256)) from rfl) hg rfl dR_fits_52 ?_
          refine lv_icmp_ne (tgt := 77) hx hb dR_fits_53 rfl (fun hq => ?_) (fun hq => ?_)
          · have hf := ck_f hq hf
            refine lv_iconst (v := 0) hx hb dR_fits_77 (by decide) ?_
            exact ck_rz hf hret ck_z0 h dR_fits_78
          · have hf := ck_t hq hf
            refine lv_aload_n hx hb dR_fits_56 rfl (lv_at hl 1 rfl) ?_
            refine ck_gr C h FR_valueWhat dR_fits_57 ?_
            refine lv_iload hx hb dR_fits_60 (lv_at hl 0 rfl) ?_
            obtain ⟨hg, hf⟩ := ck_gd_e hf
            refine ck_ai (x := (st1 12 (v2).toNatClampNeg)) C h (show sh_R[12]? = some (.inr (0, 60)) from rfl) hg rfl dR_fits_62 ?_
            refine lv_aload_n hx hb dR_fits_63 rfl (lv_at hl 1 rfl) ?_
            refine ck_gr C h FR_asked dR_fits_64 ?_
            refine lv_bipush (v := 16) hx hb dR_fits_67 (by decide) ?_
            refine lv_iload_n hx hb dR_fits_69 rfl (lv_at hl 2 rfl) ?_
            refine lv_imul hx hb dR_fits_70 ?_
            refine lv_iload_n hx hb dR_fits_71 rfl (lv_at hl 4 rfl) ?_
            refine lv_iadd hx hb dR_fits_72 ?_
            obtain ⟨hg, hf⟩ := ck_gd_e hf
            refine ck_ai (x := (st1 18 ((((16 : Int32) * x1) + x3)).toNatClampNeg)) C h (show sh_R[18]? = some (.inr (0, 256)) from rfl) hg rfl dR_fits_73 ?_
            refine lv_icmp_eq (tgt := 79) hx hb dR_fits_74 rfl (fun hq => ?_) (fun hq => ?_)
            · have hf := ck_t hq hf
              refine lv_iinc (k := 4) (v := (x3 + 1)) (lv' := [(3, .int (x3 + 1)), (4, .int v2), (0, .ref (ad 0)), (1, .int x1), (2, .int x2)]) hx hb dR_fits_79 hl rfl rfl (by decide) rfl (fun ls hl => ?_)
              refine lv_goto (tgt := 2) hx hb dR_fits_82 rfl ?_
              exact ih _ _ _ _ _ _ _ h (lv_sub hl [2, 3, 4, 0] rfl) hf
            · have hf := ck_f hq hf
              refine lv_iconst (v := 0) hx hb dR_fits_77 (by decide) ?_
              exact ck_rz hf hret ck_z0 h dR_fits_78
def fR_fits (x1 : Int32) (x2 : Int32) (st : ck_S) : Option (Int32 × ck_S) := (fR_fits_l2  4096 x1 x2 (1 : Int32) st)
set_option maxRecDepth 100000 in
set_option maxHeartbeats 4000000 in
theorem cR_fits (l : Launch) (D : va_G) (cA : Nat → ClassId) (ad : Nat → Nat) {x1 : Int32} {x2 : Int32} {st : ck_S} {r0 : Int32} {st0 : ck_S} (hf : fR_fits x1 x2 st = some (r0, st0)) : Met l yR_fits (.code yR_fits bR_fits 5 (some .boolean) :: ck_T) (ck_R 1) (va_Pc [.ref (ad 0), .int x1, .int x2] (ck_P sh_R cm_cl D cA ad st)) (va_Qi (fun a u => a = r0 ∧ u = st0) (ck_P sh_R cm_cl D cA ad) (ck_A ad sh_R.length)) 0 0 (ck_A ad sh_R.length) := by
  refine ck_met_z (own := R_R) (by decide +kernel) rfl (Nat.le_of_ble_eq_true rfl) (fun p e R s m args below meth c H0 Q ls C hret h hl => ?_)
  have C1 := C
  obtain ⟨hx, hb, hml, hown, hts, hK, hlv, hlo⟩ := C1
  have hl : lv_has ls 5 [(0, .ref (ad 0)), (1, .int x1), (2, .int x2)] := hl
  unfold fR_fits at hf
  refine lv_iconst (v := 1) hx hb dR_fits_0 (by decide) ?_
  refine lv_istore_n (lv' := [(3, .int (1 : Int32)), (0, .ref (ad 0)), (1, .int x1), (2, .int x2)]) hx hb dR_fits_1 rfl hl (by decide) rfl (fun ls hl => ?_)
  exact BR_fits_2 C hret  4096 _ _ _ _ _ _ _ h (lv_sub hl [1, 2, 3, 0] rfl) hf
def fR_walk_l40 (k73 : Int32 → Int32 → Int32 → ck_S → Option (Int32 × ck_S)) : Nat → Int32 → Int32 → Int32 → Int32 → ck_S → Option (Int32 × ck_S)
  | 0, _, _, _, _, _ => none
  | n + 1, x1, x2, x4, x5, st => (ck_gd x5 60 (if (st 30 (x5).toNatClampNeg) = 0 then (ck_gd x5 60 (ck_gd x4 60 (if (st 29 (x5).toNatClampNeg) = (st 12 (x4).toNatClampNeg) then (k73 x1 x2 x5 st) else (fR_walk_l40 k73 n x1 x2 x4 (x5 + 1) st)))) else (k73 x1 x2 x5 st)))
set_option maxRecDepth 100000 in
set_option maxHeartbeats 4000000 in
theorem BR_walk_40 (C : ck_X cm_cl D cA bR_walk 6 R_R 1 p R s m args c) {r0 : Int32} {st0 : ck_S} (hret : ∀ (pc : Nat) (H : Heap) (locs : List Loc) (ls : Array Slot), decode bR_walk pc = .ok (.ireturn, 1) → ck_AT sh_R cm_cl D cA ad H0 st0 H locs → W p l e R s m args below meth c H locs 0 0 Q (F0 m pc ls [.int r0])) {k73 : Int32 → Int32 → Int32 → ck_S → Option (Int32 × ck_S)} (hk73 : ∀ (x1 : Int32) (x2 : Int32) (x5 : Int32) (st : ck_S) (H : Heap) (locs : List Loc) (ls : Array Slot), ck_AT sh_R cm_cl D cA ad H0 st H locs → lv_has ls 6 [(0, .ref (ad 0)), (1, .int x1), (2, .int x2), (5, .int x5)] → k73 x1 x2 x5 st = some (r0, st0) → W p l e R s m args below meth c H locs 0 0 Q (F0 m 73 ls [])) : ∀ (n : Nat) (x1 : Int32) (x2 : Int32) (x4 : Int32) (x5 : Int32) (st : ck_S) (H : Heap) (locs : List Loc) (ls : Array Slot), ck_AT sh_R cm_cl D cA ad H0 st H locs → lv_has ls 6 [(0, .ref (ad 0)), (1, .int x1), (2, .int x2), (4, .int x4), (5, .int x5)] → fR_walk_l40 k73 n x1 x2 x4 x5 st = some (r0, st0) → W p l e R s m args below meth c H locs 0 0 Q (F0 m 40 ls []) := by
  have C1 := C
  obtain ⟨hx, hb, hml, hown, hts, hK, hlv, hlo⟩ := C1
  intro n
  induction n with
  | zero => intro _ _ _ _ _ _ _ _ _ _ hf; cases hf
  | succ n ih =>
    intro x1 x2 x4 x5 st H locs ls h hl hf
    rw [fR_walk_l40] at hf
    refine lv_aload_n hx hb dR_walk_40 rfl (lv_at hl 0 rfl) ?_
    refine ck_gr C h FR_others dR_walk_41 ?_
    refine lv_iload hx hb dR_walk_44 (lv_at hl 4 rfl) ?_
    obtain ⟨hg, hf⟩ := ck_gd_e hf
    refine ck_az (x := (st 30 (x5).toNatClampNeg)) C h (show sh_R[30]? = some (.inr (1, 60)) from rfl) hg rfl dR_walk_46 ?_
    refine lv_if_ne (tgt := 73) hx hb dR_walk_47 rfl (fun hq => ?_) (fun hq => ?_)
    · have hf := ck_f hq hf
      exact hk73 _ _ _ _ _ _ _ h (lv_sub hl [0, 1, 2, 4] rfl) hf
    · have hf := ck_t hq hf
      refine lv_aload_n hx hb dR_walk_50 rfl (lv_at hl 0 rfl) ?_
      refine ck_gr C h FR_label dR_walk_51 ?_
      refine lv_iload hx hb dR_walk_54 (lv_at hl 4 rfl) ?_
      obtain ⟨hg, hf⟩ := ck_gd_e hf
      refine ck_ai (x := (st 29 (x5).toNatClampNeg)) C h (show sh_R[29]? = some (.inr (0, 60)) from rfl) hg rfl dR_walk_56 ?_
      refine lv_aload_n hx hb dR_walk_57 rfl (lv_at hl 0 rfl) ?_
      refine ck_gr C h FR_valueWhat dR_walk_58 ?_
      refine lv_iload hx hb dR_walk_61 (lv_at hl 3 rfl) ?_
      obtain ⟨hg, hf⟩ := ck_gd_e hf
      refine ck_ai (x := (st 12 (x4).toNatClampNeg)) C h (show sh_R[12]? = some (.inr (0, 60)) from rfl) hg rfl dR_walk_63 ?_
      refine lv_icmp_eq (tgt := 73) hx hb dR_walk_64 rfl (fun hq => ?_) (fun hq => ?_)
      · have hf := ck_t hq hf
        exact hk73 _ _ _ _ _ _ _ h (lv_sub hl [0, 1, 2, 4] rfl) hf
      · have hf := ck_f hq hf
        refine lv_iinc (k := 4) (v := (x5 + 1)) (lv' := [(5, .int (x5 + 1)), (0, .ref (ad 0)), (1, .int x1), (2, .int x2), (4, .int x4)]) hx hb dR_walk_67 hl rfl rfl (by decide) rfl (fun ls hl => ?_)
        refine lv_goto (tgt := 40) hx hb dR_walk_70 rfl ?_
        exact ih _ _ _ _ _ _ _ _ h (lv_sub hl [1, 2, 3, 4, 0] rfl) hf
def fR_walk_b73 (k4 : Int32 → Int32 → Int32 → ck_S → Option (Int32 × ck_S)) (x1 : Int32) (x2 : Int32) (x5 : Int32) (st : ck_S) : Option (Int32 × ck_S) := (k4 x1 (x2 + 1) x5 st)
set_option maxRecDepth 100000 in
set_option maxHeartbeats 4000000 in
theorem BR_walk_73 (C : ck_X cm_cl D cA bR_walk 6 R_R 1 p R s m args c) {r0 : Int32} {st0 : ck_S} (hret : ∀ (pc : Nat) (H : Heap) (locs : List Loc) (ls : Array Slot), decode bR_walk pc = .ok (.ireturn, 1) → ck_AT sh_R cm_cl D cA ad H0 st0 H locs → W p l e R s m args below meth c H locs 0 0 Q (F0 m pc ls [.int r0])) {k4 : Int32 → Int32 → Int32 → ck_S → Option (Int32 × ck_S)} (hk4 : ∀ (x1 : Int32) (x2 : Int32) (x3 : Int32) (st : ck_S) (H : Heap) (locs : List Loc) (ls : Array Slot), ck_AT sh_R cm_cl D cA ad H0 st H locs → lv_has ls 6 [(0, .ref (ad 0)), (1, .int x1), (2, .int x2), (3, .int x3)] → k4 x1 x2 x3 st = some (r0, st0) → W p l e R s m args below meth c H locs 0 0 Q (F0 m 4 ls [])) (x1 : Int32) (x2 : Int32) (x5 : Int32) (st : ck_S) (H : Heap) (locs : List Loc) (ls : Array Slot) (h : ck_AT sh_R cm_cl D cA ad H0 st H locs) (hl : lv_has ls 6 [(0, .ref (ad 0)), (1, .int x1), (2, .int x2), (5, .int x5)]) (hf : fR_walk_b73 k4 x1 x2 x5 st = some (r0, st0)) : W p l e R s m args below meth c H locs 0 0 Q (F0 m 73 ls []) := by
  have C1 := C
  obtain ⟨hx, hb, hml, hown, hts, hK, hlv, hlo⟩ := C1
  unfold fR_walk_b73 at hf
  refine lv_iinc (k := 2) (v := (x2 + 1)) (lv' := [(2, .int (x2 + 1)), (0, .ref (ad 0)), (1, .int x1), (5, .int x5)]) hx hb dR_walk_73 hl rfl rfl (by decide) rfl (fun ls hl => ?_)
  refine lv_iload hx hb dR_walk_76 (lv_at hl 3 rfl) ?_
  refine lv_istore_n (lv' := [(3, .int x5), (2, .int (x2 + 1)), (0, .ref (ad 0)), (1, .int x1), (5, .int x5)]) hx hb dR_walk_78 rfl hl (by decide) rfl (fun ls hl => ?_)
  refine lv_goto (tgt := 4) hx hb dR_walk_79 rfl ?_
  exact hk4 _ _ _ _ _ _ _ h (lv_sub hl [2, 3, 1, 0] rfl) hf
def fR_walk_l4 : Nat → Int32 → Int32 → Int32 → ck_S → Option (Int32 × ck_S)
  | 0, _, _, _, _ => none
  | n + 1, x1, x2, x3, st => (ck_gd x3 60 (if (st 24 (x3).toNatClampNeg) ≤ 0 then (some (x2, st)) else (if (60 : Int32) ≤ x2 then (some (x2, st)) else (ck_gd x3 60 (ck_b (fR_part x1 (st 24 (x3).toNatClampNeg) st) fun v2 st1 => (ck_gd x3 60 (fR_walk_l40 (fun x1 x2 x5 st => (fR_walk_b73 (fR_walk_l4 n) x1 x2 x5 st)) 4096 x1 x2 v2 (st1 27 (x3).toNatClampNeg) st1)))))))
set_option maxRecDepth 100000 in
set_option maxHeartbeats 4000000 in
theorem BR_walk_4 (C : ck_X cm_cl D cA bR_walk 6 R_R 1 p R s m args c) {r0 : Int32} {st0 : ck_S} (hret : ∀ (pc : Nat) (H : Heap) (locs : List Loc) (ls : Array Slot), decode bR_walk pc = .ok (.ireturn, 1) → ck_AT sh_R cm_cl D cA ad H0 st0 H locs → W p l e R s m args below meth c H locs 0 0 Q (F0 m pc ls [.int r0])) : ∀ (n : Nat) (x1 : Int32) (x2 : Int32) (x3 : Int32) (st : ck_S) (H : Heap) (locs : List Loc) (ls : Array Slot), ck_AT sh_R cm_cl D cA ad H0 st H locs → lv_has ls 6 [(0, .ref (ad 0)), (1, .int x1), (2, .int x2), (3, .int x3)] → fR_walk_l4  n x1 x2 x3 st = some (r0, st0) → W p l e R s m args below meth c H locs 0 0 Q (F0 m 4 ls []) := by
  have C1 := C
  obtain ⟨hx, hb, hml, hown, hts, hK, hlv, hlo⟩ := C1
  intro n
  induction n with
  | zero => intro _ _ _ _ _ _ _ _ _ hf; cases hf
  | succ n ih =>
    intro x1 x2 x3 st H locs ls h hl hf
    rw [fR_walk_l4] at hf
    refine lv_aload_n hx hb dR_walk_4 rfl (lv_at hl 0 rfl) ?_
    refine ck_gr C h FR_place dR_walk_5 ?_
    refine lv_iload_n hx hb dR_walk_8 rfl (lv_at hl 3 rfl) ?_
    obtain ⟨hg, hf⟩ := ck_gd_e hf
    refine ck_ai (x := (st 24 (x3).toNatClampNeg)) C h (show sh_R[24]? = some (.inr (0, 60)) from rfl) hg rfl dR_walk_9 ?_
    refine lv_if_le (tgt := 82) hx hb dR_walk_10 rfl (fun hq => ?_) (fun hq => ?_)
    · have hf := ck_t hq hf
      refine lv_iload_n hx hb dR_walk_82 rfl (lv_at hl 2 rfl) ?_
      exact ck_ri hf hret h dR_walk_83
    · have hf := ck_f hq hf
      refine lv_iload_n hx hb dR_walk_13 rfl (lv_at hl 2 rfl) ?_
      refine lv_bipush (v := 60) hx hb dR_walk_14 (by decide) ?_
      refine lv_icmp_ge (tgt := 82) hx hb dR_walk_16 rfl (fun hq => ?_) (fun hq => ?_)
      · have hf := ck_t hq hf
        refine lv_iload_n hx hb dR_walk_82 rfl (lv_at hl 2 rfl) ?_
        exact ck_ri hf hret h dR_walk_83
      · have hf := ck_f hq hf
        refine lv_aload_n hx hb dR_walk_19 rfl (lv_at hl 0 rfl) ?_
        refine lv_iload_n hx hb dR_walk_20 rfl (lv_at hl 1 rfl) ?_
        refine lv_aload_n hx hb dR_walk_21 rfl (lv_at hl 0 rfl) ?_
        refine ck_gr C h FR_place dR_walk_22 ?_
        refine lv_iload_n hx hb dR_walk_25 rfl (lv_at hl 3 rfl) ?_
        obtain ⟨hg, hf⟩ := ck_gd_e hf
        refine ck_ai (x := (st 24 (x3).toNatClampNeg)) C h (show sh_R[24]? = some (.inr (0, 60)) from rfl) hg rfl dR_walk_26 ?_
        obtain ⟨v2, st1, hc, hf⟩ := ck_b_e hf
        refine ck_vi (As := [.int x1, .int (st 24 (x3).toNatClampNeg)]) (rest := []) (q := 0) C h hl CR_R_part sR_part q_R (cR_part l D cA ad hc) (Nat.le_of_ble_eq_true rfl) rfl rfl (Nat.le_of_ble_eq_true rfl) dR_walk_27 (fun H locs h => ?_)
        refine lv_istore (lv' := [(4, .int v2), (0, .ref (ad 0)), (1, .int x1), (2, .int x2), (3, .int x3)]) hx hb dR_walk_30 hl (by decide) rfl (fun ls hl => ?_)
        refine lv_aload_n hx hb dR_walk_32 rfl (lv_at hl 1 rfl) ?_
        refine ck_gr C h FR_from dR_walk_33 ?_
        refine lv_iload_n hx hb dR_walk_36 rfl (lv_at hl 4 rfl) ?_
        obtain ⟨hg, hf⟩ := ck_gd_e hf
        refine ck_ai (x := (st1 27 (x3).toNatClampNeg)) C h (show sh_R[27]? = some (.inr (0, 60)) from rfl) hg rfl dR_walk_37 ?_
        refine lv_istore (lv' := [(5, .int (st1 27 (x3).toNatClampNeg)), (4, .int v2), (0, .ref (ad 0)), (1, .int x1), (2, .int x2), (3, .int x3)]) hx hb dR_walk_38 hl (by decide) rfl (fun ls hl => ?_)
        exact BR_walk_40 C hret (fun x1 x2 x5 st H locs ls h hl hf => by
            exact BR_walk_73 C hret ih _ _ _ _ _ _ _ h (lv_sub hl [0, 1, 2, 3] rfl) hf) 4096 _ _ _ _ _ _ _ _ h (lv_sub hl [2, 3, 4, 1, 0] rfl) hf
def fR_walk (x1 : Int32) (st : ck_S) : Option (Int32 × ck_S) := (fR_walk_l4  4096 x1 (0 : Int32) (0 : Int32) st)
set_option maxRecDepth 100000 in
set_option maxHeartbeats 4000000 in
theorem cR_walk (l : Launch) (D : va_G) (cA : Nat → ClassId) (ad : Nat → Nat) {x1 : Int32} {st : ck_S} {r0 : Int32} {st0 : ck_S} (hf : fR_walk x1 st = some (r0, st0)) : Met l yR_walk (.code yR_walk bR_walk 6 (some .int) :: ck_T) (ck_R 1) (va_Pc [.ref (ad 0), .int x1] (ck_P sh_R cm_cl D cA ad st)) (va_Qi (fun a u => a = r0 ∧ u = st0) (ck_P sh_R cm_cl D cA ad) (ck_A ad sh_R.length)) 0 0 (ck_A ad sh_R.length) := by
  refine ck_met_i (own := R_R) (by decide +kernel) rfl (Nat.le_of_ble_eq_true rfl) (fun p e R s m args below meth c H0 Q ls C hret h hl => ?_)
  have C1 := C
  obtain ⟨hx, hb, hml, hown, hts, hK, hlv, hlo⟩ := C1
  have hl : lv_has ls 6 [(0, .ref (ad 0)), (1, .int x1)] := hl
  unfold fR_walk at hf
  refine lv_iconst (v := 0) hx hb dR_walk_0 (by decide) ?_
  refine lv_istore_n (lv' := [(2, .int (0 : Int32)), (0, .ref (ad 0)), (1, .int x1)]) hx hb dR_walk_1 rfl hl (by decide) rfl (fun ls hl => ?_)
  refine lv_iconst (v := 0) hx hb dR_walk_2 (by decide) ?_
  refine lv_istore_n (lv' := [(3, .int (0 : Int32)), (2, .int (0 : Int32)), (0, .ref (ad 0)), (1, .int x1)]) hx hb dR_walk_3 rfl hl (by decide) rfl (fun ls hl => ?_)
  exact BR_walk_4 C hret  4096 _ _ _ _ _ _ _ h (lv_sub hl [2, 3, 1, 0] rfl) hf
def fR_run_l47 : Nat → Int32 → Int32 → ck_S → Option (Int32 × ck_S)
  | 0, _, _, _ => none
  | n + 1, x1, x2, st => (if (st 0 20) ≤ x2 then (some ((-1 : Int32), st)) else (ck_b (fR_fits x2 x1 st) fun v2 st1 => (if v2 = 0 then (fR_run_l47 n x1 (x2 + 1) st1) else (ck_gd x2 16 (some ((st1 15 (x2).toNatClampNeg), st1))))))
set_option maxRecDepth 100000 in
set_option maxHeartbeats 4000000 in
theorem BR_run_47 (C : ck_X cm_cl D cA bR_run 3 R_R 2 p R s m args c) {r0 : Int32} {st0 : ck_S} (hret : ∀ (pc : Nat) (H : Heap) (locs : List Loc) (ls : Array Slot), decode bR_run pc = .ok (.ireturn, 1) → ck_AT sh_R cm_cl D cA ad H0 st0 H locs → W p l e R s m args below meth c H locs 0 0 Q (F0 m pc ls [.int r0])) : ∀ (n : Nat) (x1 : Int32) (x2 : Int32) (st : ck_S) (H : Heap) (locs : List Loc) (ls : Array Slot), ck_AT sh_R cm_cl D cA ad H0 st H locs → lv_has ls 3 [(0, .ref (ad 0)), (1, .int x1), (2, .int x2)] → fR_run_l47  n x1 x2 st = some (r0, st0) → W p l e R s m args below meth c H locs 0 0 Q (F0 m 47 ls []) := by
  have C1 := C
  obtain ⟨hx, hb, hml, hown, hts, hK, hlv, hlo⟩ := C1
  intro n
  induction n with
  | zero => intro _ _ _ _ _ _ _ _ hf; cases hf
  | succ n ih =>
    intro x1 x2 st H locs ls h hl hf
    rw [fR_run_l47] at hf
    refine lv_iload_n hx hb dR_run_47 rfl (lv_at hl 2 rfl) ?_
    refine lv_aload_n hx hb dR_run_48 rfl (lv_at hl 0 rfl) ?_
    refine ck_gi (x := (st 0 20)) C h FR_clauses rfl dR_run_49 ?_
    refine lv_icmp_ge (tgt := 77) hx hb dR_run_52 rfl (fun hq => ?_) (fun hq => ?_)
    · have hf := ck_t hq hf
      refine lv_iconst (v := (-1)) hx hb dR_run_77 (by decide) ?_
      exact ck_ri hf hret h dR_run_78
    · have hf := ck_f hq hf
      refine lv_aload_n hx hb dR_run_55 rfl (lv_at hl 0 rfl) ?_
      refine lv_iload_n hx hb dR_run_56 rfl (lv_at hl 2 rfl) ?_
      refine lv_iload_n hx hb dR_run_57 rfl (lv_at hl 1 rfl) ?_
      obtain ⟨v2, st1, hc, hf⟩ := ck_b_e hf
      refine ck_vi (As := [.int x2, .int x1]) (rest := []) (q := 0) C h hl CR_R_fits sR_fits q_R (cR_fits l D cA ad hc) (Nat.le_of_ble_eq_true rfl) rfl rfl (Nat.le_of_ble_eq_true rfl) dR_run_58 (fun H locs h => ?_)
      refine lv_if_eq (tgt := 71) hx hb dR_run_61 rfl (fun hq => ?_) (fun hq => ?_)
      · have hf := ck_t hq hf
        refine lv_iinc (k := 2) (v := (x2 + 1)) (lv' := [(2, .int (x2 + 1)), (0, .ref (ad 0)), (1, .int x1)]) hx hb dR_run_71 hl rfl rfl (by decide) rfl (fun ls hl => ?_)
        refine lv_goto (tgt := 47) hx hb dR_run_74 rfl ?_
        exact ih _ _ _ _ _ _ h (lv_sub hl [1, 2, 0] rfl) hf
      · have hf := ck_f hq hf
        refine lv_aload_n hx hb dR_run_64 rfl (lv_at hl 0 rfl) ?_
        refine ck_gr C h FR_rowOf dR_run_65 ?_
        refine lv_iload_n hx hb dR_run_68 rfl (lv_at hl 2 rfl) ?_
        obtain ⟨hg, hf⟩ := ck_gd_e hf
        refine ck_ai (x := (st1 15 (x2).toNatClampNeg)) C h (show sh_R[15]? = some (.inr (0, 16)) from rfl) hg rfl dR_run_69 ?_
        exact ck_ri hf hret h dR_run_70
def fR_run (x1 : Int32) (st : ck_S) : Option (Int32 × ck_S) := (if (st 0 28) = 0 then (some ((-13 : Int32), st)) else (ck_b (fR_isValue x1 st) fun v2 st1 => (if v2 = 0 then (some ((-6 : Int32), st1)) else (ck_b (fR_typeOf x1 st1) fun v4 st3 => (if v4 = (st3 0 18) then (ck_b (fR_walk x1 st3) fun v6 st5 => (fR_run_l47  4096 x1 (0 : Int32) (ck_u st5 0 46 v6))) else (some ((-7 : Int32), st3)))))))
set_option maxRecDepth 100000 in
set_option maxHeartbeats 4000000 in
theorem cR_run (l : Launch) (D : va_G) (cA : Nat → ClassId) (ad : Nat → Nat) {x1 : Int32} {st : ck_S} {r0 : Int32} {st0 : ck_S} (hf : fR_run x1 st = some (r0, st0)) : Met l yR_run (.code yR_run bR_run 3 (some .int) :: ck_T) (ck_R 2) (va_Pc [.ref (ad 0), .int x1] (ck_P sh_R cm_cl D cA ad st)) (va_Qi (fun a u => a = r0 ∧ u = st0) (ck_P sh_R cm_cl D cA ad) (ck_A ad sh_R.length)) 0 0 (ck_A ad sh_R.length) := by
  refine ck_met_i (own := R_R) (by decide +kernel) rfl (Nat.le_of_ble_eq_true rfl) (fun p e R s m args below meth c H0 Q ls C hret h hl => ?_)
  have C1 := C
  obtain ⟨hx, hb, hml, hown, hts, hK, hlv, hlo⟩ := C1
  have hl : lv_has ls 3 [(0, .ref (ad 0)), (1, .int x1)] := hl
  unfold fR_run at hf
  refine lv_aload_n hx hb dR_run_0 rfl (lv_at hl 0 rfl) ?_
  refine ck_gi (x := (st 0 28)) C h FR_grown rfl dR_run_1 ?_
  refine lv_if_ne (tgt := 10) hx hb dR_run_4 rfl (fun hq => ?_) (fun hq => ?_)
  · have hf := ck_f hq hf
    refine lv_aload_n hx hb dR_run_10 rfl (lv_at hl 0 rfl) ?_
    refine lv_iload_n hx hb dR_run_11 rfl (lv_at hl 1 rfl) ?_
    obtain ⟨v2, st1, hc, hf⟩ := ck_b_e hf
    refine ck_vi (As := [.int x1]) (rest := []) (q := 0) C h hl CR_R_isValue sR_isValue q_R (cR_isValue l D cA ad hc) (Nat.le_of_ble_eq_true rfl) rfl rfl (Nat.le_of_ble_eq_true rfl) dR_run_12 (fun H locs h => ?_)
    refine lv_if_ne (tgt := 21) hx hb dR_run_15 rfl (fun hq => ?_) (fun hq => ?_)
    · have hf := ck_f hq hf
      refine lv_aload_n hx hb dR_run_21 rfl (lv_at hl 0 rfl) ?_
      refine lv_iload_n hx hb dR_run_22 rfl (lv_at hl 1 rfl) ?_
      obtain ⟨v4, st3, hc, hf⟩ := ck_b_e hf
      refine ck_vi (As := [.int x1]) (rest := []) (q := 0) C h hl CR_R_typeOf sR_typeOf q_R (cR_typeOf l D cA ad hc) (Nat.le_of_ble_eq_true rfl) rfl rfl (Nat.le_of_ble_eq_true rfl) dR_run_23 (fun H locs h => ?_)
      refine lv_aload_n hx hb dR_run_26 rfl (lv_at hl 0 rfl) ?_
      refine ck_gi (x := (st3 0 18)) C h FR_over rfl dR_run_27 ?_
      refine lv_icmp_eq (tgt := 36) hx hb dR_run_30 rfl (fun hq => ?_) (fun hq => ?_)
      · have hf := ck_t hq hf
        refine lv_aload_n hx hb dR_run_36 rfl (lv_at hl 0 rfl) ?_
        refine lv_aload_n hx hb dR_run_37 rfl (lv_at hl 0 rfl) ?_
        refine lv_iload_n hx hb dR_run_38 rfl (lv_at hl 1 rfl) ?_
        obtain ⟨v6, st5, hc, hf⟩ := ck_b_e hf
        refine ck_vi (As := [.int x1]) (rest := [.ref (ad 0)]) (q := 0) C h hl CR_R_walk sR_walk q_R (cR_walk l D cA ad hc) (Nat.le_of_ble_eq_true rfl) rfl rfl (Nat.le_of_ble_eq_true rfl) dR_run_39 (fun H locs h => ?_)
        refine ck_pi C h GR_tested rfl rfl dR_run_42 (fun H locs h => ?_)
        refine lv_iconst (v := 0) hx hb dR_run_45 (by decide) ?_
        refine lv_istore_n (lv' := [(2, .int (0 : Int32)), (0, .ref (ad 0)), (1, .int x1)]) hx hb dR_run_46 rfl hl (by decide) rfl (fun ls hl => ?_)
        exact BR_run_47 C hret  4096 _ _ _ _ _ _ h (lv_sub hl [1, 2, 0] rfl) hf
      · have hf := ck_f hq hf
        refine lv_bipush (v := (-7)) hx hb dR_run_33 (by decide) ?_
        exact ck_ri hf hret h dR_run_35
    · have hf := ck_t hq hf
      refine lv_bipush (v := (-6)) hx hb dR_run_18 (by decide) ?_
      exact ck_ri hf hret h dR_run_20
  · have hf := ck_t hq hf
    refine lv_bipush (v := (-13)) hx hb dR_run_7 (by decide) ?_
    exact ck_ri hf hret h dR_run_9
def fR_tests (st : ck_S) : Option (Int32 × ck_S) := (some ((st 0 46), st))
set_option maxRecDepth 100000 in
set_option maxHeartbeats 4000000 in
theorem cR_tests (l : Launch) (D : va_G) (cA : Nat → ClassId) (ad : Nat → Nat) {st : ck_S} {r0 : Int32} {st0 : ck_S} (hf : fR_tests st = some (r0, st0)) : Met l yR_tests (.code yR_tests bR_tests 1 (some .int) :: ck_T) (ck_R 0) (va_Pc [.ref (ad 0)] (ck_P sh_R cm_cl D cA ad st)) (va_Qi (fun a u => a = r0 ∧ u = st0) (ck_P sh_R cm_cl D cA ad) (ck_A ad sh_R.length)) 0 0 (ck_A ad sh_R.length) := by
  refine ck_met_i (own := R_R) (by decide +kernel) rfl (Nat.le_of_ble_eq_true rfl) (fun p e R s m args below meth c H0 Q ls C hret h hl => ?_)
  have C1 := C
  obtain ⟨hx, hb, hml, hown, hts, hK, hlv, hlo⟩ := C1
  have hl : lv_has ls 1 [(0, .ref (ad 0))] := hl
  unfold fR_tests at hf
  refine lv_aload_n hx hb dR_tests_0 rfl (lv_at hl 0 rfl) ?_
  refine ck_gi (x := (st 0 46)) C h FR_tested rfl dR_tests_1 ?_
  exact ck_ri hf hret h dR_tests_4
end Srefe2
