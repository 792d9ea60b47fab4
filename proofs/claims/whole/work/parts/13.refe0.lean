theorem dR_clear_0 : decode bR_clear 0 = .ok (.aload_n 0, 1) := by decide +kernel
theorem dR_clear_1 : decode bR_clear 1 = .ok (.iconst 0, 1) := by decide +kernel
theorem dR_clear_2 : decode bR_clear 2 = .ok (.putfield 120, 3) := by decide +kernel
theorem dR_clear_5 : decode bR_clear 5 = .ok (.aload_n 0, 1) := by decide +kernel
theorem dR_clear_6 : decode bR_clear 6 = .ok (.iconst 0, 1) := by decide +kernel
theorem dR_clear_7 : decode bR_clear 7 = .ok (.putfield 123, 3) := by decide +kernel
theorem dR_clear_10 : decode bR_clear 10 = .ok (.aload_n 0, 1) := by decide +kernel
theorem dR_clear_11 : decode bR_clear 11 = .ok (.iconst 0, 1) := by decide +kernel
theorem dR_clear_12 : decode bR_clear 12 = .ok (.putfield 126, 3) := by decide +kernel
theorem dR_clear_15 : decode bR_clear 15 = .ok (.aload_n 0, 1) := by decide +kernel
theorem dR_clear_16 : decode bR_clear 16 = .ok (.iconst 0, 1) := by decide +kernel
theorem dR_clear_17 : decode bR_clear 17 = .ok (.putfield 129, 3) := by decide +kernel
theorem dR_clear_20 : decode bR_clear 20 = .ok (.aload_n 0, 1) := by decide +kernel
theorem dR_clear_21 : decode bR_clear 21 = .ok (.iconst (-1), 1) := by decide +kernel
theorem dR_clear_22 : decode bR_clear 22 = .ok (.putfield 52, 3) := by decide +kernel
theorem dR_clear_25 : decode bR_clear 25 = .ok (.aload_n 0, 1) := by decide +kernel
theorem dR_clear_26 : decode bR_clear 26 = .ok (.iconst 0, 1) := by decide +kernel
theorem dR_clear_27 : decode bR_clear 27 = .ok (.putfield 132, 3) := by decide +kernel
theorem dR_clear_30 : decode bR_clear 30 = .ok (.aload_n 0, 1) := by decide +kernel
theorem dR_clear_31 : decode bR_clear 31 = .ok (.iconst 0, 1) := by decide +kernel
theorem dR_clear_32 : decode bR_clear 32 = .ok (.putfield 135, 3) := by decide +kernel
theorem dR_clear_35 : decode bR_clear 35 = .ok (.aload_n 0, 1) := by decide +kernel
theorem dR_clear_36 : decode bR_clear 36 = .ok (.iconst 0, 1) := by decide +kernel
theorem dR_clear_37 : decode bR_clear 37 = .ok (.putfield 138, 3) := by decide +kernel
theorem dR_clear_40 : decode bR_clear 40 = .ok (.aload_n 0, 1) := by decide +kernel
theorem dR_clear_41 : decode bR_clear 41 = .ok (.iconst 0, 1) := by decide +kernel
theorem dR_clear_42 : decode bR_clear 42 = .ok (.putfield 142, 3) := by decide +kernel
theorem dR_clear_45 : decode bR_clear 45 = .ok (.return_, 1) := by decide +kernel
theorem dR_type_0 : decode bR_type 0 = .ok (.aload_n 0, 1) := by decide +kernel
theorem dR_type_1 : decode bR_type 1 = .ok (.getfield 52, 3) := by decide +kernel
theorem dR_type_4 : decode bR_type 4 = .ok (.ifCond .lt 6, 3) := by decide +kernel
theorem dR_type_7 : decode bR_type 7 = .ok (.bipush (-2), 2) := by decide +kernel
theorem dR_type_9 : decode bR_type 9 = .ok (.ireturn, 1) := by decide +kernel
theorem dR_type_10 : decode bR_type 10 = .ok (.aload_n 0, 1) := by decide +kernel
theorem dR_type_11 : decode bR_type 11 = .ok (.getfield 120, 3) := by decide +kernel
theorem dR_type_14 : decode bR_type 14 = .ok (.iconst 5, 1) := by decide +kernel
theorem dR_type_15 : decode bR_type 15 = .ok (.if_icmp .ne 6, 3) := by decide +kernel
theorem dR_type_18 : decode bR_type 18 = .ok (.bipush (-8), 2) := by decide +kernel
theorem dR_type_20 : decode bR_type 20 = .ok (.ireturn, 1) := by decide +kernel
theorem dR_type_21 : decode bR_type 21 = .ok (.aload_n 0, 1) := by decide +kernel
theorem dR_type_22 : decode bR_type 22 = .ok (.dup, 1) := by decide +kernel
theorem dR_type_23 : decode bR_type 23 = .ok (.getfield 120, 3) := by decide +kernel
theorem dR_type_26 : decode bR_type 26 = .ok (.iconst 1, 1) := by decide +kernel
theorem dR_type_27 : decode bR_type 27 = .ok (.iadd, 1) := by decide +kernel
theorem dR_type_28 : decode bR_type 28 = .ok (.putfield 120, 3) := by decide +kernel
theorem dR_type_31 : decode bR_type 31 = .ok (.aload_n 0, 1) := by decide +kernel
theorem dR_type_32 : decode bR_type 32 = .ok (.getfield 120, 3) := by decide +kernel
theorem dR_type_35 : decode bR_type 35 = .ok (.ireturn, 1) := by decide +kernel
theorem dR_isType_0 : decode bR_isType 0 = .ok (.iload_n 1, 1) := by decide +kernel
theorem dR_isType_1 : decode bR_isType 1 = .ok (.ifCond .lt 15, 3) := by decide +kernel
theorem dR_isType_4 : decode bR_isType 4 = .ok (.iload_n 1, 1) := by decide +kernel
theorem dR_isType_5 : decode bR_isType 5 = .ok (.aload_n 0, 1) := by decide +kernel
theorem dR_isType_6 : decode bR_isType 6 = .ok (.getfield 120, 3) := by decide +kernel
theorem dR_isType_9 : decode bR_isType 9 = .ok (.if_icmp .gt 7, 3) := by decide +kernel
theorem dR_isType_12 : decode bR_isType 12 = .ok (.iconst 1, 1) := by decide +kernel
theorem dR_isType_13 : decode bR_isType 13 = .ok (.goto 4, 3) := by decide +kernel
theorem dR_isType_16 : decode bR_isType 16 = .ok (.iconst 0, 1) := by decide +kernel
theorem dR_isType_17 : decode bR_isType 17 = .ok (.ireturn, 1) := by decide +kernel
theorem dR_constructorsOf_0 : decode bR_constructorsOf 0 = .ok (.iconst 0, 1) := by decide +kernel
theorem dR_constructorsOf_1 : decode bR_constructorsOf 1 = .ok (.istore_n 2, 1) := by decide +kernel
theorem dR_constructorsOf_2 : decode bR_constructorsOf 2 = .ok (.iconst 0, 1) := by decide +kernel
theorem dR_constructorsOf_3 : decode bR_constructorsOf 3 = .ok (.istore_n 3, 1) := by decide +kernel
theorem dR_constructorsOf_4 : decode bR_constructorsOf 4 = .ok (.iload_n 3, 1) := by decide +kernel
theorem dR_constructorsOf_5 : decode bR_constructorsOf 5 = .ok (.aload_n 0, 1) := by decide +kernel
theorem dR_constructorsOf_6 : decode bR_constructorsOf 6 = .ok (.getfield 123, 3) := by decide +kernel
theorem dR_constructorsOf_9 : decode bR_constructorsOf 9 = .ok (.if_icmp .ge 27, 3) := by decide +kernel
theorem dR_constructorsOf_12 : decode bR_constructorsOf 12 = .ok (.aload_n 0, 1) := by decide +kernel
theorem dR_constructorsOf_13 : decode bR_constructorsOf 13 = .ok (.getfield 7, 3) := by decide +kernel
theorem dR_constructorsOf_16 : decode bR_constructorsOf 16 = .ok (.iload_n 3, 1) := by decide +kernel
theorem dR_constructorsOf_17 : decode bR_constructorsOf 17 = .ok (.iaload, 1) := by decide +kernel
theorem dR_constructorsOf_18 : decode bR_constructorsOf 18 = .ok (.iload_n 1, 1) := by decide +kernel
theorem dR_constructorsOf_19 : decode bR_constructorsOf 19 = .ok (.if_icmp .ne 9, 3) := by decide +kernel
theorem dR_constructorsOf_22 : decode bR_constructorsOf 22 = .ok (.iload_n 2, 1) := by decide +kernel
theorem dR_constructorsOf_23 : decode bR_constructorsOf 23 = .ok (.iconst 1, 1) := by decide +kernel
theorem dR_constructorsOf_24 : decode bR_constructorsOf 24 = .ok (.iadd, 1) := by decide +kernel
theorem dR_constructorsOf_25 : decode bR_constructorsOf 25 = .ok (.goto 4, 3) := by decide +kernel
theorem dR_constructorsOf_28 : decode bR_constructorsOf 28 = .ok (.iload_n 2, 1) := by decide +kernel
theorem dR_constructorsOf_29 : decode bR_constructorsOf 29 = .ok (.istore_n 2, 1) := by decide +kernel
theorem dR_constructorsOf_30 : decode bR_constructorsOf 30 = .ok (.iinc 3 1, 3) := by decide +kernel
theorem dR_constructorsOf_33 : decode bR_constructorsOf 33 = .ok (.goto (-29), 3) := by decide +kernel
theorem dR_constructorsOf_36 : decode bR_constructorsOf 36 = .ok (.iload_n 2, 1) := by decide +kernel
theorem dR_constructorsOf_37 : decode bR_constructorsOf 37 = .ok (.ireturn, 1) := by decide +kernel
theorem dR_constructor_0 : decode bR_constructor 0 = .ok (.aload_n 0, 1) := by decide +kernel
theorem dR_constructor_1 : decode bR_constructor 1 = .ok (.getfield 52, 3) := by decide +kernel
theorem dR_constructor_4 : decode bR_constructor 4 = .ok (.ifCond .lt 6, 3) := by decide +kernel
theorem dR_constructor_7 : decode bR_constructor 7 = .ok (.bipush (-2), 2) := by decide +kernel
theorem dR_constructor_9 : decode bR_constructor 9 = .ok (.ireturn, 1) := by decide +kernel
theorem dR_constructor_10 : decode bR_constructor 10 = .ok (.iload_n 1, 1) := by decide +kernel
theorem dR_constructor_11 : decode bR_constructor 11 = .ok (.iconst 1, 1) := by decide +kernel
theorem dR_constructor_12 : decode bR_constructor 12 = .ok (.if_icmp .lt 47, 3) := by decide +kernel
theorem dR_constructor_15 : decode bR_constructor 15 = .ok (.iload_n 1, 1) := by decide +kernel
theorem dR_constructor_16 : decode bR_constructor 16 = .ok (.aload_n 0, 1) := by decide +kernel
theorem dR_constructor_17 : decode bR_constructor 17 = .ok (.getfield 120, 3) := by decide +kernel
theorem dR_constructor_20 : decode bR_constructor 20 = .ok (.if_icmp .gt 39, 3) := by decide +kernel
theorem dR_constructor_23 : decode bR_constructor 23 = .ok (.iload_n 2, 1) := by decide +kernel
theorem dR_constructor_24 : decode bR_constructor 24 = .ok (.iconst (-1), 1) := by decide +kernel
theorem dR_constructor_25 : decode bR_constructor 25 = .ok (.if_icmp .eq 11, 3) := by decide +kernel
theorem dR_constructor_28 : decode bR_constructor 28 = .ok (.aload_n 0, 1) := by decide +kernel
theorem dR_constructor_29 : decode bR_constructor 29 = .ok (.iload_n 2, 1) := by decide +kernel
theorem dR_constructor_30 : decode bR_constructor 30 = .ok (.invokevirtual 145, 3) := by decide +kernel
theorem dR_constructor_33 : decode bR_constructor 33 = .ok (.ifCond .eq 26, 3) := by decide +kernel
theorem dR_constructor_36 : decode bR_constructor 36 = .ok (.iload_n 3, 1) := by decide +kernel
theorem dR_constructor_37 : decode bR_constructor 37 = .ok (.iconst (-1), 1) := by decide +kernel
theorem dR_constructor_38 : decode bR_constructor 38 = .ok (.if_icmp .eq 11, 3) := by decide +kernel
theorem dR_constructor_41 : decode bR_constructor 41 = .ok (.aload_n 0, 1) := by decide +kernel
theorem dR_constructor_42 : decode bR_constructor 42 = .ok (.iload_n 3, 1) := by decide +kernel
theorem dR_constructor_43 : decode bR_constructor 43 = .ok (.invokevirtual 145, 3) := by decide +kernel
theorem dR_constructor_46 : decode bR_constructor 46 = .ok (.ifCond .eq 13, 3) := by decide +kernel
theorem dR_constructor_49 : decode bR_constructor 49 = .ok (.iload_n 2, 1) := by decide +kernel
theorem dR_constructor_50 : decode bR_constructor 50 = .ok (.iconst (-1), 1) := by decide +kernel
theorem dR_constructor_51 : decode bR_constructor 51 = .ok (.if_icmp .ne 11, 3) := by decide +kernel
theorem dR_constructor_54 : decode bR_constructor 54 = .ok (.iload_n 3, 1) := by decide +kernel
theorem dR_constructor_55 : decode bR_constructor 55 = .ok (.iconst (-1), 1) := by decide +kernel
theorem dR_constructor_56 : decode bR_constructor 56 = .ok (.if_icmp .eq 6, 3) := by decide +kernel
theorem dR_constructor_59 : decode bR_constructor 59 = .ok (.bipush (-3), 2) := by decide +kernel
theorem dR_constructor_61 : decode bR_constructor 61 = .ok (.ireturn, 1) := by decide +kernel
theorem dR_constructor_62 : decode bR_constructor 62 = .ok (.aload_n 0, 1) := by decide +kernel
theorem dR_constructor_63 : decode bR_constructor 63 = .ok (.getfield 123, 3) := by decide +kernel
theorem dR_constructor_66 : decode bR_constructor 66 = .ok (.bipush 12, 2) := by decide +kernel
theorem dR_constructor_68 : decode bR_constructor 68 = .ok (.if_icmp .eq 12, 3) := by decide +kernel
theorem dR_constructor_71 : decode bR_constructor 71 = .ok (.aload_n 0, 1) := by decide +kernel
theorem dR_constructor_72 : decode bR_constructor 72 = .ok (.iload_n 1, 1) := by decide +kernel
theorem dR_constructor_73 : decode bR_constructor 73 = .ok (.invokevirtual 149, 3) := by decide +kernel
theorem dR_constructor_76 : decode bR_constructor 76 = .ok (.iconst 4, 1) := by decide +kernel
theorem dR_constructor_77 : decode bR_constructor 77 = .ok (.if_icmp .ne 6, 3) := by decide +kernel
theorem dR_constructor_80 : decode bR_constructor 80 = .ok (.bipush (-8), 2) := by decide +kernel
theorem dR_constructor_82 : decode bR_constructor 82 = .ok (.ireturn, 1) := by decide +kernel
theorem dR_constructor_83 : decode bR_constructor 83 = .ok (.aload_n 0, 1) := by decide +kernel
theorem dR_constructor_84 : decode bR_constructor 84 = .ok (.getfield 7, 3) := by decide +kernel
theorem dR_constructor_87 : decode bR_constructor 87 = .ok (.aload_n 0, 1) := by decide +kernel
theorem dR_constructor_88 : decode bR_constructor 88 = .ok (.getfield 123, 3) := by decide +kernel
theorem dR_constructor_91 : decode bR_constructor 91 = .ok (.iload_n 1, 1) := by decide +kernel
theorem dR_constructor_92 : decode bR_constructor 92 = .ok (.iastore, 1) := by decide +kernel
theorem dR_constructor_93 : decode bR_constructor 93 = .ok (.aload_n 0, 1) := by decide +kernel
theorem dR_constructor_94 : decode bR_constructor 94 = .ok (.getfield 13, 3) := by decide +kernel
theorem dR_constructor_97 : decode bR_constructor 97 = .ok (.aload_n 0, 1) := by decide +kernel
theorem dR_constructor_98 : decode bR_constructor 98 = .ok (.getfield 123, 3) := by decide +kernel
theorem dR_constructor_101 : decode bR_constructor 101 = .ok (.iload_n 2, 1) := by decide +kernel
theorem dR_constructor_102 : decode bR_constructor 102 = .ok (.iastore, 1) := by decide +kernel
theorem dR_constructor_103 : decode bR_constructor 103 = .ok (.aload_n 0, 1) := by decide +kernel
theorem dR_constructor_104 : decode bR_constructor 104 = .ok (.getfield 16, 3) := by decide +kernel
theorem dR_constructor_107 : decode bR_constructor 107 = .ok (.aload_n 0, 1) := by decide +kernel
theorem dR_constructor_108 : decode bR_constructor 108 = .ok (.getfield 123, 3) := by decide +kernel
theorem dR_constructor_111 : decode bR_constructor 111 = .ok (.iload_n 3, 1) := by decide +kernel
theorem dR_constructor_112 : decode bR_constructor 112 = .ok (.iastore, 1) := by decide +kernel
theorem dR_constructor_113 : decode bR_constructor 113 = .ok (.aload_n 0, 1) := by decide +kernel
theorem dR_constructor_114 : decode bR_constructor 114 = .ok (.dup, 1) := by decide +kernel
theorem dR_constructor_115 : decode bR_constructor 115 = .ok (.getfield 123, 3) := by decide +kernel
theorem dR_constructor_118 : decode bR_constructor 118 = .ok (.iconst 1, 1) := by decide +kernel
theorem dR_constructor_119 : decode bR_constructor 119 = .ok (.iadd, 1) := by decide +kernel
theorem dR_constructor_120 : decode bR_constructor 120 = .ok (.putfield 123, 3) := by decide +kernel
theorem dR_constructor_123 : decode bR_constructor 123 = .ok (.aload_n 0, 1) := by decide +kernel
theorem dR_constructor_124 : decode bR_constructor 124 = .ok (.getfield 123, 3) := by decide +kernel
theorem dR_constructor_127 : decode bR_constructor 127 = .ok (.iconst 1, 1) := by decide +kernel
theorem dR_constructor_128 : decode bR_constructor 128 = .ok (.isub, 1) := by decide +kernel
theorem dR_constructor_129 : decode bR_constructor 129 = .ok (.ireturn, 1) := by decide +kernel
theorem dR_inhabited_0 : decode bR_inhabited 0 = .ok (.iconst 1, 1) := by decide +kernel
theorem dR_inhabited_1 : decode bR_inhabited 1 = .ok (.istore_n 1, 1) := by decide +kernel
theorem dR_inhabited_2 : decode bR_inhabited 2 = .ok (.iconst 0, 1) := by decide +kernel
theorem dR_inhabited_3 : decode bR_inhabited 3 = .ok (.istore_n 2, 1) := by decide +kernel
theorem dR_inhabited_4 : decode bR_inhabited 4 = .ok (.iload_n 2, 1) := by decide +kernel
theorem dR_inhabited_5 : decode bR_inhabited 5 = .ok (.iconst 5, 1) := by decide +kernel
theorem dR_inhabited_6 : decode bR_inhabited 6 = .ok (.if_icmp .ge 110, 3) := by decide +kernel
theorem dR_inhabited_9 : decode bR_inhabited 9 = .ok (.iconst 0, 1) := by decide +kernel
theorem dR_inhabited_10 : decode bR_inhabited 10 = .ok (.istore_n 3, 1) := by decide +kernel
theorem dR_inhabited_11 : decode bR_inhabited 11 = .ok (.iload_n 3, 1) := by decide +kernel
theorem dR_inhabited_12 : decode bR_inhabited 12 = .ok (.aload_n 0, 1) := by decide +kernel
theorem dR_inhabited_13 : decode bR_inhabited 13 = .ok (.getfield 123, 3) := by decide +kernel
theorem dR_inhabited_16 : decode bR_inhabited 16 = .ok (.if_icmp .ge 94, 3) := by decide +kernel
theorem dR_inhabited_19 : decode bR_inhabited 19 = .ok (.aload_n 0, 1) := by decide +kernel
theorem dR_inhabited_20 : decode bR_inhabited 20 = .ok (.getfield 13, 3) := by decide +kernel
theorem dR_inhabited_23 : decode bR_inhabited 23 = .ok (.iload_n 3, 1) := by decide +kernel
theorem dR_inhabited_24 : decode bR_inhabited 24 = .ok (.iaload, 1) := by decide +kernel
theorem dR_inhabited_25 : decode bR_inhabited 25 = .ok (.ifCond .lt 17, 3) := by decide +kernel
theorem dR_inhabited_28 : decode bR_inhabited 28 = .ok (.iload_n 1, 1) := by decide +kernel
theorem dR_inhabited_29 : decode bR_inhabited 29 = .ok (.aload_n 0, 1) := by decide +kernel
theorem dR_inhabited_30 : decode bR_inhabited 30 = .ok (.getfield 13, 3) := by decide +kernel
theorem dR_inhabited_33 : decode bR_inhabited 33 = .ok (.iload_n 3, 1) := by decide +kernel
theorem dR_inhabited_34 : decode bR_inhabited 34 = .ok (.iaload, 1) := by decide +kernel
theorem dR_inhabited_35 : decode bR_inhabited 35 = .ok (.ishr, 1) := by decide +kernel
theorem dR_inhabited_36 : decode bR_inhabited 36 = .ok (.iconst 1, 1) := by decide +kernel
theorem dR_inhabited_37 : decode bR_inhabited 37 = .ok (.iand, 1) := by decide +kernel
theorem dR_inhabited_38 : decode bR_inhabited 38 = .ok (.iconst 1, 1) := by decide +kernel
theorem dR_inhabited_39 : decode bR_inhabited 39 = .ok (.if_icmp .ne 7, 3) := by decide +kernel
theorem dR_inhabited_42 : decode bR_inhabited 42 = .ok (.iconst 1, 1) := by decide +kernel
theorem dR_inhabited_43 : decode bR_inhabited 43 = .ok (.goto 4, 3) := by decide +kernel
theorem dR_inhabited_46 : decode bR_inhabited 46 = .ok (.iconst 0, 1) := by decide +kernel
theorem dR_inhabited_47 : decode bR_inhabited 47 = .ok (.istore 4, 2) := by decide +kernel
theorem dR_inhabited_49 : decode bR_inhabited 49 = .ok (.aload_n 0, 1) := by decide +kernel
theorem dR_inhabited_50 : decode bR_inhabited 50 = .ok (.getfield 16, 3) := by decide +kernel
theorem dR_inhabited_53 : decode bR_inhabited 53 = .ok (.iload_n 3, 1) := by decide +kernel
theorem dR_inhabited_54 : decode bR_inhabited 54 = .ok (.iaload, 1) := by decide +kernel
theorem dR_inhabited_55 : decode bR_inhabited 55 = .ok (.ifCond .lt 17, 3) := by decide +kernel
theorem dR_inhabited_58 : decode bR_inhabited 58 = .ok (.iload_n 1, 1) := by decide +kernel
theorem dR_inhabited_59 : decode bR_inhabited 59 = .ok (.aload_n 0, 1) := by decide +kernel
theorem dR_inhabited_60 : decode bR_inhabited 60 = .ok (.getfield 16, 3) := by decide +kernel
theorem dR_inhabited_63 : decode bR_inhabited 63 = .ok (.iload_n 3, 1) := by decide +kernel
theorem dR_inhabited_64 : decode bR_inhabited 64 = .ok (.iaload, 1) := by decide +kernel
theorem dR_inhabited_65 : decode bR_inhabited 65 = .ok (.ishr, 1) := by decide +kernel
theorem dR_inhabited_66 : decode bR_inhabited 66 = .ok (.iconst 1, 1) := by decide +kernel
theorem dR_inhabited_67 : decode bR_inhabited 67 = .ok (.iand, 1) := by decide +kernel
theorem dR_inhabited_68 : decode bR_inhabited 68 = .ok (.iconst 1, 1) := by decide +kernel
theorem dR_inhabited_69 : decode bR_inhabited 69 = .ok (.if_icmp .ne 7, 3) := by decide +kernel
theorem dR_inhabited_72 : decode bR_inhabited 72 = .ok (.iconst 1, 1) := by decide +kernel
theorem dR_inhabited_73 : decode bR_inhabited 73 = .ok (.goto 4, 3) := by decide +kernel
theorem dR_inhabited_76 : decode bR_inhabited 76 = .ok (.iconst 0, 1) := by decide +kernel
theorem dR_inhabited_77 : decode bR_inhabited 77 = .ok (.istore 5, 2) := by decide +kernel
theorem dR_inhabited_79 : decode bR_inhabited 79 = .ok (.iload 4, 2) := by decide +kernel
theorem dR_inhabited_81 : decode bR_inhabited 81 = .ok (.ifCond .eq 21, 3) := by decide +kernel
theorem dR_inhabited_84 : decode bR_inhabited 84 = .ok (.iload 5, 2) := by decide +kernel
theorem dR_inhabited_86 : decode bR_inhabited 86 = .ok (.ifCond .eq 16, 3) := by decide +kernel
theorem dR_inhabited_89 : decode bR_inhabited 89 = .ok (.iload_n 1, 1) := by decide +kernel
theorem dR_inhabited_90 : decode bR_inhabited 90 = .ok (.iconst 1, 1) := by decide +kernel
theorem dR_inhabited_91 : decode bR_inhabited 91 = .ok (.aload_n 0, 1) := by decide +kernel
theorem dR_inhabited_92 : decode bR_inhabited 92 = .ok (.getfield 7, 3) := by decide +kernel
theorem dR_inhabited_95 : decode bR_inhabited 95 = .ok (.iload_n 3, 1) := by decide +kernel
theorem dR_inhabited_96 : decode bR_inhabited 96 = .ok (.iaload, 1) := by decide +kernel
theorem dR_inhabited_97 : decode bR_inhabited 97 = .ok (.ishl, 1) := by decide +kernel
theorem dR_inhabited_98 : decode bR_inhabited 98 = .ok (.ior, 1) := by decide +kernel
theorem dR_inhabited_99 : decode bR_inhabited 99 = .ok (.goto 4, 3) := by decide +kernel
theorem dR_inhabited_102 : decode bR_inhabited 102 = .ok (.iload_n 1, 1) := by decide +kernel
theorem dR_inhabited_103 : decode bR_inhabited 103 = .ok (.istore_n 1, 1) := by decide +kernel
theorem dR_inhabited_104 : decode bR_inhabited 104 = .ok (.iinc 3 1, 3) := by decide +kernel
theorem dR_inhabited_107 : decode bR_inhabited 107 = .ok (.goto (-96), 3) := by decide +kernel
theorem dR_inhabited_110 : decode bR_inhabited 110 = .ok (.iinc 2 1, 3) := by decide +kernel
theorem dR_inhabited_113 : decode bR_inhabited 113 = .ok (.goto (-109), 3) := by decide +kernel
theorem dR_inhabited_116 : decode bR_inhabited 116 = .ok (.iload_n 1, 1) := by decide +kernel
theorem dR_inhabited_117 : decode bR_inhabited 117 = .ok (.iconst 1, 1) := by decide +kernel
theorem dR_inhabited_118 : decode bR_inhabited 118 = .ok (.aload_n 0, 1) := by decide +kernel
theorem dR_inhabited_119 : decode bR_inhabited 119 = .ok (.getfield 120, 3) := by decide +kernel
theorem dR_inhabited_122 : decode bR_inhabited 122 = .ok (.iconst 1, 1) := by decide +kernel
theorem dR_inhabited_123 : decode bR_inhabited 123 = .ok (.iadd, 1) := by decide +kernel
theorem dR_inhabited_124 : decode bR_inhabited 124 = .ok (.ishl, 1) := by decide +kernel
theorem dR_inhabited_125 : decode bR_inhabited 125 = .ok (.iconst 1, 1) := by decide +kernel
theorem dR_inhabited_126 : decode bR_inhabited 126 = .ok (.isub, 1) := by decide +kernel
theorem dR_inhabited_127 : decode bR_inhabited 127 = .ok (.if_icmp .ne 7, 3) := by decide +kernel
theorem dR_inhabited_130 : decode bR_inhabited 130 = .ok (.iconst 1, 1) := by decide +kernel
theorem dR_inhabited_131 : decode bR_inhabited 131 = .ok (.goto 4, 3) := by decide +kernel
theorem dR_inhabited_134 : decode bR_inhabited 134 = .ok (.iconst 0, 1) := by decide +kernel
theorem dR_inhabited_135 : decode bR_inhabited 135 = .ok (.ireturn, 1) := by decide +kernel
theorem dR_begin_0 : decode bR_begin 0 = .ok (.aload_n 0, 1) := by decide +kernel
theorem dR_begin_1 : decode bR_begin 1 = .ok (.getfield 52, 3) := by decide +kernel
theorem dR_begin_4 : decode bR_begin 4 = .ok (.ifCond .lt 6, 3) := by decide +kernel
theorem dR_begin_7 : decode bR_begin 7 = .ok (.bipush (-2), 2) := by decide +kernel
theorem dR_begin_9 : decode bR_begin 9 = .ok (.ireturn, 1) := by decide +kernel
theorem dR_begin_10 : decode bR_begin 10 = .ok (.aload_n 0, 1) := by decide +kernel
theorem dR_begin_11 : decode bR_begin 11 = .ok (.iload_n 1, 1) := by decide +kernel
theorem dR_begin_12 : decode bR_begin 12 = .ok (.invokevirtual 145, 3) := by decide +kernel
theorem dR_begin_15 : decode bR_begin 15 = .ok (.ifCond .ne 6, 3) := by decide +kernel
theorem dR_begin_18 : decode bR_begin 18 = .ok (.bipush (-3), 2) := by decide +kernel
theorem dR_begin_20 : decode bR_begin 20 = .ok (.ireturn, 1) := by decide +kernel
theorem dR_begin_21 : decode bR_begin 21 = .ok (.aload_n 0, 1) := by decide +kernel
theorem dR_begin_22 : decode bR_begin 22 = .ok (.invokevirtual 153, 3) := by decide +kernel
theorem dR_begin_25 : decode bR_begin 25 = .ok (.ifCond .ne 6, 3) := by decide +kernel
theorem dR_begin_28 : decode bR_begin 28 = .ok (.bipush (-11), 2) := by decide +kernel
theorem dR_begin_30 : decode bR_begin 30 = .ok (.ireturn, 1) := by decide +kernel
theorem dR_begin_31 : decode bR_begin 31 = .ok (.aload_n 0, 1) := by decide +kernel
theorem dR_begin_32 : decode bR_begin 32 = .ok (.iload_n 1, 1) := by decide +kernel
theorem dR_begin_33 : decode bR_begin 33 = .ok (.putfield 52, 3) := by decide +kernel
theorem dR_begin_36 : decode bR_begin 36 = .ok (.iconst 0, 1) := by decide +kernel
theorem dR_begin_37 : decode bR_begin 37 = .ok (.ireturn, 1) := by decide +kernel
theorem dR_isPattern_0 : decode bR_isPattern 0 = .ok (.iload_n 1, 1) := by decide +kernel
theorem dR_isPattern_1 : decode bR_isPattern 1 = .ok (.ifCond .lt 15, 3) := by decide +kernel
theorem dR_isPattern_4 : decode bR_isPattern 4 = .ok (.iload_n 1, 1) := by decide +kernel
theorem dR_isPattern_5 : decode bR_isPattern 5 = .ok (.aload_n 0, 1) := by decide +kernel
theorem dR_isPattern_6 : decode bR_isPattern 6 = .ok (.getfield 126, 3) := by decide +kernel
theorem dR_isPattern_9 : decode bR_isPattern 9 = .ok (.if_icmp .ge 7, 3) := by decide +kernel
theorem dR_isPattern_12 : decode bR_isPattern 12 = .ok (.iconst 1, 1) := by decide +kernel
theorem dR_isPattern_13 : decode bR_isPattern 13 = .ok (.goto 4, 3) := by decide +kernel
theorem dR_isPattern_16 : decode bR_isPattern 16 = .ok (.iconst 0, 1) := by decide +kernel
theorem dR_isPattern_17 : decode bR_isPattern 17 = .ok (.ireturn, 1) := by decide +kernel
theorem dR_fitsType_0 : decode bR_fitsType 0 = .ok (.aload_n 0, 1) := by decide +kernel
theorem dR_fitsType_1 : decode bR_fitsType 1 = .ok (.getfield 31, 3) := by decide +kernel
theorem dR_fitsType_4 : decode bR_fitsType 4 = .ok (.iload_n 1, 1) := by decide +kernel
theorem dR_fitsType_5 : decode bR_fitsType 5 = .ok (.iaload, 1) := by decide +kernel
theorem dR_fitsType_6 : decode bR_fitsType 6 = .ok (.ifCond .lt 13, 3) := by decide +kernel
theorem dR_fitsType_9 : decode bR_fitsType 9 = .ok (.aload_n 0, 1) := by decide +kernel
theorem dR_fitsType_10 : decode bR_fitsType 10 = .ok (.getfield 31, 3) := by decide +kernel
theorem dR_fitsType_13 : decode bR_fitsType 13 = .ok (.iload_n 1, 1) := by decide +kernel
theorem dR_fitsType_14 : decode bR_fitsType 14 = .ok (.iaload, 1) := by decide +kernel
theorem dR_fitsType_15 : decode bR_fitsType 15 = .ok (.iload_n 2, 1) := by decide +kernel
theorem dR_fitsType_16 : decode bR_fitsType 16 = .ok (.if_icmp .ne 7, 3) := by decide +kernel
theorem dR_fitsType_19 : decode bR_fitsType 19 = .ok (.iconst 1, 1) := by decide +kernel
theorem dR_fitsType_20 : decode bR_fitsType 20 = .ok (.goto 4, 3) := by decide +kernel
theorem dR_fitsType_23 : decode bR_fitsType 23 = .ok (.iconst 0, 1) := by decide +kernel
theorem dR_fitsType_24 : decode bR_fitsType 24 = .ok (.ireturn, 1) := by decide +kernel
theorem dR_pattern_0 : decode bR_pattern 0 = .ok (.aload_n 0, 1) := by decide +kernel
theorem dR_pattern_1 : decode bR_pattern 1 = .ok (.getfield 19, 3) := by decide +kernel
theorem dR_pattern_4 : decode bR_pattern 4 = .ok (.aload_n 0, 1) := by decide +kernel
theorem dR_pattern_5 : decode bR_pattern 5 = .ok (.getfield 126, 3) := by decide +kernel
theorem dR_pattern_8 : decode bR_pattern 8 = .ok (.iload_n 1, 1) := by decide +kernel
theorem dR_pattern_9 : decode bR_pattern 9 = .ok (.iastore, 1) := by decide +kernel
theorem dR_pattern_10 : decode bR_pattern 10 = .ok (.aload_n 0, 1) := by decide +kernel
theorem dR_pattern_11 : decode bR_pattern 11 = .ok (.getfield 22, 3) := by decide +kernel
theorem dR_pattern_14 : decode bR_pattern 14 = .ok (.aload_n 0, 1) := by decide +kernel
theorem dR_pattern_15 : decode bR_pattern 15 = .ok (.getfield 126, 3) := by decide +kernel
theorem dR_pattern_18 : decode bR_pattern 18 = .ok (.iload_n 2, 1) := by decide +kernel
theorem dR_pattern_19 : decode bR_pattern 19 = .ok (.iastore, 1) := by decide +kernel
theorem dR_pattern_20 : decode bR_pattern 20 = .ok (.aload_n 0, 1) := by decide +kernel
theorem dR_pattern_21 : decode bR_pattern 21 = .ok (.getfield 25, 3) := by decide +kernel
theorem dR_pattern_24 : decode bR_pattern 24 = .ok (.aload_n 0, 1) := by decide +kernel
theorem dR_pattern_25 : decode bR_pattern 25 = .ok (.getfield 126, 3) := by decide +kernel
theorem dR_pattern_28 : decode bR_pattern 28 = .ok (.iload_n 3, 1) := by decide +kernel
theorem dR_pattern_29 : decode bR_pattern 29 = .ok (.iastore, 1) := by decide +kernel
theorem dR_pattern_30 : decode bR_pattern 30 = .ok (.aload_n 0, 1) := by decide +kernel
theorem dR_pattern_31 : decode bR_pattern 31 = .ok (.getfield 28, 3) := by decide +kernel
theorem dR_pattern_34 : decode bR_pattern 34 = .ok (.aload_n 0, 1) := by decide +kernel
theorem dR_pattern_35 : decode bR_pattern 35 = .ok (.getfield 126, 3) := by decide +kernel
theorem dR_pattern_38 : decode bR_pattern 38 = .ok (.iload 4, 2) := by decide +kernel
theorem dR_pattern_40 : decode bR_pattern 40 = .ok (.iastore, 1) := by decide +kernel
theorem dR_pattern_41 : decode bR_pattern 41 = .ok (.aload_n 0, 1) := by decide +kernel
theorem dR_pattern_42 : decode bR_pattern 42 = .ok (.getfield 31, 3) := by decide +kernel
theorem dR_pattern_45 : decode bR_pattern 45 = .ok (.aload_n 0, 1) := by decide +kernel
theorem dR_pattern_46 : decode bR_pattern 46 = .ok (.getfield 126, 3) := by decide +kernel
theorem dR_pattern_49 : decode bR_pattern 49 = .ok (.iload 5, 2) := by decide +kernel
theorem dR_pattern_51 : decode bR_pattern 51 = .ok (.iastore, 1) := by decide +kernel
theorem dR_pattern_52 : decode bR_pattern 52 = .ok (.aload_n 0, 1) := by decide +kernel
theorem dR_pattern_53 : decode bR_pattern 53 = .ok (.getfield 34, 3) := by decide +kernel
theorem dR_pattern_56 : decode bR_pattern 56 = .ok (.aload_n 0, 1) := by decide +kernel
theorem dR_pattern_57 : decode bR_pattern 57 = .ok (.getfield 126, 3) := by decide +kernel
theorem dR_pattern_60 : decode bR_pattern 60 = .ok (.iload 6, 2) := by decide +kernel
theorem dR_pattern_62 : decode bR_pattern 62 = .ok (.iastore, 1) := by decide +kernel
theorem dR_pattern_63 : decode bR_pattern 63 = .ok (.aload_n 0, 1) := by decide +kernel
theorem dR_pattern_64 : decode bR_pattern 64 = .ok (.getfield 37, 3) := by decide +kernel
theorem dR_pattern_67 : decode bR_pattern 67 = .ok (.aload_n 0, 1) := by decide +kernel
theorem dR_pattern_68 : decode bR_pattern 68 = .ok (.getfield 126, 3) := by decide +kernel
theorem dR_pattern_71 : decode bR_pattern 71 = .ok (.iload 7, 2) := by decide +kernel
theorem dR_pattern_73 : decode bR_pattern 73 = .ok (.iastore, 1) := by decide +kernel
theorem dR_pattern_74 : decode bR_pattern 74 = .ok (.aload_n 0, 1) := by decide +kernel
theorem dR_pattern_75 : decode bR_pattern 75 = .ok (.dup, 1) := by decide +kernel
theorem dR_pattern_76 : decode bR_pattern 76 = .ok (.getfield 126, 3) := by decide +kernel
theorem dR_pattern_79 : decode bR_pattern 79 = .ok (.iconst 1, 1) := by decide +kernel
theorem dR_pattern_80 : decode bR_pattern 80 = .ok (.iadd, 1) := by decide +kernel
theorem dR_pattern_81 : decode bR_pattern 81 = .ok (.putfield 126, 3) := by decide +kernel
theorem dR_pattern_84 : decode bR_pattern 84 = .ok (.aload_n 0, 1) := by decide +kernel
theorem dR_pattern_85 : decode bR_pattern 85 = .ok (.getfield 126, 3) := by decide +kernel
theorem dR_pattern_88 : decode bR_pattern 88 = .ok (.iconst 1, 1) := by decide +kernel
theorem dR_pattern_89 : decode bR_pattern 89 = .ok (.isub, 1) := by decide +kernel
theorem dR_pattern_90 : decode bR_pattern 90 = .ok (.ireturn, 1) := by decide +kernel
theorem dR_any_0 : decode bR_any 0 = .ok (.aload_n 0, 1) := by decide +kernel
theorem dR_any_1 : decode bR_any 1 = .ok (.getfield 126, 3) := by decide +kernel
theorem dR_any_4 : decode bR_any 4 = .ok (.bipush 60, 2) := by decide +kernel
theorem dR_any_6 : decode bR_any 6 = .ok (.if_icmp .ne 8, 3) := by decide +kernel
theorem dR_any_9 : decode bR_any 9 = .ok (.bipush (-8), 2) := by decide +kernel
theorem dR_any_11 : decode bR_any 11 = .ok (.goto 14, 3) := by decide +kernel
theorem dR_any_14 : decode bR_any 14 = .ok (.aload_n 0, 1) := by decide +kernel
theorem dR_any_15 : decode bR_any 15 = .ok (.iconst 0, 1) := by decide +kernel
theorem dR_any_16 : decode bR_any 16 = .ok (.iconst 0, 1) := by decide +kernel
theorem dR_any_17 : decode bR_any 17 = .ok (.iconst (-1), 1) := by decide +kernel
theorem dR_any_18 : decode bR_any 18 = .ok (.iconst (-1), 1) := by decide +kernel
theorem dR_any_19 : decode bR_any 19 = .ok (.iconst (-1), 1) := by decide +kernel
theorem dR_any_20 : decode bR_any 20 = .ok (.iconst 1, 1) := by decide +kernel
theorem dR_any_21 : decode bR_any 21 = .ok (.iconst 1, 1) := by decide +kernel
theorem dR_any_22 : decode bR_any 22 = .ok (.invokevirtual 157, 3) := by decide +kernel
theorem dR_any_25 : decode bR_any 25 = .ok (.ireturn, 1) := by decide +kernel
theorem dR_number_0 : decode bR_number 0 = .ok (.aload_n 0, 1) := by decide +kernel
theorem dR_number_1 : decode bR_number 1 = .ok (.getfield 126, 3) := by decide +kernel
theorem dR_number_4 : decode bR_number 4 = .ok (.bipush 60, 2) := by decide +kernel
theorem dR_number_6 : decode bR_number 6 = .ok (.if_icmp .ne 8, 3) := by decide +kernel
theorem dR_number_9 : decode bR_number 9 = .ok (.bipush (-8), 2) := by decide +kernel
theorem dR_number_11 : decode bR_number 11 = .ok (.goto 14, 3) := by decide +kernel
theorem dR_number_14 : decode bR_number 14 = .ok (.aload_n 0, 1) := by decide +kernel
theorem dR_number_15 : decode bR_number 15 = .ok (.iconst 1, 1) := by decide +kernel
theorem dR_number_16 : decode bR_number 16 = .ok (.iload_n 1, 1) := by decide +kernel
theorem dR_number_17 : decode bR_number 17 = .ok (.iconst (-1), 1) := by decide +kernel
theorem dR_number_18 : decode bR_number 18 = .ok (.iconst (-1), 1) := by decide +kernel
theorem dR_number_19 : decode bR_number 19 = .ok (.iconst 0, 1) := by decide +kernel
theorem dR_number_20 : decode bR_number 20 = .ok (.iconst 1, 1) := by decide +kernel
theorem dR_number_21 : decode bR_number 21 = .ok (.iconst 1, 1) := by decide +kernel
theorem dR_number_22 : decode bR_number 22 = .ok (.invokevirtual 157, 3) := by decide +kernel
theorem dR_number_25 : decode bR_number 25 = .ok (.ireturn, 1) := by decide +kernel
theorem dR_build_0 : decode bR_build 0 = .ok (.iload_n 1, 1) := by decide +kernel
theorem dR_build_1 : decode bR_build 1 = .ok (.ifCond .lt 11, 3) := by decide +kernel
theorem dR_build_4 : decode bR_build 4 = .ok (.iload_n 1, 1) := by decide +kernel
theorem dR_build_5 : decode bR_build 5 = .ok (.aload_n 0, 1) := by decide +kernel
theorem dR_build_6 : decode bR_build 6 = .ok (.getfield 123, 3) := by decide +kernel
theorem dR_build_9 : decode bR_build 9 = .ok (.if_icmp .lt 6, 3) := by decide +kernel
theorem dR_build_12 : decode bR_build 12 = .ok (.bipush (-4), 2) := by decide +kernel
theorem dR_build_14 : decode bR_build 14 = .ok (.ireturn, 1) := by decide +kernel
theorem dR_build_15 : decode bR_build 15 = .ok (.aload_n 0, 1) := by decide +kernel
theorem dR_build_16 : decode bR_build 16 = .ok (.getfield 13, 3) := by decide +kernel
theorem dR_build_19 : decode bR_build 19 = .ok (.iload_n 1, 1) := by decide +kernel
theorem dR_build_20 : decode bR_build 20 = .ok (.iaload, 1) := by decide +kernel
theorem dR_build_21 : decode bR_build 21 = .ok (.ifCond .lt 7, 3) := by decide +kernel
theorem dR_build_24 : decode bR_build 24 = .ok (.iconst 1, 1) := by decide +kernel
theorem dR_build_25 : decode bR_build 25 = .ok (.goto 4, 3) := by decide +kernel
theorem dR_build_28 : decode bR_build 28 = .ok (.iconst 0, 1) := by decide +kernel
theorem dR_build_29 : decode bR_build 29 = .ok (.istore 4, 2) := by decide +kernel
theorem dR_build_31 : decode bR_build 31 = .ok (.aload_n 0, 1) := by decide +kernel
theorem dR_build_32 : decode bR_build 32 = .ok (.getfield 16, 3) := by decide +kernel
theorem dR_build_35 : decode bR_build 35 = .ok (.iload_n 1, 1) := by decide +kernel
theorem dR_build_36 : decode bR_build 36 = .ok (.iaload, 1) := by decide +kernel
theorem dR_build_37 : decode bR_build 37 = .ok (.ifCond .lt 7, 3) := by decide +kernel
theorem dR_build_40 : decode bR_build 40 = .ok (.iconst 1, 1) := by decide +kernel
theorem dR_build_41 : decode bR_build 41 = .ok (.goto 4, 3) := by decide +kernel
theorem dR_build_44 : decode bR_build 44 = .ok (.iconst 0, 1) := by decide +kernel
theorem dR_build_45 : decode bR_build 45 = .ok (.istore 5, 2) := by decide +kernel
theorem dR_build_47 : decode bR_build 47 = .ok (.iload 4, 2) := by decide +kernel
theorem dR_build_49 : decode bR_build 49 = .ok (.ifCond .eq 11, 3) := by decide +kernel
theorem dR_build_52 : decode bR_build 52 = .ok (.aload_n 0, 1) := by decide +kernel
theorem dR_build_53 : decode bR_build 53 = .ok (.iload_n 2, 1) := by decide +kernel
theorem dR_build_54 : decode bR_build 54 = .ok (.invokevirtual 161, 3) := by decide +kernel
theorem dR_build_57 : decode bR_build 57 = .ok (.ifCond .eq 36, 3) := by decide +kernel
theorem dR_build_60 : decode bR_build 60 = .ok (.iload 4, 2) := by decide +kernel
theorem dR_build_62 : decode bR_build 62 = .ok (.ifCond .ne 8, 3) := by decide +kernel
theorem dR_build_65 : decode bR_build 65 = .ok (.iload_n 2, 1) := by decide +kernel
theorem dR_build_66 : decode bR_build 66 = .ok (.iconst (-1), 1) := by decide +kernel
theorem dR_build_67 : decode bR_build 67 = .ok (.if_icmp .ne 26, 3) := by decide +kernel
theorem dR_build_70 : decode bR_build 70 = .ok (.iload 5, 2) := by decide +kernel
theorem dR_build_72 : decode bR_build 72 = .ok (.ifCond .eq 11, 3) := by decide +kernel
theorem dR_build_75 : decode bR_build 75 = .ok (.aload_n 0, 1) := by decide +kernel
theorem dR_build_76 : decode bR_build 76 = .ok (.iload_n 3, 1) := by decide +kernel
theorem dR_build_77 : decode bR_build 77 = .ok (.invokevirtual 161, 3) := by decide +kernel
theorem dR_build_80 : decode bR_build 80 = .ok (.ifCond .eq 13, 3) := by decide +kernel
theorem dR_build_83 : decode bR_build 83 = .ok (.iload 5, 2) := by decide +kernel
theorem dR_build_85 : decode bR_build 85 = .ok (.ifCond .ne 11, 3) := by decide +kernel
theorem dR_build_88 : decode bR_build 88 = .ok (.iload_n 3, 1) := by decide +kernel
theorem dR_build_89 : decode bR_build 89 = .ok (.iconst (-1), 1) := by decide +kernel
theorem dR_build_90 : decode bR_build 90 = .ok (.if_icmp .eq 6, 3) := by decide +kernel
theorem dR_build_93 : decode bR_build 93 = .ok (.bipush (-5), 2) := by decide +kernel
theorem dR_build_95 : decode bR_build 95 = .ok (.ireturn, 1) := by decide +kernel
theorem dR_build_96 : decode bR_build 96 = .ok (.iload 4, 2) := by decide +kernel
theorem dR_build_98 : decode bR_build 98 = .ok (.ifCond .eq 17, 3) := by decide +kernel
theorem dR_build_101 : decode bR_build 101 = .ok (.aload_n 0, 1) := by decide +kernel
theorem dR_build_102 : decode bR_build 102 = .ok (.iload_n 2, 1) := by decide +kernel
theorem dR_build_103 : decode bR_build 103 = .ok (.aload_n 0, 1) := by decide +kernel
theorem dR_build_104 : decode bR_build 104 = .ok (.getfield 13, 3) := by decide +kernel
theorem dR_build_107 : decode bR_build 107 = .ok (.iload_n 1, 1) := by decide +kernel
theorem dR_build_108 : decode bR_build 108 = .ok (.iaload, 1) := by decide +kernel
theorem dR_build_109 : decode bR_build 109 = .ok (.invokevirtual 164, 3) := by decide +kernel
theorem dR_build_112 : decode bR_build 112 = .ok (.ifCond .eq 22, 3) := by decide +kernel
theorem dR_build_115 : decode bR_build 115 = .ok (.iload 5, 2) := by decide +kernel
theorem dR_build_117 : decode bR_build 117 = .ok (.ifCond .eq 20, 3) := by decide +kernel
theorem dR_build_120 : decode bR_build 120 = .ok (.aload_n 0, 1) := by decide +kernel
theorem dR_build_121 : decode bR_build 121 = .ok (.iload_n 3, 1) := by decide +kernel
theorem dR_build_122 : decode bR_build 122 = .ok (.aload_n 0, 1) := by decide +kernel
theorem dR_build_123 : decode bR_build 123 = .ok (.getfield 16, 3) := by decide +kernel
theorem dR_build_126 : decode bR_build 126 = .ok (.iload_n 1, 1) := by decide +kernel
theorem dR_build_127 : decode bR_build 127 = .ok (.iaload, 1) := by decide +kernel
theorem dR_build_128 : decode bR_build 128 = .ok (.invokevirtual 164, 3) := by decide +kernel
theorem dR_build_131 : decode bR_build 131 = .ok (.ifCond .ne 6, 3) := by decide +kernel
theorem dR_build_134 : decode bR_build 134 = .ok (.bipush (-7), 2) := by decide +kernel
theorem dR_build_136 : decode bR_build 136 = .ok (.ireturn, 1) := by decide +kernel
theorem dR_build_137 : decode bR_build 137 = .ok (.iload 4, 2) := by decide +kernel
theorem dR_build_139 : decode bR_build 139 = .ok (.ifCond .eq 12, 3) := by decide +kernel
theorem dR_build_142 : decode bR_build 142 = .ok (.aload_n 0, 1) := by decide +kernel
theorem dR_build_143 : decode bR_build 143 = .ok (.getfield 34, 3) := by decide +kernel
theorem dR_build_146 : decode bR_build 146 = .ok (.iload_n 2, 1) := by decide +kernel
theorem dR_build_147 : decode bR_build 147 = .ok (.iaload, 1) := by decide +kernel
theorem dR_build_148 : decode bR_build 148 = .ok (.goto 4, 3) := by decide +kernel
theorem dR_build_151 : decode bR_build 151 = .ok (.iconst 0, 1) := by decide +kernel
theorem dR_build_152 : decode bR_build 152 = .ok (.istore 6, 2) := by decide +kernel
theorem dR_build_154 : decode bR_build 154 = .ok (.iload 5, 2) := by decide +kernel
theorem dR_build_156 : decode bR_build 156 = .ok (.ifCond .eq 23, 3) := by decide +kernel
theorem dR_build_159 : decode bR_build 159 = .ok (.aload_n 0, 1) := by decide +kernel
theorem dR_build_160 : decode bR_build 160 = .ok (.getfield 34, 3) := by decide +kernel
theorem dR_build_163 : decode bR_build 163 = .ok (.iload_n 3, 1) := by decide +kernel
theorem dR_build_164 : decode bR_build 164 = .ok (.iaload, 1) := by decide +kernel
theorem dR_build_165 : decode bR_build 165 = .ok (.iload 6, 2) := by decide +kernel
theorem dR_build_167 : decode bR_build 167 = .ok (.if_icmp .le 12, 3) := by decide +kernel
theorem dR_build_170 : decode bR_build 170 = .ok (.aload_n 0, 1) := by decide +kernel
theorem dR_build_171 : decode bR_build 171 = .ok (.getfield 34, 3) := by decide +kernel
theorem dR_build_174 : decode bR_build 174 = .ok (.iload_n 3, 1) := by decide +kernel
theorem dR_build_175 : decode bR_build 175 = .ok (.iaload, 1) := by decide +kernel
theorem dR_build_176 : decode bR_build 176 = .ok (.goto 5, 3) := by decide +kernel
theorem dR_build_179 : decode bR_build 179 = .ok (.iload 6, 2) := by decide +kernel
theorem dR_build_181 : decode bR_build 181 = .ok (.istore 6, 2) := by decide +kernel
theorem dR_build_183 : decode bR_build 183 = .ok (.iload 6, 2) := by decide +kernel
theorem dR_build_185 : decode bR_build 185 = .ok (.iconst 4, 1) := by decide +kernel
theorem dR_build_186 : decode bR_build 186 = .ok (.if_icmp .ne 6, 3) := by decide +kernel
theorem dR_build_189 : decode bR_build 189 = .ok (.bipush (-9), 2) := by decide +kernel
theorem dR_build_191 : decode bR_build 191 = .ok (.ireturn, 1) := by decide +kernel
theorem dR_build_192 : decode bR_build 192 = .ok (.iload 4, 2) := by decide +kernel
theorem dR_build_194 : decode bR_build 194 = .ok (.ifCond .eq 12, 3) := by decide +kernel
theorem dR_build_197 : decode bR_build 197 = .ok (.aload_n 0, 1) := by decide +kernel
theorem dR_build_198 : decode bR_build 198 = .ok (.getfield 37, 3) := by decide +kernel
theorem dR_build_201 : decode bR_build 201 = .ok (.iload_n 2, 1) := by decide +kernel
theorem dR_build_202 : decode bR_build 202 = .ok (.iaload, 1) := by decide +kernel
theorem dR_build_203 : decode bR_build 203 = .ok (.goto 4, 3) := by decide +kernel
theorem dR_build_206 : decode bR_build 206 = .ok (.iconst 1, 1) := by decide +kernel
theorem dR_build_207 : decode bR_build 207 = .ok (.iload 5, 2) := by decide +kernel
theorem dR_build_209 : decode bR_build 209 = .ok (.ifCond .eq 12, 3) := by decide +kernel
theorem dR_build_212 : decode bR_build 212 = .ok (.aload_n 0, 1) := by decide +kernel
theorem dR_build_213 : decode bR_build 213 = .ok (.getfield 37, 3) := by decide +kernel
theorem dR_build_216 : decode bR_build 216 = .ok (.iload_n 3, 1) := by decide +kernel
theorem dR_build_217 : decode bR_build 217 = .ok (.iaload, 1) := by decide +kernel
theorem dR_build_218 : decode bR_build 218 = .ok (.goto 4, 3) := by decide +kernel
theorem dR_build_221 : decode bR_build 221 = .ok (.iconst 1, 1) := by decide +kernel
theorem dR_build_222 : decode bR_build 222 = .ok (.imul, 1) := by decide +kernel
theorem dR_build_223 : decode bR_build 223 = .ok (.istore 7, 2) := by decide +kernel
theorem dR_build_225 : decode bR_build 225 = .ok (.iload 7, 2) := by decide +kernel
theorem dR_build_227 : decode bR_build 227 = .ok (.bipush 8, 2) := by decide +kernel
theorem dR_build_229 : decode bR_build 229 = .ok (.if_icmp .le 6, 3) := by decide +kernel
theorem dR_build_232 : decode bR_build 232 = .ok (.bipush (-10), 2) := by decide +kernel
theorem dR_build_234 : decode bR_build 234 = .ok (.ireturn, 1) := by decide +kernel
theorem dR_build_235 : decode bR_build 235 = .ok (.aload_n 0, 1) := by decide +kernel
theorem dR_build_236 : decode bR_build 236 = .ok (.getfield 126, 3) := by decide +kernel
theorem dR_build_239 : decode bR_build 239 = .ok (.bipush 60, 2) := by decide +kernel
theorem dR_build_241 : decode bR_build 241 = .ok (.if_icmp .ne 8, 3) := by decide +kernel
theorem dR_build_244 : decode bR_build 244 = .ok (.bipush (-8), 2) := by decide +kernel
theorem dR_build_246 : decode bR_build 246 = .ok (.goto 23, 3) := by decide +kernel
theorem dR_build_249 : decode bR_build 249 = .ok (.aload_n 0, 1) := by decide +kernel
theorem dR_build_250 : decode bR_build 250 = .ok (.iconst 2, 1) := by decide +kernel
theorem dR_build_251 : decode bR_build 251 = .ok (.iload_n 1, 1) := by decide +kernel
theorem dR_build_252 : decode bR_build 252 = .ok (.iload_n 2, 1) := by decide +kernel
theorem dR_build_253 : decode bR_build 253 = .ok (.iload_n 3, 1) := by decide +kernel
theorem dR_build_254 : decode bR_build 254 = .ok (.aload_n 0, 1) := by decide +kernel
theorem dR_build_255 : decode bR_build 255 = .ok (.getfield 7, 3) := by decide +kernel
theorem dR_build_258 : decode bR_build 258 = .ok (.iload_n 1, 1) := by decide +kernel
theorem dR_build_259 : decode bR_build 259 = .ok (.iaload, 1) := by decide +kernel
theorem dR_build_260 : decode bR_build 260 = .ok (.iload 6, 2) := by decide +kernel
theorem dR_build_262 : decode bR_build 262 = .ok (.iconst 1, 1) := by decide +kernel
theorem dR_build_263 : decode bR_build 263 = .ok (.iadd, 1) := by decide +kernel
theorem dR_build_264 : decode bR_build 264 = .ok (.iload 7, 2) := by decide +kernel
theorem dR_build_266 : decode bR_build 266 = .ok (.invokevirtual 157, 3) := by decide +kernel
theorem dR_build_269 : decode bR_build 269 = .ok (.ireturn, 1) := by decide +kernel
theorem dR_either_0 : decode bR_either 0 = .ok (.aload_n 0, 1) := by decide +kernel
theorem dR_either_1 : decode bR_either 1 = .ok (.iload_n 1, 1) := by decide +kernel
theorem dR_either_2 : decode bR_either 2 = .ok (.invokevirtual 161, 3) := by decide +kernel
theorem dR_either_5 : decode bR_either 5 = .ok (.ifCond .eq 11, 3) := by decide +kernel
theorem dR_either_8 : decode bR_either 8 = .ok (.aload_n 0, 1) := by decide +kernel
theorem dR_either_9 : decode bR_either 9 = .ok (.iload_n 2, 1) := by decide +kernel
theorem dR_either_10 : decode bR_either 10 = .ok (.invokevirtual 161, 3) := by decide +kernel
theorem dR_either_13 : decode bR_either 13 = .ok (.ifCond .ne 6, 3) := by decide +kernel
theorem dR_either_16 : decode bR_either 16 = .ok (.bipush (-5), 2) := by decide +kernel
theorem dR_either_18 : decode bR_either 18 = .ok (.ireturn, 1) := by decide +kernel
theorem dR_either_19 : decode bR_either 19 = .ok (.aload_n 0, 1) := by decide +kernel
theorem dR_either_20 : decode bR_either 20 = .ok (.getfield 31, 3) := by decide +kernel
theorem dR_either_23 : decode bR_either 23 = .ok (.iload_n 1, 1) := by decide +kernel
theorem dR_either_24 : decode bR_either 24 = .ok (.iaload, 1) := by decide +kernel
theorem dR_either_25 : decode bR_either 25 = .ok (.istore_n 3, 1) := by decide +kernel
theorem dR_either_26 : decode bR_either 26 = .ok (.aload_n 0, 1) := by decide +kernel
theorem dR_either_27 : decode bR_either 27 = .ok (.getfield 31, 3) := by decide +kernel
theorem dR_either_30 : decode bR_either 30 = .ok (.iload_n 2, 1) := by decide +kernel
theorem dR_either_31 : decode bR_either 31 = .ok (.iaload, 1) := by decide +kernel
theorem dR_either_32 : decode bR_either 32 = .ok (.istore 4, 2) := by decide +kernel
theorem dR_either_34 : decode bR_either 34 = .ok (.iload_n 3, 1) := by decide +kernel
theorem dR_either_35 : decode bR_either 35 = .ok (.ifCond .lt 17, 3) := by decide +kernel
theorem dR_either_38 : decode bR_either 38 = .ok (.iload 4, 2) := by decide +kernel
theorem dR_either_40 : decode bR_either 40 = .ok (.ifCond .lt 12, 3) := by decide +kernel
theorem dR_either_43 : decode bR_either 43 = .ok (.iload_n 3, 1) := by decide +kernel
theorem dR_either_44 : decode bR_either 44 = .ok (.iload 4, 2) := by decide +kernel
theorem dR_either_46 : decode bR_either 46 = .ok (.if_icmp .eq 6, 3) := by decide +kernel
theorem dR_either_49 : decode bR_either 49 = .ok (.bipush (-7), 2) := by decide +kernel
theorem dR_either_51 : decode bR_either 51 = .ok (.ireturn, 1) := by decide +kernel
theorem dR_either_52 : decode bR_either 52 = .ok (.aload_n 0, 1) := by decide +kernel
theorem dR_either_53 : decode bR_either 53 = .ok (.getfield 37, 3) := by decide +kernel
theorem dR_either_56 : decode bR_either 56 = .ok (.iload_n 1, 1) := by decide +kernel
theorem dR_either_57 : decode bR_either 57 = .ok (.iaload, 1) := by decide +kernel
theorem dR_either_58 : decode bR_either 58 = .ok (.aload_n 0, 1) := by decide +kernel
theorem dR_either_59 : decode bR_either 59 = .ok (.getfield 37, 3) := by decide +kernel
theorem dR_either_62 : decode bR_either 62 = .ok (.iload_n 2, 1) := by decide +kernel
theorem dR_either_63 : decode bR_either 63 = .ok (.iaload, 1) := by decide +kernel
theorem dR_either_64 : decode bR_either 64 = .ok (.iadd, 1) := by decide +kernel
theorem dR_either_65 : decode bR_either 65 = .ok (.bipush 8, 2) := by decide +kernel
theorem dR_either_67 : decode bR_either 67 = .ok (.if_icmp .le 6, 3) := by decide +kernel
theorem dR_either_70 : decode bR_either 70 = .ok (.bipush (-10), 2) := by decide +kernel
theorem dR_either_72 : decode bR_either 72 = .ok (.ireturn, 1) := by decide +kernel
theorem dR_either_73 : decode bR_either 73 = .ok (.aload_n 0, 1) := by decide +kernel
theorem dR_either_74 : decode bR_either 74 = .ok (.getfield 34, 3) := by decide +kernel
theorem dR_either_77 : decode bR_either 77 = .ok (.iload_n 1, 1) := by decide +kernel
theorem dR_either_78 : decode bR_either 78 = .ok (.iaload, 1) := by decide +kernel
theorem dR_either_79 : decode bR_either 79 = .ok (.aload_n 0, 1) := by decide +kernel
theorem dR_either_80 : decode bR_either 80 = .ok (.getfield 34, 3) := by decide +kernel
theorem dR_either_83 : decode bR_either 83 = .ok (.iload_n 2, 1) := by decide +kernel
theorem dR_either_84 : decode bR_either 84 = .ok (.iaload, 1) := by decide +kernel
theorem dR_either_85 : decode bR_either 85 = .ok (.if_icmp .le 12, 3) := by decide +kernel
theorem dR_either_88 : decode bR_either 88 = .ok (.aload_n 0, 1) := by decide +kernel
theorem dR_either_89 : decode bR_either 89 = .ok (.getfield 34, 3) := by decide +kernel
theorem dR_either_92 : decode bR_either 92 = .ok (.iload_n 1, 1) := by decide +kernel
theorem dR_either_93 : decode bR_either 93 = .ok (.iaload, 1) := by decide +kernel
theorem dR_either_94 : decode bR_either 94 = .ok (.goto 9, 3) := by decide +kernel
theorem dR_either_97 : decode bR_either 97 = .ok (.aload_n 0, 1) := by decide +kernel
theorem dR_either_98 : decode bR_either 98 = .ok (.getfield 34, 3) := by decide +kernel
theorem dR_either_101 : decode bR_either 101 = .ok (.iload_n 2, 1) := by decide +kernel
theorem dR_either_102 : decode bR_either 102 = .ok (.iaload, 1) := by decide +kernel
theorem dR_either_103 : decode bR_either 103 = .ok (.istore 5, 2) := by decide +kernel
theorem dR_either_105 : decode bR_either 105 = .ok (.aload_n 0, 1) := by decide +kernel
theorem dR_either_106 : decode bR_either 106 = .ok (.getfield 126, 3) := by decide +kernel
theorem dR_either_109 : decode bR_either 109 = .ok (.bipush 60, 2) := by decide +kernel
theorem dR_either_111 : decode bR_either 111 = .ok (.if_icmp .ne 8, 3) := by decide +kernel
theorem dR_either_114 : decode bR_either 114 = .ok (.bipush (-8), 2) := by decide +kernel
theorem dR_either_116 : decode bR_either 116 = .ok (.goto 36, 3) := by decide +kernel
theorem dR_either_119 : decode bR_either 119 = .ok (.aload_n 0, 1) := by decide +kernel
theorem dR_either_120 : decode bR_either 120 = .ok (.iconst 3, 1) := by decide +kernel
theorem dR_either_121 : decode bR_either 121 = .ok (.iconst 0, 1) := by decide +kernel
theorem dR_either_122 : decode bR_either 122 = .ok (.iload_n 1, 1) := by decide +kernel
theorem dR_either_123 : decode bR_either 123 = .ok (.iload_n 2, 1) := by decide +kernel
theorem dR_either_124 : decode bR_either 124 = .ok (.iload_n 3, 1) := by decide +kernel
theorem dR_either_125 : decode bR_either 125 = .ok (.ifCond .ge 8, 3) := by decide +kernel
theorem dR_either_128 : decode bR_either 128 = .ok (.iload 4, 2) := by decide +kernel
theorem dR_either_130 : decode bR_either 130 = .ok (.goto 4, 3) := by decide +kernel
theorem dR_either_133 : decode bR_either 133 = .ok (.iload_n 3, 1) := by decide +kernel
theorem dR_either_134 : decode bR_either 134 = .ok (.iload 5, 2) := by decide +kernel
theorem dR_either_136 : decode bR_either 136 = .ok (.aload_n 0, 1) := by decide +kernel
theorem dR_either_137 : decode bR_either 137 = .ok (.getfield 37, 3) := by decide +kernel
theorem dR_either_140 : decode bR_either 140 = .ok (.iload_n 1, 1) := by decide +kernel
theorem dR_either_141 : decode bR_either 141 = .ok (.iaload, 1) := by decide +kernel
theorem dR_either_142 : decode bR_either 142 = .ok (.aload_n 0, 1) := by decide +kernel
theorem dR_either_143 : decode bR_either 143 = .ok (.getfield 37, 3) := by decide +kernel
theorem dR_either_146 : decode bR_either 146 = .ok (.iload_n 2, 1) := by decide +kernel
theorem dR_either_147 : decode bR_either 147 = .ok (.iaload, 1) := by decide +kernel
theorem dR_either_148 : decode bR_either 148 = .ok (.iadd, 1) := by decide +kernel
theorem dR_either_149 : decode bR_either 149 = .ok (.invokevirtual 157, 3) := by decide +kernel
theorem dR_either_152 : decode bR_either 152 = .ok (.ireturn, 1) := by decide +kernel
theorem dR_writeOne_0 : decode bR_writeOne 0 = .ok (.aload_n 0, 1) := by decide +kernel
theorem dR_writeOne_1 : decode bR_writeOne 1 = .ok (.getfield 68, 3) := by decide +kernel
theorem dR_writeOne_4 : decode bR_writeOne 4 = .ok (.iload_n 2, 1) := by decide +kernel
theorem dR_writeOne_5 : decode bR_writeOne 5 = .ok (.iaload, 1) := by decide +kernel
theorem dR_writeOne_6 : decode bR_writeOne 6 = .ok (.istore_n 3, 1) := by decide +kernel
theorem dR_writeOne_7 : decode bR_writeOne 7 = .ok (.aload_n 0, 1) := by decide +kernel
theorem dR_writeOne_8 : decode bR_writeOne 8 = .ok (.getfield 71, 3) := by decide +kernel
theorem dR_writeOne_11 : decode bR_writeOne 11 = .ok (.iload_n 2, 1) := by decide +kernel
theorem dR_writeOne_12 : decode bR_writeOne 12 = .ok (.iaload, 1) := by decide +kernel
theorem dR_writeOne_13 : decode bR_writeOne 13 = .ok (.istore 4, 2) := by decide +kernel
theorem dR_writeOne_15 : decode bR_writeOne 15 = .ok (.aload_n 0, 1) := by decide +kernel
theorem dR_writeOne_16 : decode bR_writeOne 16 = .ok (.getfield 74, 3) := by decide +kernel
theorem dR_writeOne_19 : decode bR_writeOne 19 = .ok (.iload_n 2, 1) := by decide +kernel
theorem dR_writeOne_20 : decode bR_writeOne 20 = .ok (.iaload, 1) := by decide +kernel
theorem dR_writeOne_21 : decode bR_writeOne 21 = .ok (.istore 5, 2) := by decide +kernel
theorem dR_writeOne_23 : decode bR_writeOne 23 = .ok (.aload_n 0, 1) := by decide +kernel
theorem dR_writeOne_24 : decode bR_writeOne 24 = .ok (.getfield 19, 3) := by decide +kernel
theorem dR_writeOne_27 : decode bR_writeOne 27 = .ok (.iload_n 3, 1) := by decide +kernel
theorem dR_writeOne_28 : decode bR_writeOne 28 = .ok (.iaload, 1) := by decide +kernel
theorem dR_writeOne_29 : decode bR_writeOne 29 = .ok (.ifCond .ne 5, 3) := by decide +kernel
theorem dR_writeOne_32 : decode bR_writeOne 32 = .ok (.iload_n 2, 1) := by decide +kernel
theorem dR_writeOne_33 : decode bR_writeOne 33 = .ok (.ireturn, 1) := by decide +kernel
theorem dR_writeOne_34 : decode bR_writeOne 34 = .ok (.aload_n 0, 1) := by decide +kernel
theorem dR_writeOne_35 : decode bR_writeOne 35 = .ok (.getfield 19, 3) := by decide +kernel
theorem dR_writeOne_38 : decode bR_writeOne 38 = .ok (.iload_n 3, 1) := by decide +kernel
theorem dR_writeOne_39 : decode bR_writeOne 39 = .ok (.iaload, 1) := by decide +kernel
theorem dR_writeOne_40 : decode bR_writeOne 40 = .ok (.iconst 3, 1) := by decide +kernel
theorem dR_writeOne_41 : decode bR_writeOne 41 = .ok (.if_icmp .ne 86, 3) := by decide +kernel
theorem dR_writeOne_44 : decode bR_writeOne 44 = .ok (.iload 4, 2) := by decide +kernel
theorem dR_writeOne_46 : decode bR_writeOne 46 = .ok (.aload_n 0, 1) := by decide +kernel
theorem dR_writeOne_47 : decode bR_writeOne 47 = .ok (.getfield 37, 3) := by decide +kernel
theorem dR_writeOne_50 : decode bR_writeOne 50 = .ok (.aload_n 0, 1) := by decide +kernel
theorem dR_writeOne_51 : decode bR_writeOne 51 = .ok (.getfield 25, 3) := by decide +kernel
theorem dR_writeOne_54 : decode bR_writeOne 54 = .ok (.iload_n 3, 1) := by decide +kernel
theorem dR_writeOne_55 : decode bR_writeOne 55 = .ok (.iaload, 1) := by decide +kernel
theorem dR_writeOne_56 : decode bR_writeOne 56 = .ok (.iaload, 1) := by decide +kernel
theorem dR_writeOne_57 : decode bR_writeOne 57 = .ok (.if_icmp .lt 7, 3) := by decide +kernel
theorem dR_writeOne_60 : decode bR_writeOne 60 = .ok (.iconst 1, 1) := by decide +kernel
theorem dR_writeOne_61 : decode bR_writeOne 61 = .ok (.goto 4, 3) := by decide +kernel
theorem dR_writeOne_64 : decode bR_writeOne 64 = .ok (.iconst 0, 1) := by decide +kernel
theorem dR_writeOne_65 : decode bR_writeOne 65 = .ok (.istore 6, 2) := by decide +kernel
theorem dR_writeOne_67 : decode bR_writeOne 67 = .ok (.aload_n 0, 1) := by decide +kernel
theorem dR_writeOne_68 : decode bR_writeOne 68 = .ok (.getfield 68, 3) := by decide +kernel
theorem dR_writeOne_71 : decode bR_writeOne 71 = .ok (.iload_n 2, 1) := by decide +kernel
theorem dR_writeOne_72 : decode bR_writeOne 72 = .ok (.iload 6, 2) := by decide +kernel
theorem dR_writeOne_74 : decode bR_writeOne 74 = .ok (.ifCond .eq 12, 3) := by decide +kernel
theorem dR_writeOne_77 : decode bR_writeOne 77 = .ok (.aload_n 0, 1) := by decide +kernel
theorem dR_writeOne_78 : decode bR_writeOne 78 = .ok (.getfield 28, 3) := by decide +kernel
theorem dR_writeOne_81 : decode bR_writeOne 81 = .ok (.iload_n 3, 1) := by decide +kernel
theorem dR_writeOne_82 : decode bR_writeOne 82 = .ok (.iaload, 1) := by decide +kernel
theorem dR_writeOne_83 : decode bR_writeOne 83 = .ok (.goto 9, 3) := by decide +kernel
theorem dR_writeOne_86 : decode bR_writeOne 86 = .ok (.aload_n 0, 1) := by decide +kernel
theorem dR_writeOne_87 : decode bR_writeOne 87 = .ok (.getfield 25, 3) := by decide +kernel
theorem dR_writeOne_90 : decode bR_writeOne 90 = .ok (.iload_n 3, 1) := by decide +kernel
theorem dR_writeOne_91 : decode bR_writeOne 91 = .ok (.iaload, 1) := by decide +kernel
theorem dR_writeOne_92 : decode bR_writeOne 92 = .ok (.iastore, 1) := by decide +kernel
theorem dR_writeOne_93 : decode bR_writeOne 93 = .ok (.aload_n 0, 1) := by decide +kernel
theorem dR_writeOne_94 : decode bR_writeOne 94 = .ok (.getfield 71, 3) := by decide +kernel
theorem dR_writeOne_97 : decode bR_writeOne 97 = .ok (.iload_n 2, 1) := by decide +kernel
theorem dR_writeOne_98 : decode bR_writeOne 98 = .ok (.iload 6, 2) := by decide +kernel
theorem dR_writeOne_100 : decode bR_writeOne 100 = .ok (.ifCond .eq 20, 3) := by decide +kernel
theorem dR_writeOne_103 : decode bR_writeOne 103 = .ok (.iload 4, 2) := by decide +kernel
theorem dR_writeOne_105 : decode bR_writeOne 105 = .ok (.aload_n 0, 1) := by decide +kernel
theorem dR_writeOne_106 : decode bR_writeOne 106 = .ok (.getfield 37, 3) := by decide +kernel
theorem dR_writeOne_109 : decode bR_writeOne 109 = .ok (.aload_n 0, 1) := by decide +kernel
theorem dR_writeOne_110 : decode bR_writeOne 110 = .ok (.getfield 25, 3) := by decide +kernel
theorem dR_writeOne_113 : decode bR_writeOne 113 = .ok (.iload_n 3, 1) := by decide +kernel
theorem dR_writeOne_114 : decode bR_writeOne 114 = .ok (.iaload, 1) := by decide +kernel
theorem dR_writeOne_115 : decode bR_writeOne 115 = .ok (.iaload, 1) := by decide +kernel
theorem dR_writeOne_116 : decode bR_writeOne 116 = .ok (.isub, 1) := by decide +kernel
theorem dR_writeOne_117 : decode bR_writeOne 117 = .ok (.goto 5, 3) := by decide +kernel
theorem dR_writeOne_120 : decode bR_writeOne 120 = .ok (.iload 4, 2) := by decide +kernel
theorem dR_writeOne_122 : decode bR_writeOne 122 = .ok (.iastore, 1) := by decide +kernel
theorem dR_writeOne_123 : decode bR_writeOne 123 = .ok (.iload_n 2, 1) := by decide +kernel
theorem dR_writeOne_124 : decode bR_writeOne 124 = .ok (.iconst 1, 1) := by decide +kernel
theorem dR_writeOne_125 : decode bR_writeOne 125 = .ok (.iadd, 1) := by decide +kernel
theorem dR_writeOne_126 : decode bR_writeOne 126 = .ok (.ireturn, 1) := by decide +kernel
theorem dR_writeOne_127 : decode bR_writeOne 127 = .ok (.aload_n 0, 1) := by decide +kernel
theorem dR_writeOne_128 : decode bR_writeOne 128 = .ok (.getfield 62, 3) := by decide +kernel
theorem dR_writeOne_131 : decode bR_writeOne 131 = .ok (.bipush 16, 2) := by decide +kernel
theorem dR_writeOne_133 : decode bR_writeOne 133 = .ok (.iload_n 1, 1) := by decide +kernel
theorem dR_writeOne_134 : decode bR_writeOne 134 = .ok (.imul, 1) := by decide +kernel
theorem dR_writeOne_135 : decode bR_writeOne 135 = .ok (.iload 5, 2) := by decide +kernel
theorem dR_writeOne_137 : decode bR_writeOne 137 = .ok (.iadd, 1) := by decide +kernel
theorem dR_writeOne_138 : decode bR_writeOne 138 = .ok (.aload_n 0, 1) := by decide +kernel
theorem dR_writeOne_139 : decode bR_writeOne 139 = .ok (.getfield 19, 3) := by decide +kernel
theorem dR_writeOne_142 : decode bR_writeOne 142 = .ok (.iload_n 3, 1) := by decide +kernel
theorem dR_writeOne_143 : decode bR_writeOne 143 = .ok (.iaload, 1) := by decide +kernel
theorem dR_writeOne_144 : decode bR_writeOne 144 = .ok (.iastore, 1) := by decide +kernel
theorem dR_writeOne_145 : decode bR_writeOne 145 = .ok (.aload_n 0, 1) := by decide +kernel
theorem dR_writeOne_146 : decode bR_writeOne 146 = .ok (.getfield 65, 3) := by decide +kernel
theorem dR_writeOne_149 : decode bR_writeOne 149 = .ok (.bipush 16, 2) := by decide +kernel
theorem dR_writeOne_151 : decode bR_writeOne 151 = .ok (.iload_n 1, 1) := by decide +kernel
theorem dR_writeOne_152 : decode bR_writeOne 152 = .ok (.imul, 1) := by decide +kernel
theorem dR_writeOne_153 : decode bR_writeOne 153 = .ok (.iload 5, 2) := by decide +kernel
theorem dR_writeOne_155 : decode bR_writeOne 155 = .ok (.iadd, 1) := by decide +kernel
theorem dR_writeOne_156 : decode bR_writeOne 156 = .ok (.aload_n 0, 1) := by decide +kernel
theorem dR_writeOne_157 : decode bR_writeOne 157 = .ok (.getfield 22, 3) := by decide +kernel
theorem dR_writeOne_160 : decode bR_writeOne 160 = .ok (.iload_n 3, 1) := by decide +kernel
theorem dR_writeOne_161 : decode bR_writeOne 161 = .ok (.iaload, 1) := by decide +kernel
theorem dR_writeOne_162 : decode bR_writeOne 162 = .ok (.iastore, 1) := by decide +kernel
theorem dR_writeOne_163 : decode bR_writeOne 163 = .ok (.aload_n 0, 1) := by decide +kernel
theorem dR_writeOne_164 : decode bR_writeOne 164 = .ok (.getfield 19, 3) := by decide +kernel
theorem dR_writeOne_167 : decode bR_writeOne 167 = .ok (.iload_n 3, 1) := by decide +kernel
theorem dR_writeOne_168 : decode bR_writeOne 168 = .ok (.iaload, 1) := by decide +kernel
theorem dR_writeOne_169 : decode bR_writeOne 169 = .ok (.iconst 1, 1) := by decide +kernel
theorem dR_writeOne_170 : decode bR_writeOne 170 = .ok (.if_icmp .eq 12, 3) := by decide +kernel
theorem dR_writeOne_173 : decode bR_writeOne 173 = .ok (.aload_n 0, 1) := by decide +kernel
theorem dR_writeOne_174 : decode bR_writeOne 174 = .ok (.getfield 25, 3) := by decide +kernel
theorem dR_writeOne_177 : decode bR_writeOne 177 = .ok (.iload_n 3, 1) := by decide +kernel
theorem dR_writeOne_178 : decode bR_writeOne 178 = .ok (.iaload, 1) := by decide +kernel
theorem dR_writeOne_179 : decode bR_writeOne 179 = .ok (.ifCond .ge 5, 3) := by decide +kernel
theorem dR_writeOne_182 : decode bR_writeOne 182 = .ok (.iload_n 2, 1) := by decide +kernel
theorem dR_writeOne_183 : decode bR_writeOne 183 = .ok (.ireturn, 1) := by decide +kernel
theorem dR_writeOne_184 : decode bR_writeOne 184 = .ok (.aload_n 0, 1) := by decide +kernel
theorem dR_writeOne_185 : decode bR_writeOne 185 = .ok (.getfield 28, 3) := by decide +kernel
theorem dR_writeOne_188 : decode bR_writeOne 188 = .ok (.iload_n 3, 1) := by decide +kernel
theorem dR_writeOne_189 : decode bR_writeOne 189 = .ok (.iaload, 1) := by decide +kernel
theorem dR_writeOne_190 : decode bR_writeOne 190 = .ok (.ifCond .ge 7, 3) := by decide +kernel
theorem dR_writeOne_193 : decode bR_writeOne 193 = .ok (.iconst 1, 1) := by decide +kernel
theorem dR_writeOne_194 : decode bR_writeOne 194 = .ok (.goto 14, 3) := by decide +kernel
theorem dR_writeOne_197 : decode bR_writeOne 197 = .ok (.aload_n 0, 1) := by decide +kernel
theorem dR_writeOne_198 : decode bR_writeOne 198 = .ok (.getfield 37, 3) := by decide +kernel
theorem dR_writeOne_201 : decode bR_writeOne 201 = .ok (.aload_n 0, 1) := by decide +kernel
theorem dR_writeOne_202 : decode bR_writeOne 202 = .ok (.getfield 28, 3) := by decide +kernel
theorem dR_writeOne_205 : decode bR_writeOne 205 = .ok (.iload_n 3, 1) := by decide +kernel
theorem dR_writeOne_206 : decode bR_writeOne 206 = .ok (.iaload, 1) := by decide +kernel
theorem dR_writeOne_207 : decode bR_writeOne 207 = .ok (.iaload, 1) := by decide +kernel
theorem dR_writeOne_208 : decode bR_writeOne 208 = .ok (.istore 6, 2) := by decide +kernel
theorem dR_writeOne_210 : decode bR_writeOne 210 = .ok (.aload_n 0, 1) := by decide +kernel
theorem dR_writeOne_211 : decode bR_writeOne 211 = .ok (.getfield 68, 3) := by decide +kernel
theorem dR_writeOne_214 : decode bR_writeOne 214 = .ok (.iload_n 2, 1) := by decide +kernel
theorem dR_writeOne_215 : decode bR_writeOne 215 = .ok (.aload_n 0, 1) := by decide +kernel
theorem dR_writeOne_216 : decode bR_writeOne 216 = .ok (.getfield 25, 3) := by decide +kernel
theorem dR_writeOne_219 : decode bR_writeOne 219 = .ok (.iload_n 3, 1) := by decide +kernel
theorem dR_writeOne_220 : decode bR_writeOne 220 = .ok (.iaload, 1) := by decide +kernel
theorem dR_writeOne_221 : decode bR_writeOne 221 = .ok (.iastore, 1) := by decide +kernel
theorem dR_writeOne_222 : decode bR_writeOne 222 = .ok (.aload_n 0, 1) := by decide +kernel
theorem dR_writeOne_223 : decode bR_writeOne 223 = .ok (.getfield 71, 3) := by decide +kernel
theorem dR_writeOne_226 : decode bR_writeOne 226 = .ok (.iload_n 2, 1) := by decide +kernel
theorem dR_writeOne_227 : decode bR_writeOne 227 = .ok (.iload 4, 2) := by decide +kernel
theorem dR_writeOne_229 : decode bR_writeOne 229 = .ok (.iload 6, 2) := by decide +kernel
theorem dR_writeOne_231 : decode bR_writeOne 231 = .ok (.idiv, 1) := by decide +kernel
theorem dR_writeOne_232 : decode bR_writeOne 232 = .ok (.iastore, 1) := by decide +kernel
theorem dR_writeOne_233 : decode bR_writeOne 233 = .ok (.aload_n 0, 1) := by decide +kernel
theorem dR_writeOne_234 : decode bR_writeOne 234 = .ok (.getfield 74, 3) := by decide +kernel
theorem dR_writeOne_237 : decode bR_writeOne 237 = .ok (.iload_n 2, 1) := by decide +kernel
theorem dR_writeOne_238 : decode bR_writeOne 238 = .ok (.iconst 2, 1) := by decide +kernel
theorem dR_writeOne_239 : decode bR_writeOne 239 = .ok (.iload 5, 2) := by decide +kernel
theorem dR_writeOne_241 : decode bR_writeOne 241 = .ok (.imul, 1) := by decide +kernel
theorem dR_writeOne_242 : decode bR_writeOne 242 = .ok (.iastore, 1) := by decide +kernel
theorem dR_writeOne_243 : decode bR_writeOne 243 = .ok (.aload_n 0, 1) := by decide +kernel
theorem dR_writeOne_244 : decode bR_writeOne 244 = .ok (.getfield 28, 3) := by decide +kernel
theorem dR_writeOne_247 : decode bR_writeOne 247 = .ok (.iload_n 3, 1) := by decide +kernel
theorem dR_writeOne_248 : decode bR_writeOne 248 = .ok (.iaload, 1) := by decide +kernel
theorem dR_writeOne_249 : decode bR_writeOne 249 = .ok (.ifCond .ge 7, 3) := by decide +kernel
theorem dR_writeOne_252 : decode bR_writeOne 252 = .ok (.iload_n 2, 1) := by decide +kernel
theorem dR_writeOne_253 : decode bR_writeOne 253 = .ok (.iconst 1, 1) := by decide +kernel
theorem dR_writeOne_254 : decode bR_writeOne 254 = .ok (.iadd, 1) := by decide +kernel
theorem dR_writeOne_255 : decode bR_writeOne 255 = .ok (.ireturn, 1) := by decide +kernel
theorem dR_writeOne_256 : decode bR_writeOne 256 = .ok (.aload_n 0, 1) := by decide +kernel
theorem dR_writeOne_257 : decode bR_writeOne 257 = .ok (.getfield 68, 3) := by decide +kernel
theorem dR_writeOne_260 : decode bR_writeOne 260 = .ok (.iload_n 2, 1) := by decide +kernel
theorem dR_writeOne_261 : decode bR_writeOne 261 = .ok (.iconst 1, 1) := by decide +kernel
theorem dR_writeOne_262 : decode bR_writeOne 262 = .ok (.iadd, 1) := by decide +kernel
theorem dR_writeOne_263 : decode bR_writeOne 263 = .ok (.aload_n 0, 1) := by decide +kernel
theorem dR_writeOne_264 : decode bR_writeOne 264 = .ok (.getfield 28, 3) := by decide +kernel
theorem dR_writeOne_267 : decode bR_writeOne 267 = .ok (.iload_n 3, 1) := by decide +kernel
theorem dR_writeOne_268 : decode bR_writeOne 268 = .ok (.iaload, 1) := by decide +kernel
theorem dR_writeOne_269 : decode bR_writeOne 269 = .ok (.iastore, 1) := by decide +kernel
theorem dR_writeOne_270 : decode bR_writeOne 270 = .ok (.aload_n 0, 1) := by decide +kernel
theorem dR_writeOne_271 : decode bR_writeOne 271 = .ok (.getfield 71, 3) := by decide +kernel
theorem dR_writeOne_274 : decode bR_writeOne 274 = .ok (.iload_n 2, 1) := by decide +kernel
theorem dR_writeOne_275 : decode bR_writeOne 275 = .ok (.iconst 1, 1) := by decide +kernel
theorem dR_writeOne_276 : decode bR_writeOne 276 = .ok (.iadd, 1) := by decide +kernel
theorem dR_writeOne_277 : decode bR_writeOne 277 = .ok (.iload 4, 2) := by decide +kernel
theorem dR_writeOne_279 : decode bR_writeOne 279 = .ok (.iload 6, 2) := by decide +kernel
theorem dR_writeOne_281 : decode bR_writeOne 281 = .ok (.irem, 1) := by decide +kernel
theorem dR_writeOne_282 : decode bR_writeOne 282 = .ok (.iastore, 1) := by decide +kernel
theorem dR_writeOne_283 : decode bR_writeOne 283 = .ok (.aload_n 0, 1) := by decide +kernel
theorem dR_writeOne_284 : decode bR_writeOne 284 = .ok (.getfield 74, 3) := by decide +kernel
theorem dR_writeOne_287 : decode bR_writeOne 287 = .ok (.iload_n 2, 1) := by decide +kernel
theorem dR_writeOne_288 : decode bR_writeOne 288 = .ok (.iconst 1, 1) := by decide +kernel
theorem dR_writeOne_289 : decode bR_writeOne 289 = .ok (.iadd, 1) := by decide +kernel
theorem dR_writeOne_290 : decode bR_writeOne 290 = .ok (.iconst 2, 1) := by decide +kernel
theorem dR_writeOne_291 : decode bR_writeOne 291 = .ok (.iload 5, 2) := by decide +kernel
theorem dR_writeOne_293 : decode bR_writeOne 293 = .ok (.imul, 1) := by decide +kernel
theorem dR_writeOne_294 : decode bR_writeOne 294 = .ok (.iconst 1, 1) := by decide +kernel
theorem dR_writeOne_295 : decode bR_writeOne 295 = .ok (.iadd, 1) := by decide +kernel
theorem dR_writeOne_296 : decode bR_writeOne 296 = .ok (.iastore, 1) := by decide +kernel
theorem dR_writeOne_297 : decode bR_writeOne 297 = .ok (.iload_n 2, 1) := by decide +kernel
theorem dR_writeOne_298 : decode bR_writeOne 298 = .ok (.iconst 2, 1) := by decide +kernel
theorem dR_writeOne_299 : decode bR_writeOne 299 = .ok (.iadd, 1) := by decide +kernel
theorem dR_writeOne_300 : decode bR_writeOne 300 = .ok (.ireturn, 1) := by decide +kernel
theorem dR_writeOut_0 : decode bR_writeOut 0 = .ok (.iconst 0, 1) := by decide +kernel
theorem dR_writeOut_1 : decode bR_writeOut 1 = .ok (.istore 4, 2) := by decide +kernel
theorem dR_writeOut_3 : decode bR_writeOut 3 = .ok (.iload 4, 2) := by decide +kernel
theorem dR_writeOut_5 : decode bR_writeOut 5 = .ok (.bipush 16, 2) := by decide +kernel
theorem dR_writeOut_7 : decode bR_writeOut 7 = .ok (.if_icmp .ge 22, 3) := by decide +kernel
theorem dR_writeOut_10 : decode bR_writeOut 10 = .ok (.aload_n 0, 1) := by decide +kernel
theorem dR_writeOut_11 : decode bR_writeOut 11 = .ok (.getfield 62, 3) := by decide +kernel
theorem dR_writeOut_14 : decode bR_writeOut 14 = .ok (.bipush 16, 2) := by decide +kernel
theorem dR_writeOut_16 : decode bR_writeOut 16 = .ok (.iload_n 1, 1) := by decide +kernel
theorem dR_writeOut_17 : decode bR_writeOut 17 = .ok (.imul, 1) := by decide +kernel
theorem dR_writeOut_18 : decode bR_writeOut 18 = .ok (.iload 4, 2) := by decide +kernel
theorem dR_writeOut_20 : decode bR_writeOut 20 = .ok (.iadd, 1) := by decide +kernel
theorem dR_writeOut_21 : decode bR_writeOut 21 = .ok (.iconst 0, 1) := by decide +kernel
theorem dR_writeOut_22 : decode bR_writeOut 22 = .ok (.iastore, 1) := by decide +kernel
theorem dR_writeOut_23 : decode bR_writeOut 23 = .ok (.iinc 4 1, 3) := by decide +kernel
theorem dR_writeOut_26 : decode bR_writeOut 26 = .ok (.goto (-23), 3) := by decide +kernel
theorem dR_writeOut_29 : decode bR_writeOut 29 = .ok (.aload_n 0, 1) := by decide +kernel
theorem dR_writeOut_30 : decode bR_writeOut 30 = .ok (.getfield 68, 3) := by decide +kernel
theorem dR_writeOut_33 : decode bR_writeOut 33 = .ok (.iconst 0, 1) := by decide +kernel
theorem dR_writeOut_34 : decode bR_writeOut 34 = .ok (.iload_n 2, 1) := by decide +kernel
theorem dR_writeOut_35 : decode bR_writeOut 35 = .ok (.iastore, 1) := by decide +kernel
theorem dR_writeOut_36 : decode bR_writeOut 36 = .ok (.aload_n 0, 1) := by decide +kernel
theorem dR_writeOut_37 : decode bR_writeOut 37 = .ok (.getfield 71, 3) := by decide +kernel
theorem dR_writeOut_40 : decode bR_writeOut 40 = .ok (.iconst 0, 1) := by decide +kernel
theorem dR_writeOut_41 : decode bR_writeOut 41 = .ok (.iload_n 3, 1) := by decide +kernel
theorem dR_writeOut_42 : decode bR_writeOut 42 = .ok (.iastore, 1) := by decide +kernel
theorem dR_writeOut_43 : decode bR_writeOut 43 = .ok (.aload_n 0, 1) := by decide +kernel
theorem dR_writeOut_44 : decode bR_writeOut 44 = .ok (.getfield 74, 3) := by decide +kernel
theorem dR_writeOut_47 : decode bR_writeOut 47 = .ok (.iconst 0, 1) := by decide +kernel
theorem dR_writeOut_48 : decode bR_writeOut 48 = .ok (.iconst 1, 1) := by decide +kernel
theorem dR_writeOut_49 : decode bR_writeOut 49 = .ok (.iastore, 1) := by decide +kernel
theorem dR_writeOut_50 : decode bR_writeOut 50 = .ok (.iconst 1, 1) := by decide +kernel
theorem dR_writeOut_51 : decode bR_writeOut 51 = .ok (.istore 4, 2) := by decide +kernel
theorem dR_writeOut_53 : decode bR_writeOut 53 = .ok (.iload 4, 2) := by decide +kernel
theorem dR_writeOut_55 : decode bR_writeOut 55 = .ok (.ifCond .le 17, 3) := by decide +kernel
theorem dR_writeOut_58 : decode bR_writeOut 58 = .ok (.aload_n 0, 1) := by decide +kernel
theorem dR_writeOut_59 : decode bR_writeOut 59 = .ok (.iload_n 1, 1) := by decide +kernel
theorem dR_writeOut_60 : decode bR_writeOut 60 = .ok (.iload 4, 2) := by decide +kernel
theorem dR_writeOut_62 : decode bR_writeOut 62 = .ok (.iconst 1, 1) := by decide +kernel
theorem dR_writeOut_63 : decode bR_writeOut 63 = .ok (.isub, 1) := by decide +kernel
theorem dR_writeOut_64 : decode bR_writeOut 64 = .ok (.invokevirtual 172, 3) := by decide +kernel
theorem dR_writeOut_67 : decode bR_writeOut 67 = .ok (.istore 4, 2) := by decide +kernel
theorem dR_writeOut_69 : decode bR_writeOut 69 = .ok (.goto (-16), 3) := by decide +kernel
theorem dR_writeOut_72 : decode bR_writeOut 72 = .ok (.return_, 1) := by decide +kernel
section Srefe0
variable {p : Program} {l : Launch} {e : Env} {R : Room} {s : State} {m : MethodId} {args : Array Value} {below : List Frame} {meth : Method} {c : Code} {Q : State → Prop} {D : va_G} {cA : Nat → ClassId} {ad : Nat → Nat} {H0 : Heap}
def fR_clear (st : ck_S) : Option ck_S := (some (ck_u (ck_u (ck_u (ck_u (ck_u (ck_u (ck_u (ck_u (ck_u st 0 0 (0 : Int32)) 0 1 (0 : Int32)) 0 5 (0 : Int32)) 0 13 (0 : Int32)) 0 18 (-1 : Int32)) 0 19 (0 : Int32)) 0 20 (0 : Int32)) 0 28 (0 : Int32)) 0 46 (0 : Int32)))
set_option maxRecDepth 100000 in
set_option maxHeartbeats 4000000 in
theorem cR_clear (l : Launch) (D : va_G) (cA : Nat → ClassId) (ad : Nat → Nat) {st : ck_S} {st0 : ck_S} (hf : fR_clear st = some st0) : Met l yR_clear (.code yR_clear bR_clear 1 none :: ck_T) (ck_R 0) (va_Pc [.ref (ad 0)] (ck_P sh_R cm_cl D cA ad st)) (va_Qv (fun u => u = st0) (ck_P sh_R cm_cl D cA ad) (ck_A ad sh_R.length)) 0 0 (ck_A ad sh_R.length) := by
  refine ck_met_v (own := R_R) (by decide +kernel) rfl (Nat.le_of_ble_eq_true rfl) (fun p e R s m args below meth c H0 Q ls C hret h hl => ?_)
  have C1 := C
  obtain ⟨hx, hb, hml, hown, hts, hK, hlv, hlo⟩ := C1
  have hl : lv_has ls 1 [(0, .ref (ad 0))] := hl
  unfold fR_clear at hf
  refine lv_aload_n hx hb dR_clear_0 rfl (lv_at hl 0 rfl) ?_
  refine lv_iconst (v := 0) hx hb dR_clear_1 (by decide) ?_
  refine ck_pi C h GR_types rfl rfl dR_clear_2 (fun H locs h => ?_)
  refine lv_aload_n hx hb dR_clear_5 rfl (lv_at hl 0 rfl) ?_
  refine lv_iconst (v := 0) hx hb dR_clear_6 (by decide) ?_
  refine ck_pi C h GR_constructors rfl rfl dR_clear_7 (fun H locs h => ?_)
  refine lv_aload_n hx hb dR_clear_10 rfl (lv_at hl 0 rfl) ?_
  refine lv_iconst (v := 0) hx hb dR_clear_11 (by decide) ?_
  refine ck_pi C h GR_patterns rfl rfl dR_clear_12 (fun H locs h => ?_)
  refine lv_aload_n hx hb dR_clear_15 rfl (lv_at hl 0 rfl) ?_
  refine lv_iconst (v := 0) hx hb dR_clear_16 (by decide) ?_
  refine ck_pi C h GR_values rfl rfl dR_clear_17 (fun H locs h => ?_)
  refine lv_aload_n hx hb dR_clear_20 rfl (lv_at hl 0 rfl) ?_
  refine lv_iconst (v := (-1)) hx hb dR_clear_21 (by decide) ?_
  refine ck_pi C h GR_over rfl rfl dR_clear_22 (fun H locs h => ?_)
  refine lv_aload_n hx hb dR_clear_25 rfl (lv_at hl 0 rfl) ?_
  refine lv_iconst (v := 0) hx hb dR_clear_26 (by decide) ?_
  refine ck_pi C h GR_rows rfl rfl dR_clear_27 (fun H locs h => ?_)
  refine lv_aload_n hx hb dR_clear_30 rfl (lv_at hl 0 rfl) ?_
  refine lv_iconst (v := 0) hx hb dR_clear_31 (by decide) ?_
  refine ck_pi C h GR_clauses rfl rfl dR_clear_32 (fun H locs h => ?_)
  refine lv_aload_n hx hb dR_clear_35 rfl (lv_at hl 0 rfl) ?_
  refine lv_iconst (v := 0) hx hb dR_clear_36 (by decide) ?_
  refine ck_pi C h GR_grown (ck_nz ck_z0) rfl dR_clear_37 (fun H locs h => ?_)
  refine lv_aload_n hx hb dR_clear_40 rfl (lv_at hl 0 rfl) ?_
  refine lv_iconst (v := 0) hx hb dR_clear_41 (by decide) ?_
  refine ck_pi C h GR_tested rfl rfl dR_clear_42 (fun H locs h => ?_)
  exact ck_rv hf hret h dR_clear_45
def fR_type (st : ck_S) : Option (Int32 × ck_S) := (if (st 0 18) < 0 then (if (st 0 0) = (5 : Int32) then (some ((-8 : Int32), st)) else (some (((st 0 0) + (1 : Int32)), (ck_u st 0 0 ((st 0 0) + (1 : Int32)))))) else (some ((-2 : Int32), st)))
set_option maxRecDepth 100000 in
set_option maxHeartbeats 4000000 in
theorem cR_type (l : Launch) (D : va_G) (cA : Nat → ClassId) (ad : Nat → Nat) {st : ck_S} {r0 : Int32} {st0 : ck_S} (hf : fR_type st = some (r0, st0)) : Met l yR_type (.code yR_type bR_type 1 (some .int) :: ck_T) (ck_R 0) (va_Pc [.ref (ad 0)] (ck_P sh_R cm_cl D cA ad st)) (va_Qi (fun a u => a = r0 ∧ u = st0) (ck_P sh_R cm_cl D cA ad) (ck_A ad sh_R.length)) 0 0 (ck_A ad sh_R.length) := by
  refine ck_met_i (own := R_R) (by decide +kernel) rfl (Nat.le_of_ble_eq_true rfl) (fun p e R s m args below meth c H0 Q ls C hret h hl => ?_)
  have C1 := C
  obtain ⟨hx, hb, hml, hown, hts, hK, hlv, hlo⟩ := C1
  have hl : lv_has ls 1 [(0, .ref (ad 0))] := hl
  unfold fR_type at hf
  refine lv_aload_n hx hb dR_type_0 rfl (lv_at hl 0 rfl) ?_
  refine ck_gi (x := (st 0 18)) C h FR_over rfl dR_type_1 ?_
  refine lv_if_lt (tgt := 10) hx hb dR_type_4 rfl (fun hq => ?_) (fun hq => ?_)
  · have hf := ck_t hq hf
    refine lv_aload_n hx hb dR_type_10 rfl (lv_at hl 0 rfl) ?_
    refine ck_gi (x := (st 0 0)) C h FR_types rfl dR_type_11 ?_
    refine lv_iconst (v := 5) hx hb dR_type_14 (by decide) ?_
    refine lv_icmp_ne (tgt := 21) hx hb dR_type_15 rfl (fun hq => ?_) (fun hq => ?_)
    · have hf := ck_f hq hf
      refine lv_aload_n hx hb dR_type_21 rfl (lv_at hl 0 rfl) ?_
      refine lv_dup hx hb dR_type_22 rfl ?_
      refine ck_gi (x := (st 0 0)) C h FR_types rfl dR_type_23 ?_
      refine lv_iconst (v := 1) hx hb dR_type_26 (by decide) ?_
      refine lv_iadd hx hb dR_type_27 ?_
      refine ck_pi C h GR_types rfl rfl dR_type_28 (fun H locs h => ?_)
      refine lv_aload_n hx hb dR_type_31 rfl (lv_at hl 0 rfl) ?_
      refine ck_gi (x := ((st 0 0) + (1 : Int32))) C h FR_types rfl dR_type_32 ?_
      exact ck_ri hf hret h dR_type_35
    · have hf := ck_t hq hf
      refine lv_bipush (v := (-8)) hx hb dR_type_18 (by decide) ?_
      exact ck_ri hf hret h dR_type_20
  · have hf := ck_f hq hf
    refine lv_bipush (v := (-2)) hx hb dR_type_7 (by decide) ?_
    exact ck_ri hf hret h dR_type_9
def fR_isType (x1 : Int32) (st : ck_S) : Option (Int32 × ck_S) := (if x1 < 0 then (some ((0 : Int32), st)) else (if (st 0 0) < x1 then (some ((0 : Int32), st)) else (some ((1 : Int32), st))))
set_option maxRecDepth 100000 in
set_option maxHeartbeats 4000000 in
theorem cR_isType (l : Launch) (D : va_G) (cA : Nat → ClassId) (ad : Nat → Nat) {x1 : Int32} {st : ck_S} {r0 : Int32} {st0 : ck_S} (hf : fR_isType x1 st = some (r0, st0)) : Met l yR_isType (.code yR_isType bR_isType 2 (some .boolean) :: ck_T) (ck_R 0) (va_Pc [.ref (ad 0), .int x1] (ck_P sh_R cm_cl D cA ad st)) (va_Qi (fun a u => a = r0 ∧ u = st0) (ck_P sh_R cm_cl D cA ad) (ck_A ad sh_R.length)) 0 0 (ck_A ad sh_R.length) := by
  refine ck_met_z (own := R_R) (by decide +kernel) rfl (Nat.le_of_ble_eq_true rfl) (fun p e R s m args below meth c H0 Q ls C hret h hl => ?_)
  have C1 := C
  obtain ⟨hx, hb, hml, hown, hts, hK, hlv, hlo⟩ := C1
  have hl : lv_has ls 2 [(0, .ref (ad 0)), (1, .int x1)] := hl
  unfold fR_isType at hf
  refine lv_iload_n hx hb dR_isType_0 rfl (lv_at hl 1 rfl) ?_
  refine lv_if_lt (tgt := 16) hx hb dR_isType_1 rfl (fun hq => ?_) (fun hq => ?_)
  · have hf := ck_t hq hf
    refine lv_iconst (v := 0) hx hb dR_isType_16 (by decide) ?_
    exact ck_rz hf hret ck_z0 h dR_isType_17
  · have hf := ck_f hq hf
    refine lv_iload_n hx hb dR_isType_4 rfl (lv_at hl 1 rfl) ?_
    refine lv_aload_n hx hb dR_isType_5 rfl (lv_at hl 0 rfl) ?_
    refine ck_gi (x := (st 0 0)) C h FR_types rfl dR_isType_6 ?_
    refine lv_icmp_gt (tgt := 16) hx hb dR_isType_9 rfl (fun hq => ?_) (fun hq => ?_)
    · have hf := ck_t hq hf
      refine lv_iconst (v := 0) hx hb dR_isType_16 (by decide) ?_
      exact ck_rz hf hret ck_z0 h dR_isType_17
    · have hf := ck_f hq hf
      refine lv_iconst (v := 1) hx hb dR_isType_12 (by decide) ?_
      refine lv_goto (tgt := 17) hx hb dR_isType_13 rfl ?_
      exact ck_rz hf hret ck_z1 h dR_isType_17
def fR_constructorsOf_l4 : Nat → Int32 → Int32 → Int32 → ck_S → Option (Int32 × ck_S)
  | 0, _, _, _, _ => none
  | n + 1, x1, x2, x3, st => (if (st 0 1) ≤ x3 then (some (x2, st)) else (ck_gd x3 12 (if (st 1 (x3).toNatClampNeg) = x1 then (fR_constructorsOf_l4 n x1 (x2 + (1 : Int32)) (x3 + 1) st) else (fR_constructorsOf_l4 n x1 x2 (x3 + 1) st))))
set_option maxRecDepth 100000 in
set_option maxHeartbeats 4000000 in
theorem BR_constructorsOf_4 (C : ck_X cm_cl D cA bR_constructorsOf 4 R_R 0 p R s m args c) {r0 : Int32} {st0 : ck_S} (hret : ∀ (pc : Nat) (H : Heap) (locs : List Loc) (ls : Array Slot), decode bR_constructorsOf pc = .ok (.ireturn, 1) → ck_AT sh_R cm_cl D cA ad H0 st0 H locs → W p l e R s m args below meth c H locs 0 0 Q (F0 m pc ls [.int r0])) : ∀ (n : Nat) (x1 : Int32) (x2 : Int32) (x3 : Int32) (st : ck_S) (H : Heap) (locs : List Loc) (ls : Array Slot), ck_AT sh_R cm_cl D cA ad H0 st H locs → lv_has ls 4 [(0, .ref (ad 0)), (1, .int x1), (2, .int x2), (3, .int x3)] → fR_constructorsOf_l4  n x1 x2 x3 st = some (r0, st0) → W p l e R s m args below meth c H locs 0 0 Q (F0 m 4 ls []) := by
  have C1 := C
  obtain ⟨hx, hb, hml, hown, hts, hK, hlv, hlo⟩ := C1
  intro n
  induction n with
  | zero => intro _ _ _ _ _ _ _ _ _ hf; cases hf
  | succ n ih =>
    intro x1 x2 x3 st H locs ls h hl hf
    rw [fR_constructorsOf_l4] at hf
    refine lv_iload_n hx hb dR_constructorsOf_4 rfl (lv_at hl 3 rfl) ?_
    refine lv_aload_n hx hb dR_constructorsOf_5 rfl (lv_at hl 0 rfl) ?_
    refine ck_gi (x := (st 0 1)) C h FR_constructors rfl dR_constructorsOf_6 ?_
    refine lv_icmp_ge (tgt := 36) hx hb dR_constructorsOf_9 rfl (fun hq => ?_) (fun hq => ?_)
    · have hf := ck_t hq hf
      refine lv_iload_n hx hb dR_constructorsOf_36 rfl (lv_at hl 2 rfl) ?_
      exact ck_ri hf hret h dR_constructorsOf_37
    · have hf := ck_f hq hf
      refine lv_aload_n hx hb dR_constructorsOf_12 rfl (lv_at hl 0 rfl) ?_
      refine ck_gr C h FR_owner dR_constructorsOf_13 ?_
      refine lv_iload_n hx hb dR_constructorsOf_16 rfl (lv_at hl 3 rfl) ?_
      obtain ⟨hg, hf⟩ := ck_gd_e hf
      refine ck_ai (x := (st 1 (x3).toNatClampNeg)) C h (show sh_R[1]? = some (.inr (0, 12)) from rfl) hg rfl dR_constructorsOf_17 ?_
      refine lv_iload_n hx hb dR_constructorsOf_18 rfl (lv_at hl 1 rfl) ?_
      refine lv_icmp_ne (tgt := 28) hx hb dR_constructorsOf_19 rfl (fun hq => ?_) (fun hq => ?_)
      · have hf := ck_f hq hf
        refine lv_iload_n hx hb dR_constructorsOf_28 rfl (lv_at hl 2 rfl) ?_
        refine lv_istore_n (lv' := [(2, .int x2), (0, .ref (ad 0)), (1, .int x1), (3, .int x3)]) hx hb dR_constructorsOf_29 rfl hl (by decide) rfl (fun ls hl => ?_)
        refine lv_iinc (k := 3) (v := (x3 + 1)) (lv' := [(3, .int (x3 + 1)), (2, .int x2), (0, .ref (ad 0)), (1, .int x1)]) hx hb dR_constructorsOf_30 hl rfl rfl (by decide) rfl (fun ls hl => ?_)
        refine lv_goto (tgt := 4) hx hb dR_constructorsOf_33 rfl ?_
        exact ih _ _ _ _ _ _ _ h (lv_sub hl [2, 3, 1, 0] rfl) hf
      · have hf := ck_t hq hf
        refine lv_iload_n hx hb dR_constructorsOf_22 rfl (lv_at hl 2 rfl) ?_
        refine lv_iconst (v := 1) hx hb dR_constructorsOf_23 (by decide) ?_
        refine lv_iadd hx hb dR_constructorsOf_24 ?_
        refine lv_goto (tgt := 29) hx hb dR_constructorsOf_25 rfl ?_
        refine lv_istore_n (lv' := [(2, .int (x2 + (1 : Int32))), (0, .ref (ad 0)), (1, .int x1), (3, .int x3)]) hx hb dR_constructorsOf_29 rfl hl (by decide) rfl (fun ls hl => ?_)
        refine lv_iinc (k := 3) (v := (x3 + 1)) (lv' := [(3, .int (x3 + 1)), (2, .int (x2 + (1 : Int32))), (0, .ref (ad 0)), (1, .int x1)]) hx hb dR_constructorsOf_30 hl rfl rfl (by decide) rfl (fun ls hl => ?_)
        refine lv_goto (tgt := 4) hx hb dR_constructorsOf_33 rfl ?_
        exact ih _ _ _ _ _ _ _ h (lv_sub hl [2, 3, 1, 0] rfl) hf
def fR_constructorsOf (x1 : Int32) (st : ck_S) : Option (Int32 × ck_S) := (fR_constructorsOf_l4  4096 x1 (0 : Int32) (0 : Int32) st)
set_option maxRecDepth 100000 in
set_option maxHeartbeats 4000000 in
theorem cR_constructorsOf (l : Launch) (D : va_G) (cA : Nat → ClassId) (ad : Nat → Nat) {x1 : Int32} {st : ck_S} {r0 : Int32} {st0 : ck_S} (hf : fR_constructorsOf x1 st = some (r0, st0)) : Met l yR_constructorsOf (.code yR_constructorsOf bR_constructorsOf 4 (some .int) :: ck_T) (ck_R 0) (va_Pc [.ref (ad 0), .int x1] (ck_P sh_R cm_cl D cA ad st)) (va_Qi (fun a u => a = r0 ∧ u = st0) (ck_P sh_R cm_cl D cA ad) (ck_A ad sh_R.length)) 0 0 (ck_A ad sh_R.length) := by
  refine ck_met_i (own := R_R) (by decide +kernel) rfl (Nat.le_of_ble_eq_true rfl) (fun p e R s m args below meth c H0 Q ls C hret h hl => ?_)
  have C1 := C
  obtain ⟨hx, hb, hml, hown, hts, hK, hlv, hlo⟩ := C1
  have hl : lv_has ls 4 [(0, .ref (ad 0)), (1, .int x1)] := hl
  unfold fR_constructorsOf at hf
  refine lv_iconst (v := 0) hx hb dR_constructorsOf_0 (by decide) ?_
  refine lv_istore_n (lv' := [(2, .int (0 : Int32)), (0, .ref (ad 0)), (1, .int x1)]) hx hb dR_constructorsOf_1 rfl hl (by decide) rfl (fun ls hl => ?_)
  refine lv_iconst (v := 0) hx hb dR_constructorsOf_2 (by decide) ?_
  refine lv_istore_n (lv' := [(3, .int (0 : Int32)), (2, .int (0 : Int32)), (0, .ref (ad 0)), (1, .int x1)]) hx hb dR_constructorsOf_3 rfl hl (by decide) rfl (fun ls hl => ?_)
  exact BR_constructorsOf_4 C hret  4096 _ _ _ _ _ _ _ h (lv_sub hl [2, 3, 1, 0] rfl) hf
def fR_constructor_b62 (x1 : Int32) (x2 : Int32) (x3 : Int32) (st : ck_S) : Option (Int32 × ck_S) := (if (st 0 1) = (12 : Int32) then (some ((-8 : Int32), st)) else (ck_b (fR_constructorsOf x1 st) fun v2 st1 => (if v2 = (4 : Int32) then (some ((-8 : Int32), st1)) else (ck_gd (st1 0 1) 12 (ck_gd (st1 0 1) 12 (ck_gd (st1 0 1) 12 (some ((((st1 0 1) + (1 : Int32)) - (1 : Int32)), (ck_u (ck_u (ck_u (ck_u st1 1 ((st1 0 1)).toNatClampNeg x1) 2 ((st1 0 1)).toNatClampNeg x2) 3 ((st1 0 1)).toNatClampNeg x3) 0 1 ((st1 0 1) + (1 : Int32)))))))))))
set_option maxRecDepth 100000 in
set_option maxHeartbeats 4000000 in
theorem BR_constructor_62 (C : ck_X cm_cl D cA bR_constructor 4 R_R 1 p R s m args c) {r0 : Int32} {st0 : ck_S} (hret : ∀ (pc : Nat) (H : Heap) (locs : List Loc) (ls : Array Slot), decode bR_constructor pc = .ok (.ireturn, 1) → ck_AT sh_R cm_cl D cA ad H0 st0 H locs → W p l e R s m args below meth c H locs 0 0 Q (F0 m pc ls [.int r0])) (x1 : Int32) (x2 : Int32) (x3 : Int32) (st : ck_S) (H : Heap) (locs : List Loc) (ls : Array Slot) (h : ck_AT sh_R cm_cl D cA ad H0 st H locs) (hl : lv_has ls 4 [(0, .ref (ad 0)), (1, .int x1), (2, .int x2), (3, .int x3)]) (hf : fR_constructor_b62 x1 x2 x3 st = some (r0, st0)) : W p l e R s m args below meth c H locs 0 0 Q (F0 m 62 ls []) := by
  have C1 := C
  obtain ⟨hx, hb, hml, hown, hts, hK, hlv, hlo⟩ := C1
  unfold fR_constructor_b62 at hf
  refine lv_aload_n hx hb dR_constructor_62 rfl (lv_at hl 0 rfl) ?_
  refine ck_gi (x := (st 0 1)) C h FR_constructors rfl dR_constructor_63 ?_
  refine lv_bipush (v := 12) hx hb dR_constructor_66 (by decide) ?_
  refine lv_icmp_eq (tgt := 80) hx hb dR_constructor_68 rfl (fun hq => ?_) (fun hq => ?_)
  · have hf := ck_t hq hf
    refine lv_bipush (v := (-8)) hx hb dR_constructor_80 (by decide) ?_
    exact ck_ri hf hret h dR_constructor_82
  · have hf := ck_f hq hf
    refine lv_aload_n hx hb dR_constructor_71 rfl (lv_at hl 0 rfl) ?_
    refine lv_iload_n hx hb dR_constructor_72 rfl (lv_at hl 1 rfl) ?_
    obtain ⟨v2, st1, hc, hf⟩ := ck_b_e hf
    refine ck_vi (As := [.int x1]) (rest := []) (q := 0) C h hl CR_R_constructorsOf sR_constructorsOf q_R (cR_constructorsOf l D cA ad hc) (Nat.le_of_ble_eq_true rfl) rfl rfl (Nat.le_of_ble_eq_true rfl) dR_constructor_73 (fun H locs h => ?_)
    refine lv_iconst (v := 4) hx hb dR_constructor_76 (by decide) ?_
    refine lv_icmp_ne (tgt := 83) hx hb dR_constructor_77 rfl (fun hq => ?_) (fun hq => ?_)
    · have hf := ck_f hq hf
      refine lv_aload_n hx hb dR_constructor_83 rfl (lv_at hl 0 rfl) ?_
      refine ck_gr C h FR_owner dR_constructor_84 ?_
      refine lv_aload_n hx hb dR_constructor_87 rfl (lv_at hl 0 rfl) ?_
      refine ck_gi (x := (st1 0 1)) C h FR_constructors rfl dR_constructor_88 ?_
      refine lv_iload_n hx hb dR_constructor_91 rfl (lv_at hl 1 rfl) ?_
      obtain ⟨hg, hf⟩ := ck_gd_e hf
      refine ck_si C h (show sh_R[1]? = some (.inr (0, 12)) from rfl) hg dR_constructor_92 (fun H locs h => ?_)
      refine lv_aload_n hx hb dR_constructor_93 rfl (lv_at hl 0 rfl) ?_
      refine ck_gr C h FR_first dR_constructor_94 ?_
      refine lv_aload_n hx hb dR_constructor_97 rfl (lv_at hl 0 rfl) ?_
      refine ck_gi (x := (st1 0 1)) C h FR_constructors rfl dR_constructor_98 ?_
      refine lv_iload_n hx hb dR_constructor_101 rfl (lv_at hl 2 rfl) ?_
      obtain ⟨hg, hf⟩ := ck_gd_e hf
      refine ck_si C h (show sh_R[2]? = some (.inr (0, 12)) from rfl) hg dR_constructor_102 (fun H locs h => ?_)
      refine lv_aload_n hx hb dR_constructor_103 rfl (lv_at hl 0 rfl) ?_
      refine ck_gr C h FR_second dR_constructor_104 ?_
      refine lv_aload_n hx hb dR_constructor_107 rfl (lv_at hl 0 rfl) ?_
      refine ck_gi (x := (st1 0 1)) C h FR_constructors rfl dR_constructor_108 ?_
      refine lv_iload_n hx hb dR_constructor_111 rfl (lv_at hl 3 rfl) ?_
      obtain ⟨hg, hf⟩ := ck_gd_e hf
      refine ck_si C h (show sh_R[3]? = some (.inr (0, 12)) from rfl) hg dR_constructor_112 (fun H locs h => ?_)
      refine lv_aload_n hx hb dR_constructor_113 rfl (lv_at hl 0 rfl) ?_
      refine lv_dup hx hb dR_constructor_114 rfl ?_
      refine ck_gi (x := (st1 0 1)) C h FR_constructors rfl dR_constructor_115 ?_
      refine lv_iconst (v := 1) hx hb dR_constructor_118 (by decide) ?_
      refine lv_iadd hx hb dR_constructor_119 ?_
      refine ck_pi C h GR_constructors rfl rfl dR_constructor_120 (fun H locs h => ?_)
      refine lv_aload_n hx hb dR_constructor_123 rfl (lv_at hl 0 rfl) ?_
      refine ck_gi (x := ((st1 0 1) + (1 : Int32))) C h FR_constructors rfl dR_constructor_124 ?_
      refine lv_iconst (v := 1) hx hb dR_constructor_127 (by decide) ?_
      refine lv_isub hx hb dR_constructor_128 ?_
      exact ck_ri hf hret h dR_constructor_129
    · have hf := ck_t hq hf
      refine lv_bipush (v := (-8)) hx hb dR_constructor_80 (by decide) ?_
      exact ck_ri hf hret h dR_constructor_82
def fR_constructor_b49 (x1 : Int32) (x2 : Int32) (x3 : Int32) (st : ck_S) : Option (Int32 × ck_S) := (if x2 = (-1 : Int32) then (if x3 = (-1 : Int32) then (fR_constructor_b62 x1 x2 x3 st) else (some ((-3 : Int32), st))) else (fR_constructor_b62 x1 x2 x3 st))
set_option maxRecDepth 100000 in
set_option maxHeartbeats 4000000 in
theorem BR_constructor_49 (C : ck_X cm_cl D cA bR_constructor 4 R_R 1 p R s m args c) {r0 : Int32} {st0 : ck_S} (hret : ∀ (pc : Nat) (H : Heap) (locs : List Loc) (ls : Array Slot), decode bR_constructor pc = .ok (.ireturn, 1) → ck_AT sh_R cm_cl D cA ad H0 st0 H locs → W p l e R s m args below meth c H locs 0 0 Q (F0 m pc ls [.int r0])) (x1 : Int32) (x2 : Int32) (x3 : Int32) (st : ck_S) (H : Heap) (locs : List Loc) (ls : Array Slot) (h : ck_AT sh_R cm_cl D cA ad H0 st H locs) (hl : lv_has ls 4 [(0, .ref (ad 0)), (1, .int x1), (2, .int x2), (3, .int x3)]) (hf : fR_constructor_b49 x1 x2 x3 st = some (r0, st0)) : W p l e R s m args below meth c H locs 0 0 Q (F0 m 49 ls []) := by
  have C1 := C
  obtain ⟨hx, hb, hml, hown, hts, hK, hlv, hlo⟩ := C1
  unfold fR_constructor_b49 at hf
  refine lv_iload_n hx hb dR_constructor_49 rfl (lv_at hl 2 rfl) ?_
  refine lv_iconst (v := (-1)) hx hb dR_constructor_50 (by decide) ?_
  refine lv_icmp_ne (tgt := 62) hx hb dR_constructor_51 rfl (fun hq => ?_) (fun hq => ?_)
  · have hf := ck_f hq hf
    exact BR_constructor_62 C hret _ _ _ _ _ _ _ h (lv_sub hl [0, 1, 2, 3] rfl) hf
  · have hf := ck_t hq hf
    refine lv_iload_n hx hb dR_constructor_54 rfl (lv_at hl 3 rfl) ?_
    refine lv_iconst (v := (-1)) hx hb dR_constructor_55 (by decide) ?_
    refine lv_icmp_eq (tgt := 62) hx hb dR_constructor_56 rfl (fun hq => ?_) (fun hq => ?_)
    · have hf := ck_t hq hf
      exact BR_constructor_62 C hret _ _ _ _ _ _ _ h (lv_sub hl [0, 1, 2, 3] rfl) hf
    · have hf := ck_f hq hf
      refine lv_bipush (v := (-3)) hx hb dR_constructor_59 (by decide) ?_
      exact ck_ri hf hret h dR_constructor_61
def fR_constructor_b36 (x1 : Int32) (x2 : Int32) (x3 : Int32) (st : ck_S) : Option (Int32 × ck_S) := (if x3 = (-1 : Int32) then (fR_constructor_b49 x1 x2 x3 st) else (ck_b (fR_isType x3 st) fun v2 st1 => (if v2 = 0 then (some ((-3 : Int32), st1)) else (fR_constructor_b49 x1 x2 x3 st1))))
set_option maxRecDepth 100000 in
set_option maxHeartbeats 4000000 in
theorem BR_constructor_36 (C : ck_X cm_cl D cA bR_constructor 4 R_R 1 p R s m args c) {r0 : Int32} {st0 : ck_S} (hret : ∀ (pc : Nat) (H : Heap) (locs : List Loc) (ls : Array Slot), decode bR_constructor pc = .ok (.ireturn, 1) → ck_AT sh_R cm_cl D cA ad H0 st0 H locs → W p l e R s m args below meth c H locs 0 0 Q (F0 m pc ls [.int r0])) (x1 : Int32) (x2 : Int32) (x3 : Int32) (st : ck_S) (H : Heap) (locs : List Loc) (ls : Array Slot) (h : ck_AT sh_R cm_cl D cA ad H0 st H locs) (hl : lv_has ls 4 [(0, .ref (ad 0)), (1, .int x1), (2, .int x2), (3, .int x3)]) (hf : fR_constructor_b36 x1 x2 x3 st = some (r0, st0)) : W p l e R s m args below meth c H locs 0 0 Q (F0 m 36 ls []) := by
  have C1 := C
  obtain ⟨hx, hb, hml, hown, hts, hK, hlv, hlo⟩ := C1
  unfold fR_constructor_b36 at hf
  refine lv_iload_n hx hb dR_constructor_36 rfl (lv_at hl 3 rfl) ?_
  refine lv_iconst (v := (-1)) hx hb dR_constructor_37 (by decide) ?_
  refine lv_icmp_eq (tgt := 49) hx hb dR_constructor_38 rfl (fun hq => ?_) (fun hq => ?_)
  · have hf := ck_t hq hf
    exact BR_constructor_49 C hret _ _ _ _ _ _ _ h (lv_sub hl [0, 1, 2, 3] rfl) hf
  · have hf := ck_f hq hf
    refine lv_aload_n hx hb dR_constructor_41 rfl (lv_at hl 0 rfl) ?_
    refine lv_iload_n hx hb dR_constructor_42 rfl (lv_at hl 3 rfl) ?_
    obtain ⟨v2, st1, hc, hf⟩ := ck_b_e hf
    refine ck_vi (As := [.int x3]) (rest := []) (q := 0) C h hl CR_R_isType sR_isType q_R (cR_isType l D cA ad hc) (Nat.le_of_ble_eq_true rfl) rfl rfl (Nat.le_of_ble_eq_true rfl) dR_constructor_43 (fun H locs h => ?_)
    refine lv_if_eq (tgt := 59) hx hb dR_constructor_46 rfl (fun hq => ?_) (fun hq => ?_)
    · have hf := ck_t hq hf
      refine lv_bipush (v := (-3)) hx hb dR_constructor_59 (by decide) ?_
      exact ck_ri hf hret h dR_constructor_61
    · have hf := ck_f hq hf
      exact BR_constructor_49 C hret _ _ _ _ _ _ _ h (lv_sub hl [0, 1, 2, 3] rfl) hf
def fR_constructor (x1 : Int32) (x2 : Int32) (x3 : Int32) (st : ck_S) : Option (Int32 × ck_S) := (if (st 0 18) < 0 then (if x1 < (1 : Int32) then (some ((-3 : Int32), st)) else (if (st 0 0) < x1 then (some ((-3 : Int32), st)) else (if x2 = (-1 : Int32) then (fR_constructor_b36 x1 x2 x3 st) else (ck_b (fR_isType x2 st) fun v2 st1 => (if v2 = 0 then (some ((-3 : Int32), st1)) else (fR_constructor_b36 x1 x2 x3 st1)))))) else (some ((-2 : Int32), st)))
set_option maxRecDepth 100000 in
set_option maxHeartbeats 4000000 in
theorem cR_constructor (l : Launch) (D : va_G) (cA : Nat → ClassId) (ad : Nat → Nat) {x1 : Int32} {x2 : Int32} {x3 : Int32} {st : ck_S} {r0 : Int32} {st0 : ck_S} (hf : fR_constructor x1 x2 x3 st = some (r0, st0)) : Met l yR_constructor (.code yR_constructor bR_constructor 4 (some .int) :: ck_T) (ck_R 1) (va_Pc [.ref (ad 0), .int x1, .int x2, .int x3] (ck_P sh_R cm_cl D cA ad st)) (va_Qi (fun a u => a = r0 ∧ u = st0) (ck_P sh_R cm_cl D cA ad) (ck_A ad sh_R.length)) 0 0 (ck_A ad sh_R.length) := by
  refine ck_met_i (own := R_R) (by decide +kernel) rfl (Nat.le_of_ble_eq_true rfl) (fun p e R s m args below meth c H0 Q ls C hret h hl => ?_)
  have C1 := C
  obtain ⟨hx, hb, hml, hown, hts, hK, hlv, hlo⟩ := C1
  have hl : lv_has ls 4 [(0, .ref (ad 0)), (1, .int x1), (2, .int x2), (3, .int x3)] := hl
  unfold fR_constructor at hf
  refine lv_aload_n hx hb dR_constructor_0 rfl (lv_at hl 0 rfl) ?_
  refine ck_gi (x := (st 0 18)) C h FR_over rfl dR_constructor_1 ?_
  refine lv_if_lt (tgt := 10) hx hb dR_constructor_4 rfl (fun hq => ?_) (fun hq => ?_)
  · have hf := ck_t hq hf
    refine lv_iload_n hx hb dR_constructor_10 rfl (lv_at hl 1 rfl) ?_
    refine lv_iconst (v := 1) hx hb dR_constructor_11 (by decide) ?_
    refine lv_icmp_lt (tgt := 59) hx hb dR_constructor_12 rfl (fun hq => ?_) (fun hq => ?_)
    · have hf := ck_t hq hf
      refine lv_bipush (v := (-3)) hx hb dR_constructor_59 (by decide) ?_
      exact ck_ri hf hret h dR_constructor_61
    · have hf := ck_f hq hf
      refine lv_iload_n hx hb dR_constructor_15 rfl (lv_at hl 1 rfl) ?_
      refine lv_aload_n hx hb dR_constructor_16 rfl (lv_at hl 0 rfl) ?_
      refine ck_gi (x := (st 0 0)) C h FR_types rfl dR_constructor_17 ?_
      refine lv_icmp_gt (tgt := 59) hx hb dR_constructor_20 rfl (fun hq => ?_) (fun hq => ?_)
      · have hf := ck_t hq hf
        refine lv_bipush (v := (-3)) hx hb dR_constructor_59 (by decide) ?_
        exact ck_ri hf hret h dR_constructor_61
      · have hf := ck_f hq hf
        refine lv_iload_n hx hb dR_constructor_23 rfl (lv_at hl 2 rfl) ?_
        refine lv_iconst (v := (-1)) hx hb dR_constructor_24 (by decide) ?_
        refine lv_icmp_eq (tgt := 36) hx hb dR_constructor_25 rfl (fun hq => ?_) (fun hq => ?_)
        · have hf := ck_t hq hf
          exact BR_constructor_36 C hret _ _ _ _ _ _ _ h (lv_sub hl [0, 1, 2, 3] rfl) hf
        · have hf := ck_f hq hf
          refine lv_aload_n hx hb dR_constructor_28 rfl (lv_at hl 0 rfl) ?_
          refine lv_iload_n hx hb dR_constructor_29 rfl (lv_at hl 2 rfl) ?_
          obtain ⟨v2, st1, hc, hf⟩ := ck_b_e hf
          refine ck_vi (As := [.int x2]) (rest := []) (q := 0) C h hl CR_R_isType sR_isType q_R (cR_isType l D cA ad hc) (Nat.le_of_ble_eq_true rfl) rfl rfl (Nat.le_of_ble_eq_true rfl) dR_constructor_30 (fun H locs h => ?_)
          refine lv_if_eq (tgt := 59) hx hb dR_constructor_33 rfl (fun hq => ?_) (fun hq => ?_)
          · have hf := ck_t hq hf
            refine lv_bipush (v := (-3)) hx hb dR_constructor_59 (by decide) ?_
            exact ck_ri hf hret h dR_constructor_61
          · have hf := ck_f hq hf
            exact BR_constructor_36 C hret _ _ _ _ _ _ _ h (lv_sub hl [0, 1, 2, 3] rfl) hf
  · have hf := ck_f hq hf
    refine lv_bipush (v := (-2)) hx hb dR_constructor_7 (by decide) ?_
    exact ck_ri hf hret h dR_constructor_9
def fR_inhabited_b77 (k11 : Int32 → Int32 → Int32 → ck_S → Option (Int32 × ck_S)) (k110 : Int32 → Int32 → ck_S → Option (Int32 × ck_S)) (y0 : Int32) (x1 : Int32) (x2 : Int32) (x3 : Int32) (x4 : Int32) (st : ck_S) : Option (Int32 × ck_S) := (if x4 = 0 then (k11 x1 x2 (x3 + 1) st) else (if y0 = 0 then (k11 x1 x2 (x3 + 1) st) else (ck_gd x3 12 (k11 (x1 ||| ((1 : Int32) <<< ((st 1 (x3).toNatClampNeg) &&& 31))) x2 (x3 + 1) st))))
set_option maxRecDepth 100000 in
set_option maxHeartbeats 4000000 in
theorem BR_inhabited_77 (C : ck_X cm_cl D cA bR_inhabited 6 R_R 0 p R s m args c) {r0 : Int32} {st0 : ck_S} (hret : ∀ (pc : Nat) (H : Heap) (locs : List Loc) (ls : Array Slot), decode bR_inhabited pc = .ok (.ireturn, 1) → (r0 = 0 ∨ r0 = 1) → ck_AT sh_R cm_cl D cA ad H0 st0 H locs → W p l e R s m args below meth c H locs 0 0 Q (F0 m pc ls [.int r0])) {k11 : Int32 → Int32 → Int32 → ck_S → Option (Int32 × ck_S)} (hk11 : ∀ (x1 : Int32) (x2 : Int32) (x3 : Int32) (st : ck_S) (H : Heap) (locs : List Loc) (ls : Array Slot), ck_AT sh_R cm_cl D cA ad H0 st H locs → lv_has ls 6 [(0, .ref (ad 0)), (1, .int x1), (2, .int x2), (3, .int x3)] → k11 x1 x2 x3 st = some (r0, st0) → W p l e R s m args below meth c H locs 0 0 Q (F0 m 11 ls [])) {k110 : Int32 → Int32 → ck_S → Option (Int32 × ck_S)} (hk110 : ∀ (x1 : Int32) (x2 : Int32) (st : ck_S) (H : Heap) (locs : List Loc) (ls : Array Slot), ck_AT sh_R cm_cl D cA ad H0 st H locs → lv_has ls 6 [(0, .ref (ad 0)), (1, .int x1), (2, .int x2)] → k110 x1 x2 st = some (r0, st0) → W p l e R s m args below meth c H locs 0 0 Q (F0 m 110 ls [])) (y0 : Int32) (x1 : Int32) (x2 : Int32) (x3 : Int32) (x4 : Int32) (st : ck_S) (H : Heap) (locs : List Loc) (ls : Array Slot) (h : ck_AT sh_R cm_cl D cA ad H0 st H locs) (hl : lv_has ls 6 [(0, .ref (ad 0)), (1, .int x1), (2, .int x2), (3, .int x3), (4, .int x4)]) (hf : fR_inhabited_b77 k11 k110 y0 x1 x2 x3 x4 st = some (r0, st0)) : W p l e R s m args below meth c H locs 0 0 Q (F0 m 77 ls [.int y0]) := by
  have C1 := C
  obtain ⟨hx, hb, hml, hown, hts, hK, hlv, hlo⟩ := C1
  unfold fR_inhabited_b77 at hf
  refine lv_istore (lv' := [(5, .int y0), (0, .ref (ad 0)), (1, .int x1), (2, .int x2), (3, .int x3), (4, .int x4)]) hx hb dR_inhabited_77 hl (by decide) rfl (fun ls hl => ?_)
  refine lv_iload hx hb dR_inhabited_79 (lv_at hl 5 rfl) ?_
  refine lv_if_eq (tgt := 102) hx hb dR_inhabited_81 rfl (fun hq => ?_) (fun hq => ?_)
  · have hf := ck_t hq hf
    refine lv_iload_n hx hb dR_inhabited_102 rfl (lv_at hl 2 rfl) ?_
    refine lv_istore_n (lv' := [(1, .int x1), (5, .int y0), (0, .ref (ad 0)), (2, .int x2), (3, .int x3), (4, .int x4)]) hx hb dR_inhabited_103 rfl hl (by decide) rfl (fun ls hl => ?_)
    refine lv_iinc (k := 4) (v := (x3 + 1)) (lv' := [(3, .int (x3 + 1)), (1, .int x1), (5, .int y0), (0, .ref (ad 0)), (2, .int x2), (4, .int x4)]) hx hb dR_inhabited_104 hl rfl rfl (by decide) rfl (fun ls hl => ?_)
    refine lv_goto (tgt := 11) hx hb dR_inhabited_107 rfl ?_
    exact hk11 _ _ _ _ _ _ _ h (lv_sub hl [3, 1, 4, 0] rfl) hf
  · have hf := ck_f hq hf
    refine lv_iload hx hb dR_inhabited_84 (lv_at hl 0 rfl) ?_
    refine lv_if_eq (tgt := 102) hx hb dR_inhabited_86 rfl (fun hq => ?_) (fun hq => ?_)
    · have hf := ck_t hq hf
      refine lv_iload_n hx hb dR_inhabited_102 rfl (lv_at hl 2 rfl) ?_
      refine lv_istore_n (lv' := [(1, .int x1), (5, .int y0), (0, .ref (ad 0)), (2, .int x2), (3, .int x3), (4, .int x4)]) hx hb dR_inhabited_103 rfl hl (by decide) rfl (fun ls hl => ?_)
      refine lv_iinc (k := 4) (v := (x3 + 1)) (lv' := [(3, .int (x3 + 1)), (1, .int x1), (5, .int y0), (0, .ref (ad 0)), (2, .int x2), (4, .int x4)]) hx hb dR_inhabited_104 hl rfl rfl (by decide) rfl (fun ls hl => ?_)
      refine lv_goto (tgt := 11) hx hb dR_inhabited_107 rfl ?_
      exact hk11 _ _ _ _ _ _ _ h (lv_sub hl [3, 1, 4, 0] rfl) hf
    · have hf := ck_f hq hf
      refine lv_iload_n hx hb dR_inhabited_89 rfl (lv_at hl 2 rfl) ?_
      refine lv_iconst (v := 1) hx hb dR_inhabited_90 (by decide) ?_
      refine lv_aload_n hx hb dR_inhabited_91 rfl (lv_at hl 1 rfl) ?_
      refine ck_gr C h FR_owner dR_inhabited_92 ?_
      refine lv_iload_n hx hb dR_inhabited_95 rfl (lv_at hl 4 rfl) ?_
      obtain ⟨hg, hf⟩ := ck_gd_e hf
      refine ck_ai (x := (st 1 (x3).toNatClampNeg)) C h (show sh_R[1]? = some (.inr (0, 12)) from rfl) hg rfl dR_inhabited_96 ?_
      refine lv_ishl hx hb dR_inhabited_97 ?_
      refine lv_ior hx hb dR_inhabited_98 ?_
      refine lv_goto (tgt := 103) hx hb dR_inhabited_99 rfl ?_
      refine lv_istore_n (lv' := [(1, .int (x1 ||| ((1 : Int32) <<< ((st 1 (x3).toNatClampNeg) &&& 31)))), (5, .int y0), (0, .ref (ad 0)), (2, .int x2), (3, .int x3), (4, .int x4)]) hx hb dR_inhabited_103 rfl hl (by decide) rfl (fun ls hl => ?_)
      refine lv_iinc (k := 4) (v := (x3 + 1)) (lv' := [(3, .int (x3 + 1)), (1, .int (x1 ||| ((1 : Int32) <<< ((st 1 (x3).toNatClampNeg) &&& 31)))), (5, .int y0), (0, .ref (ad 0)), (2, .int x2), (4, .int x4)]) hx hb dR_inhabited_104 hl rfl rfl (by decide) rfl (fun ls hl => ?_)
      refine lv_goto (tgt := 11) hx hb dR_inhabited_107 rfl ?_
      exact hk11 _ _ _ _ _ _ _ h (lv_sub hl [3, 1, 4, 0] rfl) hf
def fR_inhabited_b47 (k11 : Int32 → Int32 → Int32 → ck_S → Option (Int32 × ck_S)) (k110 : Int32 → Int32 → ck_S → Option (Int32 × ck_S)) (y0 : Int32) (x1 : Int32) (x2 : Int32) (x3 : Int32) (st : ck_S) : Option (Int32 × ck_S) := (ck_gd x3 12 (if (st 3 (x3).toNatClampNeg) < 0 then (fR_inhabited_b77 k11 k110 (1 : Int32) x1 x2 x3 y0 st) else (ck_gd x3 12 (if ((x1 >>> ((st 3 (x3).toNatClampNeg) &&& 31)) &&& (1 : Int32)) = (1 : Int32) then (fR_inhabited_b77 k11 k110 (1 : Int32) x1 x2 x3 y0 st) else (fR_inhabited_b77 k11 k110 (0 : Int32) x1 x2 x3 y0 st)))))
set_option maxRecDepth 100000 in
set_option maxHeartbeats 4000000 in
theorem BR_inhabited_47 (C : ck_X cm_cl D cA bR_inhabited 6 R_R 0 p R s m args c) {r0 : Int32} {st0 : ck_S} (hret : ∀ (pc : Nat) (H : Heap) (locs : List Loc) (ls : Array Slot), decode bR_inhabited pc = .ok (.ireturn, 1) → (r0 = 0 ∨ r0 = 1) → ck_AT sh_R cm_cl D cA ad H0 st0 H locs → W p l e R s m args below meth c H locs 0 0 Q (F0 m pc ls [.int r0])) {k11 : Int32 → Int32 → Int32 → ck_S → Option (Int32 × ck_S)} (hk11 : ∀ (x1 : Int32) (x2 : Int32) (x3 : Int32) (st : ck_S) (H : Heap) (locs : List Loc) (ls : Array Slot), ck_AT sh_R cm_cl D cA ad H0 st H locs → lv_has ls 6 [(0, .ref (ad 0)), (1, .int x1), (2, .int x2), (3, .int x3)] → k11 x1 x2 x3 st = some (r0, st0) → W p l e R s m args below meth c H locs 0 0 Q (F0 m 11 ls [])) {k110 : Int32 → Int32 → ck_S → Option (Int32 × ck_S)} (hk110 : ∀ (x1 : Int32) (x2 : Int32) (st : ck_S) (H : Heap) (locs : List Loc) (ls : Array Slot), ck_AT sh_R cm_cl D cA ad H0 st H locs → lv_has ls 6 [(0, .ref (ad 0)), (1, .int x1), (2, .int x2)] → k110 x1 x2 st = some (r0, st0) → W p l e R s m args below meth c H locs 0 0 Q (F0 m 110 ls [])) (y0 : Int32) (x1 : Int32) (x2 : Int32) (x3 : Int32) (st : ck_S) (H : Heap) (locs : List Loc) (ls : Array Slot) (h : ck_AT sh_R cm_cl D cA ad H0 st H locs) (hl : lv_has ls 6 [(0, .ref (ad 0)), (1, .int x1), (2, .int x2), (3, .int x3)]) (hf : fR_inhabited_b47 k11 k110 y0 x1 x2 x3 st = some (r0, st0)) : W p l e R s m args below meth c H locs 0 0 Q (F0 m 47 ls [.int y0]) := by
  have C1 := C
  obtain ⟨hx, hb, hml, hown, hts, hK, hlv, hlo⟩ := C1
  unfold fR_inhabited_b47 at hf
  refine lv_istore (lv' := [(4, .int y0), (0, .ref (ad 0)), (1, .int x1), (2, .int x2), (3, .int x3)]) hx hb dR_inhabited_47 hl (by decide) rfl (fun ls hl => ?_)
  refine lv_aload_n hx hb dR_inhabited_49 rfl (lv_at hl 1 rfl) ?_
  refine ck_gr C h FR_second dR_inhabited_50 ?_
  refine lv_iload_n hx hb dR_inhabited_53 rfl (lv_at hl 4 rfl) ?_
  obtain ⟨hg, hf⟩ := ck_gd_e hf
  refine ck_ai (x := (st 3 (x3).toNatClampNeg)) C h (show sh_R[3]? = some (.inr (0, 12)) from rfl) hg rfl dR_inhabited_54 ?_
  refine lv_if_lt (tgt := 72) hx hb dR_inhabited_55 rfl (fun hq => ?_) (fun hq => ?_)
  · have hf := ck_t hq hf
    refine lv_iconst (v := 1) hx hb dR_inhabited_72 (by decide) ?_
    refine lv_goto (tgt := 77) hx hb dR_inhabited_73 rfl ?_
    exact BR_inhabited_77 C hret hk11 hk110 _ _ _ _ _ _ _ _ _ h (lv_sub hl [1, 2, 3, 4, 0] rfl) hf
  · have hf := ck_f hq hf
    refine lv_iload_n hx hb dR_inhabited_58 rfl (lv_at hl 2 rfl) ?_
    refine lv_aload_n hx hb dR_inhabited_59 rfl (lv_at hl 1 rfl) ?_
    refine ck_gr C h FR_second dR_inhabited_60 ?_
    refine lv_iload_n hx hb dR_inhabited_63 rfl (lv_at hl 4 rfl) ?_
    obtain ⟨hg, hf⟩ := ck_gd_e hf
    refine ck_ai (x := (st 3 (x3).toNatClampNeg)) C h (show sh_R[3]? = some (.inr (0, 12)) from rfl) hg rfl dR_inhabited_64 ?_
    refine lv_ishr hx hb dR_inhabited_65 ?_
    refine lv_iconst (v := 1) hx hb dR_inhabited_66 (by decide) ?_
    refine lv_iand hx hb dR_inhabited_67 ?_
    refine lv_iconst (v := 1) hx hb dR_inhabited_68 (by decide) ?_
    refine lv_icmp_ne (tgt := 76) hx hb dR_inhabited_69 rfl (fun hq => ?_) (fun hq => ?_)
    · have hf := ck_f hq hf
      refine lv_iconst (v := 0) hx hb dR_inhabited_76 (by decide) ?_
      exact BR_inhabited_77 C hret hk11 hk110 _ _ _ _ _ _ _ _ _ h (lv_sub hl [1, 2, 3, 4, 0] rfl) hf
    · have hf := ck_t hq hf
      refine lv_iconst (v := 1) hx hb dR_inhabited_72 (by decide) ?_
      refine lv_goto (tgt := 77) hx hb dR_inhabited_73 rfl ?_
      exact BR_inhabited_77 C hret hk11 hk110 _ _ _ _ _ _ _ _ _ h (lv_sub hl [1, 2, 3, 4, 0] rfl) hf
def fR_inhabited_l11 (k110 : Int32 → Int32 → ck_S → Option (Int32 × ck_S)) : Nat → Int32 → Int32 → Int32 → ck_S → Option (Int32 × ck_S)
  | 0, _, _, _, _ => none
  | n + 1, x1, x2, x3, st => (if (st 0 1) ≤ x3 then (k110 x1 x2 st) else (ck_gd x3 12 (if (st 2 (x3).toNatClampNeg) < 0 then (fR_inhabited_b47 (fR_inhabited_l11 k110 n) k110 (1 : Int32) x1 x2 x3 st) else (ck_gd x3 12 (if ((x1 >>> ((st 2 (x3).toNatClampNeg) &&& 31)) &&& (1 : Int32)) = (1 : Int32) then (fR_inhabited_b47 (fR_inhabited_l11 k110 n) k110 (1 : Int32) x1 x2 x3 st) else (fR_inhabited_b47 (fR_inhabited_l11 k110 n) k110 (0 : Int32) x1 x2 x3 st))))))
set_option maxRecDepth 100000 in
set_option maxHeartbeats 4000000 in
theorem BR_inhabited_11 (C : ck_X cm_cl D cA bR_inhabited 6 R_R 0 p R s m args c) {r0 : Int32} {st0 : ck_S} (hret : ∀ (pc : Nat) (H : Heap) (locs : List Loc) (ls : Array Slot), decode bR_inhabited pc = .ok (.ireturn, 1) → (r0 = 0 ∨ r0 = 1) → ck_AT sh_R cm_cl D cA ad H0 st0 H locs → W p l e R s m args below meth c H locs 0 0 Q (F0 m pc ls [.int r0])) {k110 : Int32 → Int32 → ck_S → Option (Int32 × ck_S)} (hk110 : ∀ (x1 : Int32) (x2 : Int32) (st : ck_S) (H : Heap) (locs : List Loc) (ls : Array Slot), ck_AT sh_R cm_cl D cA ad H0 st H locs → lv_has ls 6 [(0, .ref (ad 0)), (1, .int x1), (2, .int x2)] → k110 x1 x2 st = some (r0, st0) → W p l e R s m args below meth c H locs 0 0 Q (F0 m 110 ls [])) : ∀ (n : Nat) (x1 : Int32) (x2 : Int32) (x3 : Int32) (st : ck_S) (H : Heap) (locs : List Loc) (ls : Array Slot), ck_AT sh_R cm_cl D cA ad H0 st H locs → lv_has ls 6 [(0, .ref (ad 0)), (1, .int x1), (2, .int x2), (3, .int x3)] → fR_inhabited_l11 k110 n x1 x2 x3 st = some (r0, st0) → W p l e R s m args below meth c H locs 0 0 Q (F0 m 11 ls []) := by
  have C1 := C
  obtain ⟨hx, hb, hml, hown, hts, hK, hlv, hlo⟩ := C1
  intro n
  induction n with
  | zero => intro _ _ _ _ _ _ _ _ _ hf; cases hf
  | succ n ih =>
    intro x1 x2 x3 st H locs ls h hl hf
    rw [fR_inhabited_l11] at hf
    refine lv_iload_n hx hb dR_inhabited_11 rfl (lv_at hl 3 rfl) ?_
    refine lv_aload_n hx hb dR_inhabited_12 rfl (lv_at hl 0 rfl) ?_
    refine ck_gi (x := (st 0 1)) C h FR_constructors rfl dR_inhabited_13 ?_
    refine lv_icmp_ge (tgt := 110) hx hb dR_inhabited_16 rfl (fun hq => ?_) (fun hq => ?_)
    · have hf := ck_t hq hf
      exact hk110 _ _ _ _ _ _ h (lv_sub hl [0, 1, 2] rfl) hf
    · have hf := ck_f hq hf
      refine lv_aload_n hx hb dR_inhabited_19 rfl (lv_at hl 0 rfl) ?_
      refine ck_gr C h FR_first dR_inhabited_20 ?_
      refine lv_iload_n hx hb dR_inhabited_23 rfl (lv_at hl 3 rfl) ?_
      obtain ⟨hg, hf⟩ := ck_gd_e hf
      refine ck_ai (x := (st 2 (x3).toNatClampNeg)) C h (show sh_R[2]? = some (.inr (0, 12)) from rfl) hg rfl dR_inhabited_24 ?_
      refine lv_if_lt (tgt := 42) hx hb dR_inhabited_25 rfl (fun hq => ?_) (fun hq => ?_)
      · have hf := ck_t hq hf
        refine lv_iconst (v := 1) hx hb dR_inhabited_42 (by decide) ?_
        refine lv_goto (tgt := 47) hx hb dR_inhabited_43 rfl ?_
        exact BR_inhabited_47 C hret ih hk110 _ _ _ _ _ _ _ _ h (lv_sub hl [0, 1, 2, 3] rfl) hf
      · have hf := ck_f hq hf
        refine lv_iload_n hx hb dR_inhabited_28 rfl (lv_at hl 1 rfl) ?_
        refine lv_aload_n hx hb dR_inhabited_29 rfl (lv_at hl 0 rfl) ?_
        refine ck_gr C h FR_first dR_inhabited_30 ?_
        refine lv_iload_n hx hb dR_inhabited_33 rfl (lv_at hl 3 rfl) ?_
        obtain ⟨hg, hf⟩ := ck_gd_e hf
        refine ck_ai (x := (st 2 (x3).toNatClampNeg)) C h (show sh_R[2]? = some (.inr (0, 12)) from rfl) hg rfl dR_inhabited_34 ?_
        refine lv_ishr hx hb dR_inhabited_35 ?_
        refine lv_iconst (v := 1) hx hb dR_inhabited_36 (by decide) ?_
        refine lv_iand hx hb dR_inhabited_37 ?_
        refine lv_iconst (v := 1) hx hb dR_inhabited_38 (by decide) ?_
        refine lv_icmp_ne (tgt := 46) hx hb dR_inhabited_39 rfl (fun hq => ?_) (fun hq => ?_)
        · have hf := ck_f hq hf
          refine lv_iconst (v := 0) hx hb dR_inhabited_46 (by decide) ?_
          exact BR_inhabited_47 C hret ih hk110 _ _ _ _ _ _ _ _ h (lv_sub hl [0, 1, 2, 3] rfl) hf
        · have hf := ck_t hq hf
          refine lv_iconst (v := 1) hx hb dR_inhabited_42 (by decide) ?_
          refine lv_goto (tgt := 47) hx hb dR_inhabited_43 rfl ?_
          exact BR_inhabited_47 C hret ih hk110 _ _ _ _ _ _ _ _ h (lv_sub hl [0, 1, 2, 3] rfl) hf
def fR_inhabited_b110 (k4 : Int32 → Int32 → ck_S → Option (Int32 × ck_S)) (k116 : Int32 → ck_S → Option (Int32 × ck_S)) (x1 : Int32) (x2 : Int32) (st : ck_S) : Option (Int32 × ck_S) := (k4 x1 (x2 + 1) st)
set_option maxRecDepth 100000 in
set_option maxHeartbeats 4000000 in
theorem BR_inhabited_110 (C : ck_X cm_cl D cA bR_inhabited 6 R_R 0 p R s m args c) {r0 : Int32} {st0 : ck_S} (hret : ∀ (pc : Nat) (H : Heap) (locs : List Loc) (ls : Array Slot), decode bR_inhabited pc = .ok (.ireturn, 1) → (r0 = 0 ∨ r0 = 1) → ck_AT sh_R cm_cl D cA ad H0 st0 H locs → W p l e R s m args below meth c H locs 0 0 Q (F0 m pc ls [.int r0])) {k4 : Int32 → Int32 → ck_S → Option (Int32 × ck_S)} (hk4 : ∀ (x1 : Int32) (x2 : Int32) (st : ck_S) (H : Heap) (locs : List Loc) (ls : Array Slot), ck_AT sh_R cm_cl D cA ad H0 st H locs → lv_has ls 6 [(0, .ref (ad 0)), (1, .int x1), (2, .int x2)] → k4 x1 x2 st = some (r0, st0) → W p l e R s m args below meth c H locs 0 0 Q (F0 m 4 ls [])) {k116 : Int32 → ck_S → Option (Int32 × ck_S)} (hk116 : ∀ (x1 : Int32) (st : ck_S) (H : Heap) (locs : List Loc) (ls : Array Slot), ck_AT sh_R cm_cl D cA ad H0 st H locs → lv_has ls 6 [(0, .ref (ad 0)), (1, .int x1)] → k116 x1 st = some (r0, st0) → W p l e R s m args below meth c H locs 0 0 Q (F0 m 116 ls [])) (x1 : Int32) (x2 : Int32) (st : ck_S) (H : Heap) (locs : List Loc) (ls : Array Slot) (h : ck_AT sh_R cm_cl D cA ad H0 st H locs) (hl : lv_has ls 6 [(0, .ref (ad 0)), (1, .int x1), (2, .int x2)]) (hf : fR_inhabited_b110 k4 k116 x1 x2 st = some (r0, st0)) : W p l e R s m args below meth c H locs 0 0 Q (F0 m 110 ls []) := by
  have C1 := C
  obtain ⟨hx, hb, hml, hown, hts, hK, hlv, hlo⟩ := C1
  unfold fR_inhabited_b110 at hf
  refine lv_iinc (k := 2) (v := (x2 + 1)) (lv' := [(2, .int (x2 + 1)), (0, .ref (ad 0)), (1, .int x1)]) hx hb dR_inhabited_110 hl rfl rfl (by decide) rfl (fun ls hl => ?_)
  refine lv_goto (tgt := 4) hx hb dR_inhabited_113 rfl ?_
  exact hk4 _ _ _ _ _ _ h (lv_sub hl [1, 2, 0] rfl) hf
def fR_inhabited_l4 (k116 : Int32 → ck_S → Option (Int32 × ck_S)) : Nat → Int32 → Int32 → ck_S → Option (Int32 × ck_S)
  | 0, _, _, _ => none
  | n + 1, x1, x2, st => (if (5 : Int32) ≤ x2 then (k116 x1 st) else (fR_inhabited_l11 (fun x1 x2 st => (fR_inhabited_b110 (fR_inhabited_l4 k116 n) k116 x1 x2 st)) 4096 x1 x2 (0 : Int32) st))
set_option maxRecDepth 100000 in
set_option maxHeartbeats 4000000 in
theorem BR_inhabited_4 (C : ck_X cm_cl D cA bR_inhabited 6 R_R 0 p R s m args c) {r0 : Int32} {st0 : ck_S} (hret : ∀ (pc : Nat) (H : Heap) (locs : List Loc) (ls : Array Slot), decode bR_inhabited pc = .ok (.ireturn, 1) → (r0 = 0 ∨ r0 = 1) → ck_AT sh_R cm_cl D cA ad H0 st0 H locs → W p l e R s m args below meth c H locs 0 0 Q (F0 m pc ls [.int r0])) {k116 : Int32 → ck_S → Option (Int32 × ck_S)} (hk116 : ∀ (x1 : Int32) (st : ck_S) (H : Heap) (locs : List Loc) (ls : Array Slot), ck_AT sh_R cm_cl D cA ad H0 st H locs → lv_has ls 6 [(0, .ref (ad 0)), (1, .int x1)] → k116 x1 st = some (r0, st0) → W p l e R s m args below meth c H locs 0 0 Q (F0 m 116 ls [])) : ∀ (n : Nat) (x1 : Int32) (x2 : Int32) (st : ck_S) (H : Heap) (locs : List Loc) (ls : Array Slot), ck_AT sh_R cm_cl D cA ad H0 st H locs → lv_has ls 6 [(0, .ref (ad 0)), (1, .int x1), (2, .int x2)] → fR_inhabited_l4 k116 n x1 x2 st = some (r0, st0) → W p l e R s m args below meth c H locs 0 0 Q (F0 m 4 ls []) := by
  have C1 := C
  obtain ⟨hx, hb, hml, hown, hts, hK, hlv, hlo⟩ := C1
  intro n
  induction n with
  | zero => intro _ _ _ _ _ _ _ _ hf; cases hf
  | succ n ih =>
    intro x1 x2 st H locs ls h hl hf
    rw [fR_inhabited_l4] at hf
    refine lv_iload_n hx hb dR_inhabited_4 rfl (lv_at hl 2 rfl) ?_
    refine lv_iconst (v := 5) hx hb dR_inhabited_5 (by decide) ?_
    refine lv_icmp_ge (tgt := 116) hx hb dR_inhabited_6 rfl (fun hq => ?_) (fun hq => ?_)
    · have hf := ck_t hq hf
      exact hk116 _ _ _ _ _ h (lv_sub hl [0, 1] rfl) hf
    · have hf := ck_f hq hf
      refine lv_iconst (v := 0) hx hb dR_inhabited_9 (by decide) ?_
      refine lv_istore_n (lv' := [(3, .int (0 : Int32)), (0, .ref (ad 0)), (1, .int x1), (2, .int x2)]) hx hb dR_inhabited_10 rfl hl (by decide) rfl (fun ls hl => ?_)
      exact BR_inhabited_11 C hret (fun x1 x2 st H locs ls h hl hf => by
          exact BR_inhabited_110 C hret ih hk116 _ _ _ _ _ _ h (lv_sub hl [0, 1, 2] rfl) hf) 4096 _ _ _ _ _ _ _ h (lv_sub hl [1, 2, 3, 0] rfl) hf
def fR_inhabited_b116 (x1 : Int32) (st : ck_S) : Option (Int32 × ck_S) := (if x1 = (((1 : Int32) <<< (((st 0 0) + (1 : Int32)) &&& 31)) - (1 : Int32)) then (some ((1 : Int32), st)) else (some ((0 : Int32), st)))
set_option maxRecDepth 100000 in
set_option maxHeartbeats 4000000 in
theorem BR_inhabited_116 (C : ck_X cm_cl D cA bR_inhabited 6 R_R 0 p R s m args c) {r0 : Int32} {st0 : ck_S} (hret : ∀ (pc : Nat) (H : Heap) (locs : List Loc) (ls : Array Slot), decode bR_inhabited pc = .ok (.ireturn, 1) → (r0 = 0 ∨ r0 = 1) → ck_AT sh_R cm_cl D cA ad H0 st0 H locs → W p l e R s m args below meth c H locs 0 0 Q (F0 m pc ls [.int r0])) (x1 : Int32) (st : ck_S) (H : Heap) (locs : List Loc) (ls : Array Slot) (h : ck_AT sh_R cm_cl D cA ad H0 st H locs) (hl : lv_has ls 6 [(0, .ref (ad 0)), (1, .int x1)]) (hf : fR_inhabited_b116 x1 st = some (r0, st0)) : W p l e R s m args below meth c H locs 0 0 Q (F0 m 116 ls []) := by
  have C1 := C
  obtain ⟨hx, hb, hml, hown, hts, hK, hlv, hlo⟩ := C1
  unfold fR_inhabited_b116 at hf
  refine lv_iload_n hx hb dR_inhabited_116 rfl (lv_at hl 1 rfl) ?_
  refine lv_iconst (v := 1) hx hb dR_inhabited_117 (by decide) ?_
  refine lv_aload_n hx hb dR_inhabited_118 rfl (lv_at hl 0 rfl) ?_
  refine ck_gi (x := (st 0 0)) C h FR_types rfl dR_inhabited_119 ?_
  refine lv_iconst (v := 1) hx hb dR_inhabited_122 (by decide) ?_
  refine lv_iadd hx hb dR_inhabited_123 ?_
  refine lv_ishl hx hb dR_inhabited_124 ?_
  refine lv_iconst (v := 1) hx hb dR_inhabited_125 (by decide) ?_
  refine lv_isub hx hb dR_inhabited_126 ?_
  refine lv_icmp_ne (tgt := 134) hx hb dR_inhabited_127 rfl (fun hq => ?_) (fun hq => ?_)
  · have hf := ck_f hq hf
    refine lv_iconst (v := 0) hx hb dR_inhabited_134 (by decide) ?_
    exact ck_rz hf hret ck_z0 h dR_inhabited_135
  · have hf := ck_t hq hf
    refine lv_iconst (v := 1) hx hb dR_inhabited_130 (by decide) ?_
    refine lv_goto (tgt := 135) hx hb dR_inhabited_131 rfl ?_
    exact ck_rz hf hret ck_z1 h dR_inhabited_135
def fR_inhabited (st : ck_S) : Option (Int32 × ck_S) := (fR_inhabited_l4 (fun x1 st => (fR_inhabited_b116 x1 st)) 4096 (1 : Int32) (0 : Int32) st)
set_option maxRecDepth 100000 in
set_option maxHeartbeats 4000000 in
theorem cR_inhabited (l : Launch) (D : va_G) (cA : Nat → ClassId) (ad : Nat → Nat) {st : ck_S} {r0 : Int32} {st0 : ck_S} (hf : fR_inhabited st = some (r0, st0)) : Met l yR_inhabited (.code yR_inhabited bR_inhabited 6 (some .boolean) :: ck_T) (ck_R 0) (va_Pc [.ref (ad 0)] (ck_P sh_R cm_cl D cA ad st)) (va_Qi (fun a u => a = r0 ∧ u = st0) (ck_P sh_R cm_cl D cA ad) (ck_A ad sh_R.length)) 0 0 (ck_A ad sh_R.length) := by
  refine ck_met_z (own := R_R) (by decide +kernel) rfl (Nat.le_of_ble_eq_true rfl) (fun p e R s m args below meth c H0 Q ls C hret h hl => ?_)
  have C1 := C
  obtain ⟨hx, hb, hml, hown, hts, hK, hlv, hlo⟩ := C1
  have hl : lv_has ls 6 [(0, .ref (ad 0))] := hl
  unfold fR_inhabited at hf
  refine lv_iconst (v := 1) hx hb dR_inhabited_0 (by decide) ?_
  refine lv_istore_n (lv' := [(1, .int (1 : Int32)), (0, .ref (ad 0))]) hx hb dR_inhabited_1 rfl hl (by decide) rfl (fun ls hl => ?_)
  refine lv_iconst (v := 0) hx hb dR_inhabited_2 (by decide) ?_
  refine lv_istore_n (lv' := [(2, .int (0 : Int32)), (1, .int (1 : Int32)), (0, .ref (ad 0))]) hx hb dR_inhabited_3 rfl hl (by decide) rfl (fun ls hl => ?_)
  exact BR_inhabited_4 C hret (fun x1 st H locs ls h hl hf => by
      exact BR_inhabited_116 C hret _ _ _ _ _ h (lv_sub hl [0, 1] rfl) hf) 4096 _ _ _ _ _ _ h (lv_sub hl [2, 1, 0] rfl) hf
def fR_begin (x1 : Int32) (st : ck_S) : Option (Int32 × ck_S) := (if (st 0 18) < 0 then (ck_b (fR_isType x1 st) fun v2 st1 => (if v2 = 0 then (some ((-3 : Int32), st1)) else (ck_b (fR_inhabited st1) fun v4 st3 => (if v4 = 0 then (some ((-11 : Int32), st3)) else (some ((0 : Int32), (ck_u st3 0 18 x1))))))) else (some ((-2 : Int32), st)))
set_option maxRecDepth 100000 in
set_option maxHeartbeats 4000000 in
theorem cR_begin (l : Launch) (D : va_G) (cA : Nat → ClassId) (ad : Nat → Nat) {x1 : Int32} {st : ck_S} {r0 : Int32} {st0 : ck_S} (hf : fR_begin x1 st = some (r0, st0)) : Met l yR_begin (.code yR_begin bR_begin 2 (some .int) :: ck_T) (ck_R 1) (va_Pc [.ref (ad 0), .int x1] (ck_P sh_R cm_cl D cA ad st)) (va_Qi (fun a u => a = r0 ∧ u = st0) (ck_P sh_R cm_cl D cA ad) (ck_A ad sh_R.length)) 0 0 (ck_A ad sh_R.length) := by
  refine ck_met_i (own := R_R) (by decide +kernel) rfl (Nat.le_of_ble_eq_true rfl) (fun p e R s m args below meth c H0 Q ls C hret h hl => ?_)
  have C1 := C
  obtain ⟨hx, hb, hml, hown, hts, hK, hlv, hlo⟩ := C1
  have hl : lv_has ls 2 [(0, .ref (ad 0)), (1, .int x1)] := hl
  unfold fR_begin at hf
  refine lv_aload_n hx hb dR_begin_0 rfl (lv_at hl 0 rfl) ?_
  refine ck_gi (x := (st 0 18)) C h FR_over rfl dR_begin_1 ?_
  refine lv_if_lt (tgt := 10) hx hb dR_begin_4 rfl (fun hq => ?_) (fun hq => ?_)
  · have hf := ck_t hq hf
    refine lv_aload_n hx hb dR_begin_10 rfl (lv_at hl 0 rfl) ?_
    refine lv_iload_n hx hb dR_begin_11 rfl (lv_at hl 1 rfl) ?_
    obtain ⟨v2, st1, hc, hf⟩ := ck_b_e hf
    refine ck_vi (As := [.int x1]) (rest := []) (q := 0) C h hl CR_R_isType sR_isType q_R (cR_isType l D cA ad hc) (Nat.le_of_ble_eq_true rfl) rfl rfl (Nat.le_of_ble_eq_true rfl) dR_begin_12 (fun H locs h => ?_)
    refine lv_if_ne (tgt := 21) hx hb dR_begin_15 rfl (fun hq => ?_) (fun hq => ?_)
    · have hf := ck_f hq hf
      refine lv_aload_n hx hb dR_begin_21 rfl (lv_at hl 0 rfl) ?_
      obtain ⟨v4, st3, hc, hf⟩ := ck_b_e hf
      refine ck_vi (As := []) (rest := []) (q := 0) C h hl CR_R_inhabited sR_inhabited q_R (cR_inhabited l D cA ad hc) (Nat.le_of_ble_eq_true rfl) rfl rfl (Nat.le_of_ble_eq_true rfl) dR_begin_22 (fun H locs h => ?_)
      refine lv_if_ne (tgt := 31) hx hb dR_begin_25 rfl (fun hq => ?_) (fun hq => ?_)
      · have hf := ck_f hq hf
        refine lv_aload_n hx hb dR_begin_31 rfl (lv_at hl 0 rfl) ?_
        refine lv_iload_n hx hb dR_begin_32 rfl (lv_at hl 1 rfl) ?_
        refine ck_pi C h GR_over rfl rfl dR_begin_33 (fun H locs h => ?_)
        refine lv_iconst (v := 0) hx hb dR_begin_36 (by decide) ?_
        exact ck_ri hf hret h dR_begin_37
      · have hf := ck_t hq hf
        refine lv_bipush (v := (-11)) hx hb dR_begin_28 (by decide) ?_
        exact ck_ri hf hret h dR_begin_30
    · have hf := ck_t hq hf
      refine lv_bipush (v := (-3)) hx hb dR_begin_18 (by decide) ?_
      exact ck_ri hf hret h dR_begin_20
  · have hf := ck_f hq hf
    refine lv_bipush (v := (-2)) hx hb dR_begin_7 (by decide) ?_
    exact ck_ri hf hret h dR_begin_9
def fR_isPattern (x1 : Int32) (st : ck_S) : Option (Int32 × ck_S) := (if x1 < 0 then (some ((0 : Int32), st)) else (if (st 0 5) ≤ x1 then (some ((0 : Int32), st)) else (some ((1 : Int32), st))))
set_option maxRecDepth 100000 in
set_option maxHeartbeats 4000000 in
theorem cR_isPattern (l : Launch) (D : va_G) (cA : Nat → ClassId) (ad : Nat → Nat) {x1 : Int32} {st : ck_S} {r0 : Int32} {st0 : ck_S} (hf : fR_isPattern x1 st = some (r0, st0)) : Met l yR_isPattern (.code yR_isPattern bR_isPattern 2 (some .boolean) :: ck_T) (ck_R 0) (va_Pc [.ref (ad 0), .int x1] (ck_P sh_R cm_cl D cA ad st)) (va_Qi (fun a u => a = r0 ∧ u = st0) (ck_P sh_R cm_cl D cA ad) (ck_A ad sh_R.length)) 0 0 (ck_A ad sh_R.length) := by
  refine ck_met_z (own := R_R) (by decide +kernel) rfl (Nat.le_of_ble_eq_true rfl) (fun p e R s m args below meth c H0 Q ls C hret h hl => ?_)
  have C1 := C
  obtain ⟨hx, hb, hml, hown, hts, hK, hlv, hlo⟩ := C1
  have hl : lv_has ls 2 [(0, .ref (ad 0)), (1, .int x1)] := hl
  unfold fR_isPattern at hf
  refine lv_iload_n hx hb dR_isPattern_0 rfl (lv_at hl 1 rfl) ?_
  refine lv_if_lt (tgt := 16) hx hb dR_isPattern_1 rfl (fun hq => ?_) (fun hq => ?_)
  · have hf := ck_t hq hf
    refine lv_iconst (v := 0) hx hb dR_isPattern_16 (by decide) ?_
    exact ck_rz hf hret ck_z0 h dR_isPattern_17
  · have hf := ck_f hq hf
    refine lv_iload_n hx hb dR_isPattern_4 rfl (lv_at hl 1 rfl) ?_
    refine lv_aload_n hx hb dR_isPattern_5 rfl (lv_at hl 0 rfl) ?_
    refine ck_gi (x := (st 0 5)) C h FR_patterns rfl dR_isPattern_6 ?_
    refine lv_icmp_ge (tgt := 16) hx hb dR_isPattern_9 rfl (fun hq => ?_) (fun hq => ?_)
    · have hf := ck_t hq hf
      refine lv_iconst (v := 0) hx hb dR_isPattern_16 (by decide) ?_
      exact ck_rz hf hret ck_z0 h dR_isPattern_17
    · have hf := ck_f hq hf
      refine lv_iconst (v := 1) hx hb dR_isPattern_12 (by decide) ?_
      refine lv_goto (tgt := 17) hx hb dR_isPattern_13 rfl ?_
      exact ck_rz hf hret ck_z1 h dR_isPattern_17
def fR_fitsType (x1 : Int32) (x2 : Int32) (st : ck_S) : Option (Int32 × ck_S) := (ck_gd x1 60 (if (st 8 (x1).toNatClampNeg) < 0 then (some ((1 : Int32), st)) else (ck_gd x1 60 (if (st 8 (x1).toNatClampNeg) = x2 then (some ((1 : Int32), st)) else (some ((0 : Int32), st))))))
set_option maxRecDepth 100000 in
set_option maxHeartbeats 4000000 in
theorem cR_fitsType (l : Launch) (D : va_G) (cA : Nat → ClassId) (ad : Nat → Nat) {x1 : Int32} {x2 : Int32} {st : ck_S} {r0 : Int32} {st0 : ck_S} (hf : fR_fitsType x1 x2 st = some (r0, st0)) : Met l yR_fitsType (.code yR_fitsType bR_fitsType 3 (some .boolean) :: ck_T) (ck_R 0) (va_Pc [.ref (ad 0), .int x1, .int x2] (ck_P sh_R cm_cl D cA ad st)) (va_Qi (fun a u => a = r0 ∧ u = st0) (ck_P sh_R cm_cl D cA ad) (ck_A ad sh_R.length)) 0 0 (ck_A ad sh_R.length) := by
  refine ck_met_z (own := R_R) (by decide +kernel) rfl (Nat.le_of_ble_eq_true rfl) (fun p e R s m args below meth c H0 Q ls C hret h hl => ?_)
  have C1 := C
  obtain ⟨hx, hb, hml, hown, hts, hK, hlv, hlo⟩ := C1
  have hl : lv_has ls 3 [(0, .ref (ad 0)), (1, .int x1), (2, .int x2)] := hl
  unfold fR_fitsType at hf
  refine lv_aload_n hx hb dR_fitsType_0 rfl (lv_at hl 0 rfl) ?_
  refine ck_gr C h FR_kindOfType dR_fitsType_1 ?_
  refine lv_iload_n hx hb dR_fitsType_4 rfl (lv_at hl 1 rfl) ?_
  obtain ⟨hg, hf⟩ := ck_gd_e hf
  refine ck_ai (x := (st 8 (x1).toNatClampNeg)) C h (show sh_R[8]? = some (.inr (0, 60)) from rfl) hg rfl dR_fitsType_5 ?_
  refine lv_if_lt (tgt := 19) hx hb dR_fitsType_6 rfl (fun hq => ?_) (fun hq => ?_)
  · have hf := ck_t hq hf
    refine lv_iconst (v := 1) hx hb dR_fitsType_19 (by decide) ?_
    refine lv_goto (tgt := 24) hx hb dR_fitsType_20 rfl ?_
    exact ck_rz hf hret ck_z1 h dR_fitsType_24
  · have hf := ck_f hq hf
    refine lv_aload_n hx hb dR_fitsType_9 rfl (lv_at hl 0 rfl) ?_
    refine ck_gr C h FR_kindOfType dR_fitsType_10 ?_
    refine lv_iload_n hx hb dR_fitsType_13 rfl (lv_at hl 1 rfl) ?_
    obtain ⟨hg, hf⟩ := ck_gd_e hf
    refine ck_ai (x := (st 8 (x1).toNatClampNeg)) C h (show sh_R[8]? = some (.inr (0, 60)) from rfl) hg rfl dR_fitsType_14 ?_
    refine lv_iload_n hx hb dR_fitsType_15 rfl (lv_at hl 2 rfl) ?_
    refine lv_icmp_ne (tgt := 23) hx hb dR_fitsType_16 rfl (fun hq => ?_) (fun hq => ?_)
    · have hf := ck_f hq hf
      refine lv_iconst (v := 0) hx hb dR_fitsType_23 (by decide) ?_
      exact ck_rz hf hret ck_z0 h dR_fitsType_24
    · have hf := ck_t hq hf
      refine lv_iconst (v := 1) hx hb dR_fitsType_19 (by decide) ?_
      refine lv_goto (tgt := 24) hx hb dR_fitsType_20 rfl ?_
      exact ck_rz hf hret ck_z1 h dR_fitsType_24
def fR_pattern (x1 : Int32) (x2 : Int32) (x3 : Int32) (x4 : Int32) (x5 : Int32) (x6 : Int32) (x7 : Int32) (st : ck_S) : Option (Int32 × ck_S) := (ck_gd (st 0 5) 60 (ck_gd (st 0 5) 60 (ck_gd (st 0 5) 60 (ck_gd (st 0 5) 60 (ck_gd (st 0 5) 60 (ck_gd (st 0 5) 60 (ck_gd (st 0 5) 60 (some ((((st 0 5) + (1 : Int32)) - (1 : Int32)), (ck_u (ck_u (ck_u (ck_u (ck_u (ck_u (ck_u (ck_u st 4 ((st 0 5)).toNatClampNeg x1) 5 ((st 0 5)).toNatClampNeg x2) 6 ((st 0 5)).toNatClampNeg x3) 7 ((st 0 5)).toNatClampNeg x4) 8 ((st 0 5)).toNatClampNeg x5) 9 ((st 0 5)).toNatClampNeg x6) 10 ((st 0 5)).toNatClampNeg x7) 0 5 ((st 0 5) + (1 : Int32))))))))))))
set_option maxRecDepth 100000 in
set_option maxHeartbeats 4000000 in
theorem cR_pattern (l : Launch) (D : va_G) (cA : Nat → ClassId) (ad : Nat → Nat) {x1 : Int32} {x2 : Int32} {x3 : Int32} {x4 : Int32} {x5 : Int32} {x6 : Int32} {x7 : Int32} {st : ck_S} {r0 : Int32} {st0 : ck_S} (hf : fR_pattern x1 x2 x3 x4 x5 x6 x7 st = some (r0, st0)) : Met l yR_pattern (.code yR_pattern bR_pattern 8 (some .int) :: ck_T) (ck_R 0) (va_Pc [.ref (ad 0), .int x1, .int x2, .int x3, .int x4, .int x5, .int x6, .int x7] (ck_P sh_R cm_cl D cA ad st)) (va_Qi (fun a u => a = r0 ∧ u = st0) (ck_P sh_R cm_cl D cA ad) (ck_A ad sh_R.length)) 0 0 (ck_A ad sh_R.length) := by
  refine ck_met_i (own := R_R) (by decide +kernel) rfl (Nat.le_of_ble_eq_true rfl) (fun p e R s m args below meth c H0 Q ls C hret h hl => ?_)
  have C1 := C
  obtain ⟨hx, hb, hml, hown, hts, hK, hlv, hlo⟩ := C1
  have hl : lv_has ls 8 [(0, .ref (ad 0)), (1, .int x1), (2, .int x2), (3, .int x3), (4, .int x4), (5, .int x5), (6, .int x6), (7, .int x7)] := hl
  unfold fR_pattern at hf
  refine lv_aload_n hx hb dR_pattern_0 rfl (lv_at hl 0 rfl) ?_
  refine ck_gr C h FR_kind dR_pattern_1 ?_
  refine lv_aload_n hx hb dR_pattern_4 rfl (lv_at hl 0 rfl) ?_
  refine ck_gi (x := (st 0 5)) C h FR_patterns rfl dR_pattern_5 ?_
  refine lv_iload_n hx hb dR_pattern_8 rfl (lv_at hl 1 rfl) ?_
  obtain ⟨hg, hf⟩ := ck_gd_e hf
  refine ck_si C h (show sh_R[4]? = some (.inr (0, 60)) from rfl) hg dR_pattern_9 (fun H locs h => ?_)
  refine lv_aload_n hx hb dR_pattern_10 rfl (lv_at hl 0 rfl) ?_
  refine ck_gr C h FR_what dR_pattern_11 ?_
  refine lv_aload_n hx hb dR_pattern_14 rfl (lv_at hl 0 rfl) ?_
  refine ck_gi (x := (st 0 5)) C h FR_patterns rfl dR_pattern_15 ?_
  refine lv_iload_n hx hb dR_pattern_18 rfl (lv_at hl 2 rfl) ?_
  obtain ⟨hg, hf⟩ := ck_gd_e hf
  refine ck_si C h (show sh_R[5]? = some (.inr (0, 60)) from rfl) hg dR_pattern_19 (fun H locs h => ?_)
  refine lv_aload_n hx hb dR_pattern_20 rfl (lv_at hl 0 rfl) ?_
  refine ck_gr C h FR_left dR_pattern_21 ?_
  refine lv_aload_n hx hb dR_pattern_24 rfl (lv_at hl 0 rfl) ?_
  refine ck_gi (x := (st 0 5)) C h FR_patterns rfl dR_pattern_25 ?_
  refine lv_iload_n hx hb dR_pattern_28 rfl (lv_at hl 3 rfl) ?_
  obtain ⟨hg, hf⟩ := ck_gd_e hf
  refine ck_si C h (show sh_R[6]? = some (.inr (0, 60)) from rfl) hg dR_pattern_29 (fun H locs h => ?_)
  refine lv_aload_n hx hb dR_pattern_30 rfl (lv_at hl 0 rfl) ?_
  refine ck_gr C h FR_right dR_pattern_31 ?_
  refine lv_aload_n hx hb dR_pattern_34 rfl (lv_at hl 0 rfl) ?_
  refine ck_gi (x := (st 0 5)) C h FR_patterns rfl dR_pattern_35 ?_
  refine lv_iload hx hb dR_pattern_38 (lv_at hl 4 rfl) ?_
  obtain ⟨hg, hf⟩ := ck_gd_e hf
  refine ck_si C h (show sh_R[7]? = some (.inr (0, 60)) from rfl) hg dR_pattern_40 (fun H locs h => ?_)
  refine lv_aload_n hx hb dR_pattern_41 rfl (lv_at hl 0 rfl) ?_
  refine ck_gr C h FR_kindOfType dR_pattern_42 ?_
  refine lv_aload_n hx hb dR_pattern_45 rfl (lv_at hl 0 rfl) ?_
  refine ck_gi (x := (st 0 5)) C h FR_patterns rfl dR_pattern_46 ?_
  refine lv_iload hx hb dR_pattern_49 (lv_at hl 5 rfl) ?_
  obtain ⟨hg, hf⟩ := ck_gd_e hf
  refine ck_si C h (show sh_R[8]? = some (.inr (0, 60)) from rfl) hg dR_pattern_51 (fun H locs h => ?_)
  refine lv_aload_n hx hb dR_pattern_52 rfl (lv_at hl 0 rfl) ?_
  refine ck_gr C h FR_depth dR_pattern_53 ?_
  refine lv_aload_n hx hb dR_pattern_56 rfl (lv_at hl 0 rfl) ?_
  refine ck_gi (x := (st 0 5)) C h FR_patterns rfl dR_pattern_57 ?_
  refine lv_iload hx hb dR_pattern_60 (lv_at hl 6 rfl) ?_
  obtain ⟨hg, hf⟩ := ck_gd_e hf
  refine ck_si C h (show sh_R[9]? = some (.inr (0, 60)) from rfl) hg dR_pattern_62 (fun H locs h => ?_)
  refine lv_aload_n hx hb dR_pattern_63 rfl (lv_at hl 0 rfl) ?_
  refine ck_gr C h FR_choices dR_pattern_64 ?_
  refine lv_aload_n hx hb dR_pattern_67 rfl (lv_at hl 0 rfl) ?_
  refine ck_gi (x := (st 0 5)) C h FR_patterns rfl dR_pattern_68 ?_
  refine lv_iload hx hb dR_pattern_71 (lv_at hl 7 rfl) ?_
  obtain ⟨hg, hf⟩ := ck_gd_e hf
  refine ck_si C h (show sh_R[10]? = some (.inr (0, 60)) from rfl) hg dR_pattern_73 (fun H locs h => ?_)
  refine lv_aload_n hx hb dR_pattern_74 rfl (lv_at hl 0 rfl) ?_
  refine lv_dup hx hb dR_pattern_75 rfl ?_
  refine ck_gi (x := (st 0 5)) C h FR_patterns rfl dR_pattern_76 ?_
  refine lv_iconst (v := 1) hx hb dR_pattern_79 (by decide) ?_
  refine lv_iadd hx hb dR_pattern_80 ?_
  refine ck_pi C h GR_patterns rfl rfl dR_pattern_81 (fun H locs h => ?_)
  refine lv_aload_n hx hb dR_pattern_84 rfl (lv_at hl 0 rfl) ?_
  refine ck_gi (x := ((st 0 5) + (1 : Int32))) C h FR_patterns rfl dR_pattern_85 ?_
  refine lv_iconst (v := 1) hx hb dR_pattern_88 (by decide) ?_
  refine lv_isub hx hb dR_pattern_89 ?_
  exact ck_ri hf hret h dR_pattern_90
def fR_any (st : ck_S) : Option (Int32 × ck_S) := (if (st 0 5) = (60 : Int32) then (some ((-8 : Int32), st)) else (ck_b (fR_pattern (0 : Int32) (0 : Int32) (-1 : Int32) (-1 : Int32) (-1 : Int32) (1 : Int32) (1 : Int32) st) fun v2 st1 => (some (v2, st1))))
set_option maxRecDepth 100000 in
set_option maxHeartbeats 4000000 in
theorem cR_any (l : Launch) (D : va_G) (cA : Nat → ClassId) (ad : Nat → Nat) {st : ck_S} {r0 : Int32} {st0 : ck_S} (hf : fR_any st = some (r0, st0)) : Met l yR_any (.code yR_any bR_any 1 (some .int) :: ck_T) (ck_R 1) (va_Pc [.ref (ad 0)] (ck_P sh_R cm_cl D cA ad st)) (va_Qi (fun a u => a = r0 ∧ u = st0) (ck_P sh_R cm_cl D cA ad) (ck_A ad sh_R.length)) 0 0 (ck_A ad sh_R.length) := by
  refine ck_met_i (own := R_R) (by decide +kernel) rfl (Nat.le_of_ble_eq_true rfl) (fun p e R s m args below meth c H0 Q ls C hret h hl => ?_)
  have C1 := C
  obtain ⟨hx, hb, hml, hown, hts, hK, hlv, hlo⟩ := C1
  have hl : lv_has ls 1 [(0, .ref (ad 0))] := hl
  unfold fR_any at hf
  refine lv_aload_n hx hb dR_any_0 rfl (lv_at hl 0 rfl) ?_
  refine ck_gi (x := (st 0 5)) C h FR_patterns rfl dR_any_1 ?_
  refine lv_bipush (v := 60) hx hb dR_any_4 (by decide) ?_
  refine lv_icmp_ne (tgt := 14) hx hb dR_any_6 rfl (fun hq => ?_) (fun hq => ?_)
  · have hf := ck_f hq hf
    refine lv_aload_n hx hb dR_any_14 rfl (lv_at hl 0 rfl) ?_
    refine lv_iconst (v := 0) hx hb dR_any_15 (by decide) ?_
    refine lv_iconst (v := 0) hx hb dR_any_16 (by decide) ?_
    refine lv_iconst (v := (-1)) hx hb dR_any_17 (by decide) ?_
    refine lv_iconst (v := (-1)) hx hb dR_any_18 (by decide) ?_
    refine lv_iconst (v := (-1)) hx hb dR_any_19 (by decide) ?_
    refine lv_iconst (v := 1) hx hb dR_any_20 (by decide) ?_
    refine lv_iconst (v := 1) hx hb dR_any_21 (by decide) ?_
    obtain ⟨v2, st1, hc, hf⟩ := ck_b_e hf
    refine ck_vi (As := [.int (0 : Int32), .int (0 : Int32), .int (-1 : Int32), .int (-1 : Int32), .int (-1 : Int32), .int (1 : Int32), .int (1 : Int32)]) (rest := []) (q := 0) C h hl CR_R_pattern sR_pattern q_R (cR_pattern l D cA ad hc) (Nat.le_of_ble_eq_true rfl) rfl rfl (Nat.le_of_ble_eq_true rfl) dR_any_22 (fun H locs h => ?_)
    exact ck_ri hf hret h dR_any_25
  · have hf := ck_t hq hf
    refine lv_bipush (v := (-8)) hx hb dR_any_9 (by decide) ?_
    refine lv_goto (tgt := 25) hx hb dR_any_11 rfl ?_
    exact ck_ri hf hret h dR_any_25
def fR_number (x1 : Int32) (st : ck_S) : Option (Int32 × ck_S) := (if (st 0 5) = (60 : Int32) then (some ((-8 : Int32), st)) else (ck_b (fR_pattern (1 : Int32) x1 (-1 : Int32) (-1 : Int32) (0 : Int32) (1 : Int32) (1 : Int32) st) fun v2 st1 => (some (v2, st1))))
set_option maxRecDepth 100000 in
set_option maxHeartbeats 4000000 in
theorem cR_number (l : Launch) (D : va_G) (cA : Nat → ClassId) (ad : Nat → Nat) {x1 : Int32} {st : ck_S} {r0 : Int32} {st0 : ck_S} (hf : fR_number x1 st = some (r0, st0)) : Met l yR_number (.code yR_number bR_number 2 (some .int) :: ck_T) (ck_R 1) (va_Pc [.ref (ad 0), .int x1] (ck_P sh_R cm_cl D cA ad st)) (va_Qi (fun a u => a = r0 ∧ u = st0) (ck_P sh_R cm_cl D cA ad) (ck_A ad sh_R.length)) 0 0 (ck_A ad sh_R.length) := by
  refine ck_met_i (own := R_R) (by decide +kernel) rfl (Nat.le_of_ble_eq_true rfl) (fun p e R s m args below meth c H0 Q ls C hret h hl => ?_)
  have C1 := C
  obtain ⟨hx, hb, hml, hown, hts, hK, hlv, hlo⟩ := C1
  have hl : lv_has ls 2 [(0, .ref (ad 0)), (1, .int x1)] := hl
  unfold fR_number at hf
  refine lv_aload_n hx hb dR_number_0 rfl (lv_at hl 0 rfl) ?_
  refine ck_gi (x := (st 0 5)) C h FR_patterns rfl dR_number_1 ?_
  refine lv_bipush (v := 60) hx hb dR_number_4 (by decide) ?_
  refine lv_icmp_ne (tgt := 14) hx hb dR_number_6 rfl (fun hq => ?_) (fun hq => ?_)
  · have hf := ck_f hq hf
    refine lv_aload_n hx hb dR_number_14 rfl (lv_at hl 0 rfl) ?_
    refine lv_iconst (v := 1) hx hb dR_number_15 (by decide) ?_
    refine lv_iload_n hx hb dR_number_16 rfl (lv_at hl 1 rfl) ?_
    refine lv_iconst (v := (-1)) hx hb dR_number_17 (by decide) ?_
    refine lv_iconst (v := (-1)) hx hb dR_number_18 (by decide) ?_
    refine lv_iconst (v := 0) hx hb dR_number_19 (by decide) ?_
    refine lv_iconst (v := 1) hx hb dR_number_20 (by decide) ?_
    refine lv_iconst (v := 1) hx hb dR_number_21 (by decide) ?_
    obtain ⟨v2, st1, hc, hf⟩ := ck_b_e hf
    refine ck_vi (As := [.int (1 : Int32), .int x1, .int (-1 : Int32), .int (-1 : Int32), .int (0 : Int32), .int (1 : Int32), .int (1 : Int32)]) (rest := []) (q := 0) C h hl CR_R_pattern sR_pattern q_R (cR_pattern l D cA ad hc) (Nat.le_of_ble_eq_true rfl) rfl rfl (Nat.le_of_ble_eq_true rfl) dR_number_22 (fun H locs h => ?_)
    exact ck_ri hf hret h dR_number_25
  · have hf := ck_t hq hf
    refine lv_bipush (v := (-8)) hx hb dR_number_9 (by decide) ?_
    refine lv_goto (tgt := 25) hx hb dR_number_11 rfl ?_
    exact ck_ri hf hret h dR_number_25
def fR_build_b222 (y0 : Int32) (y1 : Int32) (x1 : Int32) (x2 : Int32) (x3 : Int32) (x6 : Int32) (st : ck_S) : Option (Int32 × ck_S) := (if (y1 * y0) ≤ (8 : Int32) then (if (st 0 5) = (60 : Int32) then (some ((-8 : Int32), st)) else (ck_gd x1 12 (ck_b (fR_pattern (2 : Int32) x1 x2 x3 (st 1 (x1).toNatClampNeg) (x6 + (1 : Int32)) (y1 * y0) st) fun v2 st1 => (some (v2, st1))))) else (some ((-10 : Int32), st)))
set_option maxRecDepth 100000 in
set_option maxHeartbeats 4000000 in
theorem BR_build_222 (C : ck_X cm_cl D cA bR_build 8 R_R 1 p R s m args c) {r0 : Int32} {st0 : ck_S} (hret : ∀ (pc : Nat) (H : Heap) (locs : List Loc) (ls : Array Slot), decode bR_build pc = .ok (.ireturn, 1) → ck_AT sh_R cm_cl D cA ad H0 st0 H locs → W p l e R s m args below meth c H locs 0 0 Q (F0 m pc ls [.int r0])) (y0 : Int32) (y1 : Int32) (x1 : Int32) (x2 : Int32) (x3 : Int32) (x6 : Int32) (st : ck_S) (H : Heap) (locs : List Loc) (ls : Array Slot) (h : ck_AT sh_R cm_cl D cA ad H0 st H locs) (hl : lv_has ls 8 [(0, .ref (ad 0)), (1, .int x1), (2, .int x2), (3, .int x3), (6, .int x6)]) (hf : fR_build_b222 y0 y1 x1 x2 x3 x6 st = some (r0, st0)) : W p l e R s m args below meth c H locs 0 0 Q (F0 m 222 ls [.int y0, .int y1]) := by
  have C1 := C
  obtain ⟨hx, hb, hml, hown, hts, hK, hlv, hlo⟩ := C1
  unfold fR_build_b222 at hf
  refine lv_imul hx hb dR_build_222 ?_
  refine lv_istore (lv' := [(7, .int (y1 * y0)), (0, .ref (ad 0)), (1, .int x1), (2, .int x2), (3, .int x3), (6, .int x6)]) hx hb dR_build_223 hl (by decide) rfl (fun ls hl => ?_)
  refine lv_iload hx hb dR_build_225 (lv_at hl 0 rfl) ?_
  refine lv_bipush (v := 8) hx hb dR_build_227 (by decide) ?_
  refine lv_icmp_le (tgt := 235) hx hb dR_build_229 rfl (fun hq => ?_) (fun hq => ?_)
  · have hf := ck_t hq hf
    refine lv_aload_n hx hb dR_build_235 rfl (lv_at hl 1 rfl) ?_
    refine ck_gi (x := (st 0 5)) C h FR_patterns rfl dR_build_236 ?_
    refine lv_bipush (v := 60) hx hb dR_build_239 (by decide) ?_
    refine lv_icmp_ne (tgt := 249) hx hb dR_build_241 rfl (fun hq => ?_) (fun hq => ?_)
    · have hf := ck_f hq hf
      refine lv_aload_n hx hb dR_build_249 rfl (lv_at hl 1 rfl) ?_
      refine lv_iconst (v := 2) hx hb dR_build_250 (by decide) ?_
      refine lv_iload_n hx hb dR_build_251 rfl (lv_at hl 2 rfl) ?_
      refine lv_iload_n hx hb dR_build_252 rfl (lv_at hl 3 rfl) ?_
      refine lv_iload_n hx hb dR_build_253 rfl (lv_at hl 4 rfl) ?_
      refine lv_aload_n hx hb dR_build_254 rfl (lv_at hl 1 rfl) ?_
      refine ck_gr C h FR_owner dR_build_255 ?_
      refine lv_iload_n hx hb dR_build_258 rfl (lv_at hl 2 rfl) ?_
      obtain ⟨hg, hf⟩ := ck_gd_e hf
      refine ck_ai (x := (st 1 (x1).toNatClampNeg)) C h (show sh_R[1]? = some (.inr (0, 12)) from rfl) hg rfl dR_build_259 ?_
      refine lv_iload hx hb dR_build_260 (lv_at hl 5 rfl) ?_
      refine lv_iconst (v := 1) hx hb dR_build_262 (by decide) ?_
      refine lv_iadd hx hb dR_build_263 ?_
      refine lv_iload hx hb dR_build_264 (lv_at hl 0 rfl) ?_
      obtain ⟨v2, st1, hc, hf⟩ := ck_b_e hf
      refine ck_vi (As := [.int (2 : Int32), .int x1, .int x2, .int x3, .int (st 1 (x1).toNatClampNeg), .int (x6 + (1 : Int32)), .int (y1 * y0)]) (rest := []) (q := 0) C h hl CR_R_pattern sR_pattern q_R (cR_pattern l D cA ad hc) (Nat.le_of_ble_eq_true rfl) rfl rfl (Nat.le_of_ble_eq_true rfl) dR_build_266 (fun H locs h => ?_)
      exact ck_ri hf hret h dR_build_269
    · have hf := ck_t hq hf
      refine lv_bipush (v := (-8)) hx hb dR_build_244 (by decide) ?_
      refine lv_goto (tgt := 269) hx hb dR_build_246 rfl ?_
      exact ck_ri hf hret h dR_build_269
  · have hf := ck_f hq hf
    refine lv_bipush (v := (-10)) hx hb dR_build_232 (by decide) ?_
    exact ck_ri hf hret h dR_build_234
def fR_build_b207 (y0 : Int32) (x1 : Int32) (x2 : Int32) (x3 : Int32) (x5 : Int32) (x6 : Int32) (st : ck_S) : Option (Int32 × ck_S) := (if x5 = 0 then (fR_build_b222 (1 : Int32) y0 x1 x2 x3 x6 st) else (ck_gd x3 60 (fR_build_b222 (st 10 (x3).toNatClampNeg) y0 x1 x2 x3 x6 st)))
set_option maxRecDepth 100000 in
set_option maxHeartbeats 4000000 in
theorem BR_build_207 (C : ck_X cm_cl D cA bR_build 8 R_R 1 p R s m args c) {r0 : Int32} {st0 : ck_S} (hret : ∀ (pc : Nat) (H : Heap) (locs : List Loc) (ls : Array Slot), decode bR_build pc = .ok (.ireturn, 1) → ck_AT sh_R cm_cl D cA ad H0 st0 H locs → W p l e R s m args below meth c H locs 0 0 Q (F0 m pc ls [.int r0])) (y0 : Int32) (x1 : Int32) (x2 : Int32) (x3 : Int32) (x5 : Int32) (x6 : Int32) (st : ck_S) (H : Heap) (locs : List Loc) (ls : Array Slot) (h : ck_AT sh_R cm_cl D cA ad H0 st H locs) (hl : lv_has ls 8 [(0, .ref (ad 0)), (1, .int x1), (2, .int x2), (3, .int x3), (5, .int x5), (6, .int x6)]) (hf : fR_build_b207 y0 x1 x2 x3 x5 x6 st = some (r0, st0)) : W p l e R s m args below meth c H locs 0 0 Q (F0 m 207 ls [.int y0]) := by
  have C1 := C
  obtain ⟨hx, hb, hml, hown, hts, hK, hlv, hlo⟩ := C1
  unfold fR_build_b207 at hf
  refine lv_iload hx hb dR_build_207 (lv_at hl 4 rfl) ?_
  refine lv_if_eq (tgt := 221) hx hb dR_build_209 rfl (fun hq => ?_) (fun hq => ?_)
  · have hf := ck_t hq hf
    refine lv_iconst (v := 1) hx hb dR_build_221 (by decide) ?_
    exact BR_build_222 C hret _ _ _ _ _ _ _ _ _ _ h (lv_sub hl [0, 1, 2, 3, 5] rfl) hf
  · have hf := ck_f hq hf
    refine lv_aload_n hx hb dR_build_212 rfl (lv_at hl 0 rfl) ?_
    refine ck_gr C h FR_choices dR_build_213 ?_
    refine lv_iload_n hx hb dR_build_216 rfl (lv_at hl 3 rfl) ?_
    obtain ⟨hg, hf⟩ := ck_gd_e hf
    refine ck_ai (x := (st 10 (x3).toNatClampNeg)) C h (show sh_R[10]? = some (.inr (0, 60)) from rfl) hg rfl dR_build_217 ?_
    refine lv_goto (tgt := 222) hx hb dR_build_218 rfl ?_
    exact BR_build_222 C hret _ _ _ _ _ _ _ _ _ _ h (lv_sub hl [0, 1, 2, 3, 5] rfl) hf
def fR_build_b181 (y0 : Int32) (x1 : Int32) (x2 : Int32) (x3 : Int32) (x4 : Int32) (x5 : Int32) (st : ck_S) : Option (Int32 × ck_S) := (if y0 = (4 : Int32) then (some ((-9 : Int32), st)) else (if x4 = 0 then (fR_build_b207 (1 : Int32) x1 x2 x3 x5 y0 st) else (ck_gd x2 60 (fR_build_b207 (st 10 (x2).toNatClampNeg) x1 x2 x3 x5 y0 st))))
set_option maxRecDepth 100000 in
set_option maxHeartbeats 4000000 in
theorem BR_build_181 (C : ck_X cm_cl D cA bR_build 8 R_R 1 p R s m args c) {r0 : Int32} {st0 : ck_S} (hret : ∀ (pc : Nat) (H : Heap) (locs : List Loc) (ls : Array Slot), decode bR_build pc = .ok (.ireturn, 1) → ck_AT sh_R cm_cl D cA ad H0 st0 H locs → W p l e R s m args below meth c H locs 0 0 Q (F0 m pc ls [.int r0])) (y0 : Int32) (x1 : Int32) (x2 : Int32) (x3 : Int32) (x4 : Int32) (x5 : Int32) (st : ck_S) (H : Heap) (locs : List Loc) (ls : Array Slot) (h : ck_AT sh_R cm_cl D cA ad H0 st H locs) (hl : lv_has ls 8 [(0, .ref (ad 0)), (1, .int x1), (2, .int x2), (3, .int x3), (4, .int x4), (5, .int x5)]) (hf : fR_build_b181 y0 x1 x2 x3 x4 x5 st = some (r0, st0)) : W p l e R s m args below meth c H locs 0 0 Q (F0 m 181 ls [.int y0]) := by
  have C1 := C
  obtain ⟨hx, hb, hml, hown, hts, hK, hlv, hlo⟩ := C1
  unfold fR_build_b181 at hf
  refine lv_istore (lv' := [(6, .int y0), (0, .ref (ad 0)), (1, .int x1), (2, .int x2), (3, .int x3), (4, .int x4), (5, .int x5)]) hx hb dR_build_181 hl (by decide) rfl (fun ls hl => ?_)
  refine lv_iload hx hb dR_build_183 (lv_at hl 0 rfl) ?_
  refine lv_iconst (v := 4) hx hb dR_build_185 (by decide) ?_
  refine lv_icmp_ne (tgt := 192) hx hb dR_build_186 rfl (fun hq => ?_) (fun hq => ?_)
  · have hf := ck_f hq hf
    refine lv_iload hx hb dR_build_192 (lv_at hl 5 rfl) ?_
    refine lv_if_eq (tgt := 206) hx hb dR_build_194 rfl (fun hq => ?_) (fun hq => ?_)
    · have hf := ck_t hq hf
      refine lv_iconst (v := 1) hx hb dR_build_206 (by decide) ?_
      exact BR_build_207 C hret _ _ _ _ _ _ _ _ _ _ h (lv_sub hl [1, 2, 3, 4, 6, 0] rfl) hf
    · have hf := ck_f hq hf
      refine lv_aload_n hx hb dR_build_197 rfl (lv_at hl 1 rfl) ?_
      refine ck_gr C h FR_choices dR_build_198 ?_
      refine lv_iload_n hx hb dR_build_201 rfl (lv_at hl 3 rfl) ?_
      obtain ⟨hg, hf⟩ := ck_gd_e hf
      refine ck_ai (x := (st 10 (x2).toNatClampNeg)) C h (show sh_R[10]? = some (.inr (0, 60)) from rfl) hg rfl dR_build_202 ?_
      refine lv_goto (tgt := 207) hx hb dR_build_203 rfl ?_
      exact BR_build_207 C hret _ _ _ _ _ _ _ _ _ _ h (lv_sub hl [1, 2, 3, 4, 6, 0] rfl) hf
  · have hf := ck_t hq hf
    refine lv_bipush (v := (-9)) hx hb dR_build_189 (by decide) ?_
    exact ck_ri hf hret h dR_build_191
def fR_build_b152 (y0 : Int32) (x1 : Int32) (x2 : Int32) (x3 : Int32) (x4 : Int32) (x5 : Int32) (st : ck_S) : Option (Int32 × ck_S) := (if x5 = 0 then (fR_build_b181 y0 x1 x2 x3 x4 x5 st) else (ck_gd x3 60 (if (st 9 (x3).toNatClampNeg) ≤ y0 then (fR_build_b181 y0 x1 x2 x3 x4 x5 st) else (ck_gd x3 60 (fR_build_b181 (st 9 (x3).toNatClampNeg) x1 x2 x3 x4 x5 st)))))
set_option maxRecDepth 100000 in
set_option maxHeartbeats 4000000 in
theorem BR_build_152 (C : ck_X cm_cl D cA bR_build 8 R_R 1 p R s m args c) {r0 : Int32} {st0 : ck_S} (hret : ∀ (pc : Nat) (H : Heap) (locs : List Loc) (ls : Array Slot), decode bR_build pc = .ok (.ireturn, 1) → ck_AT sh_R cm_cl D cA ad H0 st0 H locs → W p l e R s m args below meth c H locs 0 0 Q (F0 m pc ls [.int r0])) (y0 : Int32) (x1 : Int32) (x2 : Int32) (x3 : Int32) (x4 : Int32) (x5 : Int32) (st : ck_S) (H : Heap) (locs : List Loc) (ls : Array Slot) (h : ck_AT sh_R cm_cl D cA ad H0 st H locs) (hl : lv_has ls 8 [(0, .ref (ad 0)), (1, .int x1), (2, .int x2), (3, .int x3), (4, .int x4), (5, .int x5)]) (hf : fR_build_b152 y0 x1 x2 x3 x4 x5 st = some (r0, st0)) : W p l e R s m args below meth c H locs 0 0 Q (F0 m 152 ls [.int y0]) := by
  have C1 := C
  obtain ⟨hx, hb, hml, hown, hts, hK, hlv, hlo⟩ := C1
  unfold fR_build_b152 at hf
  refine lv_istore (lv' := [(6, .int y0), (0, .ref (ad 0)), (1, .int x1), (2, .int x2), (3, .int x3), (4, .int x4), (5, .int x5)]) hx hb dR_build_152 hl (by decide) rfl (fun ls hl => ?_)
  refine lv_iload hx hb dR_build_154 (lv_at hl 6 rfl) ?_
  refine lv_if_eq (tgt := 179) hx hb dR_build_156 rfl (fun hq => ?_) (fun hq => ?_)
  · have hf := ck_t hq hf
    refine lv_iload hx hb dR_build_179 (lv_at hl 0 rfl) ?_
    exact BR_build_181 C hret _ _ _ _ _ _ _ _ _ _ h (lv_sub hl [1, 2, 3, 4, 5, 6] rfl) hf
  · have hf := ck_f hq hf
    refine lv_aload_n hx hb dR_build_159 rfl (lv_at hl 1 rfl) ?_
    refine ck_gr C h FR_depth dR_build_160 ?_
    refine lv_iload_n hx hb dR_build_163 rfl (lv_at hl 4 rfl) ?_
    obtain ⟨hg, hf⟩ := ck_gd_e hf
    refine ck_ai (x := (st 9 (x3).toNatClampNeg)) C h (show sh_R[9]? = some (.inr (0, 60)) from rfl) hg rfl dR_build_164 ?_
    refine lv_iload hx hb dR_build_165 (lv_at hl 0 rfl) ?_
    refine lv_icmp_le (tgt := 179) hx hb dR_build_167 rfl (fun hq => ?_) (fun hq => ?_)
    · have hf := ck_t hq hf
      refine lv_iload hx hb dR_build_179 (lv_at hl 0 rfl) ?_
      exact BR_build_181 C hret _ _ _ _ _ _ _ _ _ _ h (lv_sub hl [1, 2, 3, 4, 5, 6] rfl) hf
    · have hf := ck_f hq hf
      refine lv_aload_n hx hb dR_build_170 rfl (lv_at hl 1 rfl) ?_
      refine ck_gr C h FR_depth dR_build_171 ?_
      refine lv_iload_n hx hb dR_build_174 rfl (lv_at hl 4 rfl) ?_
      obtain ⟨hg, hf⟩ := ck_gd_e hf
      refine ck_ai (x := (st 9 (x3).toNatClampNeg)) C h (show sh_R[9]? = some (.inr (0, 60)) from rfl) hg rfl dR_build_175 ?_
      refine lv_goto (tgt := 181) hx hb dR_build_176 rfl ?_
      exact BR_build_181 C hret _ _ _ _ _ _ _ _ _ _ h (lv_sub hl [1, 2, 3, 4, 5, 6] rfl) hf
def fR_build_b137 (x1 : Int32) (x2 : Int32) (x3 : Int32) (x4 : Int32) (x5 : Int32) (st : ck_S) : Option (Int32 × ck_S) := (if x4 = 0 then (fR_build_b152 (0 : Int32) x1 x2 x3 x4 x5 st) else (ck_gd x2 60 (fR_build_b152 (st 9 (x2).toNatClampNeg) x1 x2 x3 x4 x5 st)))
set_option maxRecDepth 100000 in
set_option maxHeartbeats 4000000 in
theorem BR_build_137 (C : ck_X cm_cl D cA bR_build 8 R_R 1 p R s m args c) {r0 : Int32} {st0 : ck_S} (hret : ∀ (pc : Nat) (H : Heap) (locs : List Loc) (ls : Array Slot), decode bR_build pc = .ok (.ireturn, 1) → ck_AT sh_R cm_cl D cA ad H0 st0 H locs → W p l e R s m args below meth c H locs 0 0 Q (F0 m pc ls [.int r0])) (x1 : Int32) (x2 : Int32) (x3 : Int32) (x4 : Int32) (x5 : Int32) (st : ck_S) (H : Heap) (locs : List Loc) (ls : Array Slot) (h : ck_AT sh_R cm_cl D cA ad H0 st H locs) (hl : lv_has ls 8 [(0, .ref (ad 0)), (1, .int x1), (2, .int x2), (3, .int x3), (4, .int x4), (5, .int x5)]) (hf : fR_build_b137 x1 x2 x3 x4 x5 st = some (r0, st0)) : W p l e R s m args below meth c H locs 0 0 Q (F0 m 137 ls []) := by
  have C1 := C
  obtain ⟨hx, hb, hml, hown, hts, hK, hlv, hlo⟩ := C1
  unfold fR_build_b137 at hf
  refine lv_iload hx hb dR_build_137 (lv_at hl 4 rfl) ?_
  refine lv_if_eq (tgt := 151) hx hb dR_build_139 rfl (fun hq => ?_) (fun hq => ?_)
  · have hf := ck_t hq hf
    refine lv_iconst (v := 0) hx hb dR_build_151 (by decide) ?_
    exact BR_build_152 C hret _ _ _ _ _ _ _ _ _ _ h (lv_sub hl [0, 1, 2, 3, 4, 5] rfl) hf
  · have hf := ck_f hq hf
    refine lv_aload_n hx hb dR_build_142 rfl (lv_at hl 0 rfl) ?_
    refine ck_gr C h FR_depth dR_build_143 ?_
    refine lv_iload_n hx hb dR_build_146 rfl (lv_at hl 2 rfl) ?_
    obtain ⟨hg, hf⟩ := ck_gd_e hf
    refine ck_ai (x := (st 9 (x2).toNatClampNeg)) C h (show sh_R[9]? = some (.inr (0, 60)) from rfl) hg rfl dR_build_147 ?_
    refine lv_goto (tgt := 152) hx hb dR_build_148 rfl ?_
    exact BR_build_152 C hret _ _ _ _ _ _ _ _ _ _ h (lv_sub hl [0, 1, 2, 3, 4, 5] rfl) hf
def fR_build_b115 (x1 : Int32) (x2 : Int32) (x3 : Int32) (x4 : Int32) (x5 : Int32) (st : ck_S) : Option (Int32 × ck_S) := (if x5 = 0 then (fR_build_b137 x1 x2 x3 x4 x5 st) else (ck_gd x1 12 (ck_b (fR_fitsType x3 (st 3 (x1).toNatClampNeg) st) fun v2 st1 => (if v2 = 0 then (some ((-7 : Int32), st1)) else (fR_build_b137 x1 x2 x3 x4 x5 st1)))))
set_option maxRecDepth 100000 in
set_option maxHeartbeats 4000000 in
theorem BR_build_115 (C : ck_X cm_cl D cA bR_build 8 R_R 1 p R s m args c) {r0 : Int32} {st0 : ck_S} (hret : ∀ (pc : Nat) (H : Heap) (locs : List Loc) (ls : Array Slot), decode bR_build pc = .ok (.ireturn, 1) → ck_AT sh_R cm_cl D cA ad H0 st0 H locs → W p l e R s m args below meth c H locs 0 0 Q (F0 m pc ls [.int r0])) (x1 : Int32) (x2 : Int32) (x3 : Int32) (x4 : Int32) (x5 : Int32) (st : ck_S) (H : Heap) (locs : List Loc) (ls : Array Slot) (h : ck_AT sh_R cm_cl D cA ad H0 st H locs) (hl : lv_has ls 8 [(0, .ref (ad 0)), (1, .int x1), (2, .int x2), (3, .int x3), (4, .int x4), (5, .int x5)]) (hf : fR_build_b115 x1 x2 x3 x4 x5 st = some (r0, st0)) : W p l e R s m args below meth c H locs 0 0 Q (F0 m 115 ls []) := by
  have C1 := C
  obtain ⟨hx, hb, hml, hown, hts, hK, hlv, hlo⟩ := C1
  unfold fR_build_b115 at hf
  refine lv_iload hx hb dR_build_115 (lv_at hl 5 rfl) ?_
  refine lv_if_eq (tgt := 137) hx hb dR_build_117 rfl (fun hq => ?_) (fun hq => ?_)
  · have hf := ck_t hq hf
    exact BR_build_137 C hret _ _ _ _ _ _ _ _ _ h (lv_sub hl [0, 1, 2, 3, 4, 5] rfl) hf
  · have hf := ck_f hq hf
    refine lv_aload_n hx hb dR_build_120 rfl (lv_at hl 0 rfl) ?_
    refine lv_iload_n hx hb dR_build_121 rfl (lv_at hl 3 rfl) ?_
    refine lv_aload_n hx hb dR_build_122 rfl (lv_at hl 0 rfl) ?_
    refine ck_gr C h FR_second dR_build_123 ?_
    refine lv_iload_n hx hb dR_build_126 rfl (lv_at hl 1 rfl) ?_
    obtain ⟨hg, hf⟩ := ck_gd_e hf
    refine ck_ai (x := (st 3 (x1).toNatClampNeg)) C h (show sh_R[3]? = some (.inr (0, 12)) from rfl) hg rfl dR_build_127 ?_
    obtain ⟨v2, st1, hc, hf⟩ := ck_b_e hf
    refine ck_vi (As := [.int x3, .int (st 3 (x1).toNatClampNeg)]) (rest := []) (q := 0) C h hl CR_R_fitsType sR_fitsType q_R (cR_fitsType l D cA ad hc) (Nat.le_of_ble_eq_true rfl) rfl rfl (Nat.le_of_ble_eq_true rfl) dR_build_128 (fun H locs h => ?_)
    refine lv_if_ne (tgt := 137) hx hb dR_build_131 rfl (fun hq => ?_) (fun hq => ?_)
    · have hf := ck_f hq hf
      exact BR_build_137 C hret _ _ _ _ _ _ _ _ _ h (lv_sub hl [0, 1, 2, 3, 4, 5] rfl) hf
    · have hf := ck_t hq hf
      refine lv_bipush (v := (-7)) hx hb dR_build_134 (by decide) ?_
      exact ck_ri hf hret h dR_build_136
def fR_build_b96 (x1 : Int32) (x2 : Int32) (x3 : Int32) (x4 : Int32) (x5 : Int32) (st : ck_S) : Option (Int32 × ck_S) := (if x4 = 0 then (fR_build_b115 x1 x2 x3 x4 x5 st) else (ck_gd x1 12 (ck_b (fR_fitsType x2 (st 2 (x1).toNatClampNeg) st) fun v2 st1 => (if v2 = 0 then (some ((-7 : Int32), st1)) else (fR_build_b115 x1 x2 x3 x4 x5 st1)))))
set_option maxRecDepth 100000 in
set_option maxHeartbeats 4000000 in
theorem BR_build_96 (C : ck_X cm_cl D cA bR_build 8 R_R 1 p R s m args c) {r0 : Int32} {st0 : ck_S} (hret : ∀ (pc : Nat) (H : Heap) (locs : List Loc) (ls : Array Slot), decode bR_build pc = .ok (.ireturn, 1) → ck_AT sh_R cm_cl D cA ad H0 st0 H locs → W p l e R s m args below meth c H locs 0 0 Q (F0 m pc ls [.int r0])) (x1 : Int32) (x2 : Int32) (x3 : Int32) (x4 : Int32) (x5 : Int32) (st : ck_S) (H : Heap) (locs : List Loc) (ls : Array Slot) (h : ck_AT sh_R cm_cl D cA ad H0 st H locs) (hl : lv_has ls 8 [(0, .ref (ad 0)), (1, .int x1), (2, .int x2), (3, .int x3), (4, .int x4), (5, .int x5)]) (hf : fR_build_b96 x1 x2 x3 x4 x5 st = some (r0, st0)) : W p l e R s m args below meth c H locs 0 0 Q (F0 m 96 ls []) := by
  have C1 := C
  obtain ⟨hx, hb, hml, hown, hts, hK, hlv, hlo⟩ := C1
  unfold fR_build_b96 at hf
  refine lv_iload hx hb dR_build_96 (lv_at hl 4 rfl) ?_
  refine lv_if_eq (tgt := 115) hx hb dR_build_98 rfl (fun hq => ?_) (fun hq => ?_)
  · have hf := ck_t hq hf
    exact BR_build_115 C hret _ _ _ _ _ _ _ _ _ h (lv_sub hl [0, 1, 2, 3, 4, 5] rfl) hf
  · have hf := ck_f hq hf
    refine lv_aload_n hx hb dR_build_101 rfl (lv_at hl 0 rfl) ?_
    refine lv_iload_n hx hb dR_build_102 rfl (lv_at hl 2 rfl) ?_
    refine lv_aload_n hx hb dR_build_103 rfl (lv_at hl 0 rfl) ?_
    refine ck_gr C h FR_first dR_build_104 ?_
    refine lv_iload_n hx hb dR_build_107 rfl (lv_at hl 1 rfl) ?_
    obtain ⟨hg, hf⟩ := ck_gd_e hf
    refine ck_ai (x := (st 2 (x1).toNatClampNeg)) C h (show sh_R[2]? = some (.inr (0, 12)) from rfl) hg rfl dR_build_108 ?_
    obtain ⟨v2, st1, hc, hf⟩ := ck_b_e hf
    refine ck_vi (As := [.int x2, .int (st 2 (x1).toNatClampNeg)]) (rest := []) (q := 0) C h hl CR_R_fitsType sR_fitsType q_R (cR_fitsType l D cA ad hc) (Nat.le_of_ble_eq_true rfl) rfl rfl (Nat.le_of_ble_eq_true rfl) dR_build_109 (fun H locs h => ?_)
    refine lv_if_eq (tgt := 134) hx hb dR_build_112 rfl (fun hq => ?_) (fun hq => ?_)
    · have hf := ck_t hq hf
      refine lv_bipush (v := (-7)) hx hb dR_build_134 (by decide) ?_
      exact ck_ri hf hret h dR_build_136
    · have hf := ck_f hq hf
      exact BR_build_115 C hret _ _ _ _ _ _ _ _ _ h (lv_sub hl [0, 1, 2, 3, 4, 5] rfl) hf
def fR_build_b83 (x1 : Int32) (x2 : Int32) (x3 : Int32) (x4 : Int32) (x5 : Int32) (st : ck_S) : Option (Int32 × ck_S) := (if x5 = 0 then (if x3 = (-1 : Int32) then (fR_build_b96 x1 x2 x3 x4 x5 st) else (some ((-5 : Int32), st))) else (fR_build_b96 x1 x2 x3 x4 x5 st))
set_option maxRecDepth 100000 in
set_option maxHeartbeats 4000000 in
theorem BR_build_83 (C : ck_X cm_cl D cA bR_build 8 R_R 1 p R s m args c) {r0 : Int32} {st0 : ck_S} (hret : ∀ (pc : Nat) (H : Heap) (locs : List Loc) (ls : Array Slot), decode bR_build pc = .ok (.ireturn, 1) → ck_AT sh_R cm_cl D cA ad H0 st0 H locs → W p l e R s m args below meth c H locs 0 0 Q (F0 m pc ls [.int r0])) (x1 : Int32) (x2 : Int32) (x3 : Int32) (x4 : Int32) (x5 : Int32) (st : ck_S) (H : Heap) (locs : List Loc) (ls : Array Slot) (h : ck_AT sh_R cm_cl D cA ad H0 st H locs) (hl : lv_has ls 8 [(0, .ref (ad 0)), (1, .int x1), (2, .int x2), (3, .int x3), (4, .int x4), (5, .int x5)]) (hf : fR_build_b83 x1 x2 x3 x4 x5 st = some (r0, st0)) : W p l e R s m args below meth c H locs 0 0 Q (F0 m 83 ls []) := by
  have C1 := C
  obtain ⟨hx, hb, hml, hown, hts, hK, hlv, hlo⟩ := C1
  unfold fR_build_b83 at hf
  refine lv_iload hx hb dR_build_83 (lv_at hl 5 rfl) ?_
  refine lv_if_ne (tgt := 96) hx hb dR_build_85 rfl (fun hq => ?_) (fun hq => ?_)
  · have hf := ck_f hq hf
    exact BR_build_96 C hret _ _ _ _ _ _ _ _ _ h (lv_sub hl [0, 1, 2, 3, 4, 5] rfl) hf
  · have hf := ck_t hq hf
    refine lv_iload_n hx hb dR_build_88 rfl (lv_at hl 3 rfl) ?_
    refine lv_iconst (v := (-1)) hx hb dR_build_89 (by decide) ?_
    refine lv_icmp_eq (tgt := 96) hx hb dR_build_90 rfl (fun hq => ?_) (fun hq => ?_)
    · have hf := ck_t hq hf
      exact BR_build_96 C hret _ _ _ _ _ _ _ _ _ h (lv_sub hl [0, 1, 2, 3, 4, 5] rfl) hf
    · have hf := ck_f hq hf
      refine lv_bipush (v := (-5)) hx hb dR_build_93 (by decide) ?_
      exact ck_ri hf hret h dR_build_95
def fR_build_b70 (x1 : Int32) (x2 : Int32) (x3 : Int32) (x4 : Int32) (x5 : Int32) (st : ck_S) : Option (Int32 × ck_S) := (if x5 = 0 then (fR_build_b83 x1 x2 x3 x4 x5 st) else (ck_b (fR_isPattern x3 st) fun v2 st1 => (if v2 = 0 then (some ((-5 : Int32), st1)) else (fR_build_b83 x1 x2 x3 x4 x5 st1))))
set_option maxRecDepth 100000 in
set_option maxHeartbeats 4000000 in
theorem BR_build_70 (C : ck_X cm_cl D cA bR_build 8 R_R 1 p R s m args c) {r0 : Int32} {st0 : ck_S} (hret : ∀ (pc : Nat) (H : Heap) (locs : List Loc) (ls : Array Slot), decode bR_build pc = .ok (.ireturn, 1) → ck_AT sh_R cm_cl D cA ad H0 st0 H locs → W p l e R s m args below meth c H locs 0 0 Q (F0 m pc ls [.int r0])) (x1 : Int32) (x2 : Int32) (x3 : Int32) (x4 : Int32) (x5 : Int32) (st : ck_S) (H : Heap) (locs : List Loc) (ls : Array Slot) (h : ck_AT sh_R cm_cl D cA ad H0 st H locs) (hl : lv_has ls 8 [(0, .ref (ad 0)), (1, .int x1), (2, .int x2), (3, .int x3), (4, .int x4), (5, .int x5)]) (hf : fR_build_b70 x1 x2 x3 x4 x5 st = some (r0, st0)) : W p l e R s m args below meth c H locs 0 0 Q (F0 m 70 ls []) := by
  have C1 := C
  obtain ⟨hx, hb, hml, hown, hts, hK, hlv, hlo⟩ := C1
  unfold fR_build_b70 at hf
  refine lv_iload hx hb dR_build_70 (lv_at hl 5 rfl) ?_
  refine lv_if_eq (tgt := 83) hx hb dR_build_72 rfl (fun hq => ?_) (fun hq => ?_)
  · have hf := ck_t hq hf
    exact BR_build_83 C hret _ _ _ _ _ _ _ _ _ h (lv_sub hl [0, 1, 2, 3, 4, 5] rfl) hf
  · have hf := ck_f hq hf
    refine lv_aload_n hx hb dR_build_75 rfl (lv_at hl 0 rfl) ?_
    refine lv_iload_n hx hb dR_build_76 rfl (lv_at hl 3 rfl) ?_
    obtain ⟨v2, st1, hc, hf⟩ := ck_b_e hf
    refine ck_vi (As := [.int x3]) (rest := []) (q := 0) C h hl CR_R_isPattern sR_isPattern q_R (cR_isPattern l D cA ad hc) (Nat.le_of_ble_eq_true rfl) rfl rfl (Nat.le_of_ble_eq_true rfl) dR_build_77 (fun H locs h => ?_)
    refine lv_if_eq (tgt := 93) hx hb dR_build_80 rfl (fun hq => ?_) (fun hq => ?_)
    · have hf := ck_t hq hf
      refine lv_bipush (v := (-5)) hx hb dR_build_93 (by decide) ?_
      exact ck_ri hf hret h dR_build_95
    · have hf := ck_f hq hf
      exact BR_build_83 C hret _ _ _ _ _ _ _ _ _ h (lv_sub hl [0, 1, 2, 3, 4, 5] rfl) hf
def fR_build_b60 (x1 : Int32) (x2 : Int32) (x3 : Int32) (x4 : Int32) (x5 : Int32) (st : ck_S) : Option (Int32 × ck_S) := (if x4 = 0 then (if x2 = (-1 : Int32) then (fR_build_b70 x1 x2 x3 x4 x5 st) else (some ((-5 : Int32), st))) else (fR_build_b70 x1 x2 x3 x4 x5 st))
set_option maxRecDepth 100000 in
set_option maxHeartbeats 4000000 in
theorem BR_build_60 (C : ck_X cm_cl D cA bR_build 8 R_R 1 p R s m args c) {r0 : Int32} {st0 : ck_S} (hret : ∀ (pc : Nat) (H : Heap) (locs : List Loc) (ls : Array Slot), decode bR_build pc = .ok (.ireturn, 1) → ck_AT sh_R cm_cl D cA ad H0 st0 H locs → W p l e R s m args below meth c H locs 0 0 Q (F0 m pc ls [.int r0])) (x1 : Int32) (x2 : Int32) (x3 : Int32) (x4 : Int32) (x5 : Int32) (st : ck_S) (H : Heap) (locs : List Loc) (ls : Array Slot) (h : ck_AT sh_R cm_cl D cA ad H0 st H locs) (hl : lv_has ls 8 [(0, .ref (ad 0)), (1, .int x1), (2, .int x2), (3, .int x3), (4, .int x4), (5, .int x5)]) (hf : fR_build_b60 x1 x2 x3 x4 x5 st = some (r0, st0)) : W p l e R s m args below meth c H locs 0 0 Q (F0 m 60 ls []) := by
  have C1 := C
  obtain ⟨hx, hb, hml, hown, hts, hK, hlv, hlo⟩ := C1
  unfold fR_build_b60 at hf
  refine lv_iload hx hb dR_build_60 (lv_at hl 4 rfl) ?_
  refine lv_if_ne (tgt := 70) hx hb dR_build_62 rfl (fun hq => ?_) (fun hq => ?_)
  · have hf := ck_f hq hf
    exact BR_build_70 C hret _ _ _ _ _ _ _ _ _ h (lv_sub hl [0, 1, 2, 3, 4, 5] rfl) hf
  · have hf := ck_t hq hf
    refine lv_iload_n hx hb dR_build_65 rfl (lv_at hl 2 rfl) ?_
    refine lv_iconst (v := (-1)) hx hb dR_build_66 (by decide) ?_
    refine lv_icmp_ne (tgt := 93) hx hb dR_build_67 rfl (fun hq => ?_) (fun hq => ?_)
    · have hf := ck_f hq hf
      refine lv_bipush (v := (-5)) hx hb dR_build_93 (by decide) ?_
      exact ck_ri hf hret h dR_build_95
    · have hf := ck_t hq hf
      exact BR_build_70 C hret _ _ _ _ _ _ _ _ _ h (lv_sub hl [0, 1, 2, 3, 4, 5] rfl) hf
def fR_build_b45 (y0 : Int32) (x1 : Int32) (x2 : Int32) (x3 : Int32) (x4 : Int32) (st : ck_S) : Option (Int32 × ck_S) := (if x4 = 0 then (fR_build_b60 x1 x2 x3 x4 y0 st) else (ck_b (fR_isPattern x2 st) fun v2 st1 => (if v2 = 0 then (some ((-5 : Int32), st1)) else (fR_build_b60 x1 x2 x3 x4 y0 st1))))
set_option maxRecDepth 100000 in
set_option maxHeartbeats 4000000 in
theorem BR_build_45 (C : ck_X cm_cl D cA bR_build 8 R_R 1 p R s m args c) {r0 : Int32} {st0 : ck_S} (hret : ∀ (pc : Nat) (H : Heap) (locs : List Loc) (ls : Array Slot), decode bR_build pc = .ok (.ireturn, 1) → ck_AT sh_R cm_cl D cA ad H0 st0 H locs → W p l e R s m args below meth c H locs 0 0 Q (F0 m pc ls [.int r0])) (y0 : Int32) (x1 : Int32) (x2 : Int32) (x3 : Int32) (x4 : Int32) (st : ck_S) (H : Heap) (locs : List Loc) (ls : Array Slot) (h : ck_AT sh_R cm_cl D cA ad H0 st H locs) (hl : lv_has ls 8 [(0, .ref (ad 0)), (1, .int x1), (2, .int x2), (3, .int x3), (4, .int x4)]) (hf : fR_build_b45 y0 x1 x2 x3 x4 st = some (r0, st0)) : W p l e R s m args below meth c H locs 0 0 Q (F0 m 45 ls [.int y0]) := by
  have C1 := C
  obtain ⟨hx, hb, hml, hown, hts, hK, hlv, hlo⟩ := C1
  unfold fR_build_b45 at hf
  refine lv_istore (lv' := [(5, .int y0), (0, .ref (ad 0)), (1, .int x1), (2, .int x2), (3, .int x3), (4, .int x4)]) hx hb dR_build_45 hl (by decide) rfl (fun ls hl => ?_)
  refine lv_iload hx hb dR_build_47 (lv_at hl 5 rfl) ?_
  refine lv_if_eq (tgt := 60) hx hb dR_build_49 rfl (fun hq => ?_) (fun hq => ?_)
  · have hf := ck_t hq hf
    exact BR_build_60 C hret _ _ _ _ _ _ _ _ _ h (lv_sub hl [1, 2, 3, 4, 5, 0] rfl) hf
  · have hf := ck_f hq hf
    refine lv_aload_n hx hb dR_build_52 rfl (lv_at hl 1 rfl) ?_
    refine lv_iload_n hx hb dR_build_53 rfl (lv_at hl 3 rfl) ?_
    obtain ⟨v2, st1, hc, hf⟩ := ck_b_e hf
    refine ck_vi (As := [.int x2]) (rest := []) (q := 0) C h hl CR_R_isPattern sR_isPattern q_R (cR_isPattern l D cA ad hc) (Nat.le_of_ble_eq_true rfl) rfl rfl (Nat.le_of_ble_eq_true rfl) dR_build_54 (fun H locs h => ?_)
    refine lv_if_eq (tgt := 93) hx hb dR_build_57 rfl (fun hq => ?_) (fun hq => ?_)
    · have hf := ck_t hq hf
      refine lv_bipush (v := (-5)) hx hb dR_build_93 (by decide) ?_
      exact ck_ri hf hret h dR_build_95
    · have hf := ck_f hq hf
      exact BR_build_60 C hret _ _ _ _ _ _ _ _ _ h (lv_sub hl [1, 2, 3, 4, 5, 0] rfl) hf
def fR_build_b29 (y0 : Int32) (x1 : Int32) (x2 : Int32) (x3 : Int32) (st : ck_S) : Option (Int32 × ck_S) := (ck_gd x1 12 (if (st 3 (x1).toNatClampNeg) < 0 then (fR_build_b45 (0 : Int32) x1 x2 x3 y0 st) else (fR_build_b45 (1 : Int32) x1 x2 x3 y0 st)))
set_option maxRecDepth 100000 in
set_option maxHeartbeats 4000000 in
theorem BR_build_29 (C : ck_X cm_cl D cA bR_build 8 R_R 1 p R s m args c) {r0 : Int32} {st0 : ck_S} (hret : ∀ (pc : Nat) (H : Heap) (locs : List Loc) (ls : Array Slot), decode bR_build pc = .ok (.ireturn, 1) → ck_AT sh_R cm_cl D cA ad H0 st0 H locs → W p l e R s m args below meth c H locs 0 0 Q (F0 m pc ls [.int r0])) (y0 : Int32) (x1 : Int32) (x2 : Int32) (x3 : Int32) (st : ck_S) (H : Heap) (locs : List Loc) (ls : Array Slot) (h : ck_AT sh_R cm_cl D cA ad H0 st H locs) (hl : lv_has ls 8 [(0, .ref (ad 0)), (1, .int x1), (2, .int x2), (3, .int x3)]) (hf : fR_build_b29 y0 x1 x2 x3 st = some (r0, st0)) : W p l e R s m args below meth c H locs 0 0 Q (F0 m 29 ls [.int y0]) := by
  have C1 := C
  obtain ⟨hx, hb, hml, hown, hts, hK, hlv, hlo⟩ := C1
  unfold fR_build_b29 at hf
  refine lv_istore (lv' := [(4, .int y0), (0, .ref (ad 0)), (1, .int x1), (2, .int x2), (3, .int x3)]) hx hb dR_build_29 hl (by decide) rfl (fun ls hl => ?_)
  refine lv_aload_n hx hb dR_build_31 rfl (lv_at hl 1 rfl) ?_
  refine ck_gr C h FR_second dR_build_32 ?_
  refine lv_iload_n hx hb dR_build_35 rfl (lv_at hl 2 rfl) ?_
  obtain ⟨hg, hf⟩ := ck_gd_e hf
  refine ck_ai (x := (st 3 (x1).toNatClampNeg)) C h (show sh_R[3]? = some (.inr (0, 12)) from rfl) hg rfl dR_build_36 ?_
  refine lv_if_lt (tgt := 44) hx hb dR_build_37 rfl (fun hq => ?_) (fun hq => ?_)
  · have hf := ck_t hq hf
    refine lv_iconst (v := 0) hx hb dR_build_44 (by decide) ?_
    exact BR_build_45 C hret _ _ _ _ _ _ _ _ _ h (lv_sub hl [1, 2, 3, 4, 0] rfl) hf
  · have hf := ck_f hq hf
    refine lv_iconst (v := 1) hx hb dR_build_40 (by decide) ?_
    refine lv_goto (tgt := 45) hx hb dR_build_41 rfl ?_
    exact BR_build_45 C hret _ _ _ _ _ _ _ _ _ h (lv_sub hl [1, 2, 3, 4, 0] rfl) hf
def fR_build (x1 : Int32) (x2 : Int32) (x3 : Int32) (st : ck_S) : Option (Int32 × ck_S) := (if x1 < 0 then (some ((-4 : Int32), st)) else (if x1 < (st 0 1) then (ck_gd x1 12 (if (st 2 (x1).toNatClampNeg) < 0 then (fR_build_b29 (0 : Int32) x1 x2 x3 st) else (fR_build_b29 (1 : Int32) x1 x2 x3 st))) else (some ((-4 : Int32), st))))
set_option maxRecDepth 100000 in
set_option maxHeartbeats 4000000 in
theorem cR_build (l : Launch) (D : va_G) (cA : Nat → ClassId) (ad : Nat → Nat) {x1 : Int32} {x2 : Int32} {x3 : Int32} {st : ck_S} {r0 : Int32} {st0 : ck_S} (hf : fR_build x1 x2 x3 st = some (r0, st0)) : Met l yR_build (.code yR_build bR_build 8 (some .int) :: ck_T) (ck_R 1) (va_Pc [.ref (ad 0), .int x1, .int x2, .int x3] (ck_P sh_R cm_cl D cA ad st)) (va_Qi (fun a u => a = r0 ∧ u = st0) (ck_P sh_R cm_cl D cA ad) (ck_A ad sh_R.length)) 0 0 (ck_A ad sh_R.length) := by
  refine ck_met_i (own := R_R) (by decide +kernel) rfl (Nat.le_of_ble_eq_true rfl) (fun p e R s m args below meth c H0 Q ls C hret h hl => ?_)
  have C1 := C
  obtain ⟨hx, hb, hml, hown, hts, hK, hlv, hlo⟩ := C1
  have hl : lv_has ls 8 [(0, .ref (ad 0)), (1, .int x1), (2, .int x2), (3, .int x3)] := hl
  unfold fR_build at hf
  refine lv_iload_n hx hb dR_build_0 rfl (lv_at hl 1 rfl) ?_
  refine lv_if_lt (tgt := 12) hx hb dR_build_1 rfl (fun hq => ?_) (fun hq => ?_)
  · have hf := ck_t hq hf
    refine lv_bipush (v := (-4)) hx hb dR_build_12 (by decide) ?_
    exact ck_ri hf hret h dR_build_14
  · have hf := ck_f hq hf
    refine lv_iload_n hx hb dR_build_4 rfl (lv_at hl 1 rfl) ?_
    refine lv_aload_n hx hb dR_build_5 rfl (lv_at hl 0 rfl) ?_
    refine ck_gi (x := (st 0 1)) C h FR_constructors rfl dR_build_6 ?_
    refine lv_icmp_lt (tgt := 15) hx hb dR_build_9 rfl (fun hq => ?_) (fun hq => ?_)
    · have hf := ck_t hq hf
      refine lv_aload_n hx hb dR_build_15 rfl (lv_at hl 0 rfl) ?_
      refine ck_gr C h FR_first dR_build_16 ?_
      refine lv_iload_n hx hb dR_build_19 rfl (lv_at hl 1 rfl) ?_
      obtain ⟨hg, hf⟩ := ck_gd_e hf
      refine ck_ai (x := (st 2 (x1).toNatClampNeg)) C h (show sh_R[2]? = some (.inr (0, 12)) from rfl) hg rfl dR_build_20 ?_
      refine lv_if_lt (tgt := 28) hx hb dR_build_21 rfl (fun hq => ?_) (fun hq => ?_)
      · have hf := ck_t hq hf
        refine lv_iconst (v := 0) hx hb dR_build_28 (by decide) ?_
        exact BR_build_29 C hret _ _ _ _ _ _ _ _ h (lv_sub hl [0, 1, 2, 3] rfl) hf
      · have hf := ck_f hq hf
        refine lv_iconst (v := 1) hx hb dR_build_24 (by decide) ?_
        refine lv_goto (tgt := 29) hx hb dR_build_25 rfl ?_
        exact BR_build_29 C hret _ _ _ _ _ _ _ _ h (lv_sub hl [0, 1, 2, 3] rfl) hf
    · have hf := ck_f hq hf
      refine lv_bipush (v := (-4)) hx hb dR_build_12 (by decide) ?_
      exact ck_ri hf hret h dR_build_14
def fR_either_b134 (y0 : Int32) (y1 : Int32) (y2 : Int32) (y3 : Int32) (y4 : Int32) (x1 : Int32) (x2 : Int32) (x5 : Int32) (st : ck_S) : Option (Int32 × ck_S) := (ck_gd x1 60 (ck_gd x2 60 (ck_b (fR_pattern y4 y3 y2 y1 y0 x5 ((st 10 (x1).toNatClampNeg) + (st 10 (x2).toNatClampNeg)) st) fun v2 st1 => (some (v2, st1)))))
set_option maxRecDepth 100000 in
set_option maxHeartbeats 4000000 in
theorem BR_either_134 (C : ck_X cm_cl D cA bR_either 6 R_R 1 p R s m args c) {r0 : Int32} {st0 : ck_S} (hret : ∀ (pc : Nat) (H : Heap) (locs : List Loc) (ls : Array Slot), decode bR_either pc = .ok (.ireturn, 1) → ck_AT sh_R cm_cl D cA ad H0 st0 H locs → W p l e R s m args below meth c H locs 0 0 Q (F0 m pc ls [.int r0])) (y0 : Int32) (y1 : Int32) (y2 : Int32) (y3 : Int32) (y4 : Int32) (x1 : Int32) (x2 : Int32) (x5 : Int32) (st : ck_S) (H : Heap) (locs : List Loc) (ls : Array Slot) (h : ck_AT sh_R cm_cl D cA ad H0 st H locs) (hl : lv_has ls 6 [(0, .ref (ad 0)), (1, .int x1), (2, .int x2), (5, .int x5)]) (hf : fR_either_b134 y0 y1 y2 y3 y4 x1 x2 x5 st = some (r0, st0)) : W p l e R s m args below meth c H locs 0 0 Q (F0 m 134 ls [.int y0, .int y1, .int y2, .int y3, .int y4, .ref (ad 0)]) := by
  have C1 := C
  obtain ⟨hx, hb, hml, hown, hts, hK, hlv, hlo⟩ := C1
  unfold fR_either_b134 at hf
  refine lv_iload hx hb dR_either_134 (lv_at hl 3 rfl) ?_
  refine lv_aload_n hx hb dR_either_136 rfl (lv_at hl 0 rfl) ?_
  refine ck_gr C h FR_choices dR_either_137 ?_
  refine lv_iload_n hx hb dR_either_140 rfl (lv_at hl 1 rfl) ?_
  obtain ⟨hg, hf⟩ := ck_gd_e hf
  refine ck_ai (x := (st 10 (x1).toNatClampNeg)) C h (show sh_R[10]? = some (.inr (0, 60)) from rfl) hg rfl dR_either_141 ?_
  refine lv_aload_n hx hb dR_either_142 rfl (lv_at hl 0 rfl) ?_
  refine ck_gr C h FR_choices dR_either_143 ?_
  refine lv_iload_n hx hb dR_either_146 rfl (lv_at hl 2 rfl) ?_
  obtain ⟨hg, hf⟩ := ck_gd_e hf
  refine ck_ai (x := (st 10 (x2).toNatClampNeg)) C h (show sh_R[10]? = some (.inr (0, 60)) from rfl) hg rfl dR_either_147 ?_
  refine lv_iadd hx hb dR_either_148 ?_
  obtain ⟨v2, st1, hc, hf⟩ := ck_b_e hf
  refine ck_vi (As := [.int y4, .int y3, .int y2, .int y1, .int y0, .int x5, .int ((st 10 (x1).toNatClampNeg) + (st 10 (x2).toNatClampNeg))]) (rest := []) (q := 0) C h hl CR_R_pattern sR_pattern q_R (cR_pattern l D cA ad hc) (Nat.le_of_ble_eq_true rfl) rfl rfl (Nat.le_of_ble_eq_true rfl) dR_either_149 (fun H locs h => ?_)
  exact ck_ri hf hret h dR_either_152
def fR_either_b103 (y0 : Int32) (x1 : Int32) (x2 : Int32) (x3 : Int32) (x4 : Int32) (st : ck_S) : Option (Int32 × ck_S) := (if (st 0 5) = (60 : Int32) then (some ((-8 : Int32), st)) else (if 0 ≤ x3 then (fR_either_b134 x3 x2 x1 (0 : Int32) (3 : Int32) x1 x2 y0 st) else (fR_either_b134 x4 x2 x1 (0 : Int32) (3 : Int32) x1 x2 y0 st)))
set_option maxRecDepth 100000 in
set_option maxHeartbeats 4000000 in
theorem BR_either_103 (C : ck_X cm_cl D cA bR_either 6 R_R 1 p R s m args c) {r0 : Int32} {st0 : ck_S} (hret : ∀ (pc : Nat) (H : Heap) (locs : List Loc) (ls : Array Slot), decode bR_either pc = .ok (.ireturn, 1) → ck_AT sh_R cm_cl D cA ad H0 st0 H locs → W p l e R s m args below meth c H locs 0 0 Q (F0 m pc ls [.int r0])) (y0 : Int32) (x1 : Int32) (x2 : Int32) (x3 : Int32) (x4 : Int32) (st : ck_S) (H : Heap) (locs : List Loc) (ls : Array Slot) (h : ck_AT sh_R cm_cl D cA ad H0 st H locs) (hl : lv_has ls 6 [(0, .ref (ad 0)), (1, .int x1), (2, .int x2), (3, .int x3), (4, .int x4)]) (hf : fR_either_b103 y0 x1 x2 x3 x4 st = some (r0, st0)) : W p l e R s m args below meth c H locs 0 0 Q (F0 m 103 ls [.int y0]) := by
  have C1 := C
  obtain ⟨hx, hb, hml, hown, hts, hK, hlv, hlo⟩ := C1
  unfold fR_either_b103 at hf
  refine lv_istore (lv' := [(5, .int y0), (0, .ref (ad 0)), (1, .int x1), (2, .int x2), (3, .int x3), (4, .int x4)]) hx hb dR_either_103 hl (by decide) rfl (fun ls hl => ?_)
  refine lv_aload_n hx hb dR_either_105 rfl (lv_at hl 1 rfl) ?_
  refine ck_gi (x := (st 0 5)) C h FR_patterns rfl dR_either_106 ?_
  refine lv_bipush (v := 60) hx hb dR_either_109 (by decide) ?_
  refine lv_icmp_ne (tgt := 119) hx hb dR_either_111 rfl (fun hq => ?_) (fun hq => ?_)
  · have hf := ck_f hq hf
    refine lv_aload_n hx hb dR_either_119 rfl (lv_at hl 1 rfl) ?_
    refine lv_iconst (v := 3) hx hb dR_either_120 (by decide) ?_
    refine lv_iconst (v := 0) hx hb dR_either_121 (by decide) ?_
    refine lv_iload_n hx hb dR_either_122 rfl (lv_at hl 2 rfl) ?_
    refine lv_iload_n hx hb dR_either_123 rfl (lv_at hl 3 rfl) ?_
    refine lv_iload_n hx hb dR_either_124 rfl (lv_at hl 4 rfl) ?_
    refine lv_if_ge (tgt := 133) hx hb dR_either_125 rfl (fun hq => ?_) (fun hq => ?_)
    · have hf := ck_t hq hf
      refine lv_iload_n hx hb dR_either_133 rfl (lv_at hl 4 rfl) ?_
      exact BR_either_134 C hret _ _ _ _ _ _ _ _ _ _ _ _ h (lv_sub hl [1, 2, 3, 0] rfl) hf
    · have hf := ck_f hq hf
      refine lv_iload hx hb dR_either_128 (lv_at hl 5 rfl) ?_
      refine lv_goto (tgt := 134) hx hb dR_either_130 rfl ?_
      exact BR_either_134 C hret _ _ _ _ _ _ _ _ _ _ _ _ h (lv_sub hl [1, 2, 3, 0] rfl) hf
  · have hf := ck_t hq hf
    refine lv_bipush (v := (-8)) hx hb dR_either_114 (by decide) ?_
    refine lv_goto (tgt := 152) hx hb dR_either_116 rfl ?_
    exact ck_ri hf hret h dR_either_152
def fR_either_b52 (x1 : Int32) (x2 : Int32) (x3 : Int32) (x4 : Int32) (st : ck_S) : Option (Int32 × ck_S) := (ck_gd x1 60 (ck_gd x2 60 (if ((st 10 (x1).toNatClampNeg) + (st 10 (x2).toNatClampNeg)) ≤ (8 : Int32) then (ck_gd x1 60 (ck_gd x2 60 (if (st 9 (x1).toNatClampNeg) ≤ (st 9 (x2).toNatClampNeg) then (ck_gd x2 60 (fR_either_b103 (st 9 (x2).toNatClampNeg) x1 x2 x3 x4 st)) else (ck_gd x1 60 (fR_either_b103 (st 9 (x1).toNatClampNeg) x1 x2 x3 x4 st))))) else (some ((-10 : Int32), st)))))
set_option maxRecDepth 100000 in
set_option maxHeartbeats 4000000 in
theorem BR_either_52 (C : ck_X cm_cl D cA bR_either 6 R_R 1 p R s m args c) {r0 : Int32} {st0 : ck_S} (hret : ∀ (pc : Nat) (H : Heap) (locs : List Loc) (ls : Array Slot), decode bR_either pc = .ok (.ireturn, 1) → ck_AT sh_R cm_cl D cA ad H0 st0 H locs → W p l e R s m args below meth c H locs 0 0 Q (F0 m pc ls [.int r0])) (x1 : Int32) (x2 : Int32) (x3 : Int32) (x4 : Int32) (st : ck_S) (H : Heap) (locs : List Loc) (ls : Array Slot) (h : ck_AT sh_R cm_cl D cA ad H0 st H locs) (hl : lv_has ls 6 [(0, .ref (ad 0)), (1, .int x1), (2, .int x2), (3, .int x3), (4, .int x4)]) (hf : fR_either_b52 x1 x2 x3 x4 st = some (r0, st0)) : W p l e R s m args below meth c H locs 0 0 Q (F0 m 52 ls []) := by
  have C1 := C
  obtain ⟨hx, hb, hml, hown, hts, hK, hlv, hlo⟩ := C1
  unfold fR_either_b52 at hf
  refine lv_aload_n hx hb dR_either_52 rfl (lv_at hl 0 rfl) ?_
  refine ck_gr C h FR_choices dR_either_53 ?_
  refine lv_iload_n hx hb dR_either_56 rfl (lv_at hl 1 rfl) ?_
  obtain ⟨hg, hf⟩ := ck_gd_e hf
  refine ck_ai (x := (st 10 (x1).toNatClampNeg)) C h (show sh_R[10]? = some (.inr (0, 60)) from rfl) hg rfl dR_either_57 ?_
  refine lv_aload_n hx hb dR_either_58 rfl (lv_at hl 0 rfl) ?_
  refine ck_gr C h FR_choices dR_either_59 ?_
  refine lv_iload_n hx hb dR_either_62 rfl (lv_at hl 2 rfl) ?_
  obtain ⟨hg, hf⟩ := ck_gd_e hf
  refine ck_ai (x := (st 10 (x2).toNatClampNeg)) C h (show sh_R[10]? = some (.inr (0, 60)) from rfl) hg rfl dR_either_63 ?_
  refine lv_iadd hx hb dR_either_64 ?_
  refine lv_bipush (v := 8) hx hb dR_either_65 (by decide) ?_
  refine lv_icmp_le (tgt := 73) hx hb dR_either_67 rfl (fun hq => ?_) (fun hq => ?_)
  · have hf := ck_t hq hf
    refine lv_aload_n hx hb dR_either_73 rfl (lv_at hl 0 rfl) ?_
    refine ck_gr C h FR_depth dR_either_74 ?_
    refine lv_iload_n hx hb dR_either_77 rfl (lv_at hl 1 rfl) ?_
    obtain ⟨hg, hf⟩ := ck_gd_e hf
    refine ck_ai (x := (st 9 (x1).toNatClampNeg)) C h (show sh_R[9]? = some (.inr (0, 60)) from rfl) hg rfl dR_either_78 ?_
    refine lv_aload_n hx hb dR_either_79 rfl (lv_at hl 0 rfl) ?_
    refine ck_gr C h FR_depth dR_either_80 ?_
    refine lv_iload_n hx hb dR_either_83 rfl (lv_at hl 2 rfl) ?_
    obtain ⟨hg, hf⟩ := ck_gd_e hf
    refine ck_ai (x := (st 9 (x2).toNatClampNeg)) C h (show sh_R[9]? = some (.inr (0, 60)) from rfl) hg rfl dR_either_84 ?_
    refine lv_icmp_le (tgt := 97) hx hb dR_either_85 rfl (fun hq => ?_) (fun hq => ?_)
    · have hf := ck_t hq hf
      refine lv_aload_n hx hb dR_either_97 rfl (lv_at hl 0 rfl) ?_
      refine ck_gr C h FR_depth dR_either_98 ?_
      refine lv_iload_n hx hb dR_either_101 rfl (lv_at hl 2 rfl) ?_
      obtain ⟨hg, hf⟩ := ck_gd_e hf
      refine ck_ai (x := (st 9 (x2).toNatClampNeg)) C h (show sh_R[9]? = some (.inr (0, 60)) from rfl) hg rfl dR_either_102 ?_
      exact BR_either_103 C hret _ _ _ _ _ _ _ _ _ h (lv_sub hl [0, 1, 2, 3, 4] rfl) hf
    · have hf := ck_f hq hf
      refine lv_aload_n hx hb dR_either_88 rfl (lv_at hl 0 rfl) ?_
      refine ck_gr C h FR_depth dR_either_89 ?_
      refine lv_iload_n hx hb dR_either_92 rfl (lv_at hl 1 rfl) ?_
      obtain ⟨hg, hf⟩ := ck_gd_e hf
      refine ck_ai (x := (st 9 (x1).toNatClampNeg)) C h (show sh_R[9]? = some (.inr (0, 60)) from rfl) hg rfl dR_either_93 ?_
      refine lv_goto (tgt := 103) hx hb dR_either_94 rfl ?_
      exact BR_either_103 C hret _ _ _ _ _ _ _ _ _ h (lv_sub hl [0, 1, 2, 3, 4] rfl) hf
  · have hf := ck_f hq hf
    refine lv_bipush (v := (-10)) hx hb dR_either_70 (by decide) ?_
    exact ck_ri hf hret h dR_either_72
def fR_either (x1 : Int32) (x2 : Int32) (st : ck_S) : Option (Int32 × ck_S) := (ck_b (fR_isPattern x1 st) fun v2 st1 => (if v2 = 0 then (some ((-5 : Int32), st1)) else (ck_b (fR_isPattern x2 st1) fun v4 st3 => (if v4 = 0 then (some ((-5 : Int32), st3)) else (ck_gd x1 60 (ck_gd x2 60 (if (st3 8 (x1).toNatClampNeg) < 0 then (fR_either_b52 x1 x2 (st3 8 (x1).toNatClampNeg) (st3 8 (x2).toNatClampNeg) st3) else (if (st3 8 (x2).toNatClampNeg) < 0 then (fR_either_b52 x1 x2 (st3 8 (x1).toNatClampNeg) (st3 8 (x2).toNatClampNeg) st3) else (if (st3 8 (x1).toNatClampNeg) = (st3 8 (x2).toNatClampNeg) then (fR_either_b52 x1 x2 (st3 8 (x1).toNatClampNeg) (st3 8 (x2).toNatClampNeg) st3) else (some ((-7 : Int32), st3)))))))))))
set_option maxRecDepth 100000 in
set_option maxHeartbeats 4000000 in
theorem cR_either (l : Launch) (D : va_G) (cA : Nat → ClassId) (ad : Nat → Nat) {x1 : Int32} {x2 : Int32} {st : ck_S} {r0 : Int32} {st0 : ck_S} (hf : fR_either x1 x2 st = some (r0, st0)) : Met l yR_either (.code yR_either bR_either 6 (some .int) :: ck_T) (ck_R 1) (va_Pc [.ref (ad 0), .int x1, .int x2] (ck_P sh_R cm_cl D cA ad st)) (va_Qi (fun a u => a = r0 ∧ u = st0) (ck_P sh_R cm_cl D cA ad) (ck_A ad sh_R.length)) 0 0 (ck_A ad sh_R.length) := by
  refine ck_met_i (own := R_R) (by decide +kernel) rfl (Nat.le_of_ble_eq_true rfl) (fun p e R s m args below meth c H0 Q ls C hret h hl => ?_)
  have C1 := C
  obtain ⟨hx, hb, hml, hown, hts, hK, hlv, hlo⟩ := C1
  have hl : lv_has ls 6 [(0, .ref (ad 0)), (1, .int x1), (2, .int x2)] := hl
  unfold fR_either at hf
  refine lv_aload_n hx hb dR_either_0 rfl (lv_at hl 0 rfl) ?_
  refine lv_iload_n hx hb dR_either_1 rfl (lv_at hl 1 rfl) ?_
  obtain ⟨v2, st1, hc, hf⟩ := ck_b_e hf
  refine ck_vi (As := [.int x1]) (rest := []) (q := 0) C h hl CR_R_isPattern sR_isPattern q_R (cR_isPattern l D cA ad hc) (Nat.le_of_ble_eq_true rfl) rfl rfl (Nat.le_of_ble_eq_true rfl) dR_either_2 (fun H locs h => ?_)
  refine lv_if_eq (tgt := 16) hx hb dR_either_5 rfl (fun hq => ?_) (fun hq => ?_)
  · have hf := ck_t hq hf
    refine lv_bipush (v := (-5)) hx hb dR_either_16 (by decide) ?_
    exact ck_ri hf hret h dR_either_18
  · have hf := ck_f hq hf
    refine lv_aload_n hx hb dR_either_8 rfl (lv_at hl 0 rfl) ?_
    refine lv_iload_n hx hb dR_either_9 rfl (lv_at hl 2 rfl) ?_
    obtain ⟨v4, st3, hc, hf⟩ := ck_b_e hf
    refine ck_vi (As := [.int x2]) (rest := []) (q := 0) C h hl CR_R_isPattern sR_isPattern q_R (cR_isPattern l D cA ad hc) (Nat.le_of_ble_eq_true rfl) rfl rfl (Nat.le_of_ble_eq_true rfl) dR_either_10 (fun H locs h => ?_)
    refine lv_if_ne (tgt := 19) hx hb dR_either_13 rfl (fun hq => ?_) (fun hq => ?_)
    · have hf := ck_f hq hf
      refine lv_aload_n hx hb dR_either_19 rfl (lv_at hl 0 rfl) ?_
      refine ck_gr C h FR_kindOfType dR_either_20 ?_
      refine lv_iload_n hx hb dR_either_23 rfl (lv_at hl 1 rfl) ?_
      obtain ⟨hg, hf⟩ := ck_gd_e hf
      refine ck_ai (x := (st3 8 (x1).toNatClampNeg)) C h (show sh_R[8]? = some (.inr (0, 60)) from rfl) hg rfl dR_either_24 ?_
      refine lv_istore_n (lv' := [(3, .int (st3 8 (x1).toNatClampNeg)), (0, .ref (ad 0)), (1, .int x1), (2, .int x2)]) hx hb dR_either_25 rfl hl (by decide) rfl (fun ls hl => ?_)
      refine lv_aload_n hx hb dR_either_26 rfl (lv_at hl 1 rfl) ?_
      refine ck_gr C h FR_kindOfType dR_either_27 ?_
      refine lv_iload_n hx hb dR_either_30 rfl (lv_at hl 3 rfl) ?_
      obtain ⟨hg, hf⟩ := ck_gd_e hf
      refine ck_ai (x := (st3 8 (x2).toNatClampNeg)) C h (show sh_R[8]? = some (.inr (0, 60)) from rfl) hg rfl dR_either_31 ?_
      refine lv_istore (lv' := [(4, .int (st3 8 (x2).toNatClampNeg)), (3, .int (st3 8 (x1).toNatClampNeg)), (0, .ref (ad 0)), (1, .int x1), (2, .int x2)]) hx hb dR_either_32 hl (by decide) rfl (fun ls hl => ?_)
      refine lv_iload_n hx hb dR_either_34 rfl (lv_at hl 1 rfl) ?_
      refine lv_if_lt (tgt := 52) hx hb dR_either_35 rfl (fun hq => ?_) (fun hq => ?_)
      · have hf := ck_t hq hf
        exact BR_either_52 C hret _ _ _ _ _ _ _ _ h (lv_sub hl [2, 3, 4, 1, 0] rfl) hf
      · have hf := ck_f hq hf
        refine lv_iload hx hb dR_either_38 (lv_at hl 0 rfl) ?_
        refine lv_if_lt (tgt := 52) hx hb dR_either_40 rfl (fun hq => ?_) (fun hq => ?_)
        · have hf := ck_t hq hf
          exact BR_either_52 C hret _ _ _ _ _ _ _ _ h (lv_sub hl [2, 3, 4, 1, 0] rfl) hf
        · have hf := ck_f hq hf
          refine lv_iload_n hx hb dR_either_43 rfl (lv_at hl 1 rfl) ?_
          refine lv_iload hx hb dR_either_44 (lv_at hl 0 rfl) ?_
          refine lv_icmp_eq (tgt := 52) hx hb dR_either_46 rfl (fun hq => ?_) (fun hq => ?_)
          · have hf := ck_t hq hf
            exact BR_either_52 C hret _ _ _ _ _ _ _ _ h (lv_sub hl [2, 3, 4, 1, 0] rfl) hf
          · have hf := ck_f hq hf
            refine lv_bipush (v := (-7)) hx hb dR_either_49 (by decide) ?_
            exact ck_ri hf hret h dR_either_51
    · have hf := ck_t hq hf
      refine lv_bipush (v := (-5)) hx hb dR_either_16 (by decide) ?_
      exact ck_ri hf hret h dR_either_18
def fR_writeOne_b208 (y0 : Int32) (x2 : Int32) (x3 : Int32) (x4 : Int32) (x5 : Int32) (st : ck_S) : Option (Int32 × ck_S) := (ck_gd x3 60 (ck_gd x2 20 (ck_dz y0 (ck_gd x2 20 (ck_gd x2 20 (ck_gd x3 60 (if 0 ≤ (st 7 (x3).toNatClampNeg) then (ck_gd x3 60 (ck_gd (x2 + (1 : Int32)) 20 (ck_dz y0 (ck_gd (x2 + (1 : Int32)) 20 (ck_gd (x2 + (1 : Int32)) 20 (some ((x2 + (2 : Int32)), (ck_u (ck_u (ck_u (ck_u (ck_u (ck_u st 19 (x2).toNatClampNeg (st 6 (x3).toNatClampNeg)) 20 (x2).toNatClampNeg (x4 / y0)) 21 (x2).toNatClampNeg ((2 : Int32) * x5)) 19 ((x2 + (1 : Int32))).toNatClampNeg (st 7 (x3).toNatClampNeg)) 20 ((x2 + (1 : Int32))).toNatClampNeg (x4 - x4 / y0 * y0)) 21 ((x2 + (1 : Int32))).toNatClampNeg (((2 : Int32) * x5) + (1 : Int32)))))))))) else (some ((x2 + (1 : Int32)), (ck_u (ck_u (ck_u st 19 (x2).toNatClampNeg (st 6 (x3).toNatClampNeg)) 20 (x2).toNatClampNeg (x4 / y0)) 21 (x2).toNatClampNeg ((2 : Int32) * x5)))))))))))
set_option maxRecDepth 100000 in
set_option maxHeartbeats 4000000 in
theorem BR_writeOne_208 (C : ck_X cm_cl D cA bR_writeOne 7 R_R 0 p R s m args c) {r0 : Int32} {st0 : ck_S} (hret : ∀ (pc : Nat) (H : Heap) (locs : List Loc) (ls : Array Slot), decode bR_writeOne pc = .ok (.ireturn, 1) → ck_AT sh_R cm_cl D cA ad H0 st0 H locs → W p l e R s m args below meth c H locs 0 0 Q (F0 m pc ls [.int r0])) (y0 : Int32) (x2 : Int32) (x3 : Int32) (x4 : Int32) (x5 : Int32) (st : ck_S) (H : Heap) (locs : List Loc) (ls : Array Slot) (h : ck_AT sh_R cm_cl D cA ad H0 st H locs) (hl : lv_has ls 7 [(0, .ref (ad 0)), (2, .int x2), (3, .int x3), (4, .int x4), (5, .int x5)]) (hf : fR_writeOne_b208 y0 x2 x3 x4 x5 st = some (r0, st0)) : W p l e R s m args below meth c H locs 0 0 Q (F0 m 208 ls [.int y0]) := by
  have C1 := C
  obtain ⟨hx, hb, hml, hown, hts, hK, hlv, hlo⟩ := C1
  unfold fR_writeOne_b208 at hf
  refine lv_istore (lv' := [(6, .int y0), (0, .ref (ad 0)), (2, .int x2), (3, .int x3), (4, .int x4), (5, .int x5)]) hx hb dR_writeOne_208 hl (by decide) rfl (fun ls hl => ?_)
  refine lv_aload_n hx hb dR_writeOne_210 rfl (lv_at hl 1 rfl) ?_
  refine ck_gr C h FR_waits dR_writeOne_211 ?_
  refine lv_iload_n hx hb dR_writeOne_214 rfl (lv_at hl 2 rfl) ?_
  refine lv_aload_n hx hb dR_writeOne_215 rfl (lv_at hl 1 rfl) ?_
  refine ck_gr C h FR_left dR_writeOne_216 ?_
  refine lv_iload_n hx hb dR_writeOne_219 rfl (lv_at hl 3 rfl) ?_
  obtain ⟨hg, hf⟩ := ck_gd_e hf
  refine ck_ai (x := (st 6 (x3).toNatClampNeg)) C h (show sh_R[6]? = some (.inr (0, 60)) from rfl) hg rfl dR_writeOne_220 ?_
  obtain ⟨hg, hf⟩ := ck_gd_e hf
  refine ck_si C h (show sh_R[19]? = some (.inr (0, 20)) from rfl) hg dR_writeOne_221 (fun H locs h => ?_)
  refine lv_aload_n hx hb dR_writeOne_222 rfl (lv_at hl 1 rfl) ?_
  refine ck_gr C h FR_choice dR_writeOne_223 ?_
  refine lv_iload_n hx hb dR_writeOne_226 rfl (lv_at hl 2 rfl) ?_
  refine lv_iload hx hb dR_writeOne_227 (lv_at hl 4 rfl) ?_
  refine lv_iload hx hb dR_writeOne_229 (lv_at hl 0 rfl) ?_
  obtain ⟨hz, hf⟩ := ck_dz_e hf
  refine lv_idiv hx hb dR_writeOne_231 hz ?_
  obtain ⟨hg, hf⟩ := ck_gd_e hf
  refine ck_si C h (show sh_R[20]? = some (.inr (0, 20)) from rfl) hg dR_writeOne_232 (fun H locs h => ?_)
  refine lv_aload_n hx hb dR_writeOne_233 rfl (lv_at hl 1 rfl) ?_
  refine ck_gr C h FR_spot dR_writeOne_234 ?_
  refine lv_iload_n hx hb dR_writeOne_237 rfl (lv_at hl 2 rfl) ?_
  refine lv_iconst (v := 2) hx hb dR_writeOne_238 (by decide) ?_
  refine lv_iload hx hb dR_writeOne_239 (lv_at hl 5 rfl) ?_
  refine lv_imul hx hb dR_writeOne_241 ?_
  obtain ⟨hg, hf⟩ := ck_gd_e hf
  refine ck_si C h (show sh_R[21]? = some (.inr (0, 20)) from rfl) hg dR_writeOne_242 (fun H locs h => ?_)
  refine lv_aload_n hx hb dR_writeOne_243 rfl (lv_at hl 1 rfl) ?_
  refine ck_gr C h FR_right dR_writeOne_244 ?_
  refine lv_iload_n hx hb dR_writeOne_247 rfl (lv_at hl 3 rfl) ?_
  obtain ⟨hg, hf⟩ := ck_gd_e hf
  refine ck_ai (x := (st 7 (x3).toNatClampNeg)) C h (show sh_R[7]? = some (.inr (0, 60)) from rfl) hg rfl dR_writeOne_248 ?_
  refine lv_if_ge (tgt := 256) hx hb dR_writeOne_249 rfl (fun hq => ?_) (fun hq => ?_)
  · have hf := ck_t hq hf
    refine lv_aload_n hx hb dR_writeOne_256 rfl (lv_at hl 1 rfl) ?_
    refine ck_gr C h FR_waits dR_writeOne_257 ?_
    refine lv_iload_n hx hb dR_writeOne_260 rfl (lv_at hl 2 rfl) ?_
    refine lv_iconst (v := 1) hx hb dR_writeOne_261 (by decide) ?_
    refine lv_iadd hx hb dR_writeOne_262 ?_
    refine lv_aload_n hx hb dR_writeOne_263 rfl (lv_at hl 1 rfl) ?_
    refine ck_gr C h FR_right dR_writeOne_264 ?_
    refine lv_iload_n hx hb dR_writeOne_267 rfl (lv_at hl 3 rfl) ?_
    obtain ⟨hg, hf⟩ := ck_gd_e hf
    refine ck_ai (x := (st 7 (x3).toNatClampNeg)) C h (show sh_R[7]? = some (.inr (0, 60)) from rfl) hg rfl dR_writeOne_268 ?_
    obtain ⟨hg, hf⟩ := ck_gd_e hf
    refine ck_si C h (show sh_R[19]? = some (.inr (0, 20)) from rfl) hg dR_writeOne_269 (fun H locs h => ?_)
    refine lv_aload_n hx hb dR_writeOne_270 rfl (lv_at hl 1 rfl) ?_
    refine ck_gr C h FR_choice dR_writeOne_271 ?_
    refine lv_iload_n hx hb dR_writeOne_274 rfl (lv_at hl 2 rfl) ?_
    refine lv_iconst (v := 1) hx hb dR_writeOne_275 (by decide) ?_
    refine lv_iadd hx hb dR_writeOne_276 ?_
    refine lv_iload hx hb dR_writeOne_277 (lv_at hl 4 rfl) ?_
    refine lv_iload hx hb dR_writeOne_279 (lv_at hl 0 rfl) ?_
    obtain ⟨hz, hf⟩ := ck_dz_e hf
    refine lv_irem hx hb dR_writeOne_281 hz ?_
    obtain ⟨hg, hf⟩ := ck_gd_e hf
    refine ck_si C h (show sh_R[20]? = some (.inr (0, 20)) from rfl) hg dR_writeOne_282 (fun H locs h => ?_)
    refine lv_aload_n hx hb dR_writeOne_283 rfl (lv_at hl 1 rfl) ?_
    refine ck_gr C h FR_spot dR_writeOne_284 ?_
    refine lv_iload_n hx hb dR_writeOne_287 rfl (lv_at hl 2 rfl) ?_
    refine lv_iconst (v := 1) hx hb dR_writeOne_288 (by decide) ?_
    refine lv_iadd hx hb dR_writeOne_289 ?_
    refine lv_iconst (v := 2) hx hb dR_writeOne_290 (by decide) ?_
    refine lv_iload hx hb dR_writeOne_291 (lv_at hl 5 rfl) ?_
    refine lv_imul hx hb dR_writeOne_293 ?_
    refine lv_iconst (v := 1) hx hb dR_writeOne_294 (by decide) ?_
    refine lv_iadd hx hb dR_writeOne_295 ?_
    obtain ⟨hg, hf⟩ := ck_gd_e hf
    refine ck_si C h (show sh_R[21]? = some (.inr (0, 20)) from rfl) hg dR_writeOne_296 (fun H locs h => ?_)
    refine lv_iload_n hx hb dR_writeOne_297 rfl (lv_at hl 2 rfl) ?_
    refine lv_iconst (v := 2) hx hb dR_writeOne_298 (by decide) ?_
    refine lv_iadd hx hb dR_writeOne_299 ?_
    exact ck_ri hf hret h dR_writeOne_300
  · have hf := ck_f hq hf
    refine lv_iload_n hx hb dR_writeOne_252 rfl (lv_at hl 2 rfl) ?_
    refine lv_iconst (v := 1) hx hb dR_writeOne_253 (by decide) ?_
    refine lv_iadd hx hb dR_writeOne_254 ?_
    exact ck_ri hf hret h dR_writeOne_255
def fR_writeOne_b92 (y0 : Int32) (y1 : Int32) (x2 : Int32) (x3 : Int32) (x4 : Int32) (x6 : Int32) (st : ck_S) : Option (Int32 × ck_S) := (ck_gd y1 20 (if x6 = 0 then (ck_gd x2 20 (some ((x2 + (1 : Int32)), (ck_u (ck_u st 19 (y1).toNatClampNeg y0) 20 (x2).toNatClampNeg x4)))) else (ck_gd x3 60 (ck_gd (st 6 (x3).toNatClampNeg) 60 (ck_gd x2 20 (some ((x2 + (1 : Int32)), (ck_u (ck_u st 19 (y1).toNatClampNeg y0) 20 (x2).toNatClampNeg (x4 - (st 10 ((st 6 (x3).toNatClampNeg)).toNatClampNeg))))))))))
set_option maxRecDepth 100000 in
set_option maxHeartbeats 4000000 in
theorem BR_writeOne_92 (C : ck_X cm_cl D cA bR_writeOne 7 R_R 0 p R s m args c) {r0 : Int32} {st0 : ck_S} (hret : ∀ (pc : Nat) (H : Heap) (locs : List Loc) (ls : Array Slot), decode bR_writeOne pc = .ok (.ireturn, 1) → ck_AT sh_R cm_cl D cA ad H0 st0 H locs → W p l e R s m args below meth c H locs 0 0 Q (F0 m pc ls [.int r0])) (y0 : Int32) (y1 : Int32) (x2 : Int32) (x3 : Int32) (x4 : Int32) (x6 : Int32) (st : ck_S) (H : Heap) (locs : List Loc) (ls : Array Slot) (h : ck_AT sh_R cm_cl D cA ad H0 st H locs) (hl : lv_has ls 7 [(0, .ref (ad 0)), (2, .int x2), (3, .int x3), (4, .int x4), (6, .int x6)]) (hf : fR_writeOne_b92 y0 y1 x2 x3 x4 x6 st = some (r0, st0)) : W p l e R s m args below meth c H locs 0 0 Q (F0 m 92 ls [.int y0, .int y1, .ref (ad 19)]) := by
  have C1 := C
  obtain ⟨hx, hb, hml, hown, hts, hK, hlv, hlo⟩ := C1
  unfold fR_writeOne_b92 at hf
  obtain ⟨hg, hf⟩ := ck_gd_e hf
  refine ck_si C h (show sh_R[19]? = some (.inr (0, 20)) from rfl) hg dR_writeOne_92 (fun H locs h => ?_)
  refine lv_aload_n hx hb dR_writeOne_93 rfl (lv_at hl 0 rfl) ?_
  refine ck_gr C h FR_choice dR_writeOne_94 ?_
  refine lv_iload_n hx hb dR_writeOne_97 rfl (lv_at hl 1 rfl) ?_
  refine lv_iload hx hb dR_writeOne_98 (lv_at hl 4 rfl) ?_
  refine lv_if_eq (tgt := 120) hx hb dR_writeOne_100 rfl (fun hq => ?_) (fun hq => ?_)
  · have hf := ck_t hq hf
    refine lv_iload hx hb dR_writeOne_120 (lv_at hl 3 rfl) ?_
    obtain ⟨hg, hf⟩ := ck_gd_e hf
    refine ck_si C h (show sh_R[20]? = some (.inr (0, 20)) from rfl) hg dR_writeOne_122 (fun H locs h => ?_)
    refine lv_iload_n hx hb dR_writeOne_123 rfl (lv_at hl 1 rfl) ?_
    refine lv_iconst (v := 1) hx hb dR_writeOne_124 (by decide) ?_
    refine lv_iadd hx hb dR_writeOne_125 ?_
    exact ck_ri hf hret h dR_writeOne_126
  · have hf := ck_f hq hf
    refine lv_iload hx hb dR_writeOne_103 (lv_at hl 3 rfl) ?_
    refine lv_aload_n hx hb dR_writeOne_105 rfl (lv_at hl 0 rfl) ?_
    refine ck_gr C h FR_choices dR_writeOne_106 ?_
    refine lv_aload_n hx hb dR_writeOne_109 rfl (lv_at hl 0 rfl) ?_
    refine ck_gr C h FR_left dR_writeOne_110 ?_
    refine lv_iload_n hx hb dR_writeOne_113 rfl (lv_at hl 2 rfl) ?_
    obtain ⟨hg, hf⟩ := ck_gd_e hf
    refine ck_ai (x := (st 6 (x3).toNatClampNeg)) C h (show sh_R[6]? = some (.inr (0, 60)) from rfl) hg rfl dR_writeOne_114 ?_
    obtain ⟨hg, hf⟩ := ck_gd_e hf
    refine ck_ai (x := (st 10 ((st 6 (x3).toNatClampNeg)).toNatClampNeg)) C h (show sh_R[10]? = some (.inr (0, 60)) from rfl) hg rfl dR_writeOne_115 ?_
    refine lv_isub hx hb dR_writeOne_116 ?_
    refine lv_goto (tgt := 122) hx hb dR_writeOne_117 rfl ?_
    obtain ⟨hg, hf⟩ := ck_gd_e hf
    refine ck_si C h (show sh_R[20]? = some (.inr (0, 20)) from rfl) hg dR_writeOne_122 (fun H locs h => ?_)
    refine lv_iload_n hx hb dR_writeOne_123 rfl (lv_at hl 1 rfl) ?_
    refine lv_iconst (v := 1) hx hb dR_writeOne_124 (by decide) ?_
    refine lv_iadd hx hb dR_writeOne_125 ?_
    exact ck_ri hf hret h dR_writeOne_126
def fR_writeOne_b65 (y0 : Int32) (x2 : Int32) (x3 : Int32) (x4 : Int32) (st : ck_S) : Option (Int32 × ck_S) := (if y0 = 0 then (ck_gd x3 60 (fR_writeOne_b92 (st 6 (x3).toNatClampNeg) x2 x2 x3 x4 y0 st)) else (ck_gd x3 60 (fR_writeOne_b92 (st 7 (x3).toNatClampNeg) x2 x2 x3 x4 y0 st)))
set_option maxRecDepth 100000 in
set_option maxHeartbeats 4000000 in
theorem BR_writeOne_65 (C : ck_X cm_cl D cA bR_writeOne 7 R_R 0 p R s m args c) {r0 : Int32} {st0 : ck_S} (hret : ∀ (pc : Nat) (H : Heap) (locs : List Loc) (ls : Array Slot), decode bR_writeOne pc = .ok (.ireturn, 1) → ck_AT sh_R cm_cl D cA ad H0 st0 H locs → W p l e R s m args below meth c H locs 0 0 Q (F0 m pc ls [.int r0])) (y0 : Int32) (x2 : Int32) (x3 : Int32) (x4 : Int32) (st : ck_S) (H : Heap) (locs : List Loc) (ls : Array Slot) (h : ck_AT sh_R cm_cl D cA ad H0 st H locs) (hl : lv_has ls 7 [(0, .ref (ad 0)), (2, .int x2), (3, .int x3), (4, .int x4)]) (hf : fR_writeOne_b65 y0 x2 x3 x4 st = some (r0, st0)) : W p l e R s m args below meth c H locs 0 0 Q (F0 m 65 ls [.int y0]) := by
  have C1 := C
  obtain ⟨hx, hb, hml, hown, hts, hK, hlv, hlo⟩ := C1
  unfold fR_writeOne_b65 at hf
  refine lv_istore (lv' := [(6, .int y0), (0, .ref (ad 0)), (2, .int x2), (3, .int x3), (4, .int x4)]) hx hb dR_writeOne_65 hl (by decide) rfl (fun ls hl => ?_)
  refine lv_aload_n hx hb dR_writeOne_67 rfl (lv_at hl 1 rfl) ?_
  refine ck_gr C h FR_waits dR_writeOne_68 ?_
  refine lv_iload_n hx hb dR_writeOne_71 rfl (lv_at hl 2 rfl) ?_
  refine lv_iload hx hb dR_writeOne_72 (lv_at hl 0 rfl) ?_
  refine lv_if_eq (tgt := 86) hx hb dR_writeOne_74 rfl (fun hq => ?_) (fun hq => ?_)
  · have hf := ck_t hq hf
    refine lv_aload_n hx hb dR_writeOne_86 rfl (lv_at hl 1 rfl) ?_
    refine ck_gr C h FR_left dR_writeOne_87 ?_
    refine lv_iload_n hx hb dR_writeOne_90 rfl (lv_at hl 3 rfl) ?_
    obtain ⟨hg, hf⟩ := ck_gd_e hf
    refine ck_ai (x := (st 6 (x3).toNatClampNeg)) C h (show sh_R[6]? = some (.inr (0, 60)) from rfl) hg rfl dR_writeOne_91 ?_
    exact BR_writeOne_92 C hret _ _ _ _ _ _ _ _ _ _ h (lv_sub hl [1, 2, 3, 4, 0] rfl) hf
  · have hf := ck_f hq hf
    refine lv_aload_n hx hb dR_writeOne_77 rfl (lv_at hl 1 rfl) ?_
    refine ck_gr C h FR_right dR_writeOne_78 ?_
    refine lv_iload_n hx hb dR_writeOne_81 rfl (lv_at hl 3 rfl) ?_
    obtain ⟨hg, hf⟩ := ck_gd_e hf
    refine ck_ai (x := (st 7 (x3).toNatClampNeg)) C h (show sh_R[7]? = some (.inr (0, 60)) from rfl) hg rfl dR_writeOne_82 ?_
    refine lv_goto (tgt := 92) hx hb dR_writeOne_83 rfl ?_
    exact BR_writeOne_92 C hret _ _ _ _ _ _ _ _ _ _ h (lv_sub hl [1, 2, 3, 4, 0] rfl) hf
def fR_writeOne (x1 : Int32) (x2 : Int32) (st : ck_S) : Option (Int32 × ck_S) := (ck_gd x2 20 (ck_gd x2 20 (ck_gd x2 20 (ck_gd (st 19 (x2).toNatClampNeg) 60 (if (st 4 ((st 19 (x2).toNatClampNeg)).toNatClampNeg) = 0 then (some (x2, st)) else (ck_gd (st 19 (x2).toNatClampNeg) 60 (if (st 4 ((st 19 (x2).toNatClampNeg)).toNatClampNeg) = (3 : Int32) then (ck_gd (st 19 (x2).toNatClampNeg) 60 (ck_gd (st 6 ((st 19 (x2).toNatClampNeg)).toNatClampNeg) 60 (if (st 20 (x2).toNatClampNeg) < (st 10 ((st 6 ((st 19 (x2).toNatClampNeg)).toNatClampNeg)).toNatClampNeg) then (fR_writeOne_b65 (0 : Int32) x2 (st 19 (x2).toNatClampNeg) (st 20 (x2).toNatClampNeg) st) else (fR_writeOne_b65 (1 : Int32) x2 (st 19 (x2).toNatClampNeg) (st 20 (x2).toNatClampNeg) st)))) else (ck_gd (st 19 (x2).toNatClampNeg) 60 (ck_gd (((16 : Int32) * x1) + (st 21 (x2).toNatClampNeg)) 256 (ck_gd (st 19 (x2).toNatClampNeg) 60 (ck_gd (((16 : Int32) * x1) + (st 21 (x2).toNatClampNeg)) 256 (ck_gd (st 19 (x2).toNatClampNeg) 60 (if (st 4 ((st 19 (x2).toNatClampNeg)).toNatClampNeg) = (1 : Int32) then (some (x2, (ck_u (ck_u st 17 ((((16 : Int32) * x1) + (st 21 (x2).toNatClampNeg))).toNatClampNeg (st 4 ((st 19 (x2).toNatClampNeg)).toNatClampNeg)) 18 ((((16 : Int32) * x1) + (st 21 (x2).toNatClampNeg))).toNatClampNeg (st 5 ((st 19 (x2).toNatClampNeg)).toNatClampNeg)))) else (ck_gd (st 19 (x2).toNatClampNeg) 60 (if 0 ≤ (st 6 ((st 19 (x2).toNatClampNeg)).toNatClampNeg) then (ck_gd (st 19 (x2).toNatClampNeg) 60 (if 0 ≤ (st 7 ((st 19 (x2).toNatClampNeg)).toNatClampNeg) then (ck_gd (st 19 (x2).toNatClampNeg) 60 (ck_gd (st 7 ((st 19 (x2).toNatClampNeg)).toNatClampNeg) 60 (fR_writeOne_b208 (st 10 ((st 7 ((st 19 (x2).toNatClampNeg)).toNatClampNeg)).toNatClampNeg) x2 (st 19 (x2).toNatClampNeg) (st 20 (x2).toNatClampNeg) (st 21 (x2).toNatClampNeg) (ck_u (ck_u st 17 ((((16 : Int32) * x1) + (st 21 (x2).toNatClampNeg))).toNatClampNeg (st 4 ((st 19 (x2).toNatClampNeg)).toNatClampNeg)) 18 ((((16 : Int32) * x1) + (st 21 (x2).toNatClampNeg))).toNatClampNeg (st 5 ((st 19 (x2).toNatClampNeg)).toNatClampNeg))))) else (fR_writeOne_b208 (1 : Int32) x2 (st 19 (x2).toNatClampNeg) (st 20 (x2).toNatClampNeg) (st 21 (x2).toNatClampNeg) (ck_u (ck_u st 17 ((((16 : Int32) * x1) + (st 21 (x2).toNatClampNeg))).toNatClampNeg (st 4 ((st 19 (x2).toNatClampNeg)).toNatClampNeg)) 18 ((((16 : Int32) * x1) + (st 21 (x2).toNatClampNeg))).toNatClampNeg (st 5 ((st 19 (x2).toNatClampNeg)).toNatClampNeg))))) else (some (x2, (ck_u (ck_u st 17 ((((16 : Int32) * x1) + (st 21 (x2).toNatClampNeg))).toNatClampNeg (st 4 ((st 19 (x2).toNatClampNeg)).toNatClampNeg)) 18 ((((16 : Int32) * x1) + (st 21 (x2).toNatClampNeg))).toNatClampNeg (st 5 ((st 19 (x2).toNatClampNeg)).toNatClampNeg)))))))))))))))))))
set_option maxRecDepth 100000 in
set_option maxHeartbeats 4000000 in
theorem cR_writeOne (l : Launch) (D : va_G) (cA : Nat → ClassId) (ad : Nat → Nat) {x1 : Int32} {x2 : Int32} {st : ck_S} {r0 : Int32} {st0 : ck_S} (hf : fR_writeOne x1 x2 st = some (r0, st0)) : Met l yR_writeOne (.code yR_writeOne bR_writeOne 7 (some .int) :: ck_T) (ck_R 0) (va_Pc [.ref (ad 0), .int x1, .int x2] (ck_P sh_R cm_cl D cA ad st)) (va_Qi (fun a u => a = r0 ∧ u = st0) (ck_P sh_R cm_cl D cA ad) (ck_A ad sh_R.length)) 0 0 (ck_A ad sh_R.length) := by
  refine ck_met_i (own := R_R) (by decide +kernel) rfl (Nat.le_of_ble_eq_true rfl) (fun p e R s m args below meth c H0 Q ls C hret h hl => ?_)
  have C1 := C
  obtain ⟨hx, hb, hml, hown, hts, hK, hlv, hlo⟩ := C1
  have hl : lv_has ls 7 [(0, .ref (ad 0)), (1, .int x1), (2, .int x2)] := hl
  unfold fR_writeOne at hf
  refine lv_aload_n hx hb dR_writeOne_0 rfl (lv_at hl 0 rfl) ?_
  refine ck_gr C h FR_waits dR_writeOne_1 ?_
  refine lv_iload_n hx hb dR_writeOne_4 rfl (lv_at hl 2 rfl) ?_
  obtain ⟨hg, hf⟩ := ck_gd_e hf
  refine ck_ai (x := (st 19 (x2).toNatClampNeg)) C h (show sh_R[19]? = some (.inr (0, 20)) from rfl) hg rfl dR_writeOne_5 ?_
  refine lv_istore_n (lv' := [(3, .int (st 19 (x2).toNatClampNeg)), (0, .ref (ad 0)), (1, .int x1), (2, .int x2)]) hx hb dR_writeOne_6 rfl hl (by decide) rfl (fun ls hl => ?_)
  refine lv_aload_n hx hb dR_writeOne_7 rfl (lv_at hl 1 rfl) ?_
  refine ck_gr C h FR_choice dR_writeOne_8 ?_
  refine lv_iload_n hx hb dR_writeOne_11 rfl (lv_at hl 3 rfl) ?_
  obtain ⟨hg, hf⟩ := ck_gd_e hf
  refine ck_ai (x := (st 20 (x2).toNatClampNeg)) C h (show sh_R[20]? = some (.inr (0, 20)) from rfl) hg rfl dR_writeOne_12 ?_
  refine lv_istore (lv' := [(4, .int (st 20 (x2).toNatClampNeg)), (3, .int (st 19 (x2).toNatClampNeg)), (0, .ref (ad 0)), (1, .int x1), (2, .int x2)]) hx hb dR_writeOne_13 hl (by decide) rfl (fun ls hl => ?_)
  refine lv_aload_n hx hb dR_writeOne_15 rfl (lv_at hl 2 rfl) ?_
  refine ck_gr C h FR_spot dR_writeOne_16 ?_
  refine lv_iload_n hx hb dR_writeOne_19 rfl (lv_at hl 4 rfl) ?_
  obtain ⟨hg, hf⟩ := ck_gd_e hf
  refine ck_ai (x := (st 21 (x2).toNatClampNeg)) C h (show sh_R[21]? = some (.inr (0, 20)) from rfl) hg rfl dR_writeOne_20 ?_
  refine lv_istore (lv' := [(5, .int (st 21 (x2).toNatClampNeg)), (4, .int (st 20 (x2).toNatClampNeg)), (3, .int (st 19 (x2).toNatClampNeg)), (0, .ref (ad 0)), (1, .int x1), (2, .int x2)]) hx hb dR_writeOne_21 hl (by decide) rfl (fun ls hl => ?_)
  refine lv_aload_n hx hb dR_writeOne_23 rfl (lv_at hl 3 rfl) ?_
  refine ck_gr C h FR_kind dR_writeOne_24 ?_
  refine lv_iload_n hx hb dR_writeOne_27 rfl (lv_at hl 2 rfl) ?_
  obtain ⟨hg, hf⟩ := ck_gd_e hf
  refine ck_ai (x := (st 4 ((st 19 (x2).toNatClampNeg)).toNatClampNeg)) C h (show sh_R[4]? = some (.inr (0, 60)) from rfl) hg rfl dR_writeOne_28 ?_
  refine lv_if_ne (tgt := 34) hx hb dR_writeOne_29 rfl (fun hq => ?_) (fun hq => ?_)
  · have hf := ck_f hq hf
    refine lv_aload_n hx hb dR_writeOne_34 rfl (lv_at hl 3 rfl) ?_
    refine ck_gr C h FR_kind dR_writeOne_35 ?_
    refine lv_iload_n hx hb dR_writeOne_38 rfl (lv_at hl 2 rfl) ?_
    obtain ⟨hg, hf⟩ := ck_gd_e hf
    refine ck_ai (x := (st 4 ((st 19 (x2).toNatClampNeg)).toNatClampNeg)) C h (show sh_R[4]? = some (.inr (0, 60)) from rfl) hg rfl dR_writeOne_39 ?_
    refine lv_iconst (v := 3) hx hb dR_writeOne_40 (by decide) ?_
    refine lv_icmp_ne (tgt := 127) hx hb dR_writeOne_41 rfl (fun hq => ?_) (fun hq => ?_)
    · have hf := ck_f hq hf
      refine lv_aload_n hx hb dR_writeOne_127 rfl (lv_at hl 3 rfl) ?_
      refine ck_gr C h FR_asks dR_writeOne_128 ?_
      refine lv_bipush (v := 16) hx hb dR_writeOne_131 (by decide) ?_
      refine lv_iload_n hx hb dR_writeOne_133 rfl (lv_at hl 4 rfl) ?_
      refine lv_imul hx hb dR_writeOne_134 ?_
      refine lv_iload hx hb dR_writeOne_135 (lv_at hl 0 rfl) ?_
      refine lv_iadd hx hb dR_writeOne_137 ?_
      refine lv_aload_n hx hb dR_writeOne_138 rfl (lv_at hl 3 rfl) ?_
      refine ck_gr C h FR_kind dR_writeOne_139 ?_
      refine lv_iload_n hx hb dR_writeOne_142 rfl (lv_at hl 2 rfl) ?_
      obtain ⟨hg, hf⟩ := ck_gd_e hf
      refine ck_ai (x := (st 4 ((st 19 (x2).toNatClampNeg)).toNatClampNeg)) C h (show sh_R[4]? = some (.inr (0, 60)) from rfl) hg rfl dR_writeOne_143 ?_
      obtain ⟨hg, hf⟩ := ck_gd_e hf
      refine ck_si C h (show sh_R[17]? = some (.inr (0, 256)) from rfl) hg dR_writeOne_144 (fun H locs h => ?_)
      refine lv_aload_n hx hb dR_writeOne_145 rfl (lv_at hl 3 rfl) ?_
      refine ck_gr C h FR_asked dR_writeOne_146 ?_
      refine lv_bipush (v := 16) hx hb dR_writeOne_149 (by decide) ?_
      refine lv_iload_n hx hb dR_writeOne_151 rfl (lv_at hl 4 rfl) ?_
      refine lv_imul hx hb dR_writeOne_152 ?_
      refine lv_iload hx hb dR_writeOne_153 (lv_at hl 0 rfl) ?_
      refine lv_iadd hx hb dR_writeOne_155 ?_
      refine lv_aload_n hx hb dR_writeOne_156 rfl (lv_at hl 3 rfl) ?_
      refine ck_gr C h FR_what dR_writeOne_157 ?_
      refine lv_iload_n hx hb dR_writeOne_160 rfl (lv_at hl 2 rfl) ?_
      obtain ⟨hg, hf⟩ := ck_gd_e hf
      refine ck_ai (x := (st 5 ((st 19 (x2).toNatClampNeg)).toNatClampNeg)) C h (show sh_R[5]? = some (.inr (0, 60)) from rfl) hg rfl dR_writeOne_161 ?_
      obtain ⟨hg, hf⟩ := ck_gd_e hf
      refine ck_si C h (show sh_R[18]? = some (.inr (0, 256)) from rfl) hg dR_writeOne_162 (fun H locs h => ?_)
      refine lv_aload_n hx hb dR_writeOne_163 rfl (lv_at hl 3 rfl) ?_
      refine ck_gr C h FR_kind dR_writeOne_164 ?_
      refine lv_iload_n hx hb dR_writeOne_167 rfl (lv_at hl 2 rfl) ?_
      obtain ⟨hg, hf⟩ := ck_gd_e hf
      refine ck_ai (x := (st 4 ((st 19 (x2).toNatClampNeg)).toNatClampNeg)) C h (show sh_R[4]? = some (.inr (0, 60)) from rfl) hg rfl dR_writeOne_168 ?_
      refine lv_iconst (v := 1) hx hb dR_writeOne_169 (by decide) ?_
      refine lv_icmp_eq (tgt := 182) hx hb dR_writeOne_170 rfl (fun hq => ?_) (fun hq => ?_)
      · have hf := ck_t hq hf
        refine lv_iload_n hx hb dR_writeOne_182 rfl (lv_at hl 5 rfl) ?_
        exact ck_ri hf hret h dR_writeOne_183
      · have hf := ck_f hq hf
        refine lv_aload_n hx hb dR_writeOne_173 rfl (lv_at hl 3 rfl) ?_
        refine ck_gr C h FR_left dR_writeOne_174 ?_
        refine lv_iload_n hx hb dR_writeOne_177 rfl (lv_at hl 2 rfl) ?_
        obtain ⟨hg, hf⟩ := ck_gd_e hf
        refine ck_ai (x := (st 6 ((st 19 (x2).toNatClampNeg)).toNatClampNeg)) C h (show sh_R[6]? = some (.inr (0, 60)) from rfl) hg rfl dR_writeOne_178 ?_
        refine lv_if_ge (tgt := 184) hx hb dR_writeOne_179 rfl (fun hq => ?_) (fun hq => ?_)
        · have hf := ck_t hq hf
          refine lv_aload_n hx hb dR_writeOne_184 rfl (lv_at hl 3 rfl) ?_
          refine ck_gr C h FR_right dR_writeOne_185 ?_
          refine lv_iload_n hx hb dR_writeOne_188 rfl (lv_at hl 2 rfl) ?_
          obtain ⟨hg, hf⟩ := ck_gd_e hf
          refine ck_ai (x := (st 7 ((st 19 (x2).toNatClampNeg)).toNatClampNeg)) C h (show sh_R[7]? = some (.inr (0, 60)) from rfl) hg rfl dR_writeOne_189 ?_
          refine lv_if_ge (tgt := 197) hx hb dR_writeOne_190 rfl (fun hq => ?_) (fun hq => ?_)
          · have hf := ck_t hq hf
            refine lv_aload_n hx hb dR_writeOne_197 rfl (lv_at hl 3 rfl) ?_
            refine ck_gr C h FR_choices dR_writeOne_198 ?_
            refine lv_aload_n hx hb dR_writeOne_201 rfl (lv_at hl 3 rfl) ?_
            refine ck_gr C h FR_right dR_writeOne_202 ?_
            refine lv_iload_n hx hb dR_writeOne_205 rfl (lv_at hl 2 rfl) ?_
            obtain ⟨hg, hf⟩ := ck_gd_e hf
            refine ck_ai (x := (st 7 ((st 19 (x2).toNatClampNeg)).toNatClampNeg)) C h (show sh_R[7]? = some (.inr (0, 60)) from rfl) hg rfl dR_writeOne_206 ?_
            obtain ⟨hg, hf⟩ := ck_gd_e hf
            refine ck_ai (x := (st 10 ((st 7 ((st 19 (x2).toNatClampNeg)).toNatClampNeg)).toNatClampNeg)) C h (show sh_R[10]? = some (.inr (0, 60)) from rfl) hg rfl dR_writeOne_207 ?_
            exact BR_writeOne_208 C hret _ _ _ _ _ _ _ _ _ h (lv_sub hl [3, 5, 2, 1, 0] rfl) hf
          · have hf := ck_f hq hf
            refine lv_iconst (v := 1) hx hb dR_writeOne_193 (by decide) ?_
            refine lv_goto (tgt := 208) hx hb dR_writeOne_194 rfl ?_
            exact BR_writeOne_208 C hret _ _ _ _ _ _ _ _ _ h (lv_sub hl [3, 5, 2, 1, 0] rfl) hf
        · have hf := ck_f hq hf
          refine lv_iload_n hx hb dR_writeOne_182 rfl (lv_at hl 5 rfl) ?_
          exact ck_ri hf hret h dR_writeOne_183
    · have hf := ck_t hq hf
      refine lv_iload hx hb dR_writeOne_44 (lv_at hl 1 rfl) ?_
      refine lv_aload_n hx hb dR_writeOne_46 rfl (lv_at hl 3 rfl) ?_
      refine ck_gr C h FR_choices dR_writeOne_47 ?_
      refine lv_aload_n hx hb dR_writeOne_50 rfl (lv_at hl 3 rfl) ?_
      refine ck_gr C h FR_left dR_writeOne_51 ?_
      refine lv_iload_n hx hb dR_writeOne_54 rfl (lv_at hl 2 rfl) ?_
      obtain ⟨hg, hf⟩ := ck_gd_e hf
      refine ck_ai (x := (st 6 ((st 19 (x2).toNatClampNeg)).toNatClampNeg)) C h (show sh_R[6]? = some (.inr (0, 60)) from rfl) hg rfl dR_writeOne_55 ?_
      obtain ⟨hg, hf⟩ := ck_gd_e hf
      refine ck_ai (x := (st 10 ((st 6 ((st 19 (x2).toNatClampNeg)).toNatClampNeg)).toNatClampNeg)) C h (show sh_R[10]? = some (.inr (0, 60)) from rfl) hg rfl dR_writeOne_56 ?_
      refine lv_icmp_lt (tgt := 64) hx hb dR_writeOne_57 rfl (fun hq => ?_) (fun hq => ?_)
      · have hf := ck_t hq hf
        refine lv_iconst (v := 0) hx hb dR_writeOne_64 (by decide) ?_
        exact BR_writeOne_65 C hret _ _ _ _ _ _ _ _ h (lv_sub hl [3, 5, 2, 1] rfl) hf
      · have hf := ck_f hq hf
        refine lv_iconst (v := 1) hx hb dR_writeOne_60 (by decide) ?_
        refine lv_goto (tgt := 65) hx hb dR_writeOne_61 rfl ?_
        exact BR_writeOne_65 C hret _ _ _ _ _ _ _ _ h (lv_sub hl [3, 5, 2, 1] rfl) hf
  · have hf := ck_t hq hf
    refine lv_iload_n hx hb dR_writeOne_32 rfl (lv_at hl 5 rfl) ?_
    exact ck_ri hf hret h dR_writeOne_33
def fR_writeOut_l3 (k29 : Int32 → Int32 → Int32 → ck_S → Option ck_S) : Nat → Int32 → Int32 → Int32 → Int32 → ck_S → Option ck_S
  | 0, _, _, _, _, _ => none
  | n + 1, x1, x2, x3, x4, st => (if (16 : Int32) ≤ x4 then (k29 x1 x2 x3 st) else (ck_gd (((16 : Int32) * x1) + x4) 256 (fR_writeOut_l3 k29 n x1 x2 x3 (x4 + 1) (ck_u st 17 ((((16 : Int32) * x1) + x4)).toNatClampNeg (0 : Int32)))))
set_option maxRecDepth 100000 in
set_option maxHeartbeats 4000000 in
theorem BR_writeOut_3 (C : ck_X cm_cl D cA bR_writeOut 5 R_R 1 p R s m args c) {st0 : ck_S} (hret : ∀ (pc : Nat) (H : Heap) (locs : List Loc) (ls : Array Slot), decode bR_writeOut pc = .ok (.return_, 1) → ck_AT sh_R cm_cl D cA ad H0 st0 H locs → W p l e R s m args below meth c H locs 0 0 Q (F0 m pc ls [])) {k29 : Int32 → Int32 → Int32 → ck_S → Option ck_S} (hk29 : ∀ (x1 : Int32) (x2 : Int32) (x3 : Int32) (st : ck_S) (H : Heap) (locs : List Loc) (ls : Array Slot), ck_AT sh_R cm_cl D cA ad H0 st H locs → lv_has ls 5 [(0, .ref (ad 0)), (1, .int x1), (2, .int x2), (3, .int x3)] → k29 x1 x2 x3 st = some st0 → W p l e R s m args below meth c H locs 0 0 Q (F0 m 29 ls [])) : ∀ (n : Nat) (x1 : Int32) (x2 : Int32) (x3 : Int32) (x4 : Int32) (st : ck_S) (H : Heap) (locs : List Loc) (ls : Array Slot), ck_AT sh_R cm_cl D cA ad H0 st H locs → lv_has ls 5 [(0, .ref (ad 0)), (1, .int x1), (2, .int x2), (3, .int x3), (4, .int x4)] → fR_writeOut_l3 k29 n x1 x2 x3 x4 st = some st0 → W p l e R s m args below meth c H locs 0 0 Q (F0 m 3 ls []) := by
  have C1 := C
  obtain ⟨hx, hb, hml, hown, hts, hK, hlv, hlo⟩ := C1
  intro n
  induction n with
  | zero => intro _ _ _ _ _ _ _ _ _ _ hf; cases hf
  | succ n ih =>
    intro x1 x2 x3 x4 st H locs ls h hl hf
    rw [fR_writeOut_l3] at hf
    refine lv_iload hx hb dR_writeOut_3 (lv_at hl 4 rfl) ?_
    refine lv_bipush (v := 16) hx hb dR_writeOut_5 (by decide) ?_
    refine lv_icmp_ge (tgt := 29) hx hb dR_writeOut_7 rfl (fun hq => ?_) (fun hq => ?_)
    · have hf := ck_t hq hf
      exact hk29 _ _ _ _ _ _ _ h (lv_sub hl [0, 1, 2, 3] rfl) hf
    · have hf := ck_f hq hf
      refine lv_aload_n hx hb dR_writeOut_10 rfl (lv_at hl 0 rfl) ?_
      refine ck_gr C h FR_asks dR_writeOut_11 ?_
      refine lv_bipush (v := 16) hx hb dR_writeOut_14 (by decide) ?_
      refine lv_iload_n hx hb dR_writeOut_16 rfl (lv_at hl 1 rfl) ?_
      refine lv_imul hx hb dR_writeOut_17 ?_
      refine lv_iload hx hb dR_writeOut_18 (lv_at hl 4 rfl) ?_
      refine lv_iadd hx hb dR_writeOut_20 ?_
      refine lv_iconst (v := 0) hx hb dR_writeOut_21 (by decide) ?_
      obtain ⟨hg, hf⟩ := ck_gd_e hf
      refine ck_si C h (show sh_R[17]? = some (.inr (0, 256)) from rfl) hg dR_writeOut_22 (fun H locs h => ?_)
      refine lv_iinc (k := 4) (v := (x4 + 1)) (lv' := [(4, .int (x4 + 1)), (0, .ref (ad 0)), (1, .int x1), (2, .int x2), (3, .int x3)]) hx hb dR_writeOut_23 hl rfl rfl (by decide) rfl (fun ls hl => ?_)
      refine lv_goto (tgt := 3) hx hb dR_writeOut_26 rfl ?_
      exact ih _ _ _ _ _ _ _ _ h (lv_sub hl [1, 2, 3, 4, 0] rfl) hf
def fR_writeOut_l53 : Nat → Int32 → Int32 → ck_S → Option ck_S
  | 0, _, _, _ => none
  | n + 1, x1, x4, st => (if x4 ≤ 0 then (some st) else (ck_b (fR_writeOne x1 (x4 - (1 : Int32)) st) fun v2 st1 => (fR_writeOut_l53 n x1 v2 st1)))
set_option maxRecDepth 100000 in
set_option maxHeartbeats 4000000 in
theorem BR_writeOut_53 (C : ck_X cm_cl D cA bR_writeOut 5 R_R 1 p R s m args c) {st0 : ck_S} (hret : ∀ (pc : Nat) (H : Heap) (locs : List Loc) (ls : Array Slot), decode bR_writeOut pc = .ok (.return_, 1) → ck_AT sh_R cm_cl D cA ad H0 st0 H locs → W p l e R s m args below meth c H locs 0 0 Q (F0 m pc ls [])) : ∀ (n : Nat) (x1 : Int32) (x4 : Int32) (st : ck_S) (H : Heap) (locs : List Loc) (ls : Array Slot), ck_AT sh_R cm_cl D cA ad H0 st H locs → lv_has ls 5 [(0, .ref (ad 0)), (1, .int x1), (4, .int x4)] → fR_writeOut_l53  n x1 x4 st = some st0 → W p l e R s m args below meth c H locs 0 0 Q (F0 m 53 ls []) := by
  have C1 := C
  obtain ⟨hx, hb, hml, hown, hts, hK, hlv, hlo⟩ := C1
  intro n
  induction n with
  | zero => intro _ _ _ _ _ _ _ _ hf; cases hf
  | succ n ih =>
    intro x1 x4 st H locs ls h hl hf
    rw [fR_writeOut_l53] at hf
    refine lv_iload hx hb dR_writeOut_53 (lv_at hl 2 rfl) ?_
    refine lv_if_le (tgt := 72) hx hb dR_writeOut_55 rfl (fun hq => ?_) (fun hq => ?_)
    · have hf := ck_t hq hf
      exact ck_rv hf hret h dR_writeOut_72
    · have hf := ck_f hq hf
      refine lv_aload_n hx hb dR_writeOut_58 rfl (lv_at hl 0 rfl) ?_
      refine lv_iload_n hx hb dR_writeOut_59 rfl (lv_at hl 1 rfl) ?_
      refine lv_iload hx hb dR_writeOut_60 (lv_at hl 2 rfl) ?_
      refine lv_iconst (v := 1) hx hb dR_writeOut_62 (by decide) ?_
      refine lv_isub hx hb dR_writeOut_63 ?_
      obtain ⟨v2, st1, hc, hf⟩ := ck_b_e hf
      refine ck_vi (As := [.int x1, .int (x4 - (1 : Int32))]) (rest := []) (q := 0) C h hl CR_R_writeOne sR_writeOne q_R (cR_writeOne l D cA ad hc) (Nat.le_of_ble_eq_true rfl) rfl rfl (Nat.le_of_ble_eq_true rfl) dR_writeOut_64 (fun H locs h => ?_)
      refine lv_istore (lv' := [(4, .int v2), (0, .ref (ad 0)), (1, .int x1)]) hx hb dR_writeOut_67 hl (by decide) rfl (fun ls hl => ?_)
      refine lv_goto (tgt := 53) hx hb dR_writeOut_69 rfl ?_
      exact ih _ _ _ _ _ _ h (lv_sub hl [1, 2, 0] rfl) hf
def fR_writeOut_b29 (x1 : Int32) (x2 : Int32) (x3 : Int32) (st : ck_S) : Option ck_S := (ck_gd (0 : Int32) 20 (ck_gd (0 : Int32) 20 (ck_gd (0 : Int32) 20 (fR_writeOut_l53  4096 x1 (1 : Int32) (ck_u (ck_u (ck_u st 19 ((0 : Int32)).toNatClampNeg x2) 20 ((0 : Int32)).toNatClampNeg x3) 21 ((0 : Int32)).toNatClampNeg (1 : Int32))))))
set_option maxRecDepth 100000 in
set_option maxHeartbeats 4000000 in
theorem BR_writeOut_29 (C : ck_X cm_cl D cA bR_writeOut 5 R_R 1 p R s m args c) {st0 : ck_S} (hret : ∀ (pc : Nat) (H : Heap) (locs : List Loc) (ls : Array Slot), decode bR_writeOut pc = .ok (.return_, 1) → ck_AT sh_R cm_cl D cA ad H0 st0 H locs → W p l e R s m args below meth c H locs 0 0 Q (F0 m pc ls [])) (x1 : Int32) (x2 : Int32) (x3 : Int32) (st : ck_S) (H : Heap) (locs : List Loc) (ls : Array Slot) (h : ck_AT sh_R cm_cl D cA ad H0 st H locs) (hl : lv_has ls 5 [(0, .ref (ad 0)), (1, .int x1), (2, .int x2), (3, .int x3)]) (hf : fR_writeOut_b29 x1 x2 x3 st = some st0) : W p l e R s m args below meth c H locs 0 0 Q (F0 m 29 ls []) := by
  have C1 := C
  obtain ⟨hx, hb, hml, hown, hts, hK, hlv, hlo⟩ := C1
  unfold fR_writeOut_b29 at hf
  refine lv_aload_n hx hb dR_writeOut_29 rfl (lv_at hl 0 rfl) ?_
  refine ck_gr C h FR_waits dR_writeOut_30 ?_
  refine lv_iconst (v := 0) hx hb dR_writeOut_33 (by decide) ?_
  refine lv_iload_n hx hb dR_writeOut_34 rfl (lv_at hl 2 rfl) ?_
  obtain ⟨hg, hf⟩ := ck_gd_e hf
  refine ck_si C h (show sh_R[19]? = some (.inr (0, 20)) from rfl) hg dR_writeOut_35 (fun H locs h => ?_)
  refine lv_aload_n hx hb dR_writeOut_36 rfl (lv_at hl 0 rfl) ?_
  refine ck_gr C h FR_choice dR_writeOut_37 ?_
  refine lv_iconst (v := 0) hx hb dR_writeOut_40 (by decide) ?_
  refine lv_iload_n hx hb dR_writeOut_41 rfl (lv_at hl 3 rfl) ?_
  obtain ⟨hg, hf⟩ := ck_gd_e hf
  refine ck_si C h (show sh_R[20]? = some (.inr (0, 20)) from rfl) hg dR_writeOut_42 (fun H locs h => ?_)
  refine lv_aload_n hx hb dR_writeOut_43 rfl (lv_at hl 0 rfl) ?_
  refine ck_gr C h FR_spot dR_writeOut_44 ?_
  refine lv_iconst (v := 0) hx hb dR_writeOut_47 (by decide) ?_
  refine lv_iconst (v := 1) hx hb dR_writeOut_48 (by decide) ?_
  obtain ⟨hg, hf⟩ := ck_gd_e hf
  refine ck_si C h (show sh_R[21]? = some (.inr (0, 20)) from rfl) hg dR_writeOut_49 (fun H locs h => ?_)
  refine lv_iconst (v := 1) hx hb dR_writeOut_50 (by decide) ?_
  refine lv_istore (lv' := [(4, .int (1 : Int32)), (0, .ref (ad 0)), (1, .int x1), (2, .int x2), (3, .int x3)]) hx hb dR_writeOut_51 hl (by decide) rfl (fun ls hl => ?_)
  exact BR_writeOut_53 C hret  4096 _ _ _ _ _ _ h (lv_sub hl [1, 2, 0] rfl) hf
def fR_writeOut (x1 : Int32) (x2 : Int32) (x3 : Int32) (st : ck_S) : Option ck_S := (fR_writeOut_l3 (fun x1 x2 x3 st => (fR_writeOut_b29 x1 x2 x3 st)) 4096 x1 x2 x3 (0 : Int32) st)
set_option maxRecDepth 100000 in
set_option maxHeartbeats 4000000 in
theorem cR_writeOut (l : Launch) (D : va_G) (cA : Nat → ClassId) (ad : Nat → Nat) {x1 : Int32} {x2 : Int32} {x3 : Int32} {st : ck_S} {st0 : ck_S} (hf : fR_writeOut x1 x2 x3 st = some st0) : Met l yR_writeOut (.code yR_writeOut bR_writeOut 5 none :: ck_T) (ck_R 1) (va_Pc [.ref (ad 0), .int x1, .int x2, .int x3] (ck_P sh_R cm_cl D cA ad st)) (va_Qv (fun u => u = st0) (ck_P sh_R cm_cl D cA ad) (ck_A ad sh_R.length)) 0 0 (ck_A ad sh_R.length) := by
  refine ck_met_v (own := R_R) (by decide +kernel) rfl (Nat.le_of_ble_eq_true rfl) (fun p e R s m args below meth c H0 Q ls C hret h hl => ?_)
  have C1 := C
  obtain ⟨hx, hb, hml, hown, hts, hK, hlv, hlo⟩ := C1
  have hl : lv_has ls 5 [(0, .ref (ad 0)), (1, .int x1), (2, .int x2), (3, .int x3)] := hl
  unfold fR_writeOut at hf
  refine lv_iconst (v := 0) hx hb dR_writeOut_0 (by decide) ?_
  refine lv_istore (lv' := [(4, .int (0 : Int32)), (0, .ref (ad 0)), (1, .int x1), (2, .int x2), (3, .int x3)]) hx hb dR_writeOut_1 hl (by decide) rfl (fun ls hl => ?_)
  exact BR_writeOut_3 C hret (fun x1 x2 x3 st H locs ls h hl hf => by
      exact BR_writeOut_29 C hret _ _ _ _ _ _ _ h (lv_sub hl [0, 1, 2, 3] rfl) hf) 4096 _ _ _ _ _ _ _ _ h (lv_sub hl [1, 2, 3, 4, 0] rfl) hf
end Srefe0
