theorem dC_clear_0 : decode bC_clear 0 = .ok (.aload_n 0, 1) := by decide +kernel
theorem dC_clear_1 : decode bC_clear 1 = .ok (.getfield 10, 3) := by decide +kernel
theorem dC_clear_4 : decode bC_clear 4 = .ok (.invokevirtual 61, 3) := by decide +kernel
theorem dC_clear_7 : decode bC_clear 7 = .ok (.aload_n 0, 1) := by decide +kernel
theorem dC_clear_8 : decode bC_clear 8 = .ok (.getfield 19, 3) := by decide +kernel
theorem dC_clear_11 : decode bC_clear 11 = .ok (.invokevirtual 64, 3) := by decide +kernel
theorem dC_clear_14 : decode bC_clear 14 = .ok (.aload_n 0, 1) := by decide +kernel
theorem dC_clear_15 : decode bC_clear 15 = .ok (.getfield 26, 3) := by decide +kernel
theorem dC_clear_18 : decode bC_clear 18 = .ok (.invokevirtual 65, 3) := by decide +kernel
theorem dC_clear_21 : decode bC_clear 21 = .ok (.aload_n 0, 1) := by decide +kernel
theorem dC_clear_22 : decode bC_clear 22 = .ok (.getfield 35, 3) := by decide +kernel
theorem dC_clear_25 : decode bC_clear 25 = .ok (.invokevirtual 66, 3) := by decide +kernel
theorem dC_clear_28 : decode bC_clear 28 = .ok (.aload_n 0, 1) := by decide +kernel
theorem dC_clear_29 : decode bC_clear 29 = .ok (.getfield 44, 3) := by decide +kernel
theorem dC_clear_32 : decode bC_clear 32 = .ok (.invokevirtual 67, 3) := by decide +kernel
theorem dC_clear_35 : decode bC_clear 35 = .ok (.aload_n 0, 1) := by decide +kernel
theorem dC_clear_36 : decode bC_clear 36 = .ok (.iconst 0, 1) := by decide +kernel
theorem dC_clear_37 : decode bC_clear 37 = .ok (.putfield 57, 3) := by decide +kernel
theorem dC_clear_40 : decode bC_clear 40 = .ok (.return_, 1) := by decide +kernel
theorem dC_type_0 : decode bC_type 0 = .ok (.aload_n 0, 1) := by decide +kernel
theorem dC_type_1 : decode bC_type 1 = .ok (.getfield 35, 3) := by decide +kernel
theorem dC_type_4 : decode bC_type 4 = .ok (.invokevirtual 70, 3) := by decide +kernel
theorem dC_type_7 : decode bC_type 7 = .ok (.ifCond .eq 6, 3) := by decide +kernel
theorem dC_type_10 : decode bC_type 10 = .ok (.bipush (-2), 2) := by decide +kernel
theorem dC_type_12 : decode bC_type 12 = .ok (.ireturn, 1) := by decide +kernel
theorem dC_type_13 : decode bC_type 13 = .ok (.aload_n 0, 1) := by decide +kernel
theorem dC_type_14 : decode bC_type 14 = .ok (.getfield 10, 3) := by decide +kernel
theorem dC_type_17 : decode bC_type 17 = .ok (.invokevirtual 74, 3) := by decide +kernel
theorem dC_type_20 : decode bC_type 20 = .ok (.ireturn, 1) := by decide +kernel
theorem dC_constructor_0 : decode bC_constructor 0 = .ok (.aload_n 0, 1) := by decide +kernel
theorem dC_constructor_1 : decode bC_constructor 1 = .ok (.getfield 35, 3) := by decide +kernel
theorem dC_constructor_4 : decode bC_constructor 4 = .ok (.invokevirtual 70, 3) := by decide +kernel
theorem dC_constructor_7 : decode bC_constructor 7 = .ok (.ifCond .eq 6, 3) := by decide +kernel
theorem dC_constructor_10 : decode bC_constructor 10 = .ok (.bipush (-2), 2) := by decide +kernel
theorem dC_constructor_12 : decode bC_constructor 12 = .ok (.ireturn, 1) := by decide +kernel
theorem dC_constructor_13 : decode bC_constructor 13 = .ok (.aload_n 0, 1) := by decide +kernel
theorem dC_constructor_14 : decode bC_constructor 14 = .ok (.getfield 10, 3) := by decide +kernel
theorem dC_constructor_17 : decode bC_constructor 17 = .ok (.iload_n 1, 1) := by decide +kernel
theorem dC_constructor_18 : decode bC_constructor 18 = .ok (.invokevirtual 78, 3) := by decide +kernel
theorem dC_constructor_21 : decode bC_constructor 21 = .ok (.ifCond .eq 15, 3) := by decide +kernel
theorem dC_constructor_24 : decode bC_constructor 24 = .ok (.aload_n 0, 1) := by decide +kernel
theorem dC_constructor_25 : decode bC_constructor 25 = .ok (.getfield 10, 3) := by decide +kernel
theorem dC_constructor_28 : decode bC_constructor 28 = .ok (.iload_n 2, 1) := by decide +kernel
theorem dC_constructor_29 : decode bC_constructor 29 = .ok (.iload_n 3, 1) := by decide +kernel
theorem dC_constructor_30 : decode bC_constructor 30 = .ok (.invokevirtual 82, 3) := by decide +kernel
theorem dC_constructor_33 : decode bC_constructor 33 = .ok (.ifCond .ne 6, 3) := by decide +kernel
theorem dC_constructor_36 : decode bC_constructor 36 = .ok (.bipush (-3), 2) := by decide +kernel
theorem dC_constructor_38 : decode bC_constructor 38 = .ok (.ireturn, 1) := by decide +kernel
theorem dC_constructor_39 : decode bC_constructor 39 = .ok (.aload_n 0, 1) := by decide +kernel
theorem dC_constructor_40 : decode bC_constructor 40 = .ok (.getfield 10, 3) := by decide +kernel
theorem dC_constructor_43 : decode bC_constructor 43 = .ok (.iload_n 1, 1) := by decide +kernel
theorem dC_constructor_44 : decode bC_constructor 44 = .ok (.iload_n 2, 1) := by decide +kernel
theorem dC_constructor_45 : decode bC_constructor 45 = .ok (.iload_n 3, 1) := by decide +kernel
theorem dC_constructor_46 : decode bC_constructor 46 = .ok (.invokevirtual 86, 3) := by decide +kernel
theorem dC_constructor_49 : decode bC_constructor 49 = .ok (.ireturn, 1) := by decide +kernel
theorem dC_begin_0 : decode bC_begin 0 = .ok (.aload_n 0, 1) := by decide +kernel
theorem dC_begin_1 : decode bC_begin 1 = .ok (.getfield 35, 3) := by decide +kernel
theorem dC_begin_4 : decode bC_begin 4 = .ok (.invokevirtual 70, 3) := by decide +kernel
theorem dC_begin_7 : decode bC_begin 7 = .ok (.ifCond .eq 6, 3) := by decide +kernel
theorem dC_begin_10 : decode bC_begin 10 = .ok (.bipush (-2), 2) := by decide +kernel
theorem dC_begin_12 : decode bC_begin 12 = .ok (.ireturn, 1) := by decide +kernel
theorem dC_begin_13 : decode bC_begin 13 = .ok (.aload_n 0, 1) := by decide +kernel
theorem dC_begin_14 : decode bC_begin 14 = .ok (.getfield 10, 3) := by decide +kernel
theorem dC_begin_17 : decode bC_begin 17 = .ok (.iload_n 1, 1) := by decide +kernel
theorem dC_begin_18 : decode bC_begin 18 = .ok (.invokevirtual 90, 3) := by decide +kernel
theorem dC_begin_21 : decode bC_begin 21 = .ok (.ifCond .ne 6, 3) := by decide +kernel
theorem dC_begin_24 : decode bC_begin 24 = .ok (.bipush (-3), 2) := by decide +kernel
theorem dC_begin_26 : decode bC_begin 26 = .ok (.ireturn, 1) := by decide +kernel
theorem dC_begin_27 : decode bC_begin 27 = .ok (.aload_n 0, 1) := by decide +kernel
theorem dC_begin_28 : decode bC_begin 28 = .ok (.getfield 10, 3) := by decide +kernel
theorem dC_begin_31 : decode bC_begin 31 = .ok (.invokevirtual 93, 3) := by decide +kernel
theorem dC_begin_34 : decode bC_begin 34 = .ok (.ifCond .ne 6, 3) := by decide +kernel
theorem dC_begin_37 : decode bC_begin 37 = .ok (.bipush (-11), 2) := by decide +kernel
theorem dC_begin_39 : decode bC_begin 39 = .ok (.ireturn, 1) := by decide +kernel
theorem dC_begin_40 : decode bC_begin 40 = .ok (.aload_n 0, 1) := by decide +kernel
theorem dC_begin_41 : decode bC_begin 41 = .ok (.getfield 35, 3) := by decide +kernel
theorem dC_begin_44 : decode bC_begin 44 = .ok (.iload_n 1, 1) := by decide +kernel
theorem dC_begin_45 : decode bC_begin 45 = .ok (.invokevirtual 96, 3) := by decide +kernel
theorem dC_begin_48 : decode bC_begin 48 = .ok (.iconst 0, 1) := by decide +kernel
theorem dC_begin_49 : decode bC_begin 49 = .ok (.ireturn, 1) := by decide +kernel
theorem dC_any_0 : decode bC_any 0 = .ok (.aload_n 0, 1) := by decide +kernel
theorem dC_any_1 : decode bC_any 1 = .ok (.getfield 19, 3) := by decide +kernel
theorem dC_any_4 : decode bC_any 4 = .ok (.invokevirtual 100, 3) := by decide +kernel
theorem dC_any_7 : decode bC_any 7 = .ok (.ireturn, 1) := by decide +kernel
theorem dC_number_0 : decode bC_number 0 = .ok (.aload_n 0, 1) := by decide +kernel
theorem dC_number_1 : decode bC_number 1 = .ok (.getfield 19, 3) := by decide +kernel
theorem dC_number_4 : decode bC_number 4 = .ok (.iload_n 1, 1) := by decide +kernel
theorem dC_number_5 : decode bC_number 5 = .ok (.invokevirtual 103, 3) := by decide +kernel
theorem dC_number_8 : decode bC_number 8 = .ok (.ireturn, 1) := by decide +kernel
theorem dC_standsFor_0 : decode bC_standsFor 0 = .ok (.iload_n 2, 1) := by decide +kernel
theorem dC_standsFor_1 : decode bC_standsFor 1 = .ok (.iconst (-1), 1) := by decide +kernel
theorem dC_standsFor_2 : decode bC_standsFor 2 = .ok (.if_icmp .ne 16, 3) := by decide +kernel
theorem dC_standsFor_5 : decode bC_standsFor 5 = .ok (.iload_n 0, 1) := by decide +kernel
theorem dC_standsFor_6 : decode bC_standsFor 6 = .ok (.iconst (-1), 1) := by decide +kernel
theorem dC_standsFor_7 : decode bC_standsFor 7 = .ok (.if_icmp .ne 7, 3) := by decide +kernel
theorem dC_standsFor_10 : decode bC_standsFor 10 = .ok (.iconst 1, 1) := by decide +kernel
theorem dC_standsFor_11 : decode bC_standsFor 11 = .ok (.goto 8, 3) := by decide +kernel
theorem dC_standsFor_14 : decode bC_standsFor 14 = .ok (.iconst 0, 1) := by decide +kernel
theorem dC_standsFor_15 : decode bC_standsFor 15 = .ok (.goto 4, 3) := by decide +kernel
theorem dC_standsFor_18 : decode bC_standsFor 18 = .ok (.iload_n 1, 1) := by decide +kernel
theorem dC_standsFor_19 : decode bC_standsFor 19 = .ok (.ireturn, 1) := by decide +kernel
theorem dC_build_0 : decode bC_build 0 = .ok (.aload_n 0, 1) := by decide +kernel
theorem dC_build_1 : decode bC_build 1 = .ok (.getfield 10, 3) := by decide +kernel
theorem dC_build_4 : decode bC_build 4 = .ok (.iload_n 1, 1) := by decide +kernel
theorem dC_build_5 : decode bC_build 5 = .ok (.invokevirtual 107, 3) := by decide +kernel
theorem dC_build_8 : decode bC_build 8 = .ok (.ifCond .ne 6, 3) := by decide +kernel
theorem dC_build_11 : decode bC_build 11 = .ok (.bipush (-4), 2) := by decide +kernel
theorem dC_build_13 : decode bC_build 13 = .ok (.ireturn, 1) := by decide +kernel
theorem dC_build_14 : decode bC_build 14 = .ok (.aload_n 0, 1) := by decide +kernel
theorem dC_build_15 : decode bC_build 15 = .ok (.getfield 10, 3) := by decide +kernel
theorem dC_build_18 : decode bC_build 18 = .ok (.iload_n 1, 1) := by decide +kernel
theorem dC_build_19 : decode bC_build 19 = .ok (.invokevirtual 110, 3) := by decide +kernel
theorem dC_build_22 : decode bC_build 22 = .ok (.istore 4, 2) := by decide +kernel
theorem dC_build_24 : decode bC_build 24 = .ok (.aload_n 0, 1) := by decide +kernel
theorem dC_build_25 : decode bC_build 25 = .ok (.getfield 10, 3) := by decide +kernel
theorem dC_build_28 : decode bC_build 28 = .ok (.iload_n 1, 1) := by decide +kernel
theorem dC_build_29 : decode bC_build 29 = .ok (.invokevirtual 113, 3) := by decide +kernel
theorem dC_build_32 : decode bC_build 32 = .ok (.istore 5, 2) := by decide +kernel
theorem dC_build_34 : decode bC_build 34 = .ok (.iload_n 2, 1) := by decide +kernel
theorem dC_build_35 : decode bC_build 35 = .ok (.aload_n 0, 1) := by decide +kernel
theorem dC_build_36 : decode bC_build 36 = .ok (.getfield 19, 3) := by decide +kernel
theorem dC_build_39 : decode bC_build 39 = .ok (.iload_n 2, 1) := by decide +kernel
theorem dC_build_40 : decode bC_build 40 = .ok (.invokevirtual 116, 3) := by decide +kernel
theorem dC_build_43 : decode bC_build 43 = .ok (.iload 4, 2) := by decide +kernel
theorem dC_build_45 : decode bC_build 45 = .ok (.invokestatic 119, 3) := by decide +kernel
theorem dC_build_48 : decode bC_build 48 = .ok (.ifCond .eq 20, 3) := by decide +kernel
theorem dC_build_51 : decode bC_build 51 = .ok (.iload_n 3, 1) := by decide +kernel
theorem dC_build_52 : decode bC_build 52 = .ok (.aload_n 0, 1) := by decide +kernel
theorem dC_build_53 : decode bC_build 53 = .ok (.getfield 19, 3) := by decide +kernel
theorem dC_build_56 : decode bC_build 56 = .ok (.iload_n 3, 1) := by decide +kernel
theorem dC_build_57 : decode bC_build 57 = .ok (.invokevirtual 116, 3) := by decide +kernel
theorem dC_build_60 : decode bC_build 60 = .ok (.iload 5, 2) := by decide +kernel
theorem dC_build_62 : decode bC_build 62 = .ok (.invokestatic 119, 3) := by decide +kernel
theorem dC_build_65 : decode bC_build 65 = .ok (.ifCond .ne 6, 3) := by decide +kernel
theorem dC_build_68 : decode bC_build 68 = .ok (.bipush (-5), 2) := by decide +kernel
theorem dC_build_70 : decode bC_build 70 = .ok (.ireturn, 1) := by decide +kernel
theorem dC_build_71 : decode bC_build 71 = .ok (.aload_n 0, 1) := by decide +kernel
theorem dC_build_72 : decode bC_build 72 = .ok (.getfield 19, 3) := by decide +kernel
theorem dC_build_75 : decode bC_build 75 = .ok (.iload_n 2, 1) := by decide +kernel
theorem dC_build_76 : decode bC_build 76 = .ok (.iload 4, 2) := by decide +kernel
theorem dC_build_78 : decode bC_build 78 = .ok (.invokevirtual 123, 3) := by decide +kernel
theorem dC_build_81 : decode bC_build 81 = .ok (.ifCond .eq 16, 3) := by decide +kernel
theorem dC_build_84 : decode bC_build 84 = .ok (.aload_n 0, 1) := by decide +kernel
theorem dC_build_85 : decode bC_build 85 = .ok (.getfield 19, 3) := by decide +kernel
theorem dC_build_88 : decode bC_build 88 = .ok (.iload_n 3, 1) := by decide +kernel
theorem dC_build_89 : decode bC_build 89 = .ok (.iload 5, 2) := by decide +kernel
theorem dC_build_91 : decode bC_build 91 = .ok (.invokevirtual 123, 3) := by decide +kernel
theorem dC_build_94 : decode bC_build 94 = .ok (.ifCond .ne 6, 3) := by decide +kernel
theorem dC_build_97 : decode bC_build 97 = .ok (.bipush (-7), 2) := by decide +kernel
theorem dC_build_99 : decode bC_build 99 = .ok (.ireturn, 1) := by decide +kernel
theorem dC_build_100 : decode bC_build 100 = .ok (.aload_n 0, 1) := by decide +kernel
theorem dC_build_101 : decode bC_build 101 = .ok (.getfield 19, 3) := by decide +kernel
theorem dC_build_104 : decode bC_build 104 = .ok (.iload_n 1, 1) := by decide +kernel
theorem dC_build_105 : decode bC_build 105 = .ok (.aload_n 0, 1) := by decide +kernel
theorem dC_build_106 : decode bC_build 106 = .ok (.getfield 10, 3) := by decide +kernel
theorem dC_build_109 : decode bC_build 109 = .ok (.iload_n 1, 1) := by decide +kernel
theorem dC_build_110 : decode bC_build 110 = .ok (.invokevirtual 126, 3) := by decide +kernel
theorem dC_build_113 : decode bC_build 113 = .ok (.iload_n 2, 1) := by decide +kernel
theorem dC_build_114 : decode bC_build 114 = .ok (.iload_n 3, 1) := by decide +kernel
theorem dC_build_115 : decode bC_build 115 = .ok (.invokevirtual 129, 3) := by decide +kernel
theorem dC_build_118 : decode bC_build 118 = .ok (.ireturn, 1) := by decide +kernel
theorem dC_either_0 : decode bC_either 0 = .ok (.aload_n 0, 1) := by decide +kernel
theorem dC_either_1 : decode bC_either 1 = .ok (.getfield 19, 3) := by decide +kernel
theorem dC_either_4 : decode bC_either 4 = .ok (.iload_n 1, 1) := by decide +kernel
theorem dC_either_5 : decode bC_either 5 = .ok (.invokevirtual 116, 3) := by decide +kernel
theorem dC_either_8 : decode bC_either 8 = .ok (.ifCond .eq 14, 3) := by decide +kernel
theorem dC_either_11 : decode bC_either 11 = .ok (.aload_n 0, 1) := by decide +kernel
theorem dC_either_12 : decode bC_either 12 = .ok (.getfield 19, 3) := by decide +kernel
theorem dC_either_15 : decode bC_either 15 = .ok (.iload_n 2, 1) := by decide +kernel
theorem dC_either_16 : decode bC_either 16 = .ok (.invokevirtual 116, 3) := by decide +kernel
theorem dC_either_19 : decode bC_either 19 = .ok (.ifCond .ne 6, 3) := by decide +kernel
theorem dC_either_22 : decode bC_either 22 = .ok (.bipush (-5), 2) := by decide +kernel
theorem dC_either_24 : decode bC_either 24 = .ok (.ireturn, 1) := by decide +kernel
theorem dC_either_25 : decode bC_either 25 = .ok (.aload_n 0, 1) := by decide +kernel
theorem dC_either_26 : decode bC_either 26 = .ok (.getfield 19, 3) := by decide +kernel
theorem dC_either_29 : decode bC_either 29 = .ok (.iload_n 1, 1) := by decide +kernel
theorem dC_either_30 : decode bC_either 30 = .ok (.iload_n 2, 1) := by decide +kernel
theorem dC_either_31 : decode bC_either 31 = .ok (.invokevirtual 133, 3) := by decide +kernel
theorem dC_either_34 : decode bC_either 34 = .ok (.ifCond .ne 6, 3) := by decide +kernel
theorem dC_either_37 : decode bC_either 37 = .ok (.bipush (-7), 2) := by decide +kernel
theorem dC_either_39 : decode bC_either 39 = .ok (.ireturn, 1) := by decide +kernel
theorem dC_either_40 : decode bC_either 40 = .ok (.aload_n 0, 1) := by decide +kernel
theorem dC_either_41 : decode bC_either 41 = .ok (.getfield 19, 3) := by decide +kernel
theorem dC_either_44 : decode bC_either 44 = .ok (.iload_n 1, 1) := by decide +kernel
theorem dC_either_45 : decode bC_either 45 = .ok (.iload_n 2, 1) := by decide +kernel
theorem dC_either_46 : decode bC_either 46 = .ok (.invokevirtual 136, 3) := by decide +kernel
theorem dC_either_49 : decode bC_either 49 = .ok (.ireturn, 1) := by decide +kernel
theorem dC_row_0 : decode bC_row 0 = .ok (.aload_n 0, 1) := by decide +kernel
theorem dC_row_1 : decode bC_row 1 = .ok (.getfield 35, 3) := by decide +kernel
theorem dC_row_4 : decode bC_row 4 = .ok (.invokevirtual 70, 3) := by decide +kernel
theorem dC_row_7 : decode bC_row 7 = .ok (.ifCond .ne 6, 3) := by decide +kernel
theorem dC_row_10 : decode bC_row 10 = .ok (.bipush (-12), 2) := by decide +kernel
theorem dC_row_12 : decode bC_row 12 = .ok (.ireturn, 1) := by decide +kernel
theorem dC_row_13 : decode bC_row 13 = .ok (.aload_n 0, 1) := by decide +kernel
theorem dC_row_14 : decode bC_row 14 = .ok (.getfield 19, 3) := by decide +kernel
theorem dC_row_17 : decode bC_row 17 = .ok (.iload_n 1, 1) := by decide +kernel
theorem dC_row_18 : decode bC_row 18 = .ok (.invokevirtual 116, 3) := by decide +kernel
theorem dC_row_21 : decode bC_row 21 = .ok (.ifCond .ne 6, 3) := by decide +kernel
theorem dC_row_24 : decode bC_row 24 = .ok (.bipush (-5), 2) := by decide +kernel
theorem dC_row_26 : decode bC_row 26 = .ok (.ireturn, 1) := by decide +kernel
theorem dC_row_27 : decode bC_row 27 = .ok (.aload_n 0, 1) := by decide +kernel
theorem dC_row_28 : decode bC_row 28 = .ok (.getfield 19, 3) := by decide +kernel
theorem dC_row_31 : decode bC_row 31 = .ok (.iload_n 1, 1) := by decide +kernel
theorem dC_row_32 : decode bC_row 32 = .ok (.aload_n 0, 1) := by decide +kernel
theorem dC_row_33 : decode bC_row 33 = .ok (.getfield 35, 3) := by decide +kernel
theorem dC_row_36 : decode bC_row 36 = .ok (.invokevirtual 140, 3) := by decide +kernel
theorem dC_row_39 : decode bC_row 39 = .ok (.invokevirtual 123, 3) := by decide +kernel
theorem dC_row_42 : decode bC_row 42 = .ok (.ifCond .ne 6, 3) := by decide +kernel
theorem dC_row_45 : decode bC_row 45 = .ok (.bipush (-7), 2) := by decide +kernel
theorem dC_row_47 : decode bC_row 47 = .ok (.ireturn, 1) := by decide +kernel
theorem dC_row_48 : decode bC_row 48 = .ok (.aload_n 0, 1) := by decide +kernel
theorem dC_row_49 : decode bC_row 49 = .ok (.getfield 35, 3) := by decide +kernel
theorem dC_row_52 : decode bC_row 52 = .ok (.iload_n 1, 1) := by decide +kernel
theorem dC_row_53 : decode bC_row 53 = .ok (.invokevirtual 143, 3) := by decide +kernel
theorem dC_row_56 : decode bC_row 56 = .ok (.istore_n 2, 1) := by decide +kernel
theorem dC_row_57 : decode bC_row 57 = .ok (.iload_n 2, 1) := by decide +kernel
theorem dC_row_58 : decode bC_row 58 = .ok (.bipush (-8), 2) := by decide +kernel
theorem dC_row_60 : decode bC_row 60 = .ok (.if_icmp .eq 10, 3) := by decide +kernel
theorem dC_row_63 : decode bC_row 63 = .ok (.aload_n 0, 1) := by decide +kernel
theorem dC_row_64 : decode bC_row 64 = .ok (.getfield 44, 3) := by decide +kernel
theorem dC_row_67 : decode bC_row 67 = .ok (.invokevirtual 67, 3) := by decide +kernel
theorem dC_row_70 : decode bC_row 70 = .ok (.iload_n 2, 1) := by decide +kernel
theorem dC_row_71 : decode bC_row 71 = .ok (.ireturn, 1) := by decide +kernel
theorem dC_compile_0 : decode bC_compile 0 = .ok (.aload_n 0, 1) := by decide +kernel
theorem dC_compile_1 : decode bC_compile 1 = .ok (.getfield 35, 3) := by decide +kernel
theorem dC_compile_4 : decode bC_compile 4 = .ok (.invokevirtual 70, 3) := by decide +kernel
theorem dC_compile_7 : decode bC_compile 7 = .ok (.ifCond .ne 6, 3) := by decide +kernel
theorem dC_compile_10 : decode bC_compile 10 = .ok (.bipush (-12), 2) := by decide +kernel
theorem dC_compile_12 : decode bC_compile 12 = .ok (.ireturn, 1) := by decide +kernel
theorem dC_compile_13 : decode bC_compile 13 = .ok (.aload_n 0, 1) := by decide +kernel
theorem dC_compile_14 : decode bC_compile 14 = .ok (.getfield 44, 3) := by decide +kernel
theorem dC_compile_17 : decode bC_compile 17 = .ok (.invokevirtual 146, 3) := by decide +kernel
theorem dC_compile_20 : decode bC_compile 20 = .ok (.ifCond .ne 6, 3) := by decide +kernel
theorem dC_compile_23 : decode bC_compile 23 = .ok (.bipush (-14), 2) := by decide +kernel
theorem dC_compile_25 : decode bC_compile 25 = .ok (.ireturn, 1) := by decide +kernel
theorem dC_compile_26 : decode bC_compile 26 = .ok (.aload_n 0, 1) := by decide +kernel
theorem dC_compile_27 : decode bC_compile 27 = .ok (.getfield 53, 3) := by decide +kernel
theorem dC_compile_30 : decode bC_compile 30 = .ok (.invokevirtual 149, 3) := by decide +kernel
theorem dC_compile_33 : decode bC_compile 33 = .ok (.aload_n 0, 1) := by decide +kernel
theorem dC_compile_34 : decode bC_compile 34 = .ok (.getfield 44, 3) := by decide +kernel
theorem dC_compile_37 : decode bC_compile 37 = .ok (.invokevirtual 152, 3) := by decide +kernel
theorem dC_compile_40 : decode bC_compile 40 = .ok (.ireturn, 1) := by decide +kernel
theorem dC_kinds_0 : decode bC_kinds 0 = .ok (.aload_n 0, 1) := by decide +kernel
theorem dC_kinds_1 : decode bC_kinds 1 = .ok (.getfield 44, 3) := by decide +kernel
theorem dC_kinds_4 : decode bC_kinds 4 = .ok (.invokevirtual 155, 3) := by decide +kernel
theorem dC_kinds_7 : decode bC_kinds 7 = .ok (.ifCond .eq 13, 3) := by decide +kernel
theorem dC_kinds_10 : decode bC_kinds 10 = .ok (.aload_n 0, 1) := by decide +kernel
theorem dC_kinds_11 : decode bC_kinds 11 = .ok (.getfield 44, 3) := by decide +kernel
theorem dC_kinds_14 : decode bC_kinds 14 = .ok (.invokevirtual 158, 3) := by decide +kernel
theorem dC_kinds_17 : decode bC_kinds 17 = .ok (.goto 5, 3) := by decide +kernel
theorem dC_kinds_20 : decode bC_kinds 20 = .ok (.bipush (-13), 2) := by decide +kernel
theorem dC_kinds_22 : decode bC_kinds 22 = .ok (.ireturn, 1) := by decide +kernel
theorem dC_longest_0 : decode bC_longest 0 = .ok (.aload_n 0, 1) := by decide +kernel
theorem dC_longest_1 : decode bC_longest 1 = .ok (.getfield 44, 3) := by decide +kernel
theorem dC_longest_4 : decode bC_longest 4 = .ok (.invokevirtual 155, 3) := by decide +kernel
theorem dC_longest_7 : decode bC_longest 7 = .ok (.ifCond .eq 13, 3) := by decide +kernel
theorem dC_longest_10 : decode bC_longest 10 = .ok (.aload_n 0, 1) := by decide +kernel
theorem dC_longest_11 : decode bC_longest 11 = .ok (.getfield 44, 3) := by decide +kernel
theorem dC_longest_14 : decode bC_longest 14 = .ok (.invokevirtual 161, 3) := by decide +kernel
theorem dC_longest_17 : decode bC_longest 17 = .ok (.goto 5, 3) := by decide +kernel
theorem dC_longest_20 : decode bC_longest 20 = .ok (.bipush (-13), 2) := by decide +kernel
theorem dC_longest_22 : decode bC_longest 22 = .ok (.ireturn, 1) := by decide +kernel
theorem dC_useless_0 : decode bC_useless 0 = .ok (.aload_n 0, 1) := by decide +kernel
theorem dC_useless_1 : decode bC_useless 1 = .ok (.getfield 44, 3) := by decide +kernel
theorem dC_useless_4 : decode bC_useless 4 = .ok (.invokevirtual 155, 3) := by decide +kernel
theorem dC_useless_7 : decode bC_useless 7 = .ok (.ifCond .ne 6, 3) := by decide +kernel
theorem dC_useless_10 : decode bC_useless 10 = .ok (.bipush (-13), 2) := by decide +kernel
theorem dC_useless_12 : decode bC_useless 12 = .ok (.ireturn, 1) := by decide +kernel
theorem dC_useless_13 : decode bC_useless 13 = .ok (.aload_n 0, 1) := by decide +kernel
theorem dC_useless_14 : decode bC_useless 14 = .ok (.getfield 35, 3) := by decide +kernel
theorem dC_useless_17 : decode bC_useless 17 = .ok (.iload_n 1, 1) := by decide +kernel
theorem dC_useless_18 : decode bC_useless 18 = .ok (.invokevirtual 164, 3) := by decide +kernel
theorem dC_useless_21 : decode bC_useless 21 = .ok (.ifCond .ne 6, 3) := by decide +kernel
theorem dC_useless_24 : decode bC_useless 24 = .ok (.bipush (-15), 2) := by decide +kernel
theorem dC_useless_26 : decode bC_useless 26 = .ok (.ireturn, 1) := by decide +kernel
theorem dC_useless_27 : decode bC_useless 27 = .ok (.aload_n 0, 1) := by decide +kernel
theorem dC_useless_28 : decode bC_useless 28 = .ok (.getfield 35, 3) := by decide +kernel
theorem dC_useless_31 : decode bC_useless 31 = .ok (.aload_n 0, 1) := by decide +kernel
theorem dC_useless_32 : decode bC_useless 32 = .ok (.getfield 44, 3) := by decide +kernel
theorem dC_useless_35 : decode bC_useless 35 = .ok (.invokevirtual 167, 3) := by decide +kernel
theorem dC_useless_38 : decode bC_useless 38 = .ok (.iload_n 1, 1) := by decide +kernel
theorem dC_useless_39 : decode bC_useless 39 = .ok (.invokevirtual 170, 3) := by decide +kernel
theorem dC_useless_42 : decode bC_useless 42 = .ok (.ireturn, 1) := by decide +kernel
theorem dC_witnessLength_0 : decode bC_witnessLength 0 = .ok (.aload_n 0, 1) := by decide +kernel
theorem dC_witnessLength_1 : decode bC_witnessLength 1 = .ok (.getfield 44, 3) := by decide +kernel
theorem dC_witnessLength_4 : decode bC_witnessLength 4 = .ok (.invokevirtual 155, 3) := by decide +kernel
theorem dC_witnessLength_7 : decode bC_witnessLength 7 = .ok (.ifCond .eq 13, 3) := by decide +kernel
theorem dC_witnessLength_10 : decode bC_witnessLength 10 = .ok (.aload_n 0, 1) := by decide +kernel
theorem dC_witnessLength_11 : decode bC_witnessLength 11 = .ok (.getfield 53, 3) := by decide +kernel
theorem dC_witnessLength_14 : decode bC_witnessLength 14 = .ok (.invokevirtual 173, 3) := by decide +kernel
theorem dC_witnessLength_17 : decode bC_witnessLength 17 = .ok (.goto 5, 3) := by decide +kernel
theorem dC_witnessLength_20 : decode bC_witnessLength 20 = .ok (.bipush (-13), 2) := by decide +kernel
theorem dC_witnessLength_22 : decode bC_witnessLength 22 = .ok (.ireturn, 1) := by decide +kernel
theorem dC_witnessKind_0 : decode bC_witnessKind 0 = .ok (.aload_n 0, 1) := by decide +kernel
theorem dC_witnessKind_1 : decode bC_witnessKind 1 = .ok (.getfield 44, 3) := by decide +kernel
theorem dC_witnessKind_4 : decode bC_witnessKind 4 = .ok (.invokevirtual 155, 3) := by decide +kernel
theorem dC_witnessKind_7 : decode bC_witnessKind 7 = .ok (.ifCond .ne 6, 3) := by decide +kernel
theorem dC_witnessKind_10 : decode bC_witnessKind 10 = .ok (.bipush (-13), 2) := by decide +kernel
theorem dC_witnessKind_12 : decode bC_witnessKind 12 = .ok (.ireturn, 1) := by decide +kernel
theorem dC_witnessKind_13 : decode bC_witnessKind 13 = .ok (.aload_n 0, 1) := by decide +kernel
theorem dC_witnessKind_14 : decode bC_witnessKind 14 = .ok (.getfield 53, 3) := by decide +kernel
theorem dC_witnessKind_17 : decode bC_witnessKind 17 = .ok (.iload_n 1, 1) := by decide +kernel
theorem dC_witnessKind_18 : decode bC_witnessKind 18 = .ok (.invokevirtual 176, 3) := by decide +kernel
theorem dC_witnessKind_21 : decode bC_witnessKind 21 = .ok (.ifCond .eq 14, 3) := by decide +kernel
theorem dC_witnessKind_24 : decode bC_witnessKind 24 = .ok (.aload_n 0, 1) := by decide +kernel
theorem dC_witnessKind_25 : decode bC_witnessKind 25 = .ok (.getfield 53, 3) := by decide +kernel
theorem dC_witnessKind_28 : decode bC_witnessKind 28 = .ok (.iload_n 1, 1) := by decide +kernel
theorem dC_witnessKind_29 : decode bC_witnessKind 29 = .ok (.invokevirtual 177, 3) := by decide +kernel
theorem dC_witnessKind_32 : decode bC_witnessKind 32 = .ok (.goto 5, 3) := by decide +kernel
theorem dC_witnessKind_35 : decode bC_witnessKind 35 = .ok (.bipush (-15), 2) := by decide +kernel
theorem dC_witnessKind_37 : decode bC_witnessKind 37 = .ok (.ireturn, 1) := by decide +kernel
theorem dC_witness_0 : decode bC_witness 0 = .ok (.aload_n 0, 1) := by decide +kernel
theorem dC_witness_1 : decode bC_witness 1 = .ok (.getfield 44, 3) := by decide +kernel
theorem dC_witness_4 : decode bC_witness 4 = .ok (.invokevirtual 155, 3) := by decide +kernel
theorem dC_witness_7 : decode bC_witness 7 = .ok (.ifCond .eq 25, 3) := by decide +kernel
theorem dC_witness_10 : decode bC_witness 10 = .ok (.aload_n 0, 1) := by decide +kernel
theorem dC_witness_11 : decode bC_witness 11 = .ok (.getfield 53, 3) := by decide +kernel
theorem dC_witness_14 : decode bC_witness 14 = .ok (.iload_n 1, 1) := by decide +kernel
theorem dC_witness_15 : decode bC_witness 15 = .ok (.invokevirtual 176, 3) := by decide +kernel
theorem dC_witness_18 : decode bC_witness 18 = .ok (.ifCond .eq 14, 3) := by decide +kernel
theorem dC_witness_21 : decode bC_witness 21 = .ok (.aload_n 0, 1) := by decide +kernel
theorem dC_witness_22 : decode bC_witness 22 = .ok (.getfield 53, 3) := by decide +kernel
theorem dC_witness_25 : decode bC_witness 25 = .ok (.iload_n 1, 1) := by decide +kernel
theorem dC_witness_26 : decode bC_witness 26 = .ok (.invokevirtual 180, 3) := by decide +kernel
theorem dC_witness_29 : decode bC_witness 29 = .ok (.goto 4, 3) := by decide +kernel
theorem dC_witness_32 : decode bC_witness 32 = .ok (.iconst 0, 1) := by decide +kernel
theorem dC_witness_33 : decode bC_witness 33 = .ok (.ireturn, 1) := by decide +kernel
theorem dC_valueNumber_0 : decode bC_valueNumber 0 = .ok (.aload_n 0, 1) := by decide +kernel
theorem dC_valueNumber_1 : decode bC_valueNumber 1 = .ok (.getfield 26, 3) := by decide +kernel
theorem dC_valueNumber_4 : decode bC_valueNumber 4 = .ok (.iload_n 1, 1) := by decide +kernel
theorem dC_valueNumber_5 : decode bC_valueNumber 5 = .ok (.invokevirtual 183, 3) := by decide +kernel
theorem dC_valueNumber_8 : decode bC_valueNumber 8 = .ok (.ireturn, 1) := by decide +kernel
theorem dC_valueOf_0 : decode bC_valueOf 0 = .ok (.aload_n 0, 1) := by decide +kernel
theorem dC_valueOf_1 : decode bC_valueOf 1 = .ok (.getfield 10, 3) := by decide +kernel
theorem dC_valueOf_4 : decode bC_valueOf 4 = .ok (.iload_n 1, 1) := by decide +kernel
theorem dC_valueOf_5 : decode bC_valueOf 5 = .ok (.invokevirtual 107, 3) := by decide +kernel
theorem dC_valueOf_8 : decode bC_valueOf 8 = .ok (.ifCond .ne 6, 3) := by decide +kernel
theorem dC_valueOf_11 : decode bC_valueOf 11 = .ok (.bipush (-4), 2) := by decide +kernel
theorem dC_valueOf_13 : decode bC_valueOf 13 = .ok (.ireturn, 1) := by decide +kernel
theorem dC_valueOf_14 : decode bC_valueOf 14 = .ok (.aload_n 0, 1) := by decide +kernel
theorem dC_valueOf_15 : decode bC_valueOf 15 = .ok (.getfield 10, 3) := by decide +kernel
theorem dC_valueOf_18 : decode bC_valueOf 18 = .ok (.iload_n 1, 1) := by decide +kernel
theorem dC_valueOf_19 : decode bC_valueOf 19 = .ok (.invokevirtual 110, 3) := by decide +kernel
theorem dC_valueOf_22 : decode bC_valueOf 22 = .ok (.istore 4, 2) := by decide +kernel
theorem dC_valueOf_24 : decode bC_valueOf 24 = .ok (.aload_n 0, 1) := by decide +kernel
theorem dC_valueOf_25 : decode bC_valueOf 25 = .ok (.getfield 10, 3) := by decide +kernel
theorem dC_valueOf_28 : decode bC_valueOf 28 = .ok (.iload_n 1, 1) := by decide +kernel
theorem dC_valueOf_29 : decode bC_valueOf 29 = .ok (.invokevirtual 113, 3) := by decide +kernel
theorem dC_valueOf_32 : decode bC_valueOf 32 = .ok (.istore 5, 2) := by decide +kernel
theorem dC_valueOf_34 : decode bC_valueOf 34 = .ok (.iload_n 2, 1) := by decide +kernel
theorem dC_valueOf_35 : decode bC_valueOf 35 = .ok (.aload_n 0, 1) := by decide +kernel
theorem dC_valueOf_36 : decode bC_valueOf 36 = .ok (.getfield 26, 3) := by decide +kernel
theorem dC_valueOf_39 : decode bC_valueOf 39 = .ok (.iload_n 2, 1) := by decide +kernel
theorem dC_valueOf_40 : decode bC_valueOf 40 = .ok (.invokevirtual 186, 3) := by decide +kernel
theorem dC_valueOf_43 : decode bC_valueOf 43 = .ok (.iload 4, 2) := by decide +kernel
theorem dC_valueOf_45 : decode bC_valueOf 45 = .ok (.invokestatic 119, 3) := by decide +kernel
theorem dC_valueOf_48 : decode bC_valueOf 48 = .ok (.ifCond .eq 20, 3) := by decide +kernel
theorem dC_valueOf_51 : decode bC_valueOf 51 = .ok (.iload_n 3, 1) := by decide +kernel
theorem dC_valueOf_52 : decode bC_valueOf 52 = .ok (.aload_n 0, 1) := by decide +kernel
theorem dC_valueOf_53 : decode bC_valueOf 53 = .ok (.getfield 26, 3) := by decide +kernel
theorem dC_valueOf_56 : decode bC_valueOf 56 = .ok (.iload_n 3, 1) := by decide +kernel
theorem dC_valueOf_57 : decode bC_valueOf 57 = .ok (.invokevirtual 186, 3) := by decide +kernel
theorem dC_valueOf_60 : decode bC_valueOf 60 = .ok (.iload 5, 2) := by decide +kernel
theorem dC_valueOf_62 : decode bC_valueOf 62 = .ok (.invokestatic 119, 3) := by decide +kernel
theorem dC_valueOf_65 : decode bC_valueOf 65 = .ok (.ifCond .ne 6, 3) := by decide +kernel
theorem dC_valueOf_68 : decode bC_valueOf 68 = .ok (.bipush (-6), 2) := by decide +kernel
theorem dC_valueOf_70 : decode bC_valueOf 70 = .ok (.ireturn, 1) := by decide +kernel
theorem dC_valueOf_71 : decode bC_valueOf 71 = .ok (.aload_n 0, 1) := by decide +kernel
theorem dC_valueOf_72 : decode bC_valueOf 72 = .ok (.getfield 26, 3) := by decide +kernel
theorem dC_valueOf_75 : decode bC_valueOf 75 = .ok (.iload_n 2, 1) := by decide +kernel
theorem dC_valueOf_76 : decode bC_valueOf 76 = .ok (.iload 4, 2) := by decide +kernel
theorem dC_valueOf_78 : decode bC_valueOf 78 = .ok (.invokevirtual 187, 3) := by decide +kernel
theorem dC_valueOf_81 : decode bC_valueOf 81 = .ok (.ifCond .eq 16, 3) := by decide +kernel
theorem dC_valueOf_84 : decode bC_valueOf 84 = .ok (.aload_n 0, 1) := by decide +kernel
theorem dC_valueOf_85 : decode bC_valueOf 85 = .ok (.getfield 26, 3) := by decide +kernel
theorem dC_valueOf_88 : decode bC_valueOf 88 = .ok (.iload_n 3, 1) := by decide +kernel
theorem dC_valueOf_89 : decode bC_valueOf 89 = .ok (.iload 5, 2) := by decide +kernel
theorem dC_valueOf_91 : decode bC_valueOf 91 = .ok (.invokevirtual 187, 3) := by decide +kernel
theorem dC_valueOf_94 : decode bC_valueOf 94 = .ok (.ifCond .ne 6, 3) := by decide +kernel
theorem dC_valueOf_97 : decode bC_valueOf 97 = .ok (.bipush (-7), 2) := by decide +kernel
theorem dC_valueOf_99 : decode bC_valueOf 99 = .ok (.ireturn, 1) := by decide +kernel
theorem dC_valueOf_100 : decode bC_valueOf 100 = .ok (.aload_n 0, 1) := by decide +kernel
theorem dC_valueOf_101 : decode bC_valueOf 101 = .ok (.getfield 26, 3) := by decide +kernel
theorem dC_valueOf_104 : decode bC_valueOf 104 = .ok (.iload_n 1, 1) := by decide +kernel
theorem dC_valueOf_105 : decode bC_valueOf 105 = .ok (.aload_n 0, 1) := by decide +kernel
theorem dC_valueOf_106 : decode bC_valueOf 106 = .ok (.getfield 10, 3) := by decide +kernel
theorem dC_valueOf_109 : decode bC_valueOf 109 = .ok (.iload_n 1, 1) := by decide +kernel
theorem dC_valueOf_110 : decode bC_valueOf 110 = .ok (.invokevirtual 126, 3) := by decide +kernel
theorem dC_valueOf_113 : decode bC_valueOf 113 = .ok (.iload_n 2, 1) := by decide +kernel
theorem dC_valueOf_114 : decode bC_valueOf 114 = .ok (.iload_n 3, 1) := by decide +kernel
theorem dC_valueOf_115 : decode bC_valueOf 115 = .ok (.invokevirtual 190, 3) := by decide +kernel
theorem dC_valueOf_118 : decode bC_valueOf 118 = .ok (.ireturn, 1) := by decide +kernel
theorem dC_run_0 : decode bC_run 0 = .ok (.aload_n 0, 1) := by decide +kernel
theorem dC_run_1 : decode bC_run 1 = .ok (.getfield 44, 3) := by decide +kernel
theorem dC_run_4 : decode bC_run 4 = .ok (.invokevirtual 155, 3) := by decide +kernel
theorem dC_run_7 : decode bC_run 7 = .ok (.ifCond .ne 6, 3) := by decide +kernel
theorem dC_run_10 : decode bC_run 10 = .ok (.bipush (-13), 2) := by decide +kernel
theorem dC_run_12 : decode bC_run 12 = .ok (.ireturn, 1) := by decide +kernel
theorem dC_run_13 : decode bC_run 13 = .ok (.aload_n 0, 1) := by decide +kernel
theorem dC_run_14 : decode bC_run 14 = .ok (.getfield 26, 3) := by decide +kernel
theorem dC_run_17 : decode bC_run 17 = .ok (.iload_n 1, 1) := by decide +kernel
theorem dC_run_18 : decode bC_run 18 = .ok (.invokevirtual 186, 3) := by decide +kernel
theorem dC_run_21 : decode bC_run 21 = .ok (.ifCond .ne 6, 3) := by decide +kernel
theorem dC_run_24 : decode bC_run 24 = .ok (.bipush (-6), 2) := by decide +kernel
theorem dC_run_26 : decode bC_run 26 = .ok (.ireturn, 1) := by decide +kernel
theorem dC_run_27 : decode bC_run 27 = .ok (.aload_n 0, 1) := by decide +kernel
theorem dC_run_28 : decode bC_run 28 = .ok (.getfield 26, 3) := by decide +kernel
theorem dC_run_31 : decode bC_run 31 = .ok (.iload_n 1, 1) := by decide +kernel
theorem dC_run_32 : decode bC_run 32 = .ok (.aload_n 0, 1) := by decide +kernel
theorem dC_run_33 : decode bC_run 33 = .ok (.getfield 35, 3) := by decide +kernel
theorem dC_run_36 : decode bC_run 36 = .ok (.invokevirtual 140, 3) := by decide +kernel
theorem dC_run_39 : decode bC_run 39 = .ok (.invokevirtual 187, 3) := by decide +kernel
theorem dC_run_42 : decode bC_run 42 = .ok (.ifCond .ne 6, 3) := by decide +kernel
theorem dC_run_45 : decode bC_run 45 = .ok (.bipush (-7), 2) := by decide +kernel
theorem dC_run_47 : decode bC_run 47 = .ok (.ireturn, 1) := by decide +kernel
theorem dC_run_48 : decode bC_run 48 = .ok (.aload_n 0, 1) := by decide +kernel
theorem dC_run_49 : decode bC_run 49 = .ok (.getfield 44, 3) := by decide +kernel
theorem dC_run_52 : decode bC_run 52 = .ok (.aload_n 0, 1) := by decide +kernel
theorem dC_run_53 : decode bC_run 53 = .ok (.getfield 26, 3) := by decide +kernel
theorem dC_run_56 : decode bC_run 56 = .ok (.iload_n 1, 1) := by decide +kernel
theorem dC_run_57 : decode bC_run 57 = .ok (.invokevirtual 193, 3) := by decide +kernel
theorem dC_run_60 : decode bC_run 60 = .ok (.istore_n 2, 1) := by decide +kernel
theorem dC_run_61 : decode bC_run 61 = .ok (.aload_n 0, 1) := by decide +kernel
theorem dC_run_62 : decode bC_run 62 = .ok (.aload_n 0, 1) := by decide +kernel
theorem dC_run_63 : decode bC_run 63 = .ok (.getfield 44, 3) := by decide +kernel
theorem dC_run_66 : decode bC_run 66 = .ok (.iload_n 2, 1) := by decide +kernel
theorem dC_run_67 : decode bC_run 67 = .ok (.invokevirtual 197, 3) := by decide +kernel
theorem dC_run_70 : decode bC_run 70 = .ok (.putfield 57, 3) := by decide +kernel
theorem dC_run_73 : decode bC_run 73 = .ok (.aload_n 0, 1) := by decide +kernel
theorem dC_run_74 : decode bC_run 74 = .ok (.getfield 35, 3) := by decide +kernel
theorem dC_run_77 : decode bC_run 77 = .ok (.aload_n 0, 1) := by decide +kernel
theorem dC_run_78 : decode bC_run 78 = .ok (.getfield 44, 3) := by decide +kernel
theorem dC_run_81 : decode bC_run 81 = .ok (.iload_n 2, 1) := by decide +kernel
theorem dC_run_82 : decode bC_run 82 = .ok (.invokevirtual 200, 3) := by decide +kernel
theorem dC_run_85 : decode bC_run 85 = .ok (.invokevirtual 203, 3) := by decide +kernel
theorem dC_run_88 : decode bC_run 88 = .ok (.ireturn, 1) := by decide +kernel
theorem dC_tests_0 : decode bC_tests 0 = .ok (.aload_n 0, 1) := by decide +kernel
theorem dC_tests_1 : decode bC_tests 1 = .ok (.getfield 57, 3) := by decide +kernel
theorem dC_tests_4 : decode bC_tests 4 = .ok (.ireturn, 1) := by decide +kernel
section Sface
variable {p : Program} {l : Launch} {e : Env} {R : Room} {s : State} {m : MethodId} {args : Array Value} {below : List Frame} {meth : Method} {c : Code} {Q : State → Prop} {D : va_G} {cA : Nat → ClassId} {ad : Nat → Nat} {H0 : Heap}
def fC_clear (st : ck_S) : Option ck_S := (ck_bv (fD_reset st) fun st1 => (ck_bv (fP_reset st1) fun st2 => (ck_bv (fV_reset st2) fun st3 => (ck_bv (fM_reset st3) fun st4 => (ck_bv (fT_drop st4) fun st5 => (some (ck_u st5 0 6 (0 : Int32))))))))
set_option maxRecDepth 100000 in
set_option maxHeartbeats 4000000 in
theorem cC_clear (l : Launch) (D : va_G) (cA : Nat → ClassId) (ad : Nat → Nat) {st : ck_S} {st0 : ck_S} (hf : fC_clear st = some st0) : Met l yC_clear (.code yC_clear bC_clear 1 none :: ck_T) (ck_R 2) (va_Pc [.ref (ad 0)] (ck_P sh_C cm_cl D cA ad st)) (va_Qv (fun u => u = st0) (ck_P sh_C cm_cl D cA ad) (ck_A ad sh_C.length)) 0 0 (ck_A ad sh_C.length) := by
  refine ck_met_v (own := R_C) (by decide +kernel) rfl (Nat.le_of_ble_eq_true rfl) (fun p e R s m args below meth c H0 Q ls C hret h hl => ?_)
  have C1 := C
  obtain ⟨hx, hb, hml, hown, hts, hK, hlv, hlo⟩ := C1
  have hl : lv_has ls 1 [(0, .ref (ad 0))] := hl
  unfold fC_clear at hf
  refine lv_aload_n hx hb dC_clear_0 rfl (lv_at hl 0 rfl) ?_
  refine ck_gr C h FC_declared dC_clear_1 ?_
  obtain ⟨st1, hc, hf⟩ := ck_bv_e hf
  refine ck_vv (As := []) (rest := []) (q := 1) C h hl CC_D_reset sD_reset q_D (cD_reset l D cA ad hc) (Nat.le_of_ble_eq_true rfl) rfl rfl (Nat.le_of_ble_eq_true rfl) dC_clear_4 (fun H locs h => ?_)
  refine lv_aload_n hx hb dC_clear_7 rfl (lv_at hl 0 rfl) ?_
  refine ck_gr C h FC_patterns dC_clear_8 ?_
  obtain ⟨st2, hc, hf⟩ := ck_bv_e hf
  refine ck_vv (As := []) (rest := []) (q := 2) C h hl CC_P_reset sP_reset q_P (cP_reset l D cA ad hc) (Nat.le_of_ble_eq_true rfl) rfl rfl (Nat.le_of_ble_eq_true rfl) dC_clear_11 (fun H locs h => ?_)
  refine lv_aload_n hx hb dC_clear_14 rfl (lv_at hl 0 rfl) ?_
  refine ck_gr C h FC_values dC_clear_15 ?_
  obtain ⟨st3, hc, hf⟩ := ck_bv_e hf
  refine ck_vv (As := []) (rest := []) (q := 3) C h hl CC_V_reset sV_reset q_V (cV_reset l D cA ad hc) (Nat.le_of_ble_eq_true rfl) rfl rfl (Nat.le_of_ble_eq_true rfl) dC_clear_18 (fun H locs h => ?_)
  refine lv_aload_n hx hb dC_clear_21 rfl (lv_at hl 0 rfl) ?_
  refine ck_gr C h FC_match dC_clear_22 ?_
  obtain ⟨st4, hc, hf⟩ := ck_bv_e hf
  refine ck_vv (As := []) (rest := []) (q := 4) C h hl CC_M_reset sM_reset q_M (cM_reset l D cA ad hc) (Nat.le_of_ble_eq_true rfl) rfl rfl (Nat.le_of_ble_eq_true rfl) dC_clear_25 (fun H locs h => ?_)
  refine lv_aload_n hx hb dC_clear_28 rfl (lv_at hl 0 rfl) ?_
  refine ck_gr C h FC_tree dC_clear_29 ?_
  obtain ⟨st5, hc, hf⟩ := ck_bv_e hf
  refine ck_vv (As := []) (rest := []) (q := 5) C h hl CC_T_drop sT_drop q_T (cT_drop l D cA ad hc) (Nat.le_of_ble_eq_true rfl) rfl rfl (Nat.le_of_ble_eq_true rfl) dC_clear_32 (fun H locs h => ?_)
  refine lv_aload_n hx hb dC_clear_35 rfl (lv_at hl 0 rfl) ?_
  refine lv_iconst (v := 0) hx hb dC_clear_36 (by decide) ?_
  refine ck_pi C h GC_latestTests rfl rfl dC_clear_37 (fun H locs h => ?_)
  exact ck_rv hf hret h dC_clear_40
def fC_type (st : ck_S) : Option (Int32 × ck_S) := (ck_b (fM_isBegun st) fun v2 st1 => (if v2 = 0 then (ck_b (fD_addType st1) fun v4 st3 => (some (v4, st3))) else (some ((-2 : Int32), st1))))
set_option maxRecDepth 100000 in
set_option maxHeartbeats 4000000 in
theorem cC_type (l : Launch) (D : va_G) (cA : Nat → ClassId) (ad : Nat → Nat) {st : ck_S} {r0 : Int32} {st0 : ck_S} (hf : fC_type st = some (r0, st0)) : Met l yC_type (.code yC_type bC_type 1 (some .int) :: ck_T) (ck_R 1) (va_Pc [.ref (ad 0)] (ck_P sh_C cm_cl D cA ad st)) (va_Qi (fun a u => a = r0 ∧ u = st0) (ck_P sh_C cm_cl D cA ad) (ck_A ad sh_C.length)) 0 0 (ck_A ad sh_C.length) := by
  refine ck_met_i (own := R_C) (by decide +kernel) rfl (Nat.le_of_ble_eq_true rfl) (fun p e R s m args below meth c H0 Q ls C hret h hl => ?_)
  have C1 := C
  obtain ⟨hx, hb, hml, hown, hts, hK, hlv, hlo⟩ := C1
  have hl : lv_has ls 1 [(0, .ref (ad 0))] := hl
  unfold fC_type at hf
  refine lv_aload_n hx hb dC_type_0 rfl (lv_at hl 0 rfl) ?_
  refine ck_gr C h FC_match dC_type_1 ?_
  obtain ⟨v2, st1, hc, hf⟩ := ck_b_e hf
  refine ck_vi (As := []) (rest := []) (q := 4) C h hl CC_M_isBegun sM_isBegun q_M (cM_isBegun l D cA ad hc) (Nat.le_of_ble_eq_true rfl) rfl rfl (Nat.le_of_ble_eq_true rfl) dC_type_4 (fun H locs h => ?_)
  refine lv_if_eq (tgt := 13) hx hb dC_type_7 rfl (fun hq => ?_) (fun hq => ?_)
  · have hf := ck_t hq hf
    refine lv_aload_n hx hb dC_type_13 rfl (lv_at hl 0 rfl) ?_
    refine ck_gr C h FC_declared dC_type_14 ?_
    obtain ⟨v4, st3, hc, hf⟩ := ck_b_e hf
    refine ck_vi (As := []) (rest := []) (q := 1) C h hl CC_D_addType sD_addType q_D (cD_addType l D cA ad hc) (Nat.le_of_ble_eq_true rfl) rfl rfl (Nat.le_of_ble_eq_true rfl) dC_type_17 (fun H locs h => ?_)
    exact ck_ri hf hret h dC_type_20
  · have hf := ck_f hq hf
    refine lv_bipush (v := (-2)) hx hb dC_type_10 (by decide) ?_
    exact ck_ri hf hret h dC_type_12
def fC_constructor (x1 : Int32) (x2 : Int32) (x3 : Int32) (st : ck_S) : Option (Int32 × ck_S) := (ck_b (fM_isBegun st) fun v2 st1 => (if v2 = 0 then (ck_b (fD_isOwnType x1 st1) fun v4 st3 => (if v4 = 0 then (some ((-3 : Int32), st3)) else (ck_b (fD_canBeArguments x2 x3 st3) fun v6 st5 => (if v6 = 0 then (some ((-3 : Int32), st5)) else (ck_b (fD_addConstructor x1 x2 x3 st5) fun v8 st7 => (some (v8, st7))))))) else (some ((-2 : Int32), st1))))
set_option maxRecDepth 100000 in
set_option maxHeartbeats 4000000 in
theorem cC_constructor (l : Launch) (D : va_G) (cA : Nat → ClassId) (ad : Nat → Nat) {x1 : Int32} {x2 : Int32} {x3 : Int32} {st : ck_S} {r0 : Int32} {st0 : ck_S} (hf : fC_constructor x1 x2 x3 st = some (r0, st0)) : Met l yC_constructor (.code yC_constructor bC_constructor 4 (some .int) :: ck_T) (ck_R 2) (va_Pc [.ref (ad 0), .int x1, .int x2, .int x3] (ck_P sh_C cm_cl D cA ad st)) (va_Qi (fun a u => a = r0 ∧ u = st0) (ck_P sh_C cm_cl D cA ad) (ck_A ad sh_C.length)) 0 0 (ck_A ad sh_C.length) := by
  refine ck_met_i (own := R_C) (by decide +kernel) rfl (Nat.le_of_ble_eq_true rfl) (fun p e R s m args below meth c H0 Q ls C hret h hl => ?_)
  have C1 := C
  obtain ⟨hx, hb, hml, hown, hts, hK, hlv, hlo⟩ := C1
  have hl : lv_has ls 4 [(0, .ref (ad 0)), (1, .int x1), (2, .int x2), (3, .int x3)] := hl
  unfold fC_constructor at hf
  refine lv_aload_n hx hb dC_constructor_0 rfl (lv_at hl 0 rfl) ?_
  refine ck_gr C h FC_match dC_constructor_1 ?_
  obtain ⟨v2, st1, hc, hf⟩ := ck_b_e hf
  refine ck_vi (As := []) (rest := []) (q := 4) C h hl CC_M_isBegun sM_isBegun q_M (cM_isBegun l D cA ad hc) (Nat.le_of_ble_eq_true rfl) rfl rfl (Nat.le_of_ble_eq_true rfl) dC_constructor_4 (fun H locs h => ?_)
  refine lv_if_eq (tgt := 13) hx hb dC_constructor_7 rfl (fun hq => ?_) (fun hq => ?_)
  · have hf := ck_t hq hf
    refine lv_aload_n hx hb dC_constructor_13 rfl (lv_at hl 0 rfl) ?_
    refine ck_gr C h FC_declared dC_constructor_14 ?_
    refine lv_iload_n hx hb dC_constructor_17 rfl (lv_at hl 1 rfl) ?_
    obtain ⟨v4, st3, hc, hf⟩ := ck_b_e hf
    refine ck_vi (As := [.int x1]) (rest := []) (q := 1) C h hl CC_D_isOwnType sD_isOwnType q_D (cD_isOwnType l D cA ad hc) (Nat.le_of_ble_eq_true rfl) rfl rfl (Nat.le_of_ble_eq_true rfl) dC_constructor_18 (fun H locs h => ?_)
    refine lv_if_eq (tgt := 36) hx hb dC_constructor_21 rfl (fun hq => ?_) (fun hq => ?_)
    · have hf := ck_t hq hf
      refine lv_bipush (v := (-3)) hx hb dC_constructor_36 (by decide) ?_
      exact ck_ri hf hret h dC_constructor_38
    · have hf := ck_f hq hf
      refine lv_aload_n hx hb dC_constructor_24 rfl (lv_at hl 0 rfl) ?_
      refine ck_gr C h FC_declared dC_constructor_25 ?_
      refine lv_iload_n hx hb dC_constructor_28 rfl (lv_at hl 2 rfl) ?_
      refine lv_iload_n hx hb dC_constructor_29 rfl (lv_at hl 3 rfl) ?_
      obtain ⟨v6, st5, hc, hf⟩ := ck_b_e hf
      refine ck_vi (As := [.int x2, .int x3]) (rest := []) (q := 1) C h hl CC_D_canBeArguments sD_canBeArguments q_D (cD_canBeArguments l D cA ad hc) (Nat.le_of_ble_eq_true rfl) rfl rfl (Nat.le_of_ble_eq_true rfl) dC_constructor_30 (fun H locs h => ?_)
      refine lv_if_ne (tgt := 39) hx hb dC_constructor_33 rfl (fun hq => ?_) (fun hq => ?_)
      · have hf := ck_f hq hf
        refine lv_aload_n hx hb dC_constructor_39 rfl (lv_at hl 0 rfl) ?_
        refine ck_gr C h FC_declared dC_constructor_40 ?_
        refine lv_iload_n hx hb dC_constructor_43 rfl (lv_at hl 1 rfl) ?_
        refine lv_iload_n hx hb dC_constructor_44 rfl (lv_at hl 2 rfl) ?_
        refine lv_iload_n hx hb dC_constructor_45 rfl (lv_at hl 3 rfl) ?_
        obtain ⟨v8, st7, hc, hf⟩ := ck_b_e hf
        refine ck_vi (As := [.int x1, .int x2, .int x3]) (rest := []) (q := 1) C h hl CC_D_addConstructor sD_addConstructor q_D (cD_addConstructor l D cA ad hc) (Nat.le_of_ble_eq_true rfl) rfl rfl (Nat.le_of_ble_eq_true rfl) dC_constructor_46 (fun H locs h => ?_)
        exact ck_ri hf hret h dC_constructor_49
      · have hf := ck_t hq hf
        refine lv_bipush (v := (-3)) hx hb dC_constructor_36 (by decide) ?_
        exact ck_ri hf hret h dC_constructor_38
  · have hf := ck_f hq hf
    refine lv_bipush (v := (-2)) hx hb dC_constructor_10 (by decide) ?_
    exact ck_ri hf hret h dC_constructor_12
def fC_begin (x1 : Int32) (st : ck_S) : Option (Int32 × ck_S) := (ck_b (fM_isBegun st) fun v2 st1 => (if v2 = 0 then (ck_b (fD_isType x1 st1) fun v4 st3 => (if v4 = 0 then (some ((-3 : Int32), st3)) else (ck_b (fD_everyTypeHasValues st3) fun v6 st5 => (if v6 = 0 then (some ((-11 : Int32), st5)) else (ck_bv (fM_beginOver x1 st5) fun st7 => (some ((0 : Int32), st7))))))) else (some ((-2 : Int32), st1))))
set_option maxRecDepth 100000 in
set_option maxHeartbeats 4000000 in
theorem cC_begin (l : Launch) (D : va_G) (cA : Nat → ClassId) (ad : Nat → Nat) {x1 : Int32} {st : ck_S} {r0 : Int32} {st0 : ck_S} (hf : fC_begin x1 st = some (r0, st0)) : Met l yC_begin (.code yC_begin bC_begin 2 (some .int) :: ck_T) (ck_R 3) (va_Pc [.ref (ad 0), .int x1] (ck_P sh_C cm_cl D cA ad st)) (va_Qi (fun a u => a = r0 ∧ u = st0) (ck_P sh_C cm_cl D cA ad) (ck_A ad sh_C.length)) 0 0 (ck_A ad sh_C.length) := by
  refine ck_met_i (own := R_C) (by decide +kernel) rfl (Nat.le_of_ble_eq_true rfl) (fun p e R s m args below meth c H0 Q ls C hret h hl => ?_)
  have C1 := C
  obtain ⟨hx, hb, hml, hown, hts, hK, hlv, hlo⟩ := C1
  have hl : lv_has ls 2 [(0, .ref (ad 0)), (1, .int x1)] := hl
  unfold fC_begin at hf
  refine lv_aload_n hx hb dC_begin_0 rfl (lv_at hl 0 rfl) ?_
  refine ck_gr C h FC_match dC_begin_1 ?_
  obtain ⟨v2, st1, hc, hf⟩ := ck_b_e hf
  refine ck_vi (As := []) (rest := []) (q := 4) C h hl CC_M_isBegun sM_isBegun q_M (cM_isBegun l D cA ad hc) (Nat.le_of_ble_eq_true rfl) rfl rfl (Nat.le_of_ble_eq_true rfl) dC_begin_4 (fun H locs h => ?_)
  refine lv_if_eq (tgt := 13) hx hb dC_begin_7 rfl (fun hq => ?_) (fun hq => ?_)
  · have hf := ck_t hq hf
    refine lv_aload_n hx hb dC_begin_13 rfl (lv_at hl 0 rfl) ?_
    refine ck_gr C h FC_declared dC_begin_14 ?_
    refine lv_iload_n hx hb dC_begin_17 rfl (lv_at hl 1 rfl) ?_
    obtain ⟨v4, st3, hc, hf⟩ := ck_b_e hf
    refine ck_vi (As := [.int x1]) (rest := []) (q := 1) C h hl CC_D_isType sD_isType q_D (cD_isType l D cA ad hc) (Nat.le_of_ble_eq_true rfl) rfl rfl (Nat.le_of_ble_eq_true rfl) dC_begin_18 (fun H locs h => ?_)
    refine lv_if_ne (tgt := 27) hx hb dC_begin_21 rfl (fun hq => ?_) (fun hq => ?_)
    · have hf := ck_f hq hf
      refine lv_aload_n hx hb dC_begin_27 rfl (lv_at hl 0 rfl) ?_
      refine ck_gr C h FC_declared dC_begin_28 ?_
      obtain ⟨v6, st5, hc, hf⟩ := ck_b_e hf
      refine ck_vi (As := []) (rest := []) (q := 1) C h hl CC_D_everyTypeHasValues sD_everyTypeHasValues q_D (cD_everyTypeHasValues l D cA ad hc) (Nat.le_of_ble_eq_true rfl) rfl rfl (Nat.le_of_ble_eq_true rfl) dC_begin_31 (fun H locs h => ?_)
      refine lv_if_ne (tgt := 40) hx hb dC_begin_34 rfl (fun hq => ?_) (fun hq => ?_)
      · have hf := ck_f hq hf
        refine lv_aload_n hx hb dC_begin_40 rfl (lv_at hl 0 rfl) ?_
        refine ck_gr C h FC_match dC_begin_41 ?_
        refine lv_iload_n hx hb dC_begin_44 rfl (lv_at hl 1 rfl) ?_
        obtain ⟨st7, hc, hf⟩ := ck_bv_e hf
        refine ck_vv (As := [.int x1]) (rest := []) (q := 4) C h hl CC_M_beginOver sM_beginOver q_M (cM_beginOver l D cA ad hc) (Nat.le_of_ble_eq_true rfl) rfl rfl (Nat.le_of_ble_eq_true rfl) dC_begin_45 (fun H locs h => ?_)
        refine lv_iconst (v := 0) hx hb dC_begin_48 (by decide) ?_
        exact ck_ri hf hret h dC_begin_49
      · have hf := ck_t hq hf
        refine lv_bipush (v := (-11)) hx hb dC_begin_37 (by decide) ?_
        exact ck_ri hf hret h dC_begin_39
    · have hf := ck_t hq hf
      refine lv_bipush (v := (-3)) hx hb dC_begin_24 (by decide) ?_
      exact ck_ri hf hret h dC_begin_26
  · have hf := ck_f hq hf
    refine lv_bipush (v := (-2)) hx hb dC_begin_10 (by decide) ?_
    exact ck_ri hf hret h dC_begin_12
def fC_any (st : ck_S) : Option (Int32 × ck_S) := (ck_b (fP_addAny st) fun v2 st1 => (some (v2, st1)))
set_option maxRecDepth 100000 in
set_option maxHeartbeats 4000000 in
theorem cC_any (l : Launch) (D : va_G) (cA : Nat → ClassId) (ad : Nat → Nat) {st : ck_S} {r0 : Int32} {st0 : ck_S} (hf : fC_any st = some (r0, st0)) : Met l yC_any (.code yC_any bC_any 1 (some .int) :: ck_T) (ck_R 4) (va_Pc [.ref (ad 0)] (ck_P sh_C cm_cl D cA ad st)) (va_Qi (fun a u => a = r0 ∧ u = st0) (ck_P sh_C cm_cl D cA ad) (ck_A ad sh_C.length)) 0 0 (ck_A ad sh_C.length) := by
  refine ck_met_i (own := R_C) (by decide +kernel) rfl (Nat.le_of_ble_eq_true rfl) (fun p e R s m args below meth c H0 Q ls C hret h hl => ?_)
  have C1 := C
  obtain ⟨hx, hb, hml, hown, hts, hK, hlv, hlo⟩ := C1
  have hl : lv_has ls 1 [(0, .ref (ad 0))] := hl
  unfold fC_any at hf
  refine lv_aload_n hx hb dC_any_0 rfl (lv_at hl 0 rfl) ?_
  refine ck_gr C h FC_patterns dC_any_1 ?_
  obtain ⟨v2, st1, hc, hf⟩ := ck_b_e hf
  refine ck_vi (As := []) (rest := []) (q := 2) C h hl CC_P_addAny sP_addAny q_P (cP_addAny l D cA ad hc) (Nat.le_of_ble_eq_true rfl) rfl rfl (Nat.le_of_ble_eq_true rfl) dC_any_4 (fun H locs h => ?_)
  exact ck_ri hf hret h dC_any_7
def fC_number (x1 : Int32) (st : ck_S) : Option (Int32 × ck_S) := (ck_b (fP_addNumber x1 st) fun v2 st1 => (some (v2, st1)))
set_option maxRecDepth 100000 in
set_option maxHeartbeats 4000000 in
theorem cC_number (l : Launch) (D : va_G) (cA : Nat → ClassId) (ad : Nat → Nat) {x1 : Int32} {st : ck_S} {r0 : Int32} {st0 : ck_S} (hf : fC_number x1 st = some (r0, st0)) : Met l yC_number (.code yC_number bC_number 2 (some .int) :: ck_T) (ck_R 4) (va_Pc [.ref (ad 0), .int x1] (ck_P sh_C cm_cl D cA ad st)) (va_Qi (fun a u => a = r0 ∧ u = st0) (ck_P sh_C cm_cl D cA ad) (ck_A ad sh_C.length)) 0 0 (ck_A ad sh_C.length) := by
  refine ck_met_i (own := R_C) (by decide +kernel) rfl (Nat.le_of_ble_eq_true rfl) (fun p e R s m args below meth c H0 Q ls C hret h hl => ?_)
  have C1 := C
  obtain ⟨hx, hb, hml, hown, hts, hK, hlv, hlo⟩ := C1
  have hl : lv_has ls 2 [(0, .ref (ad 0)), (1, .int x1)] := hl
  unfold fC_number at hf
  refine lv_aload_n hx hb dC_number_0 rfl (lv_at hl 0 rfl) ?_
  refine ck_gr C h FC_patterns dC_number_1 ?_
  refine lv_iload_n hx hb dC_number_4 rfl (lv_at hl 1 rfl) ?_
  obtain ⟨v2, st1, hc, hf⟩ := ck_b_e hf
  refine ck_vi (As := [.int x1]) (rest := []) (q := 2) C h hl CC_P_addNumber sP_addNumber q_P (cP_addNumber l D cA ad hc) (Nat.le_of_ble_eq_true rfl) rfl rfl (Nat.le_of_ble_eq_true rfl) dC_number_5 (fun H locs h => ?_)
  exact ck_ri hf hret h dC_number_8
def fC_standsFor (x0 : Int32) (x1 : Int32) (x2 : Int32) (st : ck_S) : Option (Int32 × ck_S) := (if x2 = (-1 : Int32) then (if x0 = (-1 : Int32) then (some ((1 : Int32), st)) else (some ((0 : Int32), st))) else (ck_gz x1 (some (x1, st))))
set_option maxRecDepth 100000 in
set_option maxHeartbeats 4000000 in
theorem cC_standsFor (l : Launch) (D : va_G) (cA : Nat → ClassId) (ad : Nat → Nat) {x0 : Int32} {x1 : Int32} {x2 : Int32} {st : ck_S} {r0 : Int32} {st0 : ck_S} (hf : fC_standsFor x0 x1 x2 st = some (r0, st0)) : Met l yC_standsFor (.code yC_standsFor bC_standsFor 3 (some .boolean) :: ck_T) (ck_R 0) (va_Pc [.int x0, .int x1, .int x2] (ck_P sh_C cm_cl D cA ad st)) (va_Qi (fun a u => a = r0 ∧ u = st0) (ck_P sh_C cm_cl D cA ad) (ck_A ad sh_C.length)) 0 0 (ck_A ad sh_C.length) := by
  refine ck_met_z (own := R_C) (by decide +kernel) rfl (Nat.le_of_ble_eq_true rfl) (fun p e R s m args below meth c H0 Q ls C hret h hl => ?_)
  have C1 := C
  obtain ⟨hx, hb, hml, hown, hts, hK, hlv, hlo⟩ := C1
  have hl : lv_has ls 3 [(0, .int x0), (1, .int x1), (2, .int x2)] := hl
  unfold fC_standsFor at hf
  refine lv_iload_n hx hb dC_standsFor_0 rfl (lv_at hl 2 rfl) ?_
  refine lv_iconst (v := (-1)) hx hb dC_standsFor_1 (by decide) ?_
  refine lv_icmp_ne (tgt := 18) hx hb dC_standsFor_2 rfl (fun hq => ?_) (fun hq => ?_)
  · have hf := ck_f hq hf
    refine lv_iload_n hx hb dC_standsFor_18 rfl (lv_at hl 1 rfl) ?_
    obtain ⟨hz, hf⟩ := ck_gz_e hf
    exact ck_rz hf hret hz h dC_standsFor_19
  · have hf := ck_t hq hf
    refine lv_iload_n hx hb dC_standsFor_5 rfl (lv_at hl 0 rfl) ?_
    refine lv_iconst (v := (-1)) hx hb dC_standsFor_6 (by decide) ?_
    refine lv_icmp_ne (tgt := 14) hx hb dC_standsFor_7 rfl (fun hq => ?_) (fun hq => ?_)
    · have hf := ck_f hq hf
      refine lv_iconst (v := 0) hx hb dC_standsFor_14 (by decide) ?_
      refine lv_goto (tgt := 19) hx hb dC_standsFor_15 rfl ?_
      exact ck_rz hf hret ck_z0 h dC_standsFor_19
    · have hf := ck_t hq hf
      refine lv_iconst (v := 1) hx hb dC_standsFor_10 (by decide) ?_
      refine lv_goto (tgt := 19) hx hb dC_standsFor_11 rfl ?_
      exact ck_rz hf hret ck_z1 h dC_standsFor_19
def fC_build (x1 : Int32) (x2 : Int32) (x3 : Int32) (st : ck_S) : Option (Int32 × ck_S) := (ck_b (fD_isConstructor x1 st) fun v2 st1 => (if v2 = 0 then (some ((-4 : Int32), st1)) else (ck_b (fD_firstTypeOf x1 st1) fun v4 st3 => (ck_b (fD_secondTypeOf x1 st3) fun v6 st5 => (ck_b (fP_has x2 st5) fun v8 st7 => (ck_b (fC_standsFor x2 v8 v4 st7) fun v10 st9 => (if v10 = 0 then (some ((-5 : Int32), st9)) else (ck_b (fP_has x3 st9) fun v12 st11 => (ck_b (fC_standsFor x3 v12 v6 st11) fun v14 st13 => (if v14 = 0 then (some ((-5 : Int32), st13)) else (ck_b (fP_fits x2 v4 st13) fun v16 st15 => (if v16 = 0 then (some ((-7 : Int32), st15)) else (ck_b (fP_fits x3 v6 st15) fun v18 st17 => (if v18 = 0 then (some ((-7 : Int32), st17)) else (ck_b (fD_ownerOf x1 st17) fun v20 st19 => (ck_b (fP_addBuild x1 v20 x2 x3 st19) fun v22 st21 => (some (v22, st21))))))))))))))))))
set_option maxRecDepth 100000 in
set_option maxHeartbeats 4000000 in
theorem cC_build (l : Launch) (D : va_G) (cA : Nat → ClassId) (ad : Nat → Nat) {x1 : Int32} {x2 : Int32} {x3 : Int32} {st : ck_S} {r0 : Int32} {st0 : ck_S} (hf : fC_build x1 x2 x3 st = some (r0, st0)) : Met l yC_build (.code yC_build bC_build 6 (some .int) :: ck_T) (ck_R 4) (va_Pc [.ref (ad 0), .int x1, .int x2, .int x3] (ck_P sh_C cm_cl D cA ad st)) (va_Qi (fun a u => a = r0 ∧ u = st0) (ck_P sh_C cm_cl D cA ad) (ck_A ad sh_C.length)) 0 0 (ck_A ad sh_C.length) := by
  refine ck_met_i (own := R_C) (by decide +kernel) rfl (Nat.le_of_ble_eq_true rfl) (fun p e R s m args below meth c H0 Q ls C hret h hl => ?_)
  have C1 := C
  obtain ⟨hx, hb, hml, hown, hts, hK, hlv, hlo⟩ := C1
  have hl : lv_has ls 6 [(0, .ref (ad 0)), (1, .int x1), (2, .int x2), (3, .int x3)] := hl
  unfold fC_build at hf
  refine lv_aload_n hx hb dC_build_0 rfl (lv_at hl 0 rfl) ?_
  refine ck_gr C h FC_declared dC_build_1 ?_
  refine lv_iload_n hx hb dC_build_4 rfl (lv_at hl 1 rfl) ?_
  obtain ⟨v2, st1, hc, hf⟩ := ck_b_e hf
  refine ck_vi (As := [.int x1]) (rest := []) (q := 1) C h hl CC_D_isConstructor sD_isConstructor q_D (cD_isConstructor l D cA ad hc) (Nat.le_of_ble_eq_true rfl) rfl rfl (Nat.le_of_ble_eq_true rfl) dC_build_5 (fun H locs h => ?_)
  refine lv_if_ne (tgt := 14) hx hb dC_build_8 rfl (fun hq => ?_) (fun hq => ?_)
  · have hf := ck_f hq hf
    refine lv_aload_n hx hb dC_build_14 rfl (lv_at hl 0 rfl) ?_
    refine ck_gr C h FC_declared dC_build_15 ?_
    refine lv_iload_n hx hb dC_build_18 rfl (lv_at hl 1 rfl) ?_
    obtain ⟨v4, st3, hc, hf⟩ := ck_b_e hf
    refine ck_vi (As := [.int x1]) (rest := []) (q := 1) C h hl CC_D_firstTypeOf sD_firstTypeOf q_D (cD_firstTypeOf l D cA ad hc) (Nat.le_of_ble_eq_true rfl) rfl rfl (Nat.le_of_ble_eq_true rfl) dC_build_19 (fun H locs h => ?_)
    refine lv_istore (lv' := [(4, .int v4), (0, .ref (ad 0)), (1, .int x1), (2, .int x2), (3, .int x3)]) hx hb dC_build_22 hl (by decide) rfl (fun ls hl => ?_)
    refine lv_aload_n hx hb dC_build_24 rfl (lv_at hl 1 rfl) ?_
    refine ck_gr C h FC_declared dC_build_25 ?_
    refine lv_iload_n hx hb dC_build_28 rfl (lv_at hl 2 rfl) ?_
    obtain ⟨v6, st5, hc, hf⟩ := ck_b_e hf
    refine ck_vi (As := [.int x1]) (rest := []) (q := 1) C h hl CC_D_secondTypeOf sD_secondTypeOf q_D (cD_secondTypeOf l D cA ad hc) (Nat.le_of_ble_eq_true rfl) rfl rfl (Nat.le_of_ble_eq_true rfl) dC_build_29 (fun H locs h => ?_)
    refine lv_istore (lv' := [(5, .int v6), (4, .int v4), (0, .ref (ad 0)), (1, .int x1), (2, .int x2), (3, .int x3)]) hx hb dC_build_32 hl (by decide) rfl (fun ls hl => ?_)
    refine lv_iload_n hx hb dC_build_34 rfl (lv_at hl 4 rfl) ?_
    refine lv_aload_n hx hb dC_build_35 rfl (lv_at hl 2 rfl) ?_
    refine ck_gr C h FC_patterns dC_build_36 ?_
    refine lv_iload_n hx hb dC_build_39 rfl (lv_at hl 4 rfl) ?_
    obtain ⟨v8, st7, hc, hf⟩ := ck_b_e hf
    refine ck_vi (As := [.int x2]) (rest := [.int x2]) (q := 2) C h hl CC_P_has sP_has q_P (cP_has l D cA ad hc) (Nat.le_of_ble_eq_true rfl) rfl rfl (Nat.le_of_ble_eq_true rfl) dC_build_40 (fun H locs h => ?_)
    refine lv_iload hx hb dC_build_43 (lv_at hl 1 rfl) ?_
    obtain ⟨v10, st9, hc, hf⟩ := ck_b_e hf
    refine ck_ti (As := [.int x2, .int v8, .int v4]) (rest := []) C h hl CC_C_standsFor sC_standsFor (cC_standsFor l D cA ad hc) (Nat.le_of_ble_eq_true rfl) rfl rfl (Nat.le_of_ble_eq_true rfl) dC_build_45 (fun H locs h => ?_)
    refine lv_if_eq (tgt := 68) hx hb dC_build_48 rfl (fun hq => ?_) (fun hq => ?_)
    · have hf := ck_t hq hf
      refine lv_bipush (v := (-5)) hx hb dC_build_68 (by decide) ?_
      exact ck_ri hf hret h dC_build_70
    · have hf := ck_f hq hf
      refine lv_iload_n hx hb dC_build_51 rfl (lv_at hl 5 rfl) ?_
      refine lv_aload_n hx hb dC_build_52 rfl (lv_at hl 2 rfl) ?_
      refine ck_gr C h FC_patterns dC_build_53 ?_
      refine lv_iload_n hx hb dC_build_56 rfl (lv_at hl 5 rfl) ?_
      obtain ⟨v12, st11, hc, hf⟩ := ck_b_e hf
      refine ck_vi (As := [.int x3]) (rest := [.int x3]) (q := 2) C h hl CC_P_has sP_has q_P (cP_has l D cA ad hc) (Nat.le_of_ble_eq_true rfl) rfl rfl (Nat.le_of_ble_eq_true rfl) dC_build_57 (fun H locs h => ?_)
      refine lv_iload hx hb dC_build_60 (lv_at hl 0 rfl) ?_
      obtain ⟨v14, st13, hc, hf⟩ := ck_b_e hf
      refine ck_ti (As := [.int x3, .int v12, .int v6]) (rest := []) C h hl CC_C_standsFor sC_standsFor (cC_standsFor l D cA ad hc) (Nat.le_of_ble_eq_true rfl) rfl rfl (Nat.le_of_ble_eq_true rfl) dC_build_62 (fun H locs h => ?_)
      refine lv_if_ne (tgt := 71) hx hb dC_build_65 rfl (fun hq => ?_) (fun hq => ?_)
      · have hf := ck_f hq hf
        refine lv_aload_n hx hb dC_build_71 rfl (lv_at hl 2 rfl) ?_
        refine ck_gr C h FC_patterns dC_build_72 ?_
        refine lv_iload_n hx hb dC_build_75 rfl (lv_at hl 4 rfl) ?_
        refine lv_iload hx hb dC_build_76 (lv_at hl 1 rfl) ?_
        obtain ⟨v16, st15, hc, hf⟩ := ck_b_e hf
        refine ck_vi (As := [.int x2, .int v4]) (rest := []) (q := 2) C h hl CC_P_fits sP_fits q_P (cP_fits l D cA ad hc) (Nat.le_of_ble_eq_true rfl) rfl rfl (Nat.le_of_ble_eq_true rfl) dC_build_78 (fun H locs h => ?_)
        refine lv_if_eq (tgt := 97) hx hb dC_build_81 rfl (fun hq => ?_) (fun hq => ?_)
        · have hf := ck_t hq hf
          refine lv_bipush (v := (-7)) hx hb dC_build_97 (by decide) ?_
          exact ck_ri hf hret h dC_build_99
        · have hf := ck_f hq hf
          refine lv_aload_n hx hb dC_build_84 rfl (lv_at hl 2 rfl) ?_
          refine ck_gr C h FC_patterns dC_build_85 ?_
          refine lv_iload_n hx hb dC_build_88 rfl (lv_at hl 5 rfl) ?_
          refine lv_iload hx hb dC_build_89 (lv_at hl 0 rfl) ?_
          obtain ⟨v18, st17, hc, hf⟩ := ck_b_e hf
          refine ck_vi (As := [.int x3, .int v6]) (rest := []) (q := 2) C h hl CC_P_fits sP_fits q_P (cP_fits l D cA ad hc) (Nat.le_of_ble_eq_true rfl) rfl rfl (Nat.le_of_ble_eq_true rfl) dC_build_91 (fun H locs h => ?_)
          refine lv_if_ne (tgt := 100) hx hb dC_build_94 rfl (fun hq => ?_) (fun hq => ?_)
          · have hf := ck_f hq hf
            refine lv_aload_n hx hb dC_build_100 rfl (lv_at hl 2 rfl) ?_
            refine ck_gr C h FC_patterns dC_build_101 ?_
            refine lv_iload_n hx hb dC_build_104 rfl (lv_at hl 3 rfl) ?_
            refine lv_aload_n hx hb dC_build_105 rfl (lv_at hl 2 rfl) ?_
            refine ck_gr C h FC_declared dC_build_106 ?_
            refine lv_iload_n hx hb dC_build_109 rfl (lv_at hl 3 rfl) ?_
            obtain ⟨v20, st19, hc, hf⟩ := ck_b_e hf
            refine ck_vi (As := [.int x1]) (rest := [.int x1, .ref (ad 2)]) (q := 1) C h hl CC_D_ownerOf sD_ownerOf q_D (cD_ownerOf l D cA ad hc) (Nat.le_of_ble_eq_true rfl) rfl rfl (Nat.le_of_ble_eq_true rfl) dC_build_110 (fun H locs h => ?_)
            refine lv_iload_n hx hb dC_build_113 rfl (lv_at hl 4 rfl) ?_
            refine lv_iload_n hx hb dC_build_114 rfl (lv_at hl 5 rfl) ?_
            obtain ⟨v22, st21, hc, hf⟩ := ck_b_e hf
            refine ck_vi (As := [.int x1, .int v20, .int x2, .int x3]) (rest := []) (q := 2) C h hl CC_P_addBuild sP_addBuild q_P (cP_addBuild l D cA ad hc) (Nat.le_of_ble_eq_true rfl) rfl rfl (Nat.le_of_ble_eq_true rfl) dC_build_115 (fun H locs h => ?_)
            exact ck_ri hf hret h dC_build_118
          · have hf := ck_t hq hf
            refine lv_bipush (v := (-7)) hx hb dC_build_97 (by decide) ?_
            exact ck_ri hf hret h dC_build_99
      · have hf := ck_t hq hf
        refine lv_bipush (v := (-5)) hx hb dC_build_68 (by decide) ?_
        exact ck_ri hf hret h dC_build_70
  · have hf := ck_t hq hf
    refine lv_bipush (v := (-4)) hx hb dC_build_11 (by decide) ?_
    exact ck_ri hf hret h dC_build_13
def fC_either (x1 : Int32) (x2 : Int32) (st : ck_S) : Option (Int32 × ck_S) := (ck_b (fP_has x1 st) fun v2 st1 => (if v2 = 0 then (some ((-5 : Int32), st1)) else (ck_b (fP_has x2 st1) fun v4 st3 => (if v4 = 0 then (some ((-5 : Int32), st3)) else (ck_b (fP_agree x1 x2 st3) fun v6 st5 => (if v6 = 0 then (some ((-7 : Int32), st5)) else (ck_b (fP_addEither x1 x2 st5) fun v8 st7 => (some (v8, st7)))))))))
set_option maxRecDepth 100000 in
set_option maxHeartbeats 4000000 in
theorem cC_either (l : Launch) (D : va_G) (cA : Nat → ClassId) (ad : Nat → Nat) {x1 : Int32} {x2 : Int32} {st : ck_S} {r0 : Int32} {st0 : ck_S} (hf : fC_either x1 x2 st = some (r0, st0)) : Met l yC_either (.code yC_either bC_either 3 (some .int) :: ck_T) (ck_R 4) (va_Pc [.ref (ad 0), .int x1, .int x2] (ck_P sh_C cm_cl D cA ad st)) (va_Qi (fun a u => a = r0 ∧ u = st0) (ck_P sh_C cm_cl D cA ad) (ck_A ad sh_C.length)) 0 0 (ck_A ad sh_C.length) := by
  refine ck_met_i (own := R_C) (by decide +kernel) rfl (Nat.le_of_ble_eq_true rfl) (fun p e R s m args below meth c H0 Q ls C hret h hl => ?_)
  have C1 := C
  obtain ⟨hx, hb, hml, hown, hts, hK, hlv, hlo⟩ := C1
  have hl : lv_has ls 3 [(0, .ref (ad 0)), (1, .int x1), (2, .int x2)] := hl
  unfold fC_either at hf
  refine lv_aload_n hx hb dC_either_0 rfl (lv_at hl 0 rfl) ?_
  refine ck_gr C h FC_patterns dC_either_1 ?_
  refine lv_iload_n hx hb dC_either_4 rfl (lv_at hl 1 rfl) ?_
  obtain ⟨v2, st1, hc, hf⟩ := ck_b_e hf
  refine ck_vi (As := [.int x1]) (rest := []) (q := 2) C h hl CC_P_has sP_has q_P (cP_has l D cA ad hc) (Nat.le_of_ble_eq_true rfl) rfl rfl (Nat.le_of_ble_eq_true rfl) dC_either_5 (fun H locs h => ?_)
  refine lv_if_eq (tgt := 22) hx hb dC_either_8 rfl (fun hq => ?_) (fun hq => ?_)
  · have hf := ck_t hq hf
    refine lv_bipush (v := (-5)) hx hb dC_either_22 (by decide) ?_
    exact ck_ri hf hret h dC_either_24
  · have hf := ck_f hq hf
    refine lv_aload_n hx hb dC_either_11 rfl (lv_at hl 0 rfl) ?_
    refine ck_gr C h FC_patterns dC_either_12 ?_
    refine lv_iload_n hx hb dC_either_15 rfl (lv_at hl 2 rfl) ?_
    obtain ⟨v4, st3, hc, hf⟩ := ck_b_e hf
    refine ck_vi (As := [.int x2]) (rest := []) (q := 2) C h hl CC_P_has sP_has q_P (cP_has l D cA ad hc) (Nat.le_of_ble_eq_true rfl) rfl rfl (Nat.le_of_ble_eq_true rfl) dC_either_16 (fun H locs h => ?_)
    refine lv_if_ne (tgt := 25) hx hb dC_either_19 rfl (fun hq => ?_) (fun hq => ?_)
    · have hf := ck_f hq hf
      refine lv_aload_n hx hb dC_either_25 rfl (lv_at hl 0 rfl) ?_
      refine ck_gr C h FC_patterns dC_either_26 ?_
      refine lv_iload_n hx hb dC_either_29 rfl (lv_at hl 1 rfl) ?_
      refine lv_iload_n hx hb dC_either_30 rfl (lv_at hl 2 rfl) ?_
      obtain ⟨v6, st5, hc, hf⟩ := ck_b_e hf
      refine ck_vi (As := [.int x1, .int x2]) (rest := []) (q := 2) C h hl CC_P_agree sP_agree q_P (cP_agree l D cA ad hc) (Nat.le_of_ble_eq_true rfl) rfl rfl (Nat.le_of_ble_eq_true rfl) dC_either_31 (fun H locs h => ?_)
      refine lv_if_ne (tgt := 40) hx hb dC_either_34 rfl (fun hq => ?_) (fun hq => ?_)
      · have hf := ck_f hq hf
        refine lv_aload_n hx hb dC_either_40 rfl (lv_at hl 0 rfl) ?_
        refine ck_gr C h FC_patterns dC_either_41 ?_
        refine lv_iload_n hx hb dC_either_44 rfl (lv_at hl 1 rfl) ?_
        refine lv_iload_n hx hb dC_either_45 rfl (lv_at hl 2 rfl) ?_
        obtain ⟨v8, st7, hc, hf⟩ := ck_b_e hf
        refine ck_vi (As := [.int x1, .int x2]) (rest := []) (q := 2) C h hl CC_P_addEither sP_addEither q_P (cP_addEither l D cA ad hc) (Nat.le_of_ble_eq_true rfl) rfl rfl (Nat.le_of_ble_eq_true rfl) dC_either_46 (fun H locs h => ?_)
        exact ck_ri hf hret h dC_either_49
      · have hf := ck_t hq hf
        refine lv_bipush (v := (-7)) hx hb dC_either_37 (by decide) ?_
        exact ck_ri hf hret h dC_either_39
    · have hf := ck_t hq hf
      refine lv_bipush (v := (-5)) hx hb dC_either_22 (by decide) ?_
      exact ck_ri hf hret h dC_either_24
def fC_row (x1 : Int32) (st : ck_S) : Option (Int32 × ck_S) := (ck_b (fM_isBegun st) fun v2 st1 => (if v2 = 0 then (some ((-12 : Int32), st1)) else (ck_b (fP_has x1 st1) fun v4 st3 => (if v4 = 0 then (some ((-5 : Int32), st3)) else (ck_b (fM_typeOver st3) fun v6 st5 => (ck_b (fP_fits x1 v6 st5) fun v8 st7 => (if v8 = 0 then (some ((-7 : Int32), st7)) else (ck_b (fM_addRow x1 st7) fun v10 st9 => (if v10 = (-8 : Int32) then (some (v10, st9)) else (ck_bv (fT_drop st9) fun st11 => (some (v10, st11))))))))))))
set_option maxRecDepth 100000 in
set_option maxHeartbeats 4000000 in
theorem cC_row (l : Launch) (D : va_G) (cA : Nat → ClassId) (ad : Nat → Nat) {x1 : Int32} {st : ck_S} {r0 : Int32} {st0 : ck_S} (hf : fC_row x1 st = some (r0, st0)) : Met l yC_row (.code yC_row bC_row 3 (some .int) :: ck_T) (ck_R 12) (va_Pc [.ref (ad 0), .int x1] (ck_P sh_C cm_cl D cA ad st)) (va_Qi (fun a u => a = r0 ∧ u = st0) (ck_P sh_C cm_cl D cA ad) (ck_A ad sh_C.length)) 0 0 (ck_A ad sh_C.length) := by
  refine ck_met_i (own := R_C) (by decide +kernel) rfl (Nat.le_of_ble_eq_true rfl) (fun p e R s m args below meth c H0 Q ls C hret h hl => ?_)
  have C1 := C
  obtain ⟨hx, hb, hml, hown, hts, hK, hlv, hlo⟩ := C1
  have hl : lv_has ls 3 [(0, .ref (ad 0)), (1, .int x1)] := hl
  unfold fC_row at hf
  refine lv_aload_n hx hb dC_row_0 rfl (lv_at hl 0 rfl) ?_
  refine ck_gr C h FC_match dC_row_1 ?_
  obtain ⟨v2, st1, hc, hf⟩ := ck_b_e hf
  refine ck_vi (As := []) (rest := []) (q := 4) C h hl CC_M_isBegun sM_isBegun q_M (cM_isBegun l D cA ad hc) (Nat.le_of_ble_eq_true rfl) rfl rfl (Nat.le_of_ble_eq_true rfl) dC_row_4 (fun H locs h => ?_)
  refine lv_if_ne (tgt := 13) hx hb dC_row_7 rfl (fun hq => ?_) (fun hq => ?_)
  · have hf := ck_f hq hf
    refine lv_aload_n hx hb dC_row_13 rfl (lv_at hl 0 rfl) ?_
    refine ck_gr C h FC_patterns dC_row_14 ?_
    refine lv_iload_n hx hb dC_row_17 rfl (lv_at hl 1 rfl) ?_
    obtain ⟨v4, st3, hc, hf⟩ := ck_b_e hf
    refine ck_vi (As := [.int x1]) (rest := []) (q := 2) C h hl CC_P_has sP_has q_P (cP_has l D cA ad hc) (Nat.le_of_ble_eq_true rfl) rfl rfl (Nat.le_of_ble_eq_true rfl) dC_row_18 (fun H locs h => ?_)
    refine lv_if_ne (tgt := 27) hx hb dC_row_21 rfl (fun hq => ?_) (fun hq => ?_)
    · have hf := ck_f hq hf
      refine lv_aload_n hx hb dC_row_27 rfl (lv_at hl 0 rfl) ?_
      refine ck_gr C h FC_patterns dC_row_28 ?_
      refine lv_iload_n hx hb dC_row_31 rfl (lv_at hl 1 rfl) ?_
      refine lv_aload_n hx hb dC_row_32 rfl (lv_at hl 0 rfl) ?_
      refine ck_gr C h FC_match dC_row_33 ?_
      obtain ⟨v6, st5, hc, hf⟩ := ck_b_e hf
      refine ck_vi (As := []) (rest := [.int x1, .ref (ad 2)]) (q := 4) C h hl CC_M_typeOver sM_typeOver q_M (cM_typeOver l D cA ad hc) (Nat.le_of_ble_eq_true rfl) rfl rfl (Nat.le_of_ble_eq_true rfl) dC_row_36 (fun H locs h => ?_)
      obtain ⟨v8, st7, hc, hf⟩ := ck_b_e hf
      refine ck_vi (As := [.int x1, .int v6]) (rest := []) (q := 2) C h hl CC_P_fits sP_fits q_P (cP_fits l D cA ad hc) (Nat.le_of_ble_eq_true rfl) rfl rfl (Nat.le_of_ble_eq_true rfl) dC_row_39 (fun H locs h => ?_)
      refine lv_if_ne (tgt := 48) hx hb dC_row_42 rfl (fun hq => ?_) (fun hq => ?_)
      · have hf := ck_f hq hf
        refine lv_aload_n hx hb dC_row_48 rfl (lv_at hl 0 rfl) ?_
        refine ck_gr C h FC_match dC_row_49 ?_
        refine lv_iload_n hx hb dC_row_52 rfl (lv_at hl 1 rfl) ?_
        obtain ⟨v10, st9, hc, hf⟩ := ck_b_e hf
        refine ck_vi (As := [.int x1]) (rest := []) (q := 4) C h hl CC_M_addRow sM_addRow q_M (cM_addRow l D cA ad hc) (Nat.le_of_ble_eq_true rfl) rfl rfl (Nat.le_of_ble_eq_true rfl) dC_row_53 (fun H locs h => ?_)
        refine lv_istore_n (lv' := [(2, .int v10), (0, .ref (ad 0)), (1, .int x1)]) hx hb dC_row_56 rfl hl (by decide) rfl (fun ls hl => ?_)
        refine lv_iload_n hx hb dC_row_57 rfl (lv_at hl 0 rfl) ?_
        refine lv_bipush (v := (-8)) hx hb dC_row_58 (by decide) ?_
        refine lv_icmp_eq (tgt := 70) hx hb dC_row_60 rfl (fun hq => ?_) (fun hq => ?_)
        · have hf := ck_t hq hf
          refine lv_iload_n hx hb dC_row_70 rfl (lv_at hl 0 rfl) ?_
          exact ck_ri hf hret h dC_row_71
        · have hf := ck_f hq hf
          refine lv_aload_n hx hb dC_row_63 rfl (lv_at hl 1 rfl) ?_
          refine ck_gr C h FC_tree dC_row_64 ?_
          obtain ⟨st11, hc, hf⟩ := ck_bv_e hf
          refine ck_vv (As := []) (rest := []) (q := 5) C h hl CC_T_drop sT_drop q_T (cT_drop l D cA ad hc) (Nat.le_of_ble_eq_true rfl) rfl rfl (Nat.le_of_ble_eq_true rfl) dC_row_67 (fun H locs h => ?_)
          refine lv_iload_n hx hb dC_row_70 rfl (lv_at hl 0 rfl) ?_
          exact ck_ri hf hret h dC_row_71
      · have hf := ck_t hq hf
        refine lv_bipush (v := (-7)) hx hb dC_row_45 (by decide) ?_
        exact ck_ri hf hret h dC_row_47
    · have hf := ck_t hq hf
      refine lv_bipush (v := (-5)) hx hb dC_row_24 (by decide) ?_
      exact ck_ri hf hret h dC_row_26
  · have hf := ck_t hq hf
    refine lv_bipush (v := (-12)) hx hb dC_row_10 (by decide) ?_
    exact ck_ri hf hret h dC_row_12
def fC_compile (st : ck_S) : Option (Int32 × ck_S) := (ck_b (fM_isBegun st) fun v2 st1 => (if v2 = 0 then (some ((-12 : Int32), st1)) else (ck_b (fT_grow st1) fun v4 st3 => (if v4 = 0 then (some ((-14 : Int32), st3)) else (ck_bv (fG_readFromTree st3) fun st5 => (ck_b (fT_size st5) fun v7 st6 => (some (v7, st6))))))))
set_option maxRecDepth 100000 in
set_option maxHeartbeats 4000000 in
theorem cC_compile (l : Launch) (D : va_G) (cA : Nat → ClassId) (ad : Nat → Nat) {st : ck_S} {r0 : Int32} {st0 : ck_S} (hf : fC_compile st = some (r0, st0)) : Met l yC_compile (.code yC_compile bC_compile 1 (some .int) :: ck_T) (ck_R 12) (va_Pc [.ref (ad 0)] (ck_P sh_C cm_cl D cA ad st)) (va_Qi (fun a u => a = r0 ∧ u = st0) (ck_P sh_C cm_cl D cA ad) (ck_A ad sh_C.length)) 0 0 (ck_A ad sh_C.length) := by
  refine ck_met_i (own := R_C) (by decide +kernel) rfl (Nat.le_of_ble_eq_true rfl) (fun p e R s m args below meth c H0 Q ls C hret h hl => ?_)
  have C1 := C
  obtain ⟨hx, hb, hml, hown, hts, hK, hlv, hlo⟩ := C1
  have hl : lv_has ls 1 [(0, .ref (ad 0))] := hl
  unfold fC_compile at hf
  refine lv_aload_n hx hb dC_compile_0 rfl (lv_at hl 0 rfl) ?_
  refine ck_gr C h FC_match dC_compile_1 ?_
  obtain ⟨v2, st1, hc, hf⟩ := ck_b_e hf
  refine ck_vi (As := []) (rest := []) (q := 4) C h hl CC_M_isBegun sM_isBegun q_M (cM_isBegun l D cA ad hc) (Nat.le_of_ble_eq_true rfl) rfl rfl (Nat.le_of_ble_eq_true rfl) dC_compile_4 (fun H locs h => ?_)
  refine lv_if_ne (tgt := 13) hx hb dC_compile_7 rfl (fun hq => ?_) (fun hq => ?_)
  · have hf := ck_f hq hf
    refine lv_aload_n hx hb dC_compile_13 rfl (lv_at hl 0 rfl) ?_
    refine ck_gr C h FC_tree dC_compile_14 ?_
    obtain ⟨v4, st3, hc, hf⟩ := ck_b_e hf
    refine ck_vi (As := []) (rest := []) (q := 5) C h hl CC_T_grow sT_grow q_T (cT_grow l D cA ad hc) (Nat.le_of_ble_eq_true rfl) rfl rfl (Nat.le_of_ble_eq_true rfl) dC_compile_17 (fun H locs h => ?_)
    refine lv_if_ne (tgt := 26) hx hb dC_compile_20 rfl (fun hq => ?_) (fun hq => ?_)
    · have hf := ck_f hq hf
      refine lv_aload_n hx hb dC_compile_26 rfl (lv_at hl 0 rfl) ?_
      refine ck_gr C h FC_gap dC_compile_27 ?_
      obtain ⟨st5, hc, hf⟩ := ck_bv_e hf
      refine ck_vv (As := []) (rest := []) (q := 6) C h hl CC_G_readFromTree sG_readFromTree q_G (cG_readFromTree l D cA ad hc) (Nat.le_of_ble_eq_true rfl) rfl rfl (Nat.le_of_ble_eq_true rfl) dC_compile_30 (fun H locs h => ?_)
      refine lv_aload_n hx hb dC_compile_33 rfl (lv_at hl 0 rfl) ?_
      refine ck_gr C h FC_tree dC_compile_34 ?_
      obtain ⟨v7, st6, hc, hf⟩ := ck_b_e hf
      refine ck_vi (As := []) (rest := []) (q := 5) C h hl CC_T_size sT_size q_T (cT_size l D cA ad hc) (Nat.le_of_ble_eq_true rfl) rfl rfl (Nat.le_of_ble_eq_true rfl) dC_compile_37 (fun H locs h => ?_)
      exact ck_ri hf hret h dC_compile_40
    · have hf := ck_t hq hf
      refine lv_bipush (v := (-14)) hx hb dC_compile_23 (by decide) ?_
      exact ck_ri hf hret h dC_compile_25
  · have hf := ck_t hq hf
    refine lv_bipush (v := (-12)) hx hb dC_compile_10 (by decide) ?_
    exact ck_ri hf hret h dC_compile_12
def fC_kinds (st : ck_S) : Option (Int32 × ck_S) := (ck_b (fT_isThere st) fun v2 st1 => (if v2 = 0 then (some ((-13 : Int32), st1)) else (ck_b (fT_countKinds st1) fun v4 st3 => (some (v4, st3)))))
set_option maxRecDepth 100000 in
set_option maxHeartbeats 4000000 in
theorem cC_kinds (l : Launch) (D : va_G) (cA : Nat → ClassId) (ad : Nat → Nat) {st : ck_S} {r0 : Int32} {st0 : ck_S} (hf : fC_kinds st = some (r0, st0)) : Met l yC_kinds (.code yC_kinds bC_kinds 1 (some .int) :: ck_T) (ck_R 2) (va_Pc [.ref (ad 0)] (ck_P sh_C cm_cl D cA ad st)) (va_Qi (fun a u => a = r0 ∧ u = st0) (ck_P sh_C cm_cl D cA ad) (ck_A ad sh_C.length)) 0 0 (ck_A ad sh_C.length) := by
  refine ck_met_i (own := R_C) (by decide +kernel) rfl (Nat.le_of_ble_eq_true rfl) (fun p e R s m args below meth c H0 Q ls C hret h hl => ?_)
  have C1 := C
  obtain ⟨hx, hb, hml, hown, hts, hK, hlv, hlo⟩ := C1
  have hl : lv_has ls 1 [(0, .ref (ad 0))] := hl
  unfold fC_kinds at hf
  refine lv_aload_n hx hb dC_kinds_0 rfl (lv_at hl 0 rfl) ?_
  refine ck_gr C h FC_tree dC_kinds_1 ?_
  obtain ⟨v2, st1, hc, hf⟩ := ck_b_e hf
  refine ck_vi (As := []) (rest := []) (q := 5) C h hl CC_T_isThere sT_isThere q_T (cT_isThere l D cA ad hc) (Nat.le_of_ble_eq_true rfl) rfl rfl (Nat.le_of_ble_eq_true rfl) dC_kinds_4 (fun H locs h => ?_)
  refine lv_if_eq (tgt := 20) hx hb dC_kinds_7 rfl (fun hq => ?_) (fun hq => ?_)
  · have hf := ck_t hq hf
    refine lv_bipush (v := (-13)) hx hb dC_kinds_20 (by decide) ?_
    exact ck_ri hf hret h dC_kinds_22
  · have hf := ck_f hq hf
    refine lv_aload_n hx hb dC_kinds_10 rfl (lv_at hl 0 rfl) ?_
    refine ck_gr C h FC_tree dC_kinds_11 ?_
    obtain ⟨v4, st3, hc, hf⟩ := ck_b_e hf
    refine ck_vi (As := []) (rest := []) (q := 5) C h hl CC_T_countKinds sT_countKinds q_T (cT_countKinds l D cA ad hc) (Nat.le_of_ble_eq_true rfl) rfl rfl (Nat.le_of_ble_eq_true rfl) dC_kinds_14 (fun H locs h => ?_)
    refine lv_goto (tgt := 22) hx hb dC_kinds_17 rfl ?_
    exact ck_ri hf hret h dC_kinds_22
def fC_longest (st : ck_S) : Option (Int32 × ck_S) := (ck_b (fT_isThere st) fun v2 st1 => (if v2 = 0 then (some ((-13 : Int32), st1)) else (ck_b (fT_mostTests st1) fun v4 st3 => (some (v4, st3)))))
set_option maxRecDepth 100000 in
set_option maxHeartbeats 4000000 in
theorem cC_longest (l : Launch) (D : va_G) (cA : Nat → ClassId) (ad : Nat → Nat) {st : ck_S} {r0 : Int32} {st0 : ck_S} (hf : fC_longest st = some (r0, st0)) : Met l yC_longest (.code yC_longest bC_longest 1 (some .int) :: ck_T) (ck_R 2) (va_Pc [.ref (ad 0)] (ck_P sh_C cm_cl D cA ad st)) (va_Qi (fun a u => a = r0 ∧ u = st0) (ck_P sh_C cm_cl D cA ad) (ck_A ad sh_C.length)) 0 0 (ck_A ad sh_C.length) := by
  refine ck_met_i (own := R_C) (by decide +kernel) rfl (Nat.le_of_ble_eq_true rfl) (fun p e R s m args below meth c H0 Q ls C hret h hl => ?_)
  have C1 := C
  obtain ⟨hx, hb, hml, hown, hts, hK, hlv, hlo⟩ := C1
  have hl : lv_has ls 1 [(0, .ref (ad 0))] := hl
  unfold fC_longest at hf
  refine lv_aload_n hx hb dC_longest_0 rfl (lv_at hl 0 rfl) ?_
  refine ck_gr C h FC_tree dC_longest_1 ?_
  obtain ⟨v2, st1, hc, hf⟩ := ck_b_e hf
  refine ck_vi (As := []) (rest := []) (q := 5) C h hl CC_T_isThere sT_isThere q_T (cT_isThere l D cA ad hc) (Nat.le_of_ble_eq_true rfl) rfl rfl (Nat.le_of_ble_eq_true rfl) dC_longest_4 (fun H locs h => ?_)
  refine lv_if_eq (tgt := 20) hx hb dC_longest_7 rfl (fun hq => ?_) (fun hq => ?_)
  · have hf := ck_t hq hf
    refine lv_bipush (v := (-13)) hx hb dC_longest_20 (by decide) ?_
    exact ck_ri hf hret h dC_longest_22
  · have hf := ck_f hq hf
    refine lv_aload_n hx hb dC_longest_10 rfl (lv_at hl 0 rfl) ?_
    refine ck_gr C h FC_tree dC_longest_11 ?_
    obtain ⟨v4, st3, hc, hf⟩ := ck_b_e hf
    refine ck_vi (As := []) (rest := []) (q := 5) C h hl CC_T_mostTests sT_mostTests q_T (cT_mostTests l D cA ad hc) (Nat.le_of_ble_eq_true rfl) rfl rfl (Nat.le_of_ble_eq_true rfl) dC_longest_14 (fun H locs h => ?_)
    refine lv_goto (tgt := 22) hx hb dC_longest_17 rfl ?_
    exact ck_ri hf hret h dC_longest_22
def fC_useless (x1 : Int32) (st : ck_S) : Option (Int32 × ck_S) := (ck_b (fT_isThere st) fun v2 st1 => (if v2 = 0 then (some ((-13 : Int32), st1)) else (ck_b (fM_hasRow x1 st1) fun v4 st3 => (if v4 = 0 then (some ((-15 : Int32), st3)) else (ck_b (fT_caught st3) fun v6 st5 => (ck_b (fM_alternativesOutside v6 x1 st5) fun v8 st7 => (some (v8, st7))))))))
set_option maxRecDepth 100000 in
set_option maxHeartbeats 4000000 in
theorem cC_useless (l : Launch) (D : va_G) (cA : Nat → ClassId) (ad : Nat → Nat) {x1 : Int32} {st : ck_S} {r0 : Int32} {st0 : ck_S} (hf : fC_useless x1 st = some (r0, st0)) : Met l yC_useless (.code yC_useless bC_useless 2 (some .int) :: ck_T) (ck_R 2) (va_Pc [.ref (ad 0), .int x1] (ck_P sh_C cm_cl D cA ad st)) (va_Qi (fun a u => a = r0 ∧ u = st0) (ck_P sh_C cm_cl D cA ad) (ck_A ad sh_C.length)) 0 0 (ck_A ad sh_C.length) := by
  refine ck_met_i (own := R_C) (by decide +kernel) rfl (Nat.le_of_ble_eq_true rfl) (fun p e R s m args below meth c H0 Q ls C hret h hl => ?_)
  have C1 := C
  obtain ⟨hx, hb, hml, hown, hts, hK, hlv, hlo⟩ := C1
  have hl : lv_has ls 2 [(0, .ref (ad 0)), (1, .int x1)] := hl
  unfold fC_useless at hf
  refine lv_aload_n hx hb dC_useless_0 rfl (lv_at hl 0 rfl) ?_
  refine ck_gr C h FC_tree dC_useless_1 ?_
  obtain ⟨v2, st1, hc, hf⟩ := ck_b_e hf
  refine ck_vi (As := []) (rest := []) (q := 5) C h hl CC_T_isThere sT_isThere q_T (cT_isThere l D cA ad hc) (Nat.le_of_ble_eq_true rfl) rfl rfl (Nat.le_of_ble_eq_true rfl) dC_useless_4 (fun H locs h => ?_)
  refine lv_if_ne (tgt := 13) hx hb dC_useless_7 rfl (fun hq => ?_) (fun hq => ?_)
  · have hf := ck_f hq hf
    refine lv_aload_n hx hb dC_useless_13 rfl (lv_at hl 0 rfl) ?_
    refine ck_gr C h FC_match dC_useless_14 ?_
    refine lv_iload_n hx hb dC_useless_17 rfl (lv_at hl 1 rfl) ?_
    obtain ⟨v4, st3, hc, hf⟩ := ck_b_e hf
    refine ck_vi (As := [.int x1]) (rest := []) (q := 4) C h hl CC_M_hasRow sM_hasRow q_M (cM_hasRow l D cA ad hc) (Nat.le_of_ble_eq_true rfl) rfl rfl (Nat.le_of_ble_eq_true rfl) dC_useless_18 (fun H locs h => ?_)
    refine lv_if_ne (tgt := 27) hx hb dC_useless_21 rfl (fun hq => ?_) (fun hq => ?_)
    · have hf := ck_f hq hf
      refine lv_aload_n hx hb dC_useless_27 rfl (lv_at hl 0 rfl) ?_
      refine ck_gr C h FC_match dC_useless_28 ?_
      refine lv_aload_n hx hb dC_useless_31 rfl (lv_at hl 0 rfl) ?_
      refine ck_gr C h FC_tree dC_useless_32 ?_
      obtain ⟨v6, st5, hc, hf⟩ := ck_b_e hf
      refine ck_vi (As := []) (rest := [.ref (ad 4)]) (q := 5) C h hl CC_T_caught sT_caught q_T (cT_caught l D cA ad hc) (Nat.le_of_ble_eq_true rfl) rfl rfl (Nat.le_of_ble_eq_true rfl) dC_useless_35 (fun H locs h => ?_)
      refine lv_iload_n hx hb dC_useless_38 rfl (lv_at hl 1 rfl) ?_
      obtain ⟨v8, st7, hc, hf⟩ := ck_b_e hf
      refine ck_vi (As := [.int v6, .int x1]) (rest := []) (q := 4) C h hl CC_M_alternativesOutside sM_alternativesOutside q_M (cM_alternativesOutside l D cA ad hc) (Nat.le_of_ble_eq_true rfl) rfl rfl (Nat.le_of_ble_eq_true rfl) dC_useless_39 (fun H locs h => ?_)
      exact ck_ri hf hret h dC_useless_42
    · have hf := ck_t hq hf
      refine lv_bipush (v := (-15)) hx hb dC_useless_24 (by decide) ?_
      exact ck_ri hf hret h dC_useless_26
  · have hf := ck_t hq hf
    refine lv_bipush (v := (-13)) hx hb dC_useless_10 (by decide) ?_
    exact ck_ri hf hret h dC_useless_12
def fC_witnessLength (st : ck_S) : Option (Int32 × ck_S) := (ck_b (fT_isThere st) fun v2 st1 => (if v2 = 0 then (some ((-13 : Int32), st1)) else (ck_b (fG_length st1) fun v4 st3 => (some (v4, st3)))))
set_option maxRecDepth 100000 in
set_option maxHeartbeats 4000000 in
theorem cC_witnessLength (l : Launch) (D : va_G) (cA : Nat → ClassId) (ad : Nat → Nat) {st : ck_S} {r0 : Int32} {st0 : ck_S} (hf : fC_witnessLength st = some (r0, st0)) : Met l yC_witnessLength (.code yC_witnessLength bC_witnessLength 1 (some .int) :: ck_T) (ck_R 1) (va_Pc [.ref (ad 0)] (ck_P sh_C cm_cl D cA ad st)) (va_Qi (fun a u => a = r0 ∧ u = st0) (ck_P sh_C cm_cl D cA ad) (ck_A ad sh_C.length)) 0 0 (ck_A ad sh_C.length) := by
  refine ck_met_i (own := R_C) (by decide +kernel) rfl (Nat.le_of_ble_eq_true rfl) (fun p e R s m args below meth c H0 Q ls C hret h hl => ?_)
  have C1 := C
  obtain ⟨hx, hb, hml, hown, hts, hK, hlv, hlo⟩ := C1
  have hl : lv_has ls 1 [(0, .ref (ad 0))] := hl
  unfold fC_witnessLength at hf
  refine lv_aload_n hx hb dC_witnessLength_0 rfl (lv_at hl 0 rfl) ?_
  refine ck_gr C h FC_tree dC_witnessLength_1 ?_
  obtain ⟨v2, st1, hc, hf⟩ := ck_b_e hf
  refine ck_vi (As := []) (rest := []) (q := 5) C h hl CC_T_isThere sT_isThere q_T (cT_isThere l D cA ad hc) (Nat.le_of_ble_eq_true rfl) rfl rfl (Nat.le_of_ble_eq_true rfl) dC_witnessLength_4 (fun H locs h => ?_)
  refine lv_if_eq (tgt := 20) hx hb dC_witnessLength_7 rfl (fun hq => ?_) (fun hq => ?_)
  · have hf := ck_t hq hf
    refine lv_bipush (v := (-13)) hx hb dC_witnessLength_20 (by decide) ?_
    exact ck_ri hf hret h dC_witnessLength_22
  · have hf := ck_f hq hf
    refine lv_aload_n hx hb dC_witnessLength_10 rfl (lv_at hl 0 rfl) ?_
    refine ck_gr C h FC_gap dC_witnessLength_11 ?_
    obtain ⟨v4, st3, hc, hf⟩ := ck_b_e hf
    refine ck_vi (As := []) (rest := []) (q := 6) C h hl CC_G_length sG_length q_G (cG_length l D cA ad hc) (Nat.le_of_ble_eq_true rfl) rfl rfl (Nat.le_of_ble_eq_true rfl) dC_witnessLength_14 (fun H locs h => ?_)
    refine lv_goto (tgt := 22) hx hb dC_witnessLength_17 rfl ?_
    exact ck_ri hf hret h dC_witnessLength_22
def fC_witnessKind (x1 : Int32) (st : ck_S) : Option (Int32 × ck_S) := (ck_b (fT_isThere st) fun v2 st1 => (if v2 = 0 then (some ((-13 : Int32), st1)) else (ck_b (fG_has x1 st1) fun v4 st3 => (if v4 = 0 then (some ((-15 : Int32), st3)) else (ck_b (fG_kindOf x1 st3) fun v6 st5 => (some (v6, st5)))))))
set_option maxRecDepth 100000 in
set_option maxHeartbeats 4000000 in
theorem cC_witnessKind (l : Launch) (D : va_G) (cA : Nat → ClassId) (ad : Nat → Nat) {x1 : Int32} {st : ck_S} {r0 : Int32} {st0 : ck_S} (hf : fC_witnessKind x1 st = some (r0, st0)) : Met l yC_witnessKind (.code yC_witnessKind bC_witnessKind 2 (some .int) :: ck_T) (ck_R 2) (va_Pc [.ref (ad 0), .int x1] (ck_P sh_C cm_cl D cA ad st)) (va_Qi (fun a u => a = r0 ∧ u = st0) (ck_P sh_C cm_cl D cA ad) (ck_A ad sh_C.length)) 0 0 (ck_A ad sh_C.length) := by
  refine ck_met_i (own := R_C) (by decide +kernel) rfl (Nat.le_of_ble_eq_true rfl) (fun p e R s m args below meth c H0 Q ls C hret h hl => ?_)
  have C1 := C
  obtain ⟨hx, hb, hml, hown, hts, hK, hlv, hlo⟩ := C1
  have hl : lv_has ls 2 [(0, .ref (ad 0)), (1, .int x1)] := hl
  unfold fC_witnessKind at hf
  refine lv_aload_n hx hb dC_witnessKind_0 rfl (lv_at hl 0 rfl) ?_
  refine ck_gr C h FC_tree dC_witnessKind_1 ?_
  obtain ⟨v2, st1, hc, hf⟩ := ck_b_e hf
  refine ck_vi (As := []) (rest := []) (q := 5) C h hl CC_T_isThere sT_isThere q_T (cT_isThere l D cA ad hc) (Nat.le_of_ble_eq_true rfl) rfl rfl (Nat.le_of_ble_eq_true rfl) dC_witnessKind_4 (fun H locs h => ?_)
  refine lv_if_ne (tgt := 13) hx hb dC_witnessKind_7 rfl (fun hq => ?_) (fun hq => ?_)
  · have hf := ck_f hq hf
    refine lv_aload_n hx hb dC_witnessKind_13 rfl (lv_at hl 0 rfl) ?_
    refine ck_gr C h FC_gap dC_witnessKind_14 ?_
    refine lv_iload_n hx hb dC_witnessKind_17 rfl (lv_at hl 1 rfl) ?_
    obtain ⟨v4, st3, hc, hf⟩ := ck_b_e hf
    refine ck_vi (As := [.int x1]) (rest := []) (q := 6) C h hl CC_G_has sG_has q_G (cG_has l D cA ad hc) (Nat.le_of_ble_eq_true rfl) rfl rfl (Nat.le_of_ble_eq_true rfl) dC_witnessKind_18 (fun H locs h => ?_)
    refine lv_if_eq (tgt := 35) hx hb dC_witnessKind_21 rfl (fun hq => ?_) (fun hq => ?_)
    · have hf := ck_t hq hf
      refine lv_bipush (v := (-15)) hx hb dC_witnessKind_35 (by decide) ?_
      exact ck_ri hf hret h dC_witnessKind_37
    · have hf := ck_f hq hf
      refine lv_aload_n hx hb dC_witnessKind_24 rfl (lv_at hl 0 rfl) ?_
      refine ck_gr C h FC_gap dC_witnessKind_25 ?_
      refine lv_iload_n hx hb dC_witnessKind_28 rfl (lv_at hl 1 rfl) ?_
      obtain ⟨v6, st5, hc, hf⟩ := ck_b_e hf
      refine ck_vi (As := [.int x1]) (rest := []) (q := 6) C h hl CC_G_kindOf sG_kindOf q_G (cG_kindOf l D cA ad hc) (Nat.le_of_ble_eq_true rfl) rfl rfl (Nat.le_of_ble_eq_true rfl) dC_witnessKind_29 (fun H locs h => ?_)
      refine lv_goto (tgt := 37) hx hb dC_witnessKind_32 rfl ?_
      exact ck_ri hf hret h dC_witnessKind_37
  · have hf := ck_t hq hf
    refine lv_bipush (v := (-13)) hx hb dC_witnessKind_10 (by decide) ?_
    exact ck_ri hf hret h dC_witnessKind_12
def fC_witness (x1 : Int32) (st : ck_S) : Option (Int32 × ck_S) := (ck_b (fT_isThere st) fun v2 st1 => (if v2 = 0 then (some ((0 : Int32), st1)) else (ck_b (fG_has x1 st1) fun v4 st3 => (if v4 = 0 then (some ((0 : Int32), st3)) else (ck_b (fG_symbolOf x1 st3) fun v6 st5 => (some (v6, st5)))))))
set_option maxRecDepth 100000 in
set_option maxHeartbeats 4000000 in
theorem cC_witness (l : Launch) (D : va_G) (cA : Nat → ClassId) (ad : Nat → Nat) {x1 : Int32} {st : ck_S} {r0 : Int32} {st0 : ck_S} (hf : fC_witness x1 st = some (r0, st0)) : Met l yC_witness (.code yC_witness bC_witness 2 (some .int) :: ck_T) (ck_R 2) (va_Pc [.ref (ad 0), .int x1] (ck_P sh_C cm_cl D cA ad st)) (va_Qi (fun a u => a = r0 ∧ u = st0) (ck_P sh_C cm_cl D cA ad) (ck_A ad sh_C.length)) 0 0 (ck_A ad sh_C.length) := by
  refine ck_met_i (own := R_C) (by decide +kernel) rfl (Nat.le_of_ble_eq_true rfl) (fun p e R s m args below meth c H0 Q ls C hret h hl => ?_)
  have C1 := C
  obtain ⟨hx, hb, hml, hown, hts, hK, hlv, hlo⟩ := C1
  have hl : lv_has ls 2 [(0, .ref (ad 0)), (1, .int x1)] := hl
  unfold fC_witness at hf
  refine lv_aload_n hx hb dC_witness_0 rfl (lv_at hl 0 rfl) ?_
  refine ck_gr C h FC_tree dC_witness_1 ?_
  obtain ⟨v2, st1, hc, hf⟩ := ck_b_e hf
  refine ck_vi (As := []) (rest := []) (q := 5) C h hl CC_T_isThere sT_isThere q_T (cT_isThere l D cA ad hc) (Nat.le_of_ble_eq_true rfl) rfl rfl (Nat.le_of_ble_eq_true rfl) dC_witness_4 (fun H locs h => ?_)
  refine lv_if_eq (tgt := 32) hx hb dC_witness_7 rfl (fun hq => ?_) (fun hq => ?_)
  · have hf := ck_t hq hf
    refine lv_iconst (v := 0) hx hb dC_witness_32 (by decide) ?_
    exact ck_ri hf hret h dC_witness_33
  · have hf := ck_f hq hf
    refine lv_aload_n hx hb dC_witness_10 rfl (lv_at hl 0 rfl) ?_
    refine ck_gr C h FC_gap dC_witness_11 ?_
    refine lv_iload_n hx hb dC_witness_14 rfl (lv_at hl 1 rfl) ?_
    obtain ⟨v4, st3, hc, hf⟩ := ck_b_e hf
    refine ck_vi (As := [.int x1]) (rest := []) (q := 6) C h hl CC_G_has sG_has q_G (cG_has l D cA ad hc) (Nat.le_of_ble_eq_true rfl) rfl rfl (Nat.le_of_ble_eq_true rfl) dC_witness_15 (fun H locs h => ?_)
    refine lv_if_eq (tgt := 32) hx hb dC_witness_18 rfl (fun hq => ?_) (fun hq => ?_)
    · have hf := ck_t hq hf
      refine lv_iconst (v := 0) hx hb dC_witness_32 (by decide) ?_
      exact ck_ri hf hret h dC_witness_33
    · have hf := ck_f hq hf
      refine lv_aload_n hx hb dC_witness_21 rfl (lv_at hl 0 rfl) ?_
      refine ck_gr C h FC_gap dC_witness_22 ?_
      refine lv_iload_n hx hb dC_witness_25 rfl (lv_at hl 1 rfl) ?_
      obtain ⟨v6, st5, hc, hf⟩ := ck_b_e hf
      refine ck_vi (As := [.int x1]) (rest := []) (q := 6) C h hl CC_G_symbolOf sG_symbolOf q_G (cG_symbolOf l D cA ad hc) (Nat.le_of_ble_eq_true rfl) rfl rfl (Nat.le_of_ble_eq_true rfl) dC_witness_26 (fun H locs h => ?_)
      refine lv_goto (tgt := 33) hx hb dC_witness_29 rfl ?_
      exact ck_ri hf hret h dC_witness_33
def fC_valueNumber (x1 : Int32) (st : ck_S) : Option (Int32 × ck_S) := (ck_b (fV_addInt x1 st) fun v2 st1 => (some (v2, st1)))
set_option maxRecDepth 100000 in
set_option maxHeartbeats 4000000 in
theorem cC_valueNumber (l : Launch) (D : va_G) (cA : Nat → ClassId) (ad : Nat → Nat) {x1 : Int32} {st : ck_S} {r0 : Int32} {st0 : ck_S} (hf : fC_valueNumber x1 st = some (r0, st0)) : Met l yC_valueNumber (.code yC_valueNumber bC_valueNumber 2 (some .int) :: ck_T) (ck_R 2) (va_Pc [.ref (ad 0), .int x1] (ck_P sh_C cm_cl D cA ad st)) (va_Qi (fun a u => a = r0 ∧ u = st0) (ck_P sh_C cm_cl D cA ad) (ck_A ad sh_C.length)) 0 0 (ck_A ad sh_C.length) := by
  refine ck_met_i (own := R_C) (by decide +kernel) rfl (Nat.le_of_ble_eq_true rfl) (fun p e R s m args below meth c H0 Q ls C hret h hl => ?_)
  have C1 := C
  obtain ⟨hx, hb, hml, hown, hts, hK, hlv, hlo⟩ := C1
  have hl : lv_has ls 2 [(0, .ref (ad 0)), (1, .int x1)] := hl
  unfold fC_valueNumber at hf
  refine lv_aload_n hx hb dC_valueNumber_0 rfl (lv_at hl 0 rfl) ?_
  refine ck_gr C h FC_values dC_valueNumber_1 ?_
  refine lv_iload_n hx hb dC_valueNumber_4 rfl (lv_at hl 1 rfl) ?_
  obtain ⟨v2, st1, hc, hf⟩ := ck_b_e hf
  refine ck_vi (As := [.int x1]) (rest := []) (q := 3) C h hl CC_V_addInt sV_addInt q_V (cV_addInt l D cA ad hc) (Nat.le_of_ble_eq_true rfl) rfl rfl (Nat.le_of_ble_eq_true rfl) dC_valueNumber_5 (fun H locs h => ?_)
  exact ck_ri hf hret h dC_valueNumber_8
def fC_valueOf (x1 : Int32) (x2 : Int32) (x3 : Int32) (st : ck_S) : Option (Int32 × ck_S) := (ck_b (fD_isConstructor x1 st) fun v2 st1 => (if v2 = 0 then (some ((-4 : Int32), st1)) else (ck_b (fD_firstTypeOf x1 st1) fun v4 st3 => (ck_b (fD_secondTypeOf x1 st3) fun v6 st5 => (ck_b (fV_has x2 st5) fun v8 st7 => (ck_b (fC_standsFor x2 v8 v4 st7) fun v10 st9 => (if v10 = 0 then (some ((-6 : Int32), st9)) else (ck_b (fV_has x3 st9) fun v12 st11 => (ck_b (fC_standsFor x3 v12 v6 st11) fun v14 st13 => (if v14 = 0 then (some ((-6 : Int32), st13)) else (ck_b (fV_isOf x2 v4 st13) fun v16 st15 => (if v16 = 0 then (some ((-7 : Int32), st15)) else (ck_b (fV_isOf x3 v6 st15) fun v18 st17 => (if v18 = 0 then (some ((-7 : Int32), st17)) else (ck_b (fD_ownerOf x1 st17) fun v20 st19 => (ck_b (fV_addBuilt x1 v20 x2 x3 st19) fun v22 st21 => (some (v22, st21))))))))))))))))))
set_option maxRecDepth 100000 in
set_option maxHeartbeats 4000000 in
theorem cC_valueOf (l : Launch) (D : va_G) (cA : Nat → ClassId) (ad : Nat → Nat) {x1 : Int32} {x2 : Int32} {x3 : Int32} {st : ck_S} {r0 : Int32} {st0 : ck_S} (hf : fC_valueOf x1 x2 x3 st = some (r0, st0)) : Met l yC_valueOf (.code yC_valueOf bC_valueOf 6 (some .int) :: ck_T) (ck_R 2) (va_Pc [.ref (ad 0), .int x1, .int x2, .int x3] (ck_P sh_C cm_cl D cA ad st)) (va_Qi (fun a u => a = r0 ∧ u = st0) (ck_P sh_C cm_cl D cA ad) (ck_A ad sh_C.length)) 0 0 (ck_A ad sh_C.length) := by
  refine ck_met_i (own := R_C) (by decide +kernel) rfl (Nat.le_of_ble_eq_true rfl) (fun p e R s m args below meth c H0 Q ls C hret h hl => ?_)
  have C1 := C
  obtain ⟨hx, hb, hml, hown, hts, hK, hlv, hlo⟩ := C1
  have hl : lv_has ls 6 [(0, .ref (ad 0)), (1, .int x1), (2, .int x2), (3, .int x3)] := hl
  unfold fC_valueOf at hf
  refine lv_aload_n hx hb dC_valueOf_0 rfl (lv_at hl 0 rfl) ?_
  refine ck_gr C h FC_declared dC_valueOf_1 ?_
  refine lv_iload_n hx hb dC_valueOf_4 rfl (lv_at hl 1 rfl) ?_
  obtain ⟨v2, st1, hc, hf⟩ := ck_b_e hf
  refine ck_vi (As := [.int x1]) (rest := []) (q := 1) C h hl CC_D_isConstructor sD_isConstructor q_D (cD_isConstructor l D cA ad hc) (Nat.le_of_ble_eq_true rfl) rfl rfl (Nat.le_of_ble_eq_true rfl) dC_valueOf_5 (fun H locs h => ?_)
  refine lv_if_ne (tgt := 14) hx hb dC_valueOf_8 rfl (fun hq => ?_) (fun hq => ?_)
  · have hf := ck_f hq hf
    refine lv_aload_n hx hb dC_valueOf_14 rfl (lv_at hl 0 rfl) ?_
    refine ck_gr C h FC_declared dC_valueOf_15 ?_
    refine lv_iload_n hx hb dC_valueOf_18 rfl (lv_at hl 1 rfl) ?_
    obtain ⟨v4, st3, hc, hf⟩ := ck_b_e hf
    refine ck_vi (As := [.int x1]) (rest := []) (q := 1) C h hl CC_D_firstTypeOf sD_firstTypeOf q_D (cD_firstTypeOf l D cA ad hc) (Nat.le_of_ble_eq_true rfl) rfl rfl (Nat.le_of_ble_eq_true rfl) dC_valueOf_19 (fun H locs h => ?_)
    refine lv_istore (lv' := [(4, .int v4), (0, .ref (ad 0)), (1, .int x1), (2, .int x2), (3, .int x3)]) hx hb dC_valueOf_22 hl (by decide) rfl (fun ls hl => ?_)
    refine lv_aload_n hx hb dC_valueOf_24 rfl (lv_at hl 1 rfl) ?_
    refine ck_gr C h FC_declared dC_valueOf_25 ?_
    refine lv_iload_n hx hb dC_valueOf_28 rfl (lv_at hl 2 rfl) ?_
    obtain ⟨v6, st5, hc, hf⟩ := ck_b_e hf
    refine ck_vi (As := [.int x1]) (rest := []) (q := 1) C h hl CC_D_secondTypeOf sD_secondTypeOf q_D (cD_secondTypeOf l D cA ad hc) (Nat.le_of_ble_eq_true rfl) rfl rfl (Nat.le_of_ble_eq_true rfl) dC_valueOf_29 (fun H locs h => ?_)
    refine lv_istore (lv' := [(5, .int v6), (4, .int v4), (0, .ref (ad 0)), (1, .int x1), (2, .int x2), (3, .int x3)]) hx hb dC_valueOf_32 hl (by decide) rfl (fun ls hl => ?_)
    refine lv_iload_n hx hb dC_valueOf_34 rfl (lv_at hl 4 rfl) ?_
    refine lv_aload_n hx hb dC_valueOf_35 rfl (lv_at hl 2 rfl) ?_
    refine ck_gr C h FC_values dC_valueOf_36 ?_
    refine lv_iload_n hx hb dC_valueOf_39 rfl (lv_at hl 4 rfl) ?_
    obtain ⟨v8, st7, hc, hf⟩ := ck_b_e hf
    refine ck_vi (As := [.int x2]) (rest := [.int x2]) (q := 3) C h hl CC_V_has sV_has q_V (cV_has l D cA ad hc) (Nat.le_of_ble_eq_true rfl) rfl rfl (Nat.le_of_ble_eq_true rfl) dC_valueOf_40 (fun H locs h => ?_)
    refine lv_iload hx hb dC_valueOf_43 (lv_at hl 1 rfl) ?_
    obtain ⟨v10, st9, hc, hf⟩ := ck_b_e hf
    refine ck_ti (As := [.int x2, .int v8, .int v4]) (rest := []) C h hl CC_C_standsFor sC_standsFor (cC_standsFor l D cA ad hc) (Nat.le_of_ble_eq_true rfl) rfl rfl (Nat.le_of_ble_eq_true rfl) dC_valueOf_45 (fun H locs h => ?_)
    refine lv_if_eq (tgt := 68) hx hb dC_valueOf_48 rfl (fun hq => ?_) (fun hq => ?_)
    · have hf := ck_t hq hf
      refine lv_bipush (v := (-6)) hx hb dC_valueOf_68 (by decide) ?_
      exact ck_ri hf hret h dC_valueOf_70
    · have hf := ck_f hq hf
      refine lv_iload_n hx hb dC_valueOf_51 rfl (lv_at hl 5 rfl) ?_
      refine lv_aload_n hx hb dC_valueOf_52 rfl (lv_at hl 2 rfl) ?_
      refine ck_gr C h FC_values dC_valueOf_53 ?_
      refine lv_iload_n hx hb dC_valueOf_56 rfl (lv_at hl 5 rfl) ?_
      obtain ⟨v12, st11, hc, hf⟩ := ck_b_e hf
      refine ck_vi (As := [.int x3]) (rest := [.int x3]) (q := 3) C h hl CC_V_has sV_has q_V (cV_has l D cA ad hc) (Nat.le_of_ble_eq_true rfl) rfl rfl (Nat.le_of_ble_eq_true rfl) dC_valueOf_57 (fun H locs h => ?_)
      refine lv_iload hx hb dC_valueOf_60 (lv_at hl 0 rfl) ?_
      obtain ⟨v14, st13, hc, hf⟩ := ck_b_e hf
      refine ck_ti (As := [.int x3, .int v12, .int v6]) (rest := []) C h hl CC_C_standsFor sC_standsFor (cC_standsFor l D cA ad hc) (Nat.le_of_ble_eq_true rfl) rfl rfl (Nat.le_of_ble_eq_true rfl) dC_valueOf_62 (fun H locs h => ?_)
      refine lv_if_ne (tgt := 71) hx hb dC_valueOf_65 rfl (fun hq => ?_) (fun hq => ?_)
      · have hf := ck_f hq hf
        refine lv_aload_n hx hb dC_valueOf_71 rfl (lv_at hl 2 rfl) ?_
        refine ck_gr C h FC_values dC_valueOf_72 ?_
        refine lv_iload_n hx hb dC_valueOf_75 rfl (lv_at hl 4 rfl) ?_
        refine lv_iload hx hb dC_valueOf_76 (lv_at hl 1 rfl) ?_
        obtain ⟨v16, st15, hc, hf⟩ := ck_b_e hf
        refine ck_vi (As := [.int x2, .int v4]) (rest := []) (q := 3) C h hl CC_V_isOf sV_isOf q_V (cV_isOf l D cA ad hc) (Nat.le_of_ble_eq_true rfl) rfl rfl (Nat.le_of_ble_eq_true rfl) dC_valueOf_78 (fun H locs h => ?_)
        refine lv_if_eq (tgt := 97) hx hb dC_valueOf_81 rfl (fun hq => ?_) (fun hq => ?_)
        · have hf := ck_t hq hf
          refine lv_bipush (v := (-7)) hx hb dC_valueOf_97 (by decide) ?_
          exact ck_ri hf hret h dC_valueOf_99
        · have hf := ck_f hq hf
          refine lv_aload_n hx hb dC_valueOf_84 rfl (lv_at hl 2 rfl) ?_
          refine ck_gr C h FC_values dC_valueOf_85 ?_
          refine lv_iload_n hx hb dC_valueOf_88 rfl (lv_at hl 5 rfl) ?_
          refine lv_iload hx hb dC_valueOf_89 (lv_at hl 0 rfl) ?_
          obtain ⟨v18, st17, hc, hf⟩ := ck_b_e hf
          refine ck_vi (As := [.int x3, .int v6]) (rest := []) (q := 3) C h hl CC_V_isOf sV_isOf q_V (cV_isOf l D cA ad hc) (Nat.le_of_ble_eq_true rfl) rfl rfl (Nat.le_of_ble_eq_true rfl) dC_valueOf_91 (fun H locs h => ?_)
          refine lv_if_ne (tgt := 100) hx hb dC_valueOf_94 rfl (fun hq => ?_) (fun hq => ?_)
          · have hf := ck_f hq hf
            refine lv_aload_n hx hb dC_valueOf_100 rfl (lv_at hl 2 rfl) ?_
            refine ck_gr C h FC_values dC_valueOf_101 ?_
            refine lv_iload_n hx hb dC_valueOf_104 rfl (lv_at hl 3 rfl) ?_
            refine lv_aload_n hx hb dC_valueOf_105 rfl (lv_at hl 2 rfl) ?_
            refine ck_gr C h FC_declared dC_valueOf_106 ?_
            refine lv_iload_n hx hb dC_valueOf_109 rfl (lv_at hl 3 rfl) ?_
            obtain ⟨v20, st19, hc, hf⟩ := ck_b_e hf
            refine ck_vi (As := [.int x1]) (rest := [.int x1, .ref (ad 3)]) (q := 1) C h hl CC_D_ownerOf sD_ownerOf q_D (cD_ownerOf l D cA ad hc) (Nat.le_of_ble_eq_true rfl) rfl rfl (Nat.le_of_ble_eq_true rfl) dC_valueOf_110 (fun H locs h => ?_)
            refine lv_iload_n hx hb dC_valueOf_113 rfl (lv_at hl 4 rfl) ?_
            refine lv_iload_n hx hb dC_valueOf_114 rfl (lv_at hl 5 rfl) ?_
            obtain ⟨v22, st21, hc, hf⟩ := ck_b_e hf
            refine ck_vi (As := [.int x1, .int v20, .int x2, .int x3]) (rest := []) (q := 3) C h hl CC_V_addBuilt sV_addBuilt q_V (cV_addBuilt l D cA ad hc) (Nat.le_of_ble_eq_true rfl) rfl rfl (Nat.le_of_ble_eq_true rfl) dC_valueOf_115 (fun H locs h => ?_)
            exact ck_ri hf hret h dC_valueOf_118
          · have hf := ck_t hq hf
            refine lv_bipush (v := (-7)) hx hb dC_valueOf_97 (by decide) ?_
            exact ck_ri hf hret h dC_valueOf_99
      · have hf := ck_t hq hf
        refine lv_bipush (v := (-6)) hx hb dC_valueOf_68 (by decide) ?_
        exact ck_ri hf hret h dC_valueOf_70
  · have hf := ck_t hq hf
    refine lv_bipush (v := (-4)) hx hb dC_valueOf_11 (by decide) ?_
    exact ck_ri hf hret h dC_valueOf_13
def fC_run (x1 : Int32) (st : ck_S) : Option (Int32 × ck_S) := (ck_b (fT_isThere st) fun v2 st1 => (if v2 = 0 then (some ((-13 : Int32), st1)) else (ck_b (fV_has x1 st1) fun v4 st3 => (if v4 = 0 then (some ((-6 : Int32), st3)) else (ck_b (fM_typeOver st3) fun v6 st5 => (ck_b (fV_isOf x1 v6 st5) fun v8 st7 => (if v8 = 0 then (some ((-7 : Int32), st7)) else (ck_b (fT_leafFor x1 st7) fun v10 st9 => (ck_b (fT_testsAbove v10 st9) fun v12 st11 => (ck_b (fT_clauseAt v10 (ck_u st11 0 6 v12)) fun v14 st13 => (ck_b (fM_rowOf v14 st13) fun v16 st15 => (some (v16, st15)))))))))))))
set_option maxRecDepth 100000 in
set_option maxHeartbeats 4000000 in
theorem cC_run (l : Launch) (D : va_G) (cA : Nat → ClassId) (ad : Nat → Nat) {x1 : Int32} {st : ck_S} {r0 : Int32} {st0 : ck_S} (hf : fC_run x1 st = some (r0, st0)) : Met l yC_run (.code yC_run bC_run 3 (some .int) :: ck_T) (ck_R 3) (va_Pc [.ref (ad 0), .int x1] (ck_P sh_C cm_cl D cA ad st)) (va_Qi (fun a u => a = r0 ∧ u = st0) (ck_P sh_C cm_cl D cA ad) (ck_A ad sh_C.length)) 0 0 (ck_A ad sh_C.length) := by
  refine ck_met_i (own := R_C) (by decide +kernel) rfl (Nat.le_of_ble_eq_true rfl) (fun p e R s m args below meth c H0 Q ls C hret h hl => ?_)
  have C1 := C
  obtain ⟨hx, hb, hml, hown, hts, hK, hlv, hlo⟩ := C1
  have hl : lv_has ls 3 [(0, .ref (ad 0)), (1, .int x1)] := hl
  unfold fC_run at hf
  refine lv_aload_n hx hb dC_run_0 rfl (lv_at hl 0 rfl) ?_
  refine ck_gr C h FC_tree dC_run_1 ?_
  obtain ⟨v2, st1, hc, hf⟩ := ck_b_e hf
  refine ck_vi (As := []) (rest := []) (q := 5) C h hl CC_T_isThere sT_isThere q_T (cT_isThere l D cA ad hc) (Nat.le_of_ble_eq_true rfl) rfl rfl (Nat.le_of_ble_eq_true rfl) dC_run_4 (fun H locs h => ?_)
  refine lv_if_ne (tgt := 13) hx hb dC_run_7 rfl (fun hq => ?_) (fun hq => ?_)
  · have hf := ck_f hq hf
    refine lv_aload_n hx hb dC_run_13 rfl (lv_at hl 0 rfl) ?_
    refine ck_gr C h FC_values dC_run_14 ?_
    refine lv_iload_n hx hb dC_run_17 rfl (lv_at hl 1 rfl) ?_
    obtain ⟨v4, st3, hc, hf⟩ := ck_b_e hf
    refine ck_vi (As := [.int x1]) (rest := []) (q := 3) C h hl CC_V_has sV_has q_V (cV_has l D cA ad hc) (Nat.le_of_ble_eq_true rfl) rfl rfl (Nat.le_of_ble_eq_true rfl) dC_run_18 (fun H locs h => ?_)
    refine lv_if_ne (tgt := 27) hx hb dC_run_21 rfl (fun hq => ?_) (fun hq => ?_)
    · have hf := ck_f hq hf
      refine lv_aload_n hx hb dC_run_27 rfl (lv_at hl 0 rfl) ?_
      refine ck_gr C h FC_values dC_run_28 ?_
      refine lv_iload_n hx hb dC_run_31 rfl (lv_at hl 1 rfl) ?_
      refine lv_aload_n hx hb dC_run_32 rfl (lv_at hl 0 rfl) ?_
      refine ck_gr C h FC_match dC_run_33 ?_
      obtain ⟨v6, st5, hc, hf⟩ := ck_b_e hf
      refine ck_vi (As := []) (rest := [.int x1, .ref (ad 3)]) (q := 4) C h hl CC_M_typeOver sM_typeOver q_M (cM_typeOver l D cA ad hc) (Nat.le_of_ble_eq_true rfl) rfl rfl (Nat.le_of_ble_eq_true rfl) dC_run_36 (fun H locs h => ?_)
      obtain ⟨v8, st7, hc, hf⟩ := ck_b_e hf
      refine ck_vi (As := [.int x1, .int v6]) (rest := []) (q := 3) C h hl CC_V_isOf sV_isOf q_V (cV_isOf l D cA ad hc) (Nat.le_of_ble_eq_true rfl) rfl rfl (Nat.le_of_ble_eq_true rfl) dC_run_39 (fun H locs h => ?_)
      refine lv_if_ne (tgt := 48) hx hb dC_run_42 rfl (fun hq => ?_) (fun hq => ?_)
      · have hf := ck_f hq hf
        refine lv_aload_n hx hb dC_run_48 rfl (lv_at hl 0 rfl) ?_
        refine ck_gr C h FC_tree dC_run_49 ?_
        refine lv_aload_n hx hb dC_run_52 rfl (lv_at hl 0 rfl) ?_
        refine ck_gr C h FC_values dC_run_53 ?_
        refine lv_iload_n hx hb dC_run_56 rfl (lv_at hl 1 rfl) ?_
        obtain ⟨v10, st9, hc, hf⟩ := ck_b_e hf
        refine ck_vi (As := [.ref (ad 3), .int x1]) (rest := []) (q := 5) C h hl CC_T_leafFor sT_leafFor q_T (cT_leafFor l D cA ad hc) (Nat.le_of_ble_eq_true rfl) rfl rfl (Nat.le_of_ble_eq_true rfl) dC_run_57 (fun H locs h => ?_)
        refine lv_istore_n (lv' := [(2, .int v10), (0, .ref (ad 0)), (1, .int x1)]) hx hb dC_run_60 rfl hl (by decide) rfl (fun ls hl => ?_)
        refine lv_aload_n hx hb dC_run_61 rfl (lv_at hl 1 rfl) ?_
        refine lv_aload_n hx hb dC_run_62 rfl (lv_at hl 1 rfl) ?_
        refine ck_gr C h FC_tree dC_run_63 ?_
        refine lv_iload_n hx hb dC_run_66 rfl (lv_at hl 0 rfl) ?_
        obtain ⟨v12, st11, hc, hf⟩ := ck_b_e hf
        refine ck_vi (As := [.int v10]) (rest := [.ref (ad 0)]) (q := 5) C h hl CC_T_testsAbove sT_testsAbove q_T (cT_testsAbove l D cA ad hc) (Nat.le_of_ble_eq_true rfl) rfl rfl (Nat.le_of_ble_eq_true rfl) dC_run_67 (fun H locs h => ?_)
        refine ck_pi C h GC_latestTests rfl rfl dC_run_70 (fun H locs h => ?_)
        refine lv_aload_n hx hb dC_run_73 rfl (lv_at hl 1 rfl) ?_
        refine ck_gr C h FC_match dC_run_74 ?_
        refine lv_aload_n hx hb dC_run_77 rfl (lv_at hl 1 rfl) ?_
        refine ck_gr C h FC_tree dC_run_78 ?_
        refine lv_iload_n hx hb dC_run_81 rfl (lv_at hl 0 rfl) ?_
        obtain ⟨v14, st13, hc, hf⟩ := ck_b_e hf
        refine ck_vi (As := [.int v10]) (rest := [.ref (ad 4)]) (q := 5) C h hl CC_T_clauseAt sT_clauseAt q_T (cT_clauseAt l D cA ad hc) (Nat.le_of_ble_eq_true rfl) rfl rfl (Nat.le_of_ble_eq_true rfl) dC_run_82 (fun H locs h => ?_)
        obtain ⟨v16, st15, hc, hf⟩ := ck_b_e hf
        refine ck_vi (As := [.int v14]) (rest := []) (q := 4) C h hl CC_M_rowOf sM_rowOf q_M (cM_rowOf l D cA ad hc) (Nat.le_of_ble_eq_true rfl) rfl rfl (Nat.le_of_ble_eq_true rfl) dC_run_85 (fun H locs h => ?_)
        exact ck_ri hf hret h dC_run_88
      · have hf := ck_t hq hf
        refine lv_bipush (v := (-7)) hx hb dC_run_45 (by decide) ?_
        exact ck_ri hf hret h dC_run_47
    · have hf := ck_t hq hf
      refine lv_bipush (v := (-6)) hx hb dC_run_24 (by decide) ?_
      exact ck_ri hf hret h dC_run_26
  · have hf := ck_t hq hf
    refine lv_bipush (v := (-13)) hx hb dC_run_10 (by decide) ?_
    exact ck_ri hf hret h dC_run_12
def fC_tests (st : ck_S) : Option (Int32 × ck_S) := (some ((st 0 6), st))
set_option maxRecDepth 100000 in
set_option maxHeartbeats 4000000 in
theorem cC_tests (l : Launch) (D : va_G) (cA : Nat → ClassId) (ad : Nat → Nat) {st : ck_S} {r0 : Int32} {st0 : ck_S} (hf : fC_tests st = some (r0, st0)) : Met l yC_tests (.code yC_tests bC_tests 1 (some .int) :: ck_T) (ck_R 0) (va_Pc [.ref (ad 0)] (ck_P sh_C cm_cl D cA ad st)) (va_Qi (fun a u => a = r0 ∧ u = st0) (ck_P sh_C cm_cl D cA ad) (ck_A ad sh_C.length)) 0 0 (ck_A ad sh_C.length) := by
  refine ck_met_i (own := R_C) (by decide +kernel) rfl (Nat.le_of_ble_eq_true rfl) (fun p e R s m args below meth c H0 Q ls C hret h hl => ?_)
  have C1 := C
  obtain ⟨hx, hb, hml, hown, hts, hK, hlv, hlo⟩ := C1
  have hl : lv_has ls 1 [(0, .ref (ad 0))] := hl
  unfold fC_tests at hf
  refine lv_aload_n hx hb dC_tests_0 rfl (lv_at hl 0 rfl) ?_
  refine ck_gi (x := (st 0 6)) C h FC_latestTests rfl dC_tests_1 ?_
  exact ck_ri hf hret h dC_tests_4
end Sface
