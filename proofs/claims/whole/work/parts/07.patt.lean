theorem dP_reset_0 : decode bP_reset 0 = .ok (.aload_n 0, 1) := by decide +kernel
theorem dP_reset_1 : decode bP_reset 1 = .ok (.iconst 0, 1) := by decide +kernel
theorem dP_reset_2 : decode bP_reset 2 = .ok (.putfield 34, 3) := by decide +kernel
theorem dP_reset_5 : decode bP_reset 5 = .ok (.return_, 1) := by decide +kernel
theorem dP_has_0 : decode bP_has 0 = .ok (.iload_n 1, 1) := by decide +kernel
theorem dP_has_1 : decode bP_has 1 = .ok (.ifCond .lt 15, 3) := by decide +kernel
theorem dP_has_4 : decode bP_has 4 = .ok (.iload_n 1, 1) := by decide +kernel
theorem dP_has_5 : decode bP_has 5 = .ok (.aload_n 0, 1) := by decide +kernel
theorem dP_has_6 : decode bP_has 6 = .ok (.getfield 34, 3) := by decide +kernel
theorem dP_has_9 : decode bP_has 9 = .ok (.if_icmp .ge 7, 3) := by decide +kernel
theorem dP_has_12 : decode bP_has 12 = .ok (.iconst 1, 1) := by decide +kernel
theorem dP_has_13 : decode bP_has 13 = .ok (.goto 4, 3) := by decide +kernel
theorem dP_has_16 : decode bP_has 16 = .ok (.iconst 0, 1) := by decide +kernel
theorem dP_has_17 : decode bP_has 17 = .ok (.ireturn, 1) := by decide +kernel
theorem dP_withParts_0 : decode bP_withParts 0 = .ok (.aload_n 0, 1) := by decide +kernel
theorem dP_withParts_1 : decode bP_withParts 1 = .ok (.iload_n 1, 1) := by decide +kernel
theorem dP_withParts_2 : decode bP_withParts 2 = .ok (.invokevirtual 63, 3) := by decide +kernel
theorem dP_withParts_5 : decode bP_withParts 5 = .ok (.ifCond .ne 5, 3) := by decide +kernel
theorem dP_withParts_8 : decode bP_withParts 8 = .ok (.iload_n 1, 1) := by decide +kernel
theorem dP_withParts_9 : decode bP_withParts 9 = .ok (.ireturn, 1) := by decide +kernel
theorem dP_withParts_10 : decode bP_withParts 10 = .ok (.aload_n 0, 1) := by decide +kernel
theorem dP_withParts_11 : decode bP_withParts 11 = .ok (.getfield 22, 3) := by decide +kernel
theorem dP_withParts_14 : decode bP_withParts 14 = .ok (.iload_n 1, 1) := by decide +kernel
theorem dP_withParts_15 : decode bP_withParts 15 = .ok (.iload_n 2, 1) := by decide +kernel
theorem dP_withParts_16 : decode bP_withParts 16 = .ok (.iastore, 1) := by decide +kernel
theorem dP_withParts_17 : decode bP_withParts 17 = .ok (.aload_n 0, 1) := by decide +kernel
theorem dP_withParts_18 : decode bP_withParts 18 = .ok (.getfield 25, 3) := by decide +kernel
theorem dP_withParts_21 : decode bP_withParts 21 = .ok (.iload_n 1, 1) := by decide +kernel
theorem dP_withParts_22 : decode bP_withParts 22 = .ok (.iload_n 3, 1) := by decide +kernel
theorem dP_withParts_23 : decode bP_withParts 23 = .ok (.iastore, 1) := by decide +kernel
theorem dP_withParts_24 : decode bP_withParts 24 = .ok (.aload_n 0, 1) := by decide +kernel
theorem dP_withParts_25 : decode bP_withParts 25 = .ok (.getfield 28, 3) := by decide +kernel
theorem dP_withParts_28 : decode bP_withParts 28 = .ok (.iload_n 1, 1) := by decide +kernel
theorem dP_withParts_29 : decode bP_withParts 29 = .ok (.iload 4, 2) := by decide +kernel
theorem dP_withParts_31 : decode bP_withParts 31 = .ok (.iastore, 1) := by decide +kernel
theorem dP_withParts_32 : decode bP_withParts 32 = .ok (.aload_n 0, 1) := by decide +kernel
theorem dP_withParts_33 : decode bP_withParts 33 = .ok (.getfield 31, 3) := by decide +kernel
theorem dP_withParts_36 : decode bP_withParts 36 = .ok (.iload_n 1, 1) := by decide +kernel
theorem dP_withParts_37 : decode bP_withParts 37 = .ok (.iload 5, 2) := by decide +kernel
theorem dP_withParts_39 : decode bP_withParts 39 = .ok (.iastore, 1) := by decide +kernel
theorem dP_withParts_40 : decode bP_withParts 40 = .ok (.iload_n 1, 1) := by decide +kernel
theorem dP_withParts_41 : decode bP_withParts 41 = .ok (.ireturn, 1) := by decide +kernel
theorem dP_add_0 : decode bP_add 0 = .ok (.aload_n 0, 1) := by decide +kernel
theorem dP_add_1 : decode bP_add 1 = .ok (.getfield 34, 3) := by decide +kernel
theorem dP_add_4 : decode bP_add 4 = .ok (.bipush 60, 2) := by decide +kernel
theorem dP_add_6 : decode bP_add 6 = .ok (.if_icmp .lt 6, 3) := by decide +kernel
theorem dP_add_9 : decode bP_add 9 = .ok (.bipush (-8), 2) := by decide +kernel
theorem dP_add_11 : decode bP_add 11 = .ok (.ireturn, 1) := by decide +kernel
theorem dP_add_12 : decode bP_add 12 = .ok (.aload_n 0, 1) := by decide +kernel
theorem dP_add_13 : decode bP_add 13 = .ok (.getfield 34, 3) := by decide +kernel
theorem dP_add_16 : decode bP_add 16 = .ok (.istore 4, 2) := by decide +kernel
theorem dP_add_18 : decode bP_add 18 = .ok (.aload_n 0, 1) := by decide +kernel
theorem dP_add_19 : decode bP_add 19 = .ok (.dup, 1) := by decide +kernel
theorem dP_add_20 : decode bP_add 20 = .ok (.getfield 34, 3) := by decide +kernel
theorem dP_add_23 : decode bP_add 23 = .ok (.iconst 1, 1) := by decide +kernel
theorem dP_add_24 : decode bP_add 24 = .ok (.iadd, 1) := by decide +kernel
theorem dP_add_25 : decode bP_add 25 = .ok (.putfield 34, 3) := by decide +kernel
theorem dP_add_28 : decode bP_add 28 = .ok (.aload_n 0, 1) := by decide +kernel
theorem dP_add_29 : decode bP_add 29 = .ok (.getfield 9, 3) := by decide +kernel
theorem dP_add_32 : decode bP_add 32 = .ok (.iload 4, 2) := by decide +kernel
theorem dP_add_34 : decode bP_add 34 = .ok (.iload_n 1, 1) := by decide +kernel
theorem dP_add_35 : decode bP_add 35 = .ok (.bastore, 1) := by decide +kernel
theorem dP_add_36 : decode bP_add 36 = .ok (.aload_n 0, 1) := by decide +kernel
theorem dP_add_37 : decode bP_add 37 = .ok (.getfield 15, 3) := by decide +kernel
theorem dP_add_40 : decode bP_add 40 = .ok (.iload 4, 2) := by decide +kernel
theorem dP_add_42 : decode bP_add 42 = .ok (.iload_n 2, 1) := by decide +kernel
theorem dP_add_43 : decode bP_add 43 = .ok (.iastore, 1) := by decide +kernel
theorem dP_add_44 : decode bP_add 44 = .ok (.aload_n 0, 1) := by decide +kernel
theorem dP_add_45 : decode bP_add 45 = .ok (.getfield 19, 3) := by decide +kernel
theorem dP_add_48 : decode bP_add 48 = .ok (.iload 4, 2) := by decide +kernel
theorem dP_add_50 : decode bP_add 50 = .ok (.iload_n 3, 1) := by decide +kernel
theorem dP_add_51 : decode bP_add 51 = .ok (.iastore, 1) := by decide +kernel
theorem dP_add_52 : decode bP_add 52 = .ok (.aload_n 0, 1) := by decide +kernel
theorem dP_add_53 : decode bP_add 53 = .ok (.iload 4, 2) := by decide +kernel
theorem dP_add_55 : decode bP_add 55 = .ok (.iconst (-1), 1) := by decide +kernel
theorem dP_add_56 : decode bP_add 56 = .ok (.iconst (-1), 1) := by decide +kernel
theorem dP_add_57 : decode bP_add 57 = .ok (.iconst 1, 1) := by decide +kernel
theorem dP_add_58 : decode bP_add 58 = .ok (.iconst 1, 1) := by decide +kernel
theorem dP_add_59 : decode bP_add 59 = .ok (.invokevirtual 55, 3) := by decide +kernel
theorem dP_add_62 : decode bP_add 62 = .ok (.ireturn, 1) := by decide +kernel
theorem dP_addAny_0 : decode bP_addAny 0 = .ok (.aload_n 0, 1) := by decide +kernel
theorem dP_addAny_1 : decode bP_addAny 1 = .ok (.iconst 0, 1) := by decide +kernel
theorem dP_addAny_2 : decode bP_addAny 2 = .ok (.iconst (-1), 1) := by decide +kernel
theorem dP_addAny_3 : decode bP_addAny 3 = .ok (.iconst 0, 1) := by decide +kernel
theorem dP_addAny_4 : decode bP_addAny 4 = .ok (.invokevirtual 38, 3) := by decide +kernel
theorem dP_addAny_7 : decode bP_addAny 7 = .ok (.ireturn, 1) := by decide +kernel
theorem dP_addNumber_0 : decode bP_addNumber 0 = .ok (.aload_n 0, 1) := by decide +kernel
theorem dP_addNumber_1 : decode bP_addNumber 1 = .ok (.iconst 0, 1) := by decide +kernel
theorem dP_addNumber_2 : decode bP_addNumber 2 = .ok (.iconst 0, 1) := by decide +kernel
theorem dP_addNumber_3 : decode bP_addNumber 3 = .ok (.iload_n 1, 1) := by decide +kernel
theorem dP_addNumber_4 : decode bP_addNumber 4 = .ok (.invokevirtual 38, 3) := by decide +kernel
theorem dP_addNumber_7 : decode bP_addNumber 7 = .ok (.ireturn, 1) := by decide +kernel
theorem dP_depthOf_0 : decode bP_depthOf 0 = .ok (.aload_n 0, 1) := by decide +kernel
theorem dP_depthOf_1 : decode bP_depthOf 1 = .ok (.iload_n 1, 1) := by decide +kernel
theorem dP_depthOf_2 : decode bP_depthOf 2 = .ok (.invokevirtual 63, 3) := by decide +kernel
theorem dP_depthOf_5 : decode bP_depthOf 5 = .ok (.ifCond .eq 12, 3) := by decide +kernel
theorem dP_depthOf_8 : decode bP_depthOf 8 = .ok (.aload_n 0, 1) := by decide +kernel
theorem dP_depthOf_9 : decode bP_depthOf 9 = .ok (.getfield 28, 3) := by decide +kernel
theorem dP_depthOf_12 : decode bP_depthOf 12 = .ok (.iload_n 1, 1) := by decide +kernel
theorem dP_depthOf_13 : decode bP_depthOf 13 = .ok (.iaload, 1) := by decide +kernel
theorem dP_depthOf_14 : decode bP_depthOf 14 = .ok (.goto 4, 3) := by decide +kernel
theorem dP_depthOf_17 : decode bP_depthOf 17 = .ok (.iconst 0, 1) := by decide +kernel
theorem dP_depthOf_18 : decode bP_depthOf 18 = .ok (.ireturn, 1) := by decide +kernel
theorem dP_choicesOf_0 : decode bP_choicesOf 0 = .ok (.aload_n 0, 1) := by decide +kernel
theorem dP_choicesOf_1 : decode bP_choicesOf 1 = .ok (.iload_n 1, 1) := by decide +kernel
theorem dP_choicesOf_2 : decode bP_choicesOf 2 = .ok (.invokevirtual 63, 3) := by decide +kernel
theorem dP_choicesOf_5 : decode bP_choicesOf 5 = .ok (.ifCond .eq 16, 3) := by decide +kernel
theorem dP_choicesOf_8 : decode bP_choicesOf 8 = .ok (.iconst 1, 1) := by decide +kernel
theorem dP_choicesOf_9 : decode bP_choicesOf 9 = .ok (.aload_n 0, 1) := by decide +kernel
theorem dP_choicesOf_10 : decode bP_choicesOf 10 = .ok (.getfield 31, 3) := by decide +kernel
theorem dP_choicesOf_13 : decode bP_choicesOf 13 = .ok (.iload_n 1, 1) := by decide +kernel
theorem dP_choicesOf_14 : decode bP_choicesOf 14 = .ok (.iaload, 1) := by decide +kernel
theorem dP_choicesOf_15 : decode bP_choicesOf 15 = .ok (.invokestatic 46, 3) := by decide +kernel
theorem dP_choicesOf_18 : decode bP_choicesOf 18 = .ok (.goto 4, 3) := by decide +kernel
theorem dP_choicesOf_21 : decode bP_choicesOf 21 = .ok (.iconst 1, 1) := by decide +kernel
theorem dP_choicesOf_22 : decode bP_choicesOf 22 = .ok (.ireturn, 1) := by decide +kernel
theorem dP_addBuild_0 : decode bP_addBuild 0 = .ok (.iconst 1, 1) := by decide +kernel
theorem dP_addBuild_1 : decode bP_addBuild 1 = .ok (.aload_n 0, 1) := by decide +kernel
theorem dP_addBuild_2 : decode bP_addBuild 2 = .ok (.iload_n 3, 1) := by decide +kernel
theorem dP_addBuild_3 : decode bP_addBuild 3 = .ok (.invokevirtual 42, 3) := by decide +kernel
theorem dP_addBuild_6 : decode bP_addBuild 6 = .ok (.aload_n 0, 1) := by decide +kernel
theorem dP_addBuild_7 : decode bP_addBuild 7 = .ok (.iload 4, 2) := by decide +kernel
theorem dP_addBuild_9 : decode bP_addBuild 9 = .ok (.invokevirtual 42, 3) := by decide +kernel
theorem dP_addBuild_12 : decode bP_addBuild 12 = .ok (.invokestatic 46, 3) := by decide +kernel
theorem dP_addBuild_15 : decode bP_addBuild 15 = .ok (.iadd, 1) := by decide +kernel
theorem dP_addBuild_16 : decode bP_addBuild 16 = .ok (.istore 5, 2) := by decide +kernel
theorem dP_addBuild_18 : decode bP_addBuild 18 = .ok (.iload 5, 2) := by decide +kernel
theorem dP_addBuild_20 : decode bP_addBuild 20 = .ok (.iconst 4, 1) := by decide +kernel
theorem dP_addBuild_21 : decode bP_addBuild 21 = .ok (.if_icmp .le 6, 3) := by decide +kernel
theorem dP_addBuild_24 : decode bP_addBuild 24 = .ok (.bipush (-9), 2) := by decide +kernel
theorem dP_addBuild_26 : decode bP_addBuild 26 = .ok (.ireturn, 1) := by decide +kernel
theorem dP_addBuild_27 : decode bP_addBuild 27 = .ok (.aload_n 0, 1) := by decide +kernel
theorem dP_addBuild_28 : decode bP_addBuild 28 = .ok (.iload_n 3, 1) := by decide +kernel
theorem dP_addBuild_29 : decode bP_addBuild 29 = .ok (.invokevirtual 52, 3) := by decide +kernel
theorem dP_addBuild_32 : decode bP_addBuild 32 = .ok (.aload_n 0, 1) := by decide +kernel
theorem dP_addBuild_33 : decode bP_addBuild 33 = .ok (.iload 4, 2) := by decide +kernel
theorem dP_addBuild_35 : decode bP_addBuild 35 = .ok (.invokevirtual 52, 3) := by decide +kernel
theorem dP_addBuild_38 : decode bP_addBuild 38 = .ok (.imul, 1) := by decide +kernel
theorem dP_addBuild_39 : decode bP_addBuild 39 = .ok (.istore 6, 2) := by decide +kernel
theorem dP_addBuild_41 : decode bP_addBuild 41 = .ok (.iload 6, 2) := by decide +kernel
theorem dP_addBuild_43 : decode bP_addBuild 43 = .ok (.bipush 8, 2) := by decide +kernel
theorem dP_addBuild_45 : decode bP_addBuild 45 = .ok (.if_icmp .le 6, 3) := by decide +kernel
theorem dP_addBuild_48 : decode bP_addBuild 48 = .ok (.bipush (-10), 2) := by decide +kernel
theorem dP_addBuild_50 : decode bP_addBuild 50 = .ok (.ireturn, 1) := by decide +kernel
theorem dP_addBuild_51 : decode bP_addBuild 51 = .ok (.aload_n 0, 1) := by decide +kernel
theorem dP_addBuild_52 : decode bP_addBuild 52 = .ok (.aload_n 0, 1) := by decide +kernel
theorem dP_addBuild_53 : decode bP_addBuild 53 = .ok (.iconst 0, 1) := by decide +kernel
theorem dP_addBuild_54 : decode bP_addBuild 54 = .ok (.iload_n 2, 1) := by decide +kernel
theorem dP_addBuild_55 : decode bP_addBuild 55 = .ok (.iload_n 1, 1) := by decide +kernel
theorem dP_addBuild_56 : decode bP_addBuild 56 = .ok (.invokevirtual 38, 3) := by decide +kernel
theorem dP_addBuild_59 : decode bP_addBuild 59 = .ok (.iload_n 3, 1) := by decide +kernel
theorem dP_addBuild_60 : decode bP_addBuild 60 = .ok (.iload 4, 2) := by decide +kernel
theorem dP_addBuild_62 : decode bP_addBuild 62 = .ok (.iload 5, 2) := by decide +kernel
theorem dP_addBuild_64 : decode bP_addBuild 64 = .ok (.iload 6, 2) := by decide +kernel
theorem dP_addBuild_66 : decode bP_addBuild 66 = .ok (.invokevirtual 55, 3) := by decide +kernel
theorem dP_addBuild_69 : decode bP_addBuild 69 = .ok (.ireturn, 1) := by decide +kernel
theorem dP_isOpen_0 : decode bP_isOpen 0 = .ok (.aload_n 0, 1) := by decide +kernel
theorem dP_isOpen_1 : decode bP_isOpen 1 = .ok (.iload_n 1, 1) := by decide +kernel
theorem dP_isOpen_2 : decode bP_isOpen 2 = .ok (.invokevirtual 63, 3) := by decide +kernel
theorem dP_isOpen_5 : decode bP_isOpen 5 = .ok (.ifCond .eq 17, 3) := by decide +kernel
theorem dP_isOpen_8 : decode bP_isOpen 8 = .ok (.aload_n 0, 1) := by decide +kernel
theorem dP_isOpen_9 : decode bP_isOpen 9 = .ok (.getfield 15, 3) := by decide +kernel
theorem dP_isOpen_12 : decode bP_isOpen 12 = .ok (.iload_n 1, 1) := by decide +kernel
theorem dP_isOpen_13 : decode bP_isOpen 13 = .ok (.iaload, 1) := by decide +kernel
theorem dP_isOpen_14 : decode bP_isOpen 14 = .ok (.iconst (-1), 1) := by decide +kernel
theorem dP_isOpen_15 : decode bP_isOpen 15 = .ok (.if_icmp .ne 7, 3) := by decide +kernel
theorem dP_isOpen_18 : decode bP_isOpen 18 = .ok (.iconst 1, 1) := by decide +kernel
theorem dP_isOpen_19 : decode bP_isOpen 19 = .ok (.goto 4, 3) := by decide +kernel
theorem dP_isOpen_22 : decode bP_isOpen 22 = .ok (.iconst 0, 1) := by decide +kernel
theorem dP_isOpen_23 : decode bP_isOpen 23 = .ok (.ireturn, 1) := by decide +kernel
theorem dP_addEither_0 : decode bP_addEither 0 = .ok (.aload_n 0, 1) := by decide +kernel
theorem dP_addEither_1 : decode bP_addEither 1 = .ok (.iload_n 1, 1) := by decide +kernel
theorem dP_addEither_2 : decode bP_addEither 2 = .ok (.invokevirtual 52, 3) := by decide +kernel
theorem dP_addEither_5 : decode bP_addEither 5 = .ok (.aload_n 0, 1) := by decide +kernel
theorem dP_addEither_6 : decode bP_addEither 6 = .ok (.iload_n 2, 1) := by decide +kernel
theorem dP_addEither_7 : decode bP_addEither 7 = .ok (.invokevirtual 52, 3) := by decide +kernel
theorem dP_addEither_10 : decode bP_addEither 10 = .ok (.iadd, 1) := by decide +kernel
theorem dP_addEither_11 : decode bP_addEither 11 = .ok (.istore_n 3, 1) := by decide +kernel
theorem dP_addEither_12 : decode bP_addEither 12 = .ok (.iload_n 3, 1) := by decide +kernel
theorem dP_addEither_13 : decode bP_addEither 13 = .ok (.bipush 8, 2) := by decide +kernel
theorem dP_addEither_15 : decode bP_addEither 15 = .ok (.if_icmp .le 6, 3) := by decide +kernel
theorem dP_addEither_18 : decode bP_addEither 18 = .ok (.bipush (-10), 2) := by decide +kernel
theorem dP_addEither_20 : decode bP_addEither 20 = .ok (.ireturn, 1) := by decide +kernel
theorem dP_addEither_21 : decode bP_addEither 21 = .ok (.aload_n 0, 1) := by decide +kernel
theorem dP_addEither_22 : decode bP_addEither 22 = .ok (.iload_n 1, 1) := by decide +kernel
theorem dP_addEither_23 : decode bP_addEither 23 = .ok (.invokevirtual 59, 3) := by decide +kernel
theorem dP_addEither_26 : decode bP_addEither 26 = .ok (.ifCond .eq 12, 3) := by decide +kernel
theorem dP_addEither_29 : decode bP_addEither 29 = .ok (.aload_n 0, 1) := by decide +kernel
theorem dP_addEither_30 : decode bP_addEither 30 = .ok (.getfield 15, 3) := by decide +kernel
theorem dP_addEither_33 : decode bP_addEither 33 = .ok (.iload_n 2, 1) := by decide +kernel
theorem dP_addEither_34 : decode bP_addEither 34 = .ok (.iaload, 1) := by decide +kernel
theorem dP_addEither_35 : decode bP_addEither 35 = .ok (.goto 9, 3) := by decide +kernel
theorem dP_addEither_38 : decode bP_addEither 38 = .ok (.aload_n 0, 1) := by decide +kernel
theorem dP_addEither_39 : decode bP_addEither 39 = .ok (.getfield 15, 3) := by decide +kernel
theorem dP_addEither_42 : decode bP_addEither 42 = .ok (.iload_n 1, 1) := by decide +kernel
theorem dP_addEither_43 : decode bP_addEither 43 = .ok (.iaload, 1) := by decide +kernel
theorem dP_addEither_44 : decode bP_addEither 44 = .ok (.istore 4, 2) := by decide +kernel
theorem dP_addEither_46 : decode bP_addEither 46 = .ok (.aload_n 0, 1) := by decide +kernel
theorem dP_addEither_47 : decode bP_addEither 47 = .ok (.iload_n 1, 1) := by decide +kernel
theorem dP_addEither_48 : decode bP_addEither 48 = .ok (.invokevirtual 42, 3) := by decide +kernel
theorem dP_addEither_51 : decode bP_addEither 51 = .ok (.aload_n 0, 1) := by decide +kernel
theorem dP_addEither_52 : decode bP_addEither 52 = .ok (.iload_n 2, 1) := by decide +kernel
theorem dP_addEither_53 : decode bP_addEither 53 = .ok (.invokevirtual 42, 3) := by decide +kernel
theorem dP_addEither_56 : decode bP_addEither 56 = .ok (.invokestatic 46, 3) := by decide +kernel
theorem dP_addEither_59 : decode bP_addEither 59 = .ok (.istore 5, 2) := by decide +kernel
theorem dP_addEither_61 : decode bP_addEither 61 = .ok (.aload_n 0, 1) := by decide +kernel
theorem dP_addEither_62 : decode bP_addEither 62 = .ok (.aload_n 0, 1) := by decide +kernel
theorem dP_addEither_63 : decode bP_addEither 63 = .ok (.iconst 1, 1) := by decide +kernel
theorem dP_addEither_64 : decode bP_addEither 64 = .ok (.iload 4, 2) := by decide +kernel
theorem dP_addEither_66 : decode bP_addEither 66 = .ok (.iconst 0, 1) := by decide +kernel
theorem dP_addEither_67 : decode bP_addEither 67 = .ok (.invokevirtual 38, 3) := by decide +kernel
theorem dP_addEither_70 : decode bP_addEither 70 = .ok (.iload_n 1, 1) := by decide +kernel
theorem dP_addEither_71 : decode bP_addEither 71 = .ok (.iload_n 2, 1) := by decide +kernel
theorem dP_addEither_72 : decode bP_addEither 72 = .ok (.iload 5, 2) := by decide +kernel
theorem dP_addEither_74 : decode bP_addEither 74 = .ok (.iload_n 3, 1) := by decide +kernel
theorem dP_addEither_75 : decode bP_addEither 75 = .ok (.invokevirtual 55, 3) := by decide +kernel
theorem dP_addEither_78 : decode bP_addEither 78 = .ok (.ireturn, 1) := by decide +kernel
theorem dP_fits_0 : decode bP_fits 0 = .ok (.aload_n 0, 1) := by decide +kernel
theorem dP_fits_1 : decode bP_fits 1 = .ok (.iload_n 1, 1) := by decide +kernel
theorem dP_fits_2 : decode bP_fits 2 = .ok (.invokevirtual 63, 3) := by decide +kernel
theorem dP_fits_5 : decode bP_fits 5 = .ok (.ifCond .eq 29, 3) := by decide +kernel
theorem dP_fits_8 : decode bP_fits 8 = .ok (.aload_n 0, 1) := by decide +kernel
theorem dP_fits_9 : decode bP_fits 9 = .ok (.iload_n 1, 1) := by decide +kernel
theorem dP_fits_10 : decode bP_fits 10 = .ok (.invokevirtual 59, 3) := by decide +kernel
theorem dP_fits_13 : decode bP_fits 13 = .ok (.ifCond .ne 13, 3) := by decide +kernel
theorem dP_fits_16 : decode bP_fits 16 = .ok (.aload_n 0, 1) := by decide +kernel
theorem dP_fits_17 : decode bP_fits 17 = .ok (.getfield 15, 3) := by decide +kernel
theorem dP_fits_20 : decode bP_fits 20 = .ok (.iload_n 1, 1) := by decide +kernel
theorem dP_fits_21 : decode bP_fits 21 = .ok (.iaload, 1) := by decide +kernel
theorem dP_fits_22 : decode bP_fits 22 = .ok (.iload_n 2, 1) := by decide +kernel
theorem dP_fits_23 : decode bP_fits 23 = .ok (.if_icmp .ne 7, 3) := by decide +kernel
theorem dP_fits_26 : decode bP_fits 26 = .ok (.iconst 1, 1) := by decide +kernel
theorem dP_fits_27 : decode bP_fits 27 = .ok (.goto 17, 3) := by decide +kernel
theorem dP_fits_30 : decode bP_fits 30 = .ok (.iconst 0, 1) := by decide +kernel
theorem dP_fits_31 : decode bP_fits 31 = .ok (.goto 13, 3) := by decide +kernel
theorem dP_fits_34 : decode bP_fits 34 = .ok (.iload_n 2, 1) := by decide +kernel
theorem dP_fits_35 : decode bP_fits 35 = .ok (.iconst (-1), 1) := by decide +kernel
theorem dP_fits_36 : decode bP_fits 36 = .ok (.if_icmp .ne 7, 3) := by decide +kernel
theorem dP_fits_39 : decode bP_fits 39 = .ok (.iconst 1, 1) := by decide +kernel
theorem dP_fits_40 : decode bP_fits 40 = .ok (.goto 4, 3) := by decide +kernel
theorem dP_fits_43 : decode bP_fits 43 = .ok (.iconst 0, 1) := by decide +kernel
theorem dP_fits_44 : decode bP_fits 44 = .ok (.ireturn, 1) := by decide +kernel
theorem dP_agree_0 : decode bP_agree 0 = .ok (.aload_n 0, 1) := by decide +kernel
theorem dP_agree_1 : decode bP_agree 1 = .ok (.iload_n 2, 1) := by decide +kernel
theorem dP_agree_2 : decode bP_agree 2 = .ok (.invokevirtual 59, 3) := by decide +kernel
theorem dP_agree_5 : decode bP_agree 5 = .ok (.ifCond .ne 25, 3) := by decide +kernel
theorem dP_agree_8 : decode bP_agree 8 = .ok (.aload_n 0, 1) := by decide +kernel
theorem dP_agree_9 : decode bP_agree 9 = .ok (.iload_n 2, 1) := by decide +kernel
theorem dP_agree_10 : decode bP_agree 10 = .ok (.invokevirtual 63, 3) := by decide +kernel
theorem dP_agree_13 : decode bP_agree 13 = .ok (.ifCond .eq 21, 3) := by decide +kernel
theorem dP_agree_16 : decode bP_agree 16 = .ok (.aload_n 0, 1) := by decide +kernel
theorem dP_agree_17 : decode bP_agree 17 = .ok (.iload_n 1, 1) := by decide +kernel
theorem dP_agree_18 : decode bP_agree 18 = .ok (.aload_n 0, 1) := by decide +kernel
theorem dP_agree_19 : decode bP_agree 19 = .ok (.getfield 15, 3) := by decide +kernel
theorem dP_agree_22 : decode bP_agree 22 = .ok (.iload_n 2, 1) := by decide +kernel
theorem dP_agree_23 : decode bP_agree 23 = .ok (.iaload, 1) := by decide +kernel
theorem dP_agree_24 : decode bP_agree 24 = .ok (.invokevirtual 66, 3) := by decide +kernel
theorem dP_agree_27 : decode bP_agree 27 = .ok (.ifCond .eq 7, 3) := by decide +kernel
theorem dP_agree_30 : decode bP_agree 30 = .ok (.iconst 1, 1) := by decide +kernel
theorem dP_agree_31 : decode bP_agree 31 = .ok (.goto 4, 3) := by decide +kernel
theorem dP_agree_34 : decode bP_agree 34 = .ok (.iconst 0, 1) := by decide +kernel
theorem dP_agree_35 : decode bP_agree 35 = .ok (.ireturn, 1) := by decide +kernel
theorem dP_isEither_0 : decode bP_isEither 0 = .ok (.aload_n 0, 1) := by decide +kernel
theorem dP_isEither_1 : decode bP_isEither 1 = .ok (.iload_n 1, 1) := by decide +kernel
theorem dP_isEither_2 : decode bP_isEither 2 = .ok (.invokevirtual 63, 3) := by decide +kernel
theorem dP_isEither_5 : decode bP_isEither 5 = .ok (.ifCond .eq 16, 3) := by decide +kernel
theorem dP_isEither_8 : decode bP_isEither 8 = .ok (.aload_n 0, 1) := by decide +kernel
theorem dP_isEither_9 : decode bP_isEither 9 = .ok (.getfield 9, 3) := by decide +kernel
theorem dP_isEither_12 : decode bP_isEither 12 = .ok (.iload_n 1, 1) := by decide +kernel
theorem dP_isEither_13 : decode bP_isEither 13 = .ok (.baload, 1) := by decide +kernel
theorem dP_isEither_14 : decode bP_isEither 14 = .ok (.ifCond .eq 7, 3) := by decide +kernel
theorem dP_isEither_17 : decode bP_isEither 17 = .ok (.iconst 1, 1) := by decide +kernel
theorem dP_isEither_18 : decode bP_isEither 18 = .ok (.goto 4, 3) := by decide +kernel
theorem dP_isEither_21 : decode bP_isEither 21 = .ok (.iconst 0, 1) := by decide +kernel
theorem dP_isEither_22 : decode bP_isEither 22 = .ok (.ireturn, 1) := by decide +kernel
theorem dP_itsType_0 : decode bP_itsType 0 = .ok (.aload_n 0, 1) := by decide +kernel
theorem dP_itsType_1 : decode bP_itsType 1 = .ok (.iload_n 1, 1) := by decide +kernel
theorem dP_itsType_2 : decode bP_itsType 2 = .ok (.invokevirtual 63, 3) := by decide +kernel
theorem dP_itsType_5 : decode bP_itsType 5 = .ok (.ifCond .eq 12, 3) := by decide +kernel
theorem dP_itsType_8 : decode bP_itsType 8 = .ok (.aload_n 0, 1) := by decide +kernel
theorem dP_itsType_9 : decode bP_itsType 9 = .ok (.getfield 15, 3) := by decide +kernel
theorem dP_itsType_12 : decode bP_itsType 12 = .ok (.iload_n 1, 1) := by decide +kernel
theorem dP_itsType_13 : decode bP_itsType 13 = .ok (.iaload, 1) := by decide +kernel
theorem dP_itsType_14 : decode bP_itsType 14 = .ok (.goto 4, 3) := by decide +kernel
theorem dP_itsType_17 : decode bP_itsType 17 = .ok (.iconst (-1), 1) := by decide +kernel
theorem dP_itsType_18 : decode bP_itsType 18 = .ok (.ireturn, 1) := by decide +kernel
theorem dP_symbolOf_0 : decode bP_symbolOf 0 = .ok (.aload_n 0, 1) := by decide +kernel
theorem dP_symbolOf_1 : decode bP_symbolOf 1 = .ok (.iload_n 1, 1) := by decide +kernel
theorem dP_symbolOf_2 : decode bP_symbolOf 2 = .ok (.invokevirtual 63, 3) := by decide +kernel
theorem dP_symbolOf_5 : decode bP_symbolOf 5 = .ok (.ifCond .eq 12, 3) := by decide +kernel
theorem dP_symbolOf_8 : decode bP_symbolOf 8 = .ok (.aload_n 0, 1) := by decide +kernel
theorem dP_symbolOf_9 : decode bP_symbolOf 9 = .ok (.getfield 19, 3) := by decide +kernel
theorem dP_symbolOf_12 : decode bP_symbolOf 12 = .ok (.iload_n 1, 1) := by decide +kernel
theorem dP_symbolOf_13 : decode bP_symbolOf 13 = .ok (.iaload, 1) := by decide +kernel
theorem dP_symbolOf_14 : decode bP_symbolOf 14 = .ok (.goto 4, 3) := by decide +kernel
theorem dP_symbolOf_17 : decode bP_symbolOf 17 = .ok (.iconst 0, 1) := by decide +kernel
theorem dP_symbolOf_18 : decode bP_symbolOf 18 = .ok (.ireturn, 1) := by decide +kernel
theorem dP_firstOf_0 : decode bP_firstOf 0 = .ok (.aload_n 0, 1) := by decide +kernel
theorem dP_firstOf_1 : decode bP_firstOf 1 = .ok (.iload_n 1, 1) := by decide +kernel
theorem dP_firstOf_2 : decode bP_firstOf 2 = .ok (.invokevirtual 63, 3) := by decide +kernel
theorem dP_firstOf_5 : decode bP_firstOf 5 = .ok (.ifCond .eq 12, 3) := by decide +kernel
theorem dP_firstOf_8 : decode bP_firstOf 8 = .ok (.aload_n 0, 1) := by decide +kernel
theorem dP_firstOf_9 : decode bP_firstOf 9 = .ok (.getfield 22, 3) := by decide +kernel
theorem dP_firstOf_12 : decode bP_firstOf 12 = .ok (.iload_n 1, 1) := by decide +kernel
theorem dP_firstOf_13 : decode bP_firstOf 13 = .ok (.iaload, 1) := by decide +kernel
theorem dP_firstOf_14 : decode bP_firstOf 14 = .ok (.goto 4, 3) := by decide +kernel
theorem dP_firstOf_17 : decode bP_firstOf 17 = .ok (.iconst (-1), 1) := by decide +kernel
theorem dP_firstOf_18 : decode bP_firstOf 18 = .ok (.ireturn, 1) := by decide +kernel
theorem dP_secondOf_0 : decode bP_secondOf 0 = .ok (.aload_n 0, 1) := by decide +kernel
theorem dP_secondOf_1 : decode bP_secondOf 1 = .ok (.iload_n 1, 1) := by decide +kernel
theorem dP_secondOf_2 : decode bP_secondOf 2 = .ok (.invokevirtual 63, 3) := by decide +kernel
theorem dP_secondOf_5 : decode bP_secondOf 5 = .ok (.ifCond .eq 12, 3) := by decide +kernel
theorem dP_secondOf_8 : decode bP_secondOf 8 = .ok (.aload_n 0, 1) := by decide +kernel
theorem dP_secondOf_9 : decode bP_secondOf 9 = .ok (.getfield 25, 3) := by decide +kernel
theorem dP_secondOf_12 : decode bP_secondOf 12 = .ok (.iload_n 1, 1) := by decide +kernel
theorem dP_secondOf_13 : decode bP_secondOf 13 = .ok (.iaload, 1) := by decide +kernel
theorem dP_secondOf_14 : decode bP_secondOf 14 = .ok (.goto 4, 3) := by decide +kernel
theorem dP_secondOf_17 : decode bP_secondOf 17 = .ok (.iconst (-1), 1) := by decide +kernel
theorem dP_secondOf_18 : decode bP_secondOf 18 = .ok (.ireturn, 1) := by decide +kernel
section Spatt
variable {p : Program} {l : Launch} {e : Env} {R : Room} {s : State} {m : MethodId} {args : Array Value} {below : List Frame} {meth : Method} {c : Code} {Q : State → Prop} {D : va_G} {cA : Nat → ClassId} {ad : Nat → Nat} {H0 : Heap}
def fP_reset (st : ck_S) : Option ck_S := (some (ck_u st 2 7 (0 : Int32)))
set_option maxRecDepth 100000 in
set_option maxHeartbeats 4000000 in
theorem cP_reset (l : Launch) (D : va_G) (cA : Nat → ClassId) (ad : Nat → Nat) {st : ck_S} {st0 : ck_S} (hf : fP_reset st = some st0) : Met l yP_reset (.code yP_reset bP_reset 1 none :: ck_T) (ck_R 0) (va_Pc [.ref (ad 2)] (ck_P sh_C cm_cl D cA ad st)) (va_Qv (fun u => u = st0) (ck_P sh_C cm_cl D cA ad) (ck_A ad sh_C.length)) 0 0 (ck_A ad sh_C.length) := by
  refine ck_met_v (own := R_P) (by decide +kernel) rfl (Nat.le_of_ble_eq_true rfl) (fun p e R s m args below meth c H0 Q ls C hret h hl => ?_)
  have C1 := C
  obtain ⟨hx, hb, hml, hown, hts, hK, hlv, hlo⟩ := C1
  have hl : lv_has ls 1 [(0, .ref (ad 2))] := hl
  unfold fP_reset at hf
  refine lv_aload_n hx hb dP_reset_0 rfl (lv_at hl 0 rfl) ?_
  refine lv_iconst (v := 0) hx hb dP_reset_1 (by decide) ?_
  refine ck_pi C h GP_count rfl rfl dP_reset_2 (fun H locs h => ?_)
  exact ck_rv hf hret h dP_reset_5
def fP_has (x1 : Int32) (st : ck_S) : Option (Int32 × ck_S) := (if x1 < 0 then (some ((0 : Int32), st)) else (if (st 2 7) ≤ x1 then (some ((0 : Int32), st)) else (some ((1 : Int32), st))))
set_option maxRecDepth 100000 in
set_option maxHeartbeats 4000000 in
theorem cP_has (l : Launch) (D : va_G) (cA : Nat → ClassId) (ad : Nat → Nat) {x1 : Int32} {st : ck_S} {r0 : Int32} {st0 : ck_S} (hf : fP_has x1 st = some (r0, st0)) : Met l yP_has (.code yP_has bP_has 2 (some .boolean) :: ck_T) (ck_R 0) (va_Pc [.ref (ad 2), .int x1] (ck_P sh_C cm_cl D cA ad st)) (va_Qi (fun a u => a = r0 ∧ u = st0) (ck_P sh_C cm_cl D cA ad) (ck_A ad sh_C.length)) 0 0 (ck_A ad sh_C.length) := by
  refine ck_met_z (own := R_P) (by decide +kernel) rfl (Nat.le_of_ble_eq_true rfl) (fun p e R s m args below meth c H0 Q ls C hret h hl => ?_)
  have C1 := C
  obtain ⟨hx, hb, hml, hown, hts, hK, hlv, hlo⟩ := C1
  have hl : lv_has ls 2 [(0, .ref (ad 2)), (1, .int x1)] := hl
  unfold fP_has at hf
  refine lv_iload_n hx hb dP_has_0 rfl (lv_at hl 1 rfl) ?_
  refine lv_if_lt (tgt := 16) hx hb dP_has_1 rfl (fun hq => ?_) (fun hq => ?_)
  · have hf := ck_t hq hf
    refine lv_iconst (v := 0) hx hb dP_has_16 (by decide) ?_
    exact ck_rz hf hret ck_z0 h dP_has_17
  · have hf := ck_f hq hf
    refine lv_iload_n hx hb dP_has_4 rfl (lv_at hl 1 rfl) ?_
    refine lv_aload_n hx hb dP_has_5 rfl (lv_at hl 0 rfl) ?_
    refine ck_gi (x := (st 2 7)) C h FP_count rfl dP_has_6 ?_
    refine lv_icmp_ge (tgt := 16) hx hb dP_has_9 rfl (fun hq => ?_) (fun hq => ?_)
    · have hf := ck_t hq hf
      refine lv_iconst (v := 0) hx hb dP_has_16 (by decide) ?_
      exact ck_rz hf hret ck_z0 h dP_has_17
    · have hf := ck_f hq hf
      refine lv_iconst (v := 1) hx hb dP_has_12 (by decide) ?_
      refine lv_goto (tgt := 17) hx hb dP_has_13 rfl ?_
      exact ck_rz hf hret ck_z1 h dP_has_17
def fP_withParts (x1 : Int32) (x2 : Int32) (x3 : Int32) (x4 : Int32) (x5 : Int32) (st : ck_S) : Option (Int32 × ck_S) := (ck_b (fP_has x1 st) fun v2 st1 => (if v2 = 0 then (some (x1, st1)) else (ck_gd x1 60 (ck_gd x1 60 (ck_gd x1 60 (ck_gd x1 60 (some (x1, (ck_u (ck_u (ck_u (ck_u st1 13 (x1).toNatClampNeg x2) 14 (x1).toNatClampNeg x3) 15 (x1).toNatClampNeg x4) 16 (x1).toNatClampNeg x5)))))))))
set_option maxRecDepth 100000 in
set_option maxHeartbeats 4000000 in
theorem cP_withParts (l : Launch) (D : va_G) (cA : Nat → ClassId) (ad : Nat → Nat) {x1 : Int32} {x2 : Int32} {x3 : Int32} {x4 : Int32} {x5 : Int32} {st : ck_S} {r0 : Int32} {st0 : ck_S} (hf : fP_withParts x1 x2 x3 x4 x5 st = some (r0, st0)) : Met l yP_withParts (.code yP_withParts bP_withParts 6 (some .int) :: ck_T) (ck_R 1) (va_Pc [.ref (ad 2), .int x1, .int x2, .int x3, .int x4, .int x5] (ck_P sh_C cm_cl D cA ad st)) (va_Qi (fun a u => a = r0 ∧ u = st0) (ck_P sh_C cm_cl D cA ad) (ck_A ad sh_C.length)) 0 0 (ck_A ad sh_C.length) := by
  refine ck_met_i (own := R_P) (by decide +kernel) rfl (Nat.le_of_ble_eq_true rfl) (fun p e R s m args below meth c H0 Q ls C hret h hl => ?_)
  have C1 := C
  obtain ⟨hx, hb, hml, hown, hts, hK, hlv, hlo⟩ := C1
  have hl : lv_has ls 6 [(0, .ref (ad 2)), (1, .int x1), (2, .int x2), (3, .int x3), (4, .int x4), (5, .int x5)] := hl
  unfold fP_withParts at hf
  refine lv_aload_n hx hb dP_withParts_0 rfl (lv_at hl 0 rfl) ?_
  refine lv_iload_n hx hb dP_withParts_1 rfl (lv_at hl 1 rfl) ?_
  obtain ⟨v2, st1, hc, hf⟩ := ck_b_e hf
  refine ck_vi (As := [.int x1]) (rest := []) (q := 2) C h hl CP_P_has sP_has q_P (cP_has l D cA ad hc) (Nat.le_of_ble_eq_true rfl) rfl rfl (Nat.le_of_ble_eq_true rfl) dP_withParts_2 (fun H locs h => ?_)
  refine lv_if_ne (tgt := 10) hx hb dP_withParts_5 rfl (fun hq => ?_) (fun hq => ?_)
  · have hf := ck_f hq hf
    refine lv_aload_n hx hb dP_withParts_10 rfl (lv_at hl 0 rfl) ?_
    refine ck_gr C h FP_first dP_withParts_11 ?_
    refine lv_iload_n hx hb dP_withParts_14 rfl (lv_at hl 1 rfl) ?_
    refine lv_iload_n hx hb dP_withParts_15 rfl (lv_at hl 2 rfl) ?_
    obtain ⟨hg, hf⟩ := ck_gd_e hf
    refine ck_si C h (show sh_C[13]? = some (.inr (0, 60)) from rfl) hg dP_withParts_16 (fun H locs h => ?_)
    refine lv_aload_n hx hb dP_withParts_17 rfl (lv_at hl 0 rfl) ?_
    refine ck_gr C h FP_second dP_withParts_18 ?_
    refine lv_iload_n hx hb dP_withParts_21 rfl (lv_at hl 1 rfl) ?_
    refine lv_iload_n hx hb dP_withParts_22 rfl (lv_at hl 3 rfl) ?_
    obtain ⟨hg, hf⟩ := ck_gd_e hf
    refine ck_si C h (show sh_C[14]? = some (.inr (0, 60)) from rfl) hg dP_withParts_23 (fun H locs h => ?_)
    refine lv_aload_n hx hb dP_withParts_24 rfl (lv_at hl 0 rfl) ?_
    refine ck_gr C h FP_depth dP_withParts_25 ?_
    refine lv_iload_n hx hb dP_withParts_28 rfl (lv_at hl 1 rfl) ?_
    refine lv_iload hx hb dP_withParts_29 (lv_at hl 4 rfl) ?_
    obtain ⟨hg, hf⟩ := ck_gd_e hf
    refine ck_si C h (show sh_C[15]? = some (.inr (0, 60)) from rfl) hg dP_withParts_31 (fun H locs h => ?_)
    refine lv_aload_n hx hb dP_withParts_32 rfl (lv_at hl 0 rfl) ?_
    refine ck_gr C h FP_alternatives dP_withParts_33 ?_
    refine lv_iload_n hx hb dP_withParts_36 rfl (lv_at hl 1 rfl) ?_
    refine lv_iload hx hb dP_withParts_37 (lv_at hl 5 rfl) ?_
    obtain ⟨hg, hf⟩ := ck_gd_e hf
    refine ck_si C h (show sh_C[16]? = some (.inr (0, 60)) from rfl) hg dP_withParts_39 (fun H locs h => ?_)
    refine lv_iload_n hx hb dP_withParts_40 rfl (lv_at hl 1 rfl) ?_
    exact ck_ri hf hret h dP_withParts_41
  · have hf := ck_t hq hf
    refine lv_iload_n hx hb dP_withParts_8 rfl (lv_at hl 1 rfl) ?_
    exact ck_ri hf hret h dP_withParts_9
def fP_add (x1 : Int32) (x2 : Int32) (x3 : Int32) (st : ck_S) : Option (Int32 × ck_S) := (if (st 2 7) < (60 : Int32) then (ck_gd (st 2 7) 60 (ck_gd (st 2 7) 60 (ck_gd (st 2 7) 60 (ck_b (fP_withParts (st 2 7) (-1 : Int32) (-1 : Int32) (1 : Int32) (1 : Int32) (ck_u (ck_u (ck_u (ck_u st 2 7 ((st 2 7) + (1 : Int32))) 10 ((st 2 7)).toNatClampNeg (vp_nar .boolean x1)) 11 ((st 2 7)).toNatClampNeg x2) 12 ((st 2 7)).toNatClampNeg x3)) fun v2 st1 => (some (v2, st1)))))) else (some ((-8 : Int32), st)))
set_option maxRecDepth 100000 in
set_option maxHeartbeats 4000000 in
theorem cP_add (l : Launch) (D : va_G) (cA : Nat → ClassId) (ad : Nat → Nat) {x1 : Int32} {x2 : Int32} {x3 : Int32} {st : ck_S} {r0 : Int32} {st0 : ck_S} (hf : fP_add x1 x2 x3 st = some (r0, st0)) : Met l yP_add (.code yP_add bP_add 5 (some .int) :: ck_T) (ck_R 2) (va_Pc [.ref (ad 2), .int x1, .int x2, .int x3] (ck_P sh_C cm_cl D cA ad st)) (va_Qi (fun a u => a = r0 ∧ u = st0) (ck_P sh_C cm_cl D cA ad) (ck_A ad sh_C.length)) 0 0 (ck_A ad sh_C.length) := by
  refine ck_met_i (own := R_P) (by decide +kernel) rfl (Nat.le_of_ble_eq_true rfl) (fun p e R s m args below meth c H0 Q ls C hret h hl => ?_)
  have C1 := C
  obtain ⟨hx, hb, hml, hown, hts, hK, hlv, hlo⟩ := C1
  have hl : lv_has ls 5 [(0, .ref (ad 2)), (1, .int x1), (2, .int x2), (3, .int x3)] := hl
  unfold fP_add at hf
  refine lv_aload_n hx hb dP_add_0 rfl (lv_at hl 0 rfl) ?_
  refine ck_gi (x := (st 2 7)) C h FP_count rfl dP_add_1 ?_
  refine lv_bipush (v := 60) hx hb dP_add_4 (by decide) ?_
  refine lv_icmp_lt (tgt := 12) hx hb dP_add_6 rfl (fun hq => ?_) (fun hq => ?_)
  · have hf := ck_t hq hf
    refine lv_aload_n hx hb dP_add_12 rfl (lv_at hl 0 rfl) ?_
    refine ck_gi (x := (st 2 7)) C h FP_count rfl dP_add_13 ?_
    refine lv_istore (lv' := [(4, .int (st 2 7)), (0, .ref (ad 2)), (1, .int x1), (2, .int x2), (3, .int x3)]) hx hb dP_add_16 hl (by decide) rfl (fun ls hl => ?_)
    refine lv_aload_n hx hb dP_add_18 rfl (lv_at hl 1 rfl) ?_
    refine lv_dup hx hb dP_add_19 rfl ?_
    refine ck_gi (x := (st 2 7)) C h FP_count rfl dP_add_20 ?_
    refine lv_iconst (v := 1) hx hb dP_add_23 (by decide) ?_
    refine lv_iadd hx hb dP_add_24 ?_
    refine ck_pi C h GP_count rfl rfl dP_add_25 (fun H locs h => ?_)
    refine lv_aload_n hx hb dP_add_28 rfl (lv_at hl 1 rfl) ?_
    refine ck_gr C h FP_twofold dP_add_29 ?_
    refine lv_iload hx hb dP_add_32 (lv_at hl 0 rfl) ?_
    refine lv_iload_n hx hb dP_add_34 rfl (lv_at hl 2 rfl) ?_
    obtain ⟨hg, hf⟩ := ck_gd_e hf
    refine ck_sz C h (show sh_C[10]? = some (.inr (1, 60)) from rfl) hg dP_add_35 (fun H locs h => ?_)
    refine lv_aload_n hx hb dP_add_36 rfl (lv_at hl 1 rfl) ?_
    refine ck_gr C h FP_typeOf dP_add_37 ?_
    refine lv_iload hx hb dP_add_40 (lv_at hl 0 rfl) ?_
    refine lv_iload_n hx hb dP_add_42 rfl (lv_at hl 3 rfl) ?_
    obtain ⟨hg, hf⟩ := ck_gd_e hf
    refine ck_si C h (show sh_C[11]? = some (.inr (0, 60)) from rfl) hg dP_add_43 (fun H locs h => ?_)
    refine lv_aload_n hx hb dP_add_44 rfl (lv_at hl 1 rfl) ?_
    refine ck_gr C h FP_symbol dP_add_45 ?_
    refine lv_iload hx hb dP_add_48 (lv_at hl 0 rfl) ?_
    refine lv_iload_n hx hb dP_add_50 rfl (lv_at hl 4 rfl) ?_
    obtain ⟨hg, hf⟩ := ck_gd_e hf
    refine ck_si C h (show sh_C[12]? = some (.inr (0, 60)) from rfl) hg dP_add_51 (fun H locs h => ?_)
    refine lv_aload_n hx hb dP_add_52 rfl (lv_at hl 1 rfl) ?_
    refine lv_iload hx hb dP_add_53 (lv_at hl 0 rfl) ?_
    refine lv_iconst (v := (-1)) hx hb dP_add_55 (by decide) ?_
    refine lv_iconst (v := (-1)) hx hb dP_add_56 (by decide) ?_
    refine lv_iconst (v := 1) hx hb dP_add_57 (by decide) ?_
    refine lv_iconst (v := 1) hx hb dP_add_58 (by decide) ?_
    obtain ⟨v2, st1, hc, hf⟩ := ck_b_e hf
    refine ck_vi (As := [.int (st 2 7), .int (-1 : Int32), .int (-1 : Int32), .int (1 : Int32), .int (1 : Int32)]) (rest := []) (q := 2) C h hl CP_P_withParts sP_withParts q_P (cP_withParts l D cA ad hc) (Nat.le_of_ble_eq_true rfl) rfl rfl (Nat.le_of_ble_eq_true rfl) dP_add_59 (fun H locs h => ?_)
    exact ck_ri hf hret h dP_add_62
  · have hf := ck_f hq hf
    refine lv_bipush (v := (-8)) hx hb dP_add_9 (by decide) ?_
    exact ck_ri hf hret h dP_add_11
def fP_addAny (st : ck_S) : Option (Int32 × ck_S) := (ck_b (fP_add (0 : Int32) (-1 : Int32) (0 : Int32) st) fun v2 st1 => (some (v2, st1)))
set_option maxRecDepth 100000 in
set_option maxHeartbeats 4000000 in
theorem cP_addAny (l : Launch) (D : va_G) (cA : Nat → ClassId) (ad : Nat → Nat) {st : ck_S} {r0 : Int32} {st0 : ck_S} (hf : fP_addAny st = some (r0, st0)) : Met l yP_addAny (.code yP_addAny bP_addAny 1 (some .int) :: ck_T) (ck_R 3) (va_Pc [.ref (ad 2)] (ck_P sh_C cm_cl D cA ad st)) (va_Qi (fun a u => a = r0 ∧ u = st0) (ck_P sh_C cm_cl D cA ad) (ck_A ad sh_C.length)) 0 0 (ck_A ad sh_C.length) := by
  refine ck_met_i (own := R_P) (by decide +kernel) rfl (Nat.le_of_ble_eq_true rfl) (fun p e R s m args below meth c H0 Q ls C hret h hl => ?_)
  have C1 := C
  obtain ⟨hx, hb, hml, hown, hts, hK, hlv, hlo⟩ := C1
  have hl : lv_has ls 1 [(0, .ref (ad 2))] := hl
  unfold fP_addAny at hf
  refine lv_aload_n hx hb dP_addAny_0 rfl (lv_at hl 0 rfl) ?_
  refine lv_iconst (v := 0) hx hb dP_addAny_1 (by decide) ?_
  refine lv_iconst (v := (-1)) hx hb dP_addAny_2 (by decide) ?_
  refine lv_iconst (v := 0) hx hb dP_addAny_3 (by decide) ?_
  obtain ⟨v2, st1, hc, hf⟩ := ck_b_e hf
  refine ck_vi (As := [.int (0 : Int32), .int (-1 : Int32), .int (0 : Int32)]) (rest := []) (q := 2) C h hl CP_P_add sP_add q_P (cP_add l D cA ad hc) (Nat.le_of_ble_eq_true rfl) rfl rfl (Nat.le_of_ble_eq_true rfl) dP_addAny_4 (fun H locs h => ?_)
  exact ck_ri hf hret h dP_addAny_7
def fP_addNumber (x1 : Int32) (st : ck_S) : Option (Int32 × ck_S) := (ck_b (fP_add (0 : Int32) (0 : Int32) x1 st) fun v2 st1 => (some (v2, st1)))
set_option maxRecDepth 100000 in
set_option maxHeartbeats 4000000 in
theorem cP_addNumber (l : Launch) (D : va_G) (cA : Nat → ClassId) (ad : Nat → Nat) {x1 : Int32} {st : ck_S} {r0 : Int32} {st0 : ck_S} (hf : fP_addNumber x1 st = some (r0, st0)) : Met l yP_addNumber (.code yP_addNumber bP_addNumber 2 (some .int) :: ck_T) (ck_R 3) (va_Pc [.ref (ad 2), .int x1] (ck_P sh_C cm_cl D cA ad st)) (va_Qi (fun a u => a = r0 ∧ u = st0) (ck_P sh_C cm_cl D cA ad) (ck_A ad sh_C.length)) 0 0 (ck_A ad sh_C.length) := by
  refine ck_met_i (own := R_P) (by decide +kernel) rfl (Nat.le_of_ble_eq_true rfl) (fun p e R s m args below meth c H0 Q ls C hret h hl => ?_)
  have C1 := C
  obtain ⟨hx, hb, hml, hown, hts, hK, hlv, hlo⟩ := C1
  have hl : lv_has ls 2 [(0, .ref (ad 2)), (1, .int x1)] := hl
  unfold fP_addNumber at hf
  refine lv_aload_n hx hb dP_addNumber_0 rfl (lv_at hl 0 rfl) ?_
  refine lv_iconst (v := 0) hx hb dP_addNumber_1 (by decide) ?_
  refine lv_iconst (v := 0) hx hb dP_addNumber_2 (by decide) ?_
  refine lv_iload_n hx hb dP_addNumber_3 rfl (lv_at hl 1 rfl) ?_
  obtain ⟨v2, st1, hc, hf⟩ := ck_b_e hf
  refine ck_vi (As := [.int (0 : Int32), .int (0 : Int32), .int x1]) (rest := []) (q := 2) C h hl CP_P_add sP_add q_P (cP_add l D cA ad hc) (Nat.le_of_ble_eq_true rfl) rfl rfl (Nat.le_of_ble_eq_true rfl) dP_addNumber_4 (fun H locs h => ?_)
  exact ck_ri hf hret h dP_addNumber_7
def fP_depthOf (x1 : Int32) (st : ck_S) : Option (Int32 × ck_S) := (ck_b (fP_has x1 st) fun v2 st1 => (if v2 = 0 then (some ((0 : Int32), st1)) else (ck_gd x1 60 (some ((st1 15 (x1).toNatClampNeg), st1)))))
set_option maxRecDepth 100000 in
set_option maxHeartbeats 4000000 in
theorem cP_depthOf (l : Launch) (D : va_G) (cA : Nat → ClassId) (ad : Nat → Nat) {x1 : Int32} {st : ck_S} {r0 : Int32} {st0 : ck_S} (hf : fP_depthOf x1 st = some (r0, st0)) : Met l yP_depthOf (.code yP_depthOf bP_depthOf 2 (some .int) :: ck_T) (ck_R 1) (va_Pc [.ref (ad 2), .int x1] (ck_P sh_C cm_cl D cA ad st)) (va_Qi (fun a u => a = r0 ∧ u = st0) (ck_P sh_C cm_cl D cA ad) (ck_A ad sh_C.length)) 0 0 (ck_A ad sh_C.length) := by
  refine ck_met_i (own := R_P) (by decide +kernel) rfl (Nat.le_of_ble_eq_true rfl) (fun p e R s m args below meth c H0 Q ls C hret h hl => ?_)
  have C1 := C
  obtain ⟨hx, hb, hml, hown, hts, hK, hlv, hlo⟩ := C1
  have hl : lv_has ls 2 [(0, .ref (ad 2)), (1, .int x1)] := hl
  unfold fP_depthOf at hf
  refine lv_aload_n hx hb dP_depthOf_0 rfl (lv_at hl 0 rfl) ?_
  refine lv_iload_n hx hb dP_depthOf_1 rfl (lv_at hl 1 rfl) ?_
  obtain ⟨v2, st1, hc, hf⟩ := ck_b_e hf
  refine ck_vi (As := [.int x1]) (rest := []) (q := 2) C h hl CP_P_has sP_has q_P (cP_has l D cA ad hc) (Nat.le_of_ble_eq_true rfl) rfl rfl (Nat.le_of_ble_eq_true rfl) dP_depthOf_2 (fun H locs h => ?_)
  refine lv_if_eq (tgt := 17) hx hb dP_depthOf_5 rfl (fun hq => ?_) (fun hq => ?_)
  · have hf := ck_t hq hf
    refine lv_iconst (v := 0) hx hb dP_depthOf_17 (by decide) ?_
    exact ck_ri hf hret h dP_depthOf_18
  · have hf := ck_f hq hf
    refine lv_aload_n hx hb dP_depthOf_8 rfl (lv_at hl 0 rfl) ?_
    refine ck_gr C h FP_depth dP_depthOf_9 ?_
    refine lv_iload_n hx hb dP_depthOf_12 rfl (lv_at hl 1 rfl) ?_
    obtain ⟨hg, hf⟩ := ck_gd_e hf
    refine ck_ai (x := (st1 15 (x1).toNatClampNeg)) C h (show sh_C[15]? = some (.inr (0, 60)) from rfl) hg rfl dP_depthOf_13 ?_
    refine lv_goto (tgt := 18) hx hb dP_depthOf_14 rfl ?_
    exact ck_ri hf hret h dP_depthOf_18
def fP_choicesOf (x1 : Int32) (st : ck_S) : Option (Int32 × ck_S) := (ck_b (fP_has x1 st) fun v2 st1 => (if v2 = 0 then (some ((1 : Int32), st1)) else (ck_gd x1 60 (some ((ck_mxv (1 : Int32) (st1 16 (x1).toNatClampNeg)), st1)))))
set_option maxRecDepth 100000 in
set_option maxHeartbeats 4000000 in
theorem cP_choicesOf (l : Launch) (D : va_G) (cA : Nat → ClassId) (ad : Nat → Nat) {x1 : Int32} {st : ck_S} {r0 : Int32} {st0 : ck_S} (hf : fP_choicesOf x1 st = some (r0, st0)) : Met l yP_choicesOf (.code yP_choicesOf bP_choicesOf 2 (some .int) :: ck_T) (ck_R 1) (va_Pc [.ref (ad 2), .int x1] (ck_P sh_C cm_cl D cA ad st)) (va_Qi (fun a u => a = r0 ∧ u = st0) (ck_P sh_C cm_cl D cA ad) (ck_A ad sh_C.length)) 0 0 (ck_A ad sh_C.length) := by
  refine ck_met_i (own := R_P) (by decide +kernel) rfl (Nat.le_of_ble_eq_true rfl) (fun p e R s m args below meth c H0 Q ls C hret h hl => ?_)
  have C1 := C
  obtain ⟨hx, hb, hml, hown, hts, hK, hlv, hlo⟩ := C1
  have hl : lv_has ls 2 [(0, .ref (ad 2)), (1, .int x1)] := hl
  unfold fP_choicesOf at hf
  refine lv_aload_n hx hb dP_choicesOf_0 rfl (lv_at hl 0 rfl) ?_
  refine lv_iload_n hx hb dP_choicesOf_1 rfl (lv_at hl 1 rfl) ?_
  obtain ⟨v2, st1, hc, hf⟩ := ck_b_e hf
  refine ck_vi (As := [.int x1]) (rest := []) (q := 2) C h hl CP_P_has sP_has q_P (cP_has l D cA ad hc) (Nat.le_of_ble_eq_true rfl) rfl rfl (Nat.le_of_ble_eq_true rfl) dP_choicesOf_2 (fun H locs h => ?_)
  refine lv_if_eq (tgt := 21) hx hb dP_choicesOf_5 rfl (fun hq => ?_) (fun hq => ?_)
  · have hf := ck_t hq hf
    refine lv_iconst (v := 1) hx hb dP_choicesOf_21 (by decide) ?_
    exact ck_ri hf hret h dP_choicesOf_22
  · have hf := ck_f hq hf
    refine lv_iconst (v := 1) hx hb dP_choicesOf_8 (by decide) ?_
    refine lv_aload_n hx hb dP_choicesOf_9 rfl (lv_at hl 0 rfl) ?_
    refine ck_gr C h FP_alternatives dP_choicesOf_10 ?_
    refine lv_iload_n hx hb dP_choicesOf_13 rfl (lv_at hl 1 rfl) ?_
    obtain ⟨hg, hf⟩ := ck_gd_e hf
    refine ck_ai (x := (st1 16 (x1).toNatClampNeg)) C h (show sh_C[16]? = some (.inr (0, 60)) from rfl) hg rfl dP_choicesOf_14 ?_
    refine ck_mx C hl (ck_T_mk (List.mem_of_getElem? (i := 433) (by decide +kernel)) (by decide +kernel)) (Nat.le_of_ble_eq_true rfl) (Nat.le_of_ble_eq_true rfl) dP_choicesOf_15 ?_
    refine lv_goto (tgt := 22) hx hb dP_choicesOf_18 rfl ?_
    exact ck_ri hf hret h dP_choicesOf_22
def fP_addBuild (x1 : Int32) (x2 : Int32) (x3 : Int32) (x4 : Int32) (st : ck_S) : Option (Int32 × ck_S) := (ck_b (fP_depthOf x3 st) fun v2 st1 => (ck_b (fP_depthOf x4 st1) fun v4 st3 => (if ((1 : Int32) + (ck_mxv v2 v4)) ≤ (4 : Int32) then (ck_b (fP_choicesOf x3 st3) fun v6 st5 => (ck_b (fP_choicesOf x4 st5) fun v8 st7 => (if (v6 * v8) ≤ (8 : Int32) then (ck_b (fP_add (0 : Int32) x2 x1 st7) fun v10 st9 => (ck_b (fP_withParts v10 x3 x4 ((1 : Int32) + (ck_mxv v2 v4)) (v6 * v8) st9) fun v12 st11 => (some (v12, st11)))) else (some ((-10 : Int32), st7))))) else (some ((-9 : Int32), st3)))))
set_option maxRecDepth 100000 in
set_option maxHeartbeats 4000000 in
theorem cP_addBuild (l : Launch) (D : va_G) (cA : Nat → ClassId) (ad : Nat → Nat) {x1 : Int32} {x2 : Int32} {x3 : Int32} {x4 : Int32} {st : ck_S} {r0 : Int32} {st0 : ck_S} (hf : fP_addBuild x1 x2 x3 x4 st = some (r0, st0)) : Met l yP_addBuild (.code yP_addBuild bP_addBuild 7 (some .int) :: ck_T) (ck_R 3) (va_Pc [.ref (ad 2), .int x1, .int x2, .int x3, .int x4] (ck_P sh_C cm_cl D cA ad st)) (va_Qi (fun a u => a = r0 ∧ u = st0) (ck_P sh_C cm_cl D cA ad) (ck_A ad sh_C.length)) 0 0 (ck_A ad sh_C.length) := by
  refine ck_met_i (own := R_P) (by decide +kernel) rfl (Nat.le_of_ble_eq_true rfl) (fun p e R s m args below meth c H0 Q ls C hret h hl => ?_)
  have C1 := C
  obtain ⟨hx, hb, hml, hown, hts, hK, hlv, hlo⟩ := C1
  have hl : lv_has ls 7 [(0, .ref (ad 2)), (1, .int x1), (2, .int x2), (3, .int x3), (4, .int x4)] := hl
  unfold fP_addBuild at hf
  refine lv_iconst (v := 1) hx hb dP_addBuild_0 (by decide) ?_
  refine lv_aload_n hx hb dP_addBuild_1 rfl (lv_at hl 0 rfl) ?_
  refine lv_iload_n hx hb dP_addBuild_2 rfl (lv_at hl 3 rfl) ?_
  obtain ⟨v2, st1, hc, hf⟩ := ck_b_e hf
  refine ck_vi (As := [.int x3]) (rest := [.int (1 : Int32)]) (q := 2) C h hl CP_P_depthOf sP_depthOf q_P (cP_depthOf l D cA ad hc) (Nat.le_of_ble_eq_true rfl) rfl rfl (Nat.le_of_ble_eq_true rfl) dP_addBuild_3 (fun H locs h => ?_)
  refine lv_aload_n hx hb dP_addBuild_6 rfl (lv_at hl 0 rfl) ?_
  refine lv_iload hx hb dP_addBuild_7 (lv_at hl 4 rfl) ?_
  obtain ⟨v4, st3, hc, hf⟩ := ck_b_e hf
  refine ck_vi (As := [.int x4]) (rest := [.int v2, .int (1 : Int32)]) (q := 2) C h hl CP_P_depthOf sP_depthOf q_P (cP_depthOf l D cA ad hc) (Nat.le_of_ble_eq_true rfl) rfl rfl (Nat.le_of_ble_eq_true rfl) dP_addBuild_9 (fun H locs h => ?_)
  refine ck_mx C hl (ck_T_mk (List.mem_of_getElem? (i := 433) (by decide +kernel)) (by decide +kernel)) (Nat.le_of_ble_eq_true rfl) (Nat.le_of_ble_eq_true rfl) dP_addBuild_12 ?_
  refine lv_iadd hx hb dP_addBuild_15 ?_
  refine lv_istore (lv' := [(5, .int ((1 : Int32) + (ck_mxv v2 v4))), (0, .ref (ad 2)), (1, .int x1), (2, .int x2), (3, .int x3), (4, .int x4)]) hx hb dP_addBuild_16 hl (by decide) rfl (fun ls hl => ?_)
  refine lv_iload hx hb dP_addBuild_18 (lv_at hl 0 rfl) ?_
  refine lv_iconst (v := 4) hx hb dP_addBuild_20 (by decide) ?_
  refine lv_icmp_le (tgt := 27) hx hb dP_addBuild_21 rfl (fun hq => ?_) (fun hq => ?_)
  · have hf := ck_t hq hf
    refine lv_aload_n hx hb dP_addBuild_27 rfl (lv_at hl 1 rfl) ?_
    refine lv_iload_n hx hb dP_addBuild_28 rfl (lv_at hl 4 rfl) ?_
    obtain ⟨v6, st5, hc, hf⟩ := ck_b_e hf
    refine ck_vi (As := [.int x3]) (rest := []) (q := 2) C h hl CP_P_choicesOf sP_choicesOf q_P (cP_choicesOf l D cA ad hc) (Nat.le_of_ble_eq_true rfl) rfl rfl (Nat.le_of_ble_eq_true rfl) dP_addBuild_29 (fun H locs h => ?_)
    refine lv_aload_n hx hb dP_addBuild_32 rfl (lv_at hl 1 rfl) ?_
    refine lv_iload hx hb dP_addBuild_33 (lv_at hl 5 rfl) ?_
    obtain ⟨v8, st7, hc, hf⟩ := ck_b_e hf
    refine ck_vi (As := [.int x4]) (rest := [.int v6]) (q := 2) C h hl CP_P_choicesOf sP_choicesOf q_P (cP_choicesOf l D cA ad hc) (Nat.le_of_ble_eq_true rfl) rfl rfl (Nat.le_of_ble_eq_true rfl) dP_addBuild_35 (fun H locs h => ?_)
    refine lv_imul hx hb dP_addBuild_38 ?_
    refine lv_istore (lv' := [(6, .int (v6 * v8)), (5, .int ((1 : Int32) + (ck_mxv v2 v4))), (0, .ref (ad 2)), (1, .int x1), (2, .int x2), (3, .int x3), (4, .int x4)]) hx hb dP_addBuild_39 hl (by decide) rfl (fun ls hl => ?_)
    refine lv_iload hx hb dP_addBuild_41 (lv_at hl 0 rfl) ?_
    refine lv_bipush (v := 8) hx hb dP_addBuild_43 (by decide) ?_
    refine lv_icmp_le (tgt := 51) hx hb dP_addBuild_45 rfl (fun hq => ?_) (fun hq => ?_)
    · have hf := ck_t hq hf
      refine lv_aload_n hx hb dP_addBuild_51 rfl (lv_at hl 2 rfl) ?_
      refine lv_aload_n hx hb dP_addBuild_52 rfl (lv_at hl 2 rfl) ?_
      refine lv_iconst (v := 0) hx hb dP_addBuild_53 (by decide) ?_
      refine lv_iload_n hx hb dP_addBuild_54 rfl (lv_at hl 4 rfl) ?_
      refine lv_iload_n hx hb dP_addBuild_55 rfl (lv_at hl 3 rfl) ?_
      obtain ⟨v10, st9, hc, hf⟩ := ck_b_e hf
      refine ck_vi (As := [.int (0 : Int32), .int x2, .int x1]) (rest := [.ref (ad 2)]) (q := 2) C h hl CP_P_add sP_add q_P (cP_add l D cA ad hc) (Nat.le_of_ble_eq_true rfl) rfl rfl (Nat.le_of_ble_eq_true rfl) dP_addBuild_56 (fun H locs h => ?_)
      refine lv_iload_n hx hb dP_addBuild_59 rfl (lv_at hl 5 rfl) ?_
      refine lv_iload hx hb dP_addBuild_60 (lv_at hl 6 rfl) ?_
      refine lv_iload hx hb dP_addBuild_62 (lv_at hl 1 rfl) ?_
      refine lv_iload hx hb dP_addBuild_64 (lv_at hl 0 rfl) ?_
      obtain ⟨v12, st11, hc, hf⟩ := ck_b_e hf
      refine ck_vi (As := [.int v10, .int x3, .int x4, .int ((1 : Int32) + (ck_mxv v2 v4)), .int (v6 * v8)]) (rest := []) (q := 2) C h hl CP_P_withParts sP_withParts q_P (cP_withParts l D cA ad hc) (Nat.le_of_ble_eq_true rfl) rfl rfl (Nat.le_of_ble_eq_true rfl) dP_addBuild_66 (fun H locs h => ?_)
      exact ck_ri hf hret h dP_addBuild_69
    · have hf := ck_f hq hf
      refine lv_bipush (v := (-10)) hx hb dP_addBuild_48 (by decide) ?_
      exact ck_ri hf hret h dP_addBuild_50
  · have hf := ck_f hq hf
    refine lv_bipush (v := (-9)) hx hb dP_addBuild_24 (by decide) ?_
    exact ck_ri hf hret h dP_addBuild_26
def fP_isOpen (x1 : Int32) (st : ck_S) : Option (Int32 × ck_S) := (ck_b (fP_has x1 st) fun v2 st1 => (if v2 = 0 then (some ((0 : Int32), st1)) else (ck_gd x1 60 (if (st1 11 (x1).toNatClampNeg) = (-1 : Int32) then (some ((1 : Int32), st1)) else (some ((0 : Int32), st1))))))
set_option maxRecDepth 100000 in
set_option maxHeartbeats 4000000 in
theorem cP_isOpen (l : Launch) (D : va_G) (cA : Nat → ClassId) (ad : Nat → Nat) {x1 : Int32} {st : ck_S} {r0 : Int32} {st0 : ck_S} (hf : fP_isOpen x1 st = some (r0, st0)) : Met l yP_isOpen (.code yP_isOpen bP_isOpen 2 (some .boolean) :: ck_T) (ck_R 1) (va_Pc [.ref (ad 2), .int x1] (ck_P sh_C cm_cl D cA ad st)) (va_Qi (fun a u => a = r0 ∧ u = st0) (ck_P sh_C cm_cl D cA ad) (ck_A ad sh_C.length)) 0 0 (ck_A ad sh_C.length) := by
  refine ck_met_z (own := R_P) (by decide +kernel) rfl (Nat.le_of_ble_eq_true rfl) (fun p e R s m args below meth c H0 Q ls C hret h hl => ?_)
  have C1 := C
  obtain ⟨hx, hb, hml, hown, hts, hK, hlv, hlo⟩ := C1
  have hl : lv_has ls 2 [(0, .ref (ad 2)), (1, .int x1)] := hl
  unfold fP_isOpen at hf
  refine lv_aload_n hx hb dP_isOpen_0 rfl (lv_at hl 0 rfl) ?_
  refine lv_iload_n hx hb dP_isOpen_1 rfl (lv_at hl 1 rfl) ?_
  obtain ⟨v2, st1, hc, hf⟩ := ck_b_e hf
  refine ck_vi (As := [.int x1]) (rest := []) (q := 2) C h hl CP_P_has sP_has q_P (cP_has l D cA ad hc) (Nat.le_of_ble_eq_true rfl) rfl rfl (Nat.le_of_ble_eq_true rfl) dP_isOpen_2 (fun H locs h => ?_)
  refine lv_if_eq (tgt := 22) hx hb dP_isOpen_5 rfl (fun hq => ?_) (fun hq => ?_)
  · have hf := ck_t hq hf
    refine lv_iconst (v := 0) hx hb dP_isOpen_22 (by decide) ?_
    exact ck_rz hf hret ck_z0 h dP_isOpen_23
  · have hf := ck_f hq hf
    refine lv_aload_n hx hb dP_isOpen_8 rfl (lv_at hl 0 rfl) ?_
    refine ck_gr C h FP_typeOf dP_isOpen_9 ?_
    refine lv_iload_n hx hb dP_isOpen_12 rfl (lv_at hl 1 rfl) ?_
    obtain ⟨hg, hf⟩ := ck_gd_e hf
    refine ck_ai (x := (st1 11 (x1).toNatClampNeg)) C h (show sh_C[11]? = some (.inr (0, 60)) from rfl) hg rfl dP_isOpen_13 ?_
    refine lv_iconst (v := (-1)) hx hb dP_isOpen_14 (by decide) ?_
    refine lv_icmp_ne (tgt := 22) hx hb dP_isOpen_15 rfl (fun hq => ?_) (fun hq => ?_)
    · have hf := ck_f hq hf
      refine lv_iconst (v := 0) hx hb dP_isOpen_22 (by decide) ?_
      exact ck_rz hf hret ck_z0 h dP_isOpen_23
    · have hf := ck_t hq hf
      refine lv_iconst (v := 1) hx hb dP_isOpen_18 (by decide) ?_
      refine lv_goto (tgt := 23) hx hb dP_isOpen_19 rfl ?_
      exact ck_rz hf hret ck_z1 h dP_isOpen_23
def fP_addEither_b44 (y0 : Int32) (x1 : Int32) (x2 : Int32) (x3 : Int32) (st : ck_S) : Option (Int32 × ck_S) := (ck_b (fP_depthOf x1 st) fun v2 st1 => (ck_b (fP_depthOf x2 st1) fun v4 st3 => (ck_b (fP_add (1 : Int32) y0 (0 : Int32) st3) fun v6 st5 => (ck_b (fP_withParts v6 x1 x2 (ck_mxv v2 v4) x3 st5) fun v8 st7 => (some (v8, st7))))))
set_option maxRecDepth 100000 in
set_option maxHeartbeats 4000000 in
theorem BP_addEither_44 (C : ck_X cm_cl D cA bP_addEither 6 R_P 3 p R s m args c) {r0 : Int32} {st0 : ck_S} (hret : ∀ (pc : Nat) (H : Heap) (locs : List Loc) (ls : Array Slot), decode bP_addEither pc = .ok (.ireturn, 1) → ck_AT sh_C cm_cl D cA ad H0 st0 H locs → W p l e R s m args below meth c H locs 0 0 Q (F0 m pc ls [.int r0])) (y0 : Int32) (x1 : Int32) (x2 : Int32) (x3 : Int32) (st : ck_S) (H : Heap) (locs : List Loc) (ls : Array Slot) (h : ck_AT sh_C cm_cl D cA ad H0 st H locs) (hl : lv_has ls 6 [(0, .ref (ad 2)), (1, .int x1), (2, .int x2), (3, .int x3)]) (hf : fP_addEither_b44 y0 x1 x2 x3 st = some (r0, st0)) : W p l e R s m args below meth c H locs 0 0 Q (F0 m 44 ls [.int y0]) := by
  have C1 := C
  obtain ⟨hx, hb, hml, hown, hts, hK, hlv, hlo⟩ := C1
  unfold fP_addEither_b44 at hf
  refine lv_istore (lv' := [(4, .int y0), (0, .ref (ad 2)), (1, .int x1), (2, .int x2), (3, .int x3)]) hx hb dP_addEither_44 hl (by decide) rfl (fun ls hl => ?_)
  refine lv_aload_n hx hb dP_addEither_46 rfl (lv_at hl 1 rfl) ?_
  refine lv_iload_n hx hb dP_addEither_47 rfl (lv_at hl 2 rfl) ?_
  obtain ⟨v2, st1, hc, hf⟩ := ck_b_e hf
  refine ck_vi (As := [.int x1]) (rest := []) (q := 2) C h hl CP_P_depthOf sP_depthOf q_P (cP_depthOf l D cA ad hc) (Nat.le_of_ble_eq_true rfl) rfl rfl (Nat.le_of_ble_eq_true rfl) dP_addEither_48 (fun H locs h => ?_)
  refine lv_aload_n hx hb dP_addEither_51 rfl (lv_at hl 1 rfl) ?_
  refine lv_iload_n hx hb dP_addEither_52 rfl (lv_at hl 3 rfl) ?_
  obtain ⟨v4, st3, hc, hf⟩ := ck_b_e hf
  refine ck_vi (As := [.int x2]) (rest := [.int v2]) (q := 2) C h hl CP_P_depthOf sP_depthOf q_P (cP_depthOf l D cA ad hc) (Nat.le_of_ble_eq_true rfl) rfl rfl (Nat.le_of_ble_eq_true rfl) dP_addEither_53 (fun H locs h => ?_)
  refine ck_mx C hl (ck_T_mk (List.mem_of_getElem? (i := 433) (by decide +kernel)) (by decide +kernel)) (Nat.le_of_ble_eq_true rfl) (Nat.le_of_ble_eq_true rfl) dP_addEither_56 ?_
  refine lv_istore (lv' := [(5, .int (ck_mxv v2 v4)), (4, .int y0), (0, .ref (ad 2)), (1, .int x1), (2, .int x2), (3, .int x3)]) hx hb dP_addEither_59 hl (by decide) rfl (fun ls hl => ?_)
  refine lv_aload_n hx hb dP_addEither_61 rfl (lv_at hl 2 rfl) ?_
  refine lv_aload_n hx hb dP_addEither_62 rfl (lv_at hl 2 rfl) ?_
  refine lv_iconst (v := 1) hx hb dP_addEither_63 (by decide) ?_
  refine lv_iload hx hb dP_addEither_64 (lv_at hl 1 rfl) ?_
  refine lv_iconst (v := 0) hx hb dP_addEither_66 (by decide) ?_
  obtain ⟨v6, st5, hc, hf⟩ := ck_b_e hf
  refine ck_vi (As := [.int (1 : Int32), .int y0, .int (0 : Int32)]) (rest := [.ref (ad 2)]) (q := 2) C h hl CP_P_add sP_add q_P (cP_add l D cA ad hc) (Nat.le_of_ble_eq_true rfl) rfl rfl (Nat.le_of_ble_eq_true rfl) dP_addEither_67 (fun H locs h => ?_)
  refine lv_iload_n hx hb dP_addEither_70 rfl (lv_at hl 3 rfl) ?_
  refine lv_iload_n hx hb dP_addEither_71 rfl (lv_at hl 4 rfl) ?_
  refine lv_iload hx hb dP_addEither_72 (lv_at hl 0 rfl) ?_
  refine lv_iload_n hx hb dP_addEither_74 rfl (lv_at hl 5 rfl) ?_
  obtain ⟨v8, st7, hc, hf⟩ := ck_b_e hf
  refine ck_vi (As := [.int v6, .int x1, .int x2, .int (ck_mxv v2 v4), .int x3]) (rest := []) (q := 2) C h hl CP_P_withParts sP_withParts q_P (cP_withParts l D cA ad hc) (Nat.le_of_ble_eq_true rfl) rfl rfl (Nat.le_of_ble_eq_true rfl) dP_addEither_75 (fun H locs h => ?_)
  exact ck_ri hf hret h dP_addEither_78
def fP_addEither (x1 : Int32) (x2 : Int32) (st : ck_S) : Option (Int32 × ck_S) := (ck_b (fP_choicesOf x1 st) fun v2 st1 => (ck_b (fP_choicesOf x2 st1) fun v4 st3 => (if (v2 + v4) ≤ (8 : Int32) then (ck_b (fP_isOpen x1 st3) fun v6 st5 => (if v6 = 0 then (ck_gd x1 60 (fP_addEither_b44 (st5 11 (x1).toNatClampNeg) x1 x2 (v2 + v4) st5)) else (ck_gd x2 60 (fP_addEither_b44 (st5 11 (x2).toNatClampNeg) x1 x2 (v2 + v4) st5)))) else (some ((-10 : Int32), st3)))))
set_option maxRecDepth 100000 in
set_option maxHeartbeats 4000000 in
theorem cP_addEither (l : Launch) (D : va_G) (cA : Nat → ClassId) (ad : Nat → Nat) {x1 : Int32} {x2 : Int32} {st : ck_S} {r0 : Int32} {st0 : ck_S} (hf : fP_addEither x1 x2 st = some (r0, st0)) : Met l yP_addEither (.code yP_addEither bP_addEither 6 (some .int) :: ck_T) (ck_R 3) (va_Pc [.ref (ad 2), .int x1, .int x2] (ck_P sh_C cm_cl D cA ad st)) (va_Qi (fun a u => a = r0 ∧ u = st0) (ck_P sh_C cm_cl D cA ad) (ck_A ad sh_C.length)) 0 0 (ck_A ad sh_C.length) := by
  refine ck_met_i (own := R_P) (by decide +kernel) rfl (Nat.le_of_ble_eq_true rfl) (fun p e R s m args below meth c H0 Q ls C hret h hl => ?_)
  have C1 := C
  obtain ⟨hx, hb, hml, hown, hts, hK, hlv, hlo⟩ := C1
  have hl : lv_has ls 6 [(0, .ref (ad 2)), (1, .int x1), (2, .int x2)] := hl
  unfold fP_addEither at hf
  refine lv_aload_n hx hb dP_addEither_0 rfl (lv_at hl 0 rfl) ?_
  refine lv_iload_n hx hb dP_addEither_1 rfl (lv_at hl 1 rfl) ?_
  obtain ⟨v2, st1, hc, hf⟩ := ck_b_e hf
  refine ck_vi (As := [.int x1]) (rest := []) (q := 2) C h hl CP_P_choicesOf sP_choicesOf q_P (cP_choicesOf l D cA ad hc) (Nat.le_of_ble_eq_true rfl) rfl rfl (Nat.le_of_ble_eq_true rfl) dP_addEither_2 (fun H locs h => ?_)
  refine lv_aload_n hx hb dP_addEither_5 rfl (lv_at hl 0 rfl) ?_
  refine lv_iload_n hx hb dP_addEither_6 rfl (lv_at hl 2 rfl) ?_
  obtain ⟨v4, st3, hc, hf⟩ := ck_b_e hf
  refine ck_vi (As := [.int x2]) (rest := [.int v2]) (q := 2) C h hl CP_P_choicesOf sP_choicesOf q_P (cP_choicesOf l D cA ad hc) (Nat.le_of_ble_eq_true rfl) rfl rfl (Nat.le_of_ble_eq_true rfl) dP_addEither_7 (fun H locs h => ?_)
  refine lv_iadd hx hb dP_addEither_10 ?_
  refine lv_istore_n (lv' := [(3, .int (v2 + v4)), (0, .ref (ad 2)), (1, .int x1), (2, .int x2)]) hx hb dP_addEither_11 rfl hl (by decide) rfl (fun ls hl => ?_)
  refine lv_iload_n hx hb dP_addEither_12 rfl (lv_at hl 0 rfl) ?_
  refine lv_bipush (v := 8) hx hb dP_addEither_13 (by decide) ?_
  refine lv_icmp_le (tgt := 21) hx hb dP_addEither_15 rfl (fun hq => ?_) (fun hq => ?_)
  · have hf := ck_t hq hf
    refine lv_aload_n hx hb dP_addEither_21 rfl (lv_at hl 1 rfl) ?_
    refine lv_iload_n hx hb dP_addEither_22 rfl (lv_at hl 2 rfl) ?_
    obtain ⟨v6, st5, hc, hf⟩ := ck_b_e hf
    refine ck_vi (As := [.int x1]) (rest := []) (q := 2) C h hl CP_P_isOpen sP_isOpen q_P (cP_isOpen l D cA ad hc) (Nat.le_of_ble_eq_true rfl) rfl rfl (Nat.le_of_ble_eq_true rfl) dP_addEither_23 (fun H locs h => ?_)
    refine lv_if_eq (tgt := 38) hx hb dP_addEither_26 rfl (fun hq => ?_) (fun hq => ?_)
    · have hf := ck_t hq hf
      refine lv_aload_n hx hb dP_addEither_38 rfl (lv_at hl 1 rfl) ?_
      refine ck_gr C h FP_typeOf dP_addEither_39 ?_
      refine lv_iload_n hx hb dP_addEither_42 rfl (lv_at hl 2 rfl) ?_
      obtain ⟨hg, hf⟩ := ck_gd_e hf
      refine ck_ai (x := (st5 11 (x1).toNatClampNeg)) C h (show sh_C[11]? = some (.inr (0, 60)) from rfl) hg rfl dP_addEither_43 ?_
      exact BP_addEither_44 C hret _ _ _ _ _ _ _ _ h (lv_sub hl [1, 2, 3, 0] rfl) hf
    · have hf := ck_f hq hf
      refine lv_aload_n hx hb dP_addEither_29 rfl (lv_at hl 1 rfl) ?_
      refine ck_gr C h FP_typeOf dP_addEither_30 ?_
      refine lv_iload_n hx hb dP_addEither_33 rfl (lv_at hl 3 rfl) ?_
      obtain ⟨hg, hf⟩ := ck_gd_e hf
      refine ck_ai (x := (st5 11 (x2).toNatClampNeg)) C h (show sh_C[11]? = some (.inr (0, 60)) from rfl) hg rfl dP_addEither_34 ?_
      refine lv_goto (tgt := 44) hx hb dP_addEither_35 rfl ?_
      exact BP_addEither_44 C hret _ _ _ _ _ _ _ _ h (lv_sub hl [1, 2, 3, 0] rfl) hf
  · have hf := ck_f hq hf
    refine lv_bipush (v := (-10)) hx hb dP_addEither_18 (by decide) ?_
    exact ck_ri hf hret h dP_addEither_20
def fP_fits (x1 : Int32) (x2 : Int32) (st : ck_S) : Option (Int32 × ck_S) := (ck_b (fP_has x1 st) fun v2 st1 => (if v2 = 0 then (if x2 = (-1 : Int32) then (some ((1 : Int32), st1)) else (some ((0 : Int32), st1))) else (ck_b (fP_isOpen x1 st1) fun v4 st3 => (if v4 = 0 then (ck_gd x1 60 (if (st3 11 (x1).toNatClampNeg) = x2 then (some ((1 : Int32), st3)) else (some ((0 : Int32), st3)))) else (some ((1 : Int32), st3))))))
set_option maxRecDepth 100000 in
set_option maxHeartbeats 4000000 in
theorem cP_fits (l : Launch) (D : va_G) (cA : Nat → ClassId) (ad : Nat → Nat) {x1 : Int32} {x2 : Int32} {st : ck_S} {r0 : Int32} {st0 : ck_S} (hf : fP_fits x1 x2 st = some (r0, st0)) : Met l yP_fits (.code yP_fits bP_fits 3 (some .boolean) :: ck_T) (ck_R 2) (va_Pc [.ref (ad 2), .int x1, .int x2] (ck_P sh_C cm_cl D cA ad st)) (va_Qi (fun a u => a = r0 ∧ u = st0) (ck_P sh_C cm_cl D cA ad) (ck_A ad sh_C.length)) 0 0 (ck_A ad sh_C.length) := by
  refine ck_met_z (own := R_P) (by decide +kernel) rfl (Nat.le_of_ble_eq_true rfl) (fun p e R s m args below meth c H0 Q ls C hret h hl => ?_)
  have C1 := C
  obtain ⟨hx, hb, hml, hown, hts, hK, hlv, hlo⟩ := C1
  have hl : lv_has ls 3 [(0, .ref (ad 2)), (1, .int x1), (2, .int x2)] := hl
  unfold fP_fits at hf
  refine lv_aload_n hx hb dP_fits_0 rfl (lv_at hl 0 rfl) ?_
  refine lv_iload_n hx hb dP_fits_1 rfl (lv_at hl 1 rfl) ?_
  obtain ⟨v2, st1, hc, hf⟩ := ck_b_e hf
  refine ck_vi (As := [.int x1]) (rest := []) (q := 2) C h hl CP_P_has sP_has q_P (cP_has l D cA ad hc) (Nat.le_of_ble_eq_true rfl) rfl rfl (Nat.le_of_ble_eq_true rfl) dP_fits_2 (fun H locs h => ?_)
  refine lv_if_eq (tgt := 34) hx hb dP_fits_5 rfl (fun hq => ?_) (fun hq => ?_)
  · have hf := ck_t hq hf
    refine lv_iload_n hx hb dP_fits_34 rfl (lv_at hl 2 rfl) ?_
    refine lv_iconst (v := (-1)) hx hb dP_fits_35 (by decide) ?_
    refine lv_icmp_ne (tgt := 43) hx hb dP_fits_36 rfl (fun hq => ?_) (fun hq => ?_)
    · have hf := ck_f hq hf
      refine lv_iconst (v := 0) hx hb dP_fits_43 (by decide) ?_
      exact ck_rz hf hret ck_z0 h dP_fits_44
    · have hf := ck_t hq hf
      refine lv_iconst (v := 1) hx hb dP_fits_39 (by decide) ?_
      refine lv_goto (tgt := 44) hx hb dP_fits_40 rfl ?_
      exact ck_rz hf hret ck_z1 h dP_fits_44
  · have hf := ck_f hq hf
    refine lv_aload_n hx hb dP_fits_8 rfl (lv_at hl 0 rfl) ?_
    refine lv_iload_n hx hb dP_fits_9 rfl (lv_at hl 1 rfl) ?_
    obtain ⟨v4, st3, hc, hf⟩ := ck_b_e hf
    refine ck_vi (As := [.int x1]) (rest := []) (q := 2) C h hl CP_P_isOpen sP_isOpen q_P (cP_isOpen l D cA ad hc) (Nat.le_of_ble_eq_true rfl) rfl rfl (Nat.le_of_ble_eq_true rfl) dP_fits_10 (fun H locs h => ?_)
    refine lv_if_ne (tgt := 26) hx hb dP_fits_13 rfl (fun hq => ?_) (fun hq => ?_)
    · have hf := ck_f hq hf
      refine lv_iconst (v := 1) hx hb dP_fits_26 (by decide) ?_
      refine lv_goto (tgt := 44) hx hb dP_fits_27 rfl ?_
      exact ck_rz hf hret ck_z1 h dP_fits_44
    · have hf := ck_t hq hf
      refine lv_aload_n hx hb dP_fits_16 rfl (lv_at hl 0 rfl) ?_
      refine ck_gr C h FP_typeOf dP_fits_17 ?_
      refine lv_iload_n hx hb dP_fits_20 rfl (lv_at hl 1 rfl) ?_
      obtain ⟨hg, hf⟩ := ck_gd_e hf
      refine ck_ai (x := (st3 11 (x1).toNatClampNeg)) C h (show sh_C[11]? = some (.inr (0, 60)) from rfl) hg rfl dP_fits_21 ?_
      refine lv_iload_n hx hb dP_fits_22 rfl (lv_at hl 2 rfl) ?_
      refine lv_icmp_ne (tgt := 30) hx hb dP_fits_23 rfl (fun hq => ?_) (fun hq => ?_)
      · have hf := ck_f hq hf
        refine lv_iconst (v := 0) hx hb dP_fits_30 (by decide) ?_
        refine lv_goto (tgt := 44) hx hb dP_fits_31 rfl ?_
        exact ck_rz hf hret ck_z0 h dP_fits_44
      · have hf := ck_t hq hf
        refine lv_iconst (v := 1) hx hb dP_fits_26 (by decide) ?_
        refine lv_goto (tgt := 44) hx hb dP_fits_27 rfl ?_
        exact ck_rz hf hret ck_z1 h dP_fits_44
def fP_agree (x1 : Int32) (x2 : Int32) (st : ck_S) : Option (Int32 × ck_S) := (ck_b (fP_isOpen x2 st) fun v2 st1 => (if v2 = 0 then (ck_b (fP_has x2 st1) fun v4 st3 => (if v4 = 0 then (some ((0 : Int32), st3)) else (ck_gd x2 60 (ck_b (fP_fits x1 (st3 11 (x2).toNatClampNeg) st3) fun v6 st5 => (if v6 = 0 then (some ((0 : Int32), st5)) else (some ((1 : Int32), st5))))))) else (some ((1 : Int32), st1))))
set_option maxRecDepth 100000 in
set_option maxHeartbeats 4000000 in
theorem cP_agree (l : Launch) (D : va_G) (cA : Nat → ClassId) (ad : Nat → Nat) {x1 : Int32} {x2 : Int32} {st : ck_S} {r0 : Int32} {st0 : ck_S} (hf : fP_agree x1 x2 st = some (r0, st0)) : Met l yP_agree (.code yP_agree bP_agree 3 (some .boolean) :: ck_T) (ck_R 3) (va_Pc [.ref (ad 2), .int x1, .int x2] (ck_P sh_C cm_cl D cA ad st)) (va_Qi (fun a u => a = r0 ∧ u = st0) (ck_P sh_C cm_cl D cA ad) (ck_A ad sh_C.length)) 0 0 (ck_A ad sh_C.length) := by
  refine ck_met_z (own := R_P) (by decide +kernel) rfl (Nat.le_of_ble_eq_true rfl) (fun p e R s m args below meth c H0 Q ls C hret h hl => ?_)
  have C1 := C
  obtain ⟨hx, hb, hml, hown, hts, hK, hlv, hlo⟩ := C1
  have hl : lv_has ls 3 [(0, .ref (ad 2)), (1, .int x1), (2, .int x2)] := hl
  unfold fP_agree at hf
  refine lv_aload_n hx hb dP_agree_0 rfl (lv_at hl 0 rfl) ?_
  refine lv_iload_n hx hb dP_agree_1 rfl (lv_at hl 2 rfl) ?_
  obtain ⟨v2, st1, hc, hf⟩ := ck_b_e hf
  refine ck_vi (As := [.int x2]) (rest := []) (q := 2) C h hl CP_P_isOpen sP_isOpen q_P (cP_isOpen l D cA ad hc) (Nat.le_of_ble_eq_true rfl) rfl rfl (Nat.le_of_ble_eq_true rfl) dP_agree_2 (fun H locs h => ?_)
  refine lv_if_ne (tgt := 30) hx hb dP_agree_5 rfl (fun hq => ?_) (fun hq => ?_)
  · have hf := ck_f hq hf
    refine lv_iconst (v := 1) hx hb dP_agree_30 (by decide) ?_
    refine lv_goto (tgt := 35) hx hb dP_agree_31 rfl ?_
    exact ck_rz hf hret ck_z1 h dP_agree_35
  · have hf := ck_t hq hf
    refine lv_aload_n hx hb dP_agree_8 rfl (lv_at hl 0 rfl) ?_
    refine lv_iload_n hx hb dP_agree_9 rfl (lv_at hl 2 rfl) ?_
    obtain ⟨v4, st3, hc, hf⟩ := ck_b_e hf
    refine ck_vi (As := [.int x2]) (rest := []) (q := 2) C h hl CP_P_has sP_has q_P (cP_has l D cA ad hc) (Nat.le_of_ble_eq_true rfl) rfl rfl (Nat.le_of_ble_eq_true rfl) dP_agree_10 (fun H locs h => ?_)
    refine lv_if_eq (tgt := 34) hx hb dP_agree_13 rfl (fun hq => ?_) (fun hq => ?_)
    · have hf := ck_t hq hf
      refine lv_iconst (v := 0) hx hb dP_agree_34 (by decide) ?_
      exact ck_rz hf hret ck_z0 h dP_agree_35
    · have hf := ck_f hq hf
      refine lv_aload_n hx hb dP_agree_16 rfl (lv_at hl 0 rfl) ?_
      refine lv_iload_n hx hb dP_agree_17 rfl (lv_at hl 1 rfl) ?_
      refine lv_aload_n hx hb dP_agree_18 rfl (lv_at hl 0 rfl) ?_
      refine ck_gr C h FP_typeOf dP_agree_19 ?_
      refine lv_iload_n hx hb dP_agree_22 rfl (lv_at hl 2 rfl) ?_
      obtain ⟨hg, hf⟩ := ck_gd_e hf
      refine ck_ai (x := (st3 11 (x2).toNatClampNeg)) C h (show sh_C[11]? = some (.inr (0, 60)) from rfl) hg rfl dP_agree_23 ?_
      obtain ⟨v6, st5, hc, hf⟩ := ck_b_e hf
      refine ck_vi (As := [.int x1, .int (st3 11 (x2).toNatClampNeg)]) (rest := []) (q := 2) C h hl CP_P_fits sP_fits q_P (cP_fits l D cA ad hc) (Nat.le_of_ble_eq_true rfl) rfl rfl (Nat.le_of_ble_eq_true rfl) dP_agree_24 (fun H locs h => ?_)
      refine lv_if_eq (tgt := 34) hx hb dP_agree_27 rfl (fun hq => ?_) (fun hq => ?_)
      · have hf := ck_t hq hf
        refine lv_iconst (v := 0) hx hb dP_agree_34 (by decide) ?_
        exact ck_rz hf hret ck_z0 h dP_agree_35
      · have hf := ck_f hq hf
        refine lv_iconst (v := 1) hx hb dP_agree_30 (by decide) ?_
        refine lv_goto (tgt := 35) hx hb dP_agree_31 rfl ?_
        exact ck_rz hf hret ck_z1 h dP_agree_35
def fP_isEither (x1 : Int32) (st : ck_S) : Option (Int32 × ck_S) := (ck_b (fP_has x1 st) fun v2 st1 => (if v2 = 0 then (some ((0 : Int32), st1)) else (ck_gd x1 60 (if (st1 10 (x1).toNatClampNeg) = 0 then (some ((0 : Int32), st1)) else (some ((1 : Int32), st1))))))
set_option maxRecDepth 100000 in
set_option maxHeartbeats 4000000 in
theorem cP_isEither (l : Launch) (D : va_G) (cA : Nat → ClassId) (ad : Nat → Nat) {x1 : Int32} {st : ck_S} {r0 : Int32} {st0 : ck_S} (hf : fP_isEither x1 st = some (r0, st0)) : Met l yP_isEither (.code yP_isEither bP_isEither 2 (some .boolean) :: ck_T) (ck_R 1) (va_Pc [.ref (ad 2), .int x1] (ck_P sh_C cm_cl D cA ad st)) (va_Qi (fun a u => a = r0 ∧ u = st0) (ck_P sh_C cm_cl D cA ad) (ck_A ad sh_C.length)) 0 0 (ck_A ad sh_C.length) := by
  refine ck_met_z (own := R_P) (by decide +kernel) rfl (Nat.le_of_ble_eq_true rfl) (fun p e R s m args below meth c H0 Q ls C hret h hl => ?_)
  have C1 := C
  obtain ⟨hx, hb, hml, hown, hts, hK, hlv, hlo⟩ := C1
  have hl : lv_has ls 2 [(0, .ref (ad 2)), (1, .int x1)] := hl
  unfold fP_isEither at hf
  refine lv_aload_n hx hb dP_isEither_0 rfl (lv_at hl 0 rfl) ?_
  refine lv_iload_n hx hb dP_isEither_1 rfl (lv_at hl 1 rfl) ?_
  obtain ⟨v2, st1, hc, hf⟩ := ck_b_e hf
  refine ck_vi (As := [.int x1]) (rest := []) (q := 2) C h hl CP_P_has sP_has q_P (cP_has l D cA ad hc) (Nat.le_of_ble_eq_true rfl) rfl rfl (Nat.le_of_ble_eq_true rfl) dP_isEither_2 (fun H locs h => ?_)
  refine lv_if_eq (tgt := 21) hx hb dP_isEither_5 rfl (fun hq => ?_) (fun hq => ?_)
  · have hf := ck_t hq hf
    refine lv_iconst (v := 0) hx hb dP_isEither_21 (by decide) ?_
    exact ck_rz hf hret ck_z0 h dP_isEither_22
  · have hf := ck_f hq hf
    refine lv_aload_n hx hb dP_isEither_8 rfl (lv_at hl 0 rfl) ?_
    refine ck_gr C h FP_twofold dP_isEither_9 ?_
    refine lv_iload_n hx hb dP_isEither_12 rfl (lv_at hl 1 rfl) ?_
    obtain ⟨hg, hf⟩ := ck_gd_e hf
    refine ck_az (x := (st1 10 (x1).toNatClampNeg)) C h (show sh_C[10]? = some (.inr (1, 60)) from rfl) hg rfl dP_isEither_13 ?_
    refine lv_if_eq (tgt := 21) hx hb dP_isEither_14 rfl (fun hq => ?_) (fun hq => ?_)
    · have hf := ck_t hq hf
      refine lv_iconst (v := 0) hx hb dP_isEither_21 (by decide) ?_
      exact ck_rz hf hret ck_z0 h dP_isEither_22
    · have hf := ck_f hq hf
      refine lv_iconst (v := 1) hx hb dP_isEither_17 (by decide) ?_
      refine lv_goto (tgt := 22) hx hb dP_isEither_18 rfl ?_
      exact ck_rz hf hret ck_z1 h dP_isEither_22
def fP_itsType (x1 : Int32) (st : ck_S) : Option (Int32 × ck_S) := (ck_b (fP_has x1 st) fun v2 st1 => (if v2 = 0 then (some ((-1 : Int32), st1)) else (ck_gd x1 60 (some ((st1 11 (x1).toNatClampNeg), st1)))))
set_option maxRecDepth 100000 in
set_option maxHeartbeats 4000000 in
theorem cP_itsType (l : Launch) (D : va_G) (cA : Nat → ClassId) (ad : Nat → Nat) {x1 : Int32} {st : ck_S} {r0 : Int32} {st0 : ck_S} (hf : fP_itsType x1 st = some (r0, st0)) : Met l yP_itsType (.code yP_itsType bP_itsType 2 (some .int) :: ck_T) (ck_R 1) (va_Pc [.ref (ad 2), .int x1] (ck_P sh_C cm_cl D cA ad st)) (va_Qi (fun a u => a = r0 ∧ u = st0) (ck_P sh_C cm_cl D cA ad) (ck_A ad sh_C.length)) 0 0 (ck_A ad sh_C.length) := by
  refine ck_met_i (own := R_P) (by decide +kernel) rfl (Nat.le_of_ble_eq_true rfl) (fun p e R s m args below meth c H0 Q ls C hret h hl => ?_)
  have C1 := C
  obtain ⟨hx, hb, hml, hown, hts, hK, hlv, hlo⟩ := C1
  have hl : lv_has ls 2 [(0, .ref (ad 2)), (1, .int x1)] := hl
  unfold fP_itsType at hf
  refine lv_aload_n hx hb dP_itsType_0 rfl (lv_at hl 0 rfl) ?_
  refine lv_iload_n hx hb dP_itsType_1 rfl (lv_at hl 1 rfl) ?_
  obtain ⟨v2, st1, hc, hf⟩ := ck_b_e hf
  refine ck_vi (As := [.int x1]) (rest := []) (q := 2) C h hl CP_P_has sP_has q_P (cP_has l D cA ad hc) (Nat.le_of_ble_eq_true rfl) rfl rfl (Nat.le_of_ble_eq_true rfl) dP_itsType_2 (fun H locs h => ?_)
  refine lv_if_eq (tgt := 17) hx hb dP_itsType_5 rfl (fun hq => ?_) (fun hq => ?_)
  · have hf := ck_t hq hf
    refine lv_iconst (v := (-1)) hx hb dP_itsType_17 (by decide) ?_
    exact ck_ri hf hret h dP_itsType_18
  · have hf := ck_f hq hf
    refine lv_aload_n hx hb dP_itsType_8 rfl (lv_at hl 0 rfl) ?_
    refine ck_gr C h FP_typeOf dP_itsType_9 ?_
    refine lv_iload_n hx hb dP_itsType_12 rfl (lv_at hl 1 rfl) ?_
    obtain ⟨hg, hf⟩ := ck_gd_e hf
    refine ck_ai (x := (st1 11 (x1).toNatClampNeg)) C h (show sh_C[11]? = some (.inr (0, 60)) from rfl) hg rfl dP_itsType_13 ?_
    refine lv_goto (tgt := 18) hx hb dP_itsType_14 rfl ?_
    exact ck_ri hf hret h dP_itsType_18
def fP_symbolOf (x1 : Int32) (st : ck_S) : Option (Int32 × ck_S) := (ck_b (fP_has x1 st) fun v2 st1 => (if v2 = 0 then (some ((0 : Int32), st1)) else (ck_gd x1 60 (some ((st1 12 (x1).toNatClampNeg), st1)))))
set_option maxRecDepth 100000 in
set_option maxHeartbeats 4000000 in
theorem cP_symbolOf (l : Launch) (D : va_G) (cA : Nat → ClassId) (ad : Nat → Nat) {x1 : Int32} {st : ck_S} {r0 : Int32} {st0 : ck_S} (hf : fP_symbolOf x1 st = some (r0, st0)) : Met l yP_symbolOf (.code yP_symbolOf bP_symbolOf 2 (some .int) :: ck_T) (ck_R 1) (va_Pc [.ref (ad 2), .int x1] (ck_P sh_C cm_cl D cA ad st)) (va_Qi (fun a u => a = r0 ∧ u = st0) (ck_P sh_C cm_cl D cA ad) (ck_A ad sh_C.length)) 0 0 (ck_A ad sh_C.length) := by
  refine ck_met_i (own := R_P) (by decide +kernel) rfl (Nat.le_of_ble_eq_true rfl) (fun p e R s m args below meth c H0 Q ls C hret h hl => ?_)
  have C1 := C
  obtain ⟨hx, hb, hml, hown, hts, hK, hlv, hlo⟩ := C1
  have hl : lv_has ls 2 [(0, .ref (ad 2)), (1, .int x1)] := hl
  unfold fP_symbolOf at hf
  refine lv_aload_n hx hb dP_symbolOf_0 rfl (lv_at hl 0 rfl) ?_
  refine lv_iload_n hx hb dP_symbolOf_1 rfl (lv_at hl 1 rfl) ?_
  obtain ⟨v2, st1, hc, hf⟩ := ck_b_e hf
  refine ck_vi (As := [.int x1]) (rest := []) (q := 2) C h hl CP_P_has sP_has q_P (cP_has l D cA ad hc) (Nat.le_of_ble_eq_true rfl) rfl rfl (Nat.le_of_ble_eq_true rfl) dP_symbolOf_2 (fun H locs h => ?_)
  refine lv_if_eq (tgt := 17) hx hb dP_symbolOf_5 rfl (fun hq => ?_) (fun hq => ?_)
  · have hf := ck_t hq hf
    refine lv_iconst (v := 0) hx hb dP_symbolOf_17 (by decide) ?_
    exact ck_ri hf hret h dP_symbolOf_18
  · have hf := ck_f hq hf
    refine lv_aload_n hx hb dP_symbolOf_8 rfl (lv_at hl 0 rfl) ?_
    refine ck_gr C h FP_symbol dP_symbolOf_9 ?_
    refine lv_iload_n hx hb dP_symbolOf_12 rfl (lv_at hl 1 rfl) ?_
    obtain ⟨hg, hf⟩ := ck_gd_e hf
    refine ck_ai (x := (st1 12 (x1).toNatClampNeg)) C h (show sh_C[12]? = some (.inr (0, 60)) from rfl) hg rfl dP_symbolOf_13 ?_
    refine lv_goto (tgt := 18) hx hb dP_symbolOf_14 rfl ?_
    exact ck_ri hf hret h dP_symbolOf_18
def fP_firstOf (x1 : Int32) (st : ck_S) : Option (Int32 × ck_S) := (ck_b (fP_has x1 st) fun v2 st1 => (if v2 = 0 then (some ((-1 : Int32), st1)) else (ck_gd x1 60 (some ((st1 13 (x1).toNatClampNeg), st1)))))
set_option maxRecDepth 100000 in
set_option maxHeartbeats 4000000 in
theorem cP_firstOf (l : Launch) (D : va_G) (cA : Nat → ClassId) (ad : Nat → Nat) {x1 : Int32} {st : ck_S} {r0 : Int32} {st0 : ck_S} (hf : fP_firstOf x1 st = some (r0, st0)) : Met l yP_firstOf (.code yP_firstOf bP_firstOf 2 (some .int) :: ck_T) (ck_R 1) (va_Pc [.ref (ad 2), .int x1] (ck_P sh_C cm_cl D cA ad st)) (va_Qi (fun a u => a = r0 ∧ u = st0) (ck_P sh_C cm_cl D cA ad) (ck_A ad sh_C.length)) 0 0 (ck_A ad sh_C.length) := by
  refine ck_met_i (own := R_P) (by decide +kernel) rfl (Nat.le_of_ble_eq_true rfl) (fun p e R s m args below meth c H0 Q ls C hret h hl => ?_)
  have C1 := C
  obtain ⟨hx, hb, hml, hown, hts, hK, hlv, hlo⟩ := C1
  have hl : lv_has ls 2 [(0, .ref (ad 2)), (1, .int x1)] := hl
  unfold fP_firstOf at hf
  refine lv_aload_n hx hb dP_firstOf_0 rfl (lv_at hl 0 rfl) ?_
  refine lv_iload_n hx hb dP_firstOf_1 rfl (lv_at hl 1 rfl) ?_
  obtain ⟨v2, st1, hc, hf⟩ := ck_b_e hf
  refine ck_vi (As := [.int x1]) (rest := []) (q := 2) C h hl CP_P_has sP_has q_P (cP_has l D cA ad hc) (Nat.le_of_ble_eq_true rfl) rfl rfl (Nat.le_of_ble_eq_true rfl) dP_firstOf_2 (fun H locs h => ?_)
  refine lv_if_eq (tgt := 17) hx hb dP_firstOf_5 rfl (fun hq => ?_) (fun hq => ?_)
  · have hf := ck_t hq hf
    refine lv_iconst (v := (-1)) hx hb dP_firstOf_17 (by decide) ?_
    exact ck_ri hf hret h dP_firstOf_18
  · have hf := ck_f hq hf
    refine lv_aload_n hx hb dP_firstOf_8 rfl (lv_at hl 0 rfl) ?_
    refine ck_gr C h FP_first dP_firstOf_9 ?_
    refine lv_iload_n hx hb dP_firstOf_12 rfl (lv_at hl 1 rfl) ?_
    obtain ⟨hg, hf⟩ := ck_gd_e hf
    refine ck_ai (x := (st1 13 (x1).toNatClampNeg)) C h (show sh_C[13]? = some (.inr (0, 60)) from rfl) hg rfl dP_firstOf_13 ?_
    refine lv_goto (tgt := 18) hx hb dP_firstOf_14 rfl ?_
    exact ck_ri hf hret h dP_firstOf_18
def fP_secondOf (x1 : Int32) (st : ck_S) : Option (Int32 × ck_S) := (ck_b (fP_has x1 st) fun v2 st1 => (if v2 = 0 then (some ((-1 : Int32), st1)) else (ck_gd x1 60 (some ((st1 14 (x1).toNatClampNeg), st1)))))
set_option maxRecDepth 100000 in
set_option maxHeartbeats 4000000 in
theorem cP_secondOf (l : Launch) (D : va_G) (cA : Nat → ClassId) (ad : Nat → Nat) {x1 : Int32} {st : ck_S} {r0 : Int32} {st0 : ck_S} (hf : fP_secondOf x1 st = some (r0, st0)) : Met l yP_secondOf (.code yP_secondOf bP_secondOf 2 (some .int) :: ck_T) (ck_R 1) (va_Pc [.ref (ad 2), .int x1] (ck_P sh_C cm_cl D cA ad st)) (va_Qi (fun a u => a = r0 ∧ u = st0) (ck_P sh_C cm_cl D cA ad) (ck_A ad sh_C.length)) 0 0 (ck_A ad sh_C.length) := by
  refine ck_met_i (own := R_P) (by decide +kernel) rfl (Nat.le_of_ble_eq_true rfl) (fun p e R s m args below meth c H0 Q ls C hret h hl => ?_)
  have C1 := C
  obtain ⟨hx, hb, hml, hown, hts, hK, hlv, hlo⟩ := C1
  have hl : lv_has ls 2 [(0, .ref (ad 2)), (1, .int x1)] := hl
  unfold fP_secondOf at hf
  refine lv_aload_n hx hb dP_secondOf_0 rfl (lv_at hl 0 rfl) ?_
  refine lv_iload_n hx hb dP_secondOf_1 rfl (lv_at hl 1 rfl) ?_
  obtain ⟨v2, st1, hc, hf⟩ := ck_b_e hf
  refine ck_vi (As := [.int x1]) (rest := []) (q := 2) C h hl CP_P_has sP_has q_P (cP_has l D cA ad hc) (Nat.le_of_ble_eq_true rfl) rfl rfl (Nat.le_of_ble_eq_true rfl) dP_secondOf_2 (fun H locs h => ?_)
  refine lv_if_eq (tgt := 17) hx hb dP_secondOf_5 rfl (fun hq => ?_) (fun hq => ?_)
  · have hf := ck_t hq hf
    refine lv_iconst (v := (-1)) hx hb dP_secondOf_17 (by decide) ?_
    exact ck_ri hf hret h dP_secondOf_18
  · have hf := ck_f hq hf
    refine lv_aload_n hx hb dP_secondOf_8 rfl (lv_at hl 0 rfl) ?_
    refine ck_gr C h FP_second dP_secondOf_9 ?_
    refine lv_iload_n hx hb dP_secondOf_12 rfl (lv_at hl 1 rfl) ?_
    obtain ⟨hg, hf⟩ := ck_gd_e hf
    refine ck_ai (x := (st1 14 (x1).toNatClampNeg)) C h (show sh_C[14]? = some (.inr (0, 60)) from rfl) hg rfl dP_secondOf_13 ?_
    refine lv_goto (tgt := 18) hx hb dP_secondOf_14 rfl ?_
    exact ck_ri hf hret h dP_secondOf_18
end Spatt
