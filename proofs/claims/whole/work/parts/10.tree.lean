theorem dT_drop_0 : decode bT_drop 0 = .ok (.aload_n 0, 1) := by decide +kernel
theorem dT_drop_1 : decode bT_drop 1 = .ok (.iconst 0, 1) := by decide +kernel
theorem dT_drop_2 : decode bT_drop 2 = .ok (.putfield 56, 3) := by decide +kernel
theorem dT_drop_5 : decode bT_drop 5 = .ok (.return_, 1) := by decide +kernel
theorem dT_isThere_0 : decode bT_isThere 0 = .ok (.aload_n 0, 1) := by decide +kernel
theorem dT_isThere_1 : decode bT_isThere 1 = .ok (.getfield 56, 3) := by decide +kernel
theorem dT_isThere_4 : decode bT_isThere 4 = .ok (.ireturn, 1) := by decide +kernel
theorem dT_size_0 : decode bT_size 0 = .ok (.aload_n 0, 1) := by decide +kernel
theorem dT_size_1 : decode bT_size 1 = .ok (.getfield 49, 3) := by decide +kernel
theorem dT_size_4 : decode bT_size 4 = .ok (.ireturn, 1) := by decide +kernel
theorem dT_caught_0 : decode bT_caught 0 = .ok (.aload_n 0, 1) := by decide +kernel
theorem dT_caught_1 : decode bT_caught 1 = .ok (.getfield 53, 3) := by decide +kernel
theorem dT_caught_4 : decode bT_caught 4 = .ok (.ireturn, 1) := by decide +kernel
theorem dT_has_0 : decode bT_has 0 = .ok (.iload_n 1, 1) := by decide +kernel
theorem dT_has_1 : decode bT_has 1 = .ok (.ifCond .lt 15, 3) := by decide +kernel
theorem dT_has_4 : decode bT_has 4 = .ok (.iload_n 1, 1) := by decide +kernel
theorem dT_has_5 : decode bT_has 5 = .ok (.aload_n 0, 1) := by decide +kernel
theorem dT_has_6 : decode bT_has 6 = .ok (.getfield 49, 3) := by decide +kernel
theorem dT_has_9 : decode bT_has 9 = .ok (.if_icmp .ge 7, 3) := by decide +kernel
theorem dT_has_12 : decode bT_has 12 = .ok (.iconst 1, 1) := by decide +kernel
theorem dT_has_13 : decode bT_has 13 = .ok (.goto 4, 3) := by decide +kernel
theorem dT_has_16 : decode bT_has 16 = .ok (.iconst 0, 1) := by decide +kernel
theorem dT_has_17 : decode bT_has 17 = .ok (.ireturn, 1) := by decide +kernel
theorem dT_testsAbove_0 : decode bT_testsAbove 0 = .ok (.aload_n 0, 1) := by decide +kernel
theorem dT_testsAbove_1 : decode bT_testsAbove 1 = .ok (.iload_n 1, 1) := by decide +kernel
theorem dT_testsAbove_2 : decode bT_testsAbove 2 = .ok (.invokevirtual 68, 3) := by decide +kernel
theorem dT_testsAbove_5 : decode bT_testsAbove 5 = .ok (.ifCond .eq 12, 3) := by decide +kernel
theorem dT_testsAbove_8 : decode bT_testsAbove 8 = .ok (.aload_n 0, 1) := by decide +kernel
theorem dT_testsAbove_9 : decode bT_testsAbove 9 = .ok (.getfield 21, 3) := by decide +kernel
theorem dT_testsAbove_12 : decode bT_testsAbove 12 = .ok (.iload_n 1, 1) := by decide +kernel
theorem dT_testsAbove_13 : decode bT_testsAbove 13 = .ok (.iaload, 1) := by decide +kernel
theorem dT_testsAbove_14 : decode bT_testsAbove 14 = .ok (.goto 4, 3) := by decide +kernel
theorem dT_testsAbove_17 : decode bT_testsAbove 17 = .ok (.iconst 0, 1) := by decide +kernel
theorem dT_testsAbove_18 : decode bT_testsAbove 18 = .ok (.ireturn, 1) := by decide +kernel
theorem dT_clauseAt_0 : decode bT_clauseAt 0 = .ok (.aload_n 0, 1) := by decide +kernel
theorem dT_clauseAt_1 : decode bT_clauseAt 1 = .ok (.iload_n 1, 1) := by decide +kernel
theorem dT_clauseAt_2 : decode bT_clauseAt 2 = .ok (.invokevirtual 68, 3) := by decide +kernel
theorem dT_clauseAt_5 : decode bT_clauseAt 5 = .ok (.ifCond .eq 12, 3) := by decide +kernel
theorem dT_clauseAt_8 : decode bT_clauseAt 8 = .ok (.aload_n 0, 1) := by decide +kernel
theorem dT_clauseAt_9 : decode bT_clauseAt 9 = .ok (.getfield 30, 3) := by decide +kernel
theorem dT_clauseAt_12 : decode bT_clauseAt 12 = .ok (.iload_n 1, 1) := by decide +kernel
theorem dT_clauseAt_13 : decode bT_clauseAt 13 = .ok (.iaload, 1) := by decide +kernel
theorem dT_clauseAt_14 : decode bT_clauseAt 14 = .ok (.goto 4, 3) := by decide +kernel
theorem dT_clauseAt_17 : decode bT_clauseAt 17 = .ok (.iconst (-1), 1) := by decide +kernel
theorem dT_clauseAt_18 : decode bT_clauseAt 18 = .ok (.ireturn, 1) := by decide +kernel
theorem dT_placeOf_0 : decode bT_placeOf 0 = .ok (.aload_n 0, 1) := by decide +kernel
theorem dT_placeOf_1 : decode bT_placeOf 1 = .ok (.iload_n 1, 1) := by decide +kernel
theorem dT_placeOf_2 : decode bT_placeOf 2 = .ok (.invokevirtual 68, 3) := by decide +kernel
theorem dT_placeOf_5 : decode bT_placeOf 5 = .ok (.ifCond .eq 12, 3) := by decide +kernel
theorem dT_placeOf_8 : decode bT_placeOf 8 = .ok (.aload_n 0, 1) := by decide +kernel
theorem dT_placeOf_9 : decode bT_placeOf 9 = .ok (.getfield 24, 3) := by decide +kernel
theorem dT_placeOf_12 : decode bT_placeOf 12 = .ok (.iload_n 1, 1) := by decide +kernel
theorem dT_placeOf_13 : decode bT_placeOf 13 = .ok (.iaload, 1) := by decide +kernel
theorem dT_placeOf_14 : decode bT_placeOf 14 = .ok (.goto 4, 3) := by decide +kernel
theorem dT_placeOf_17 : decode bT_placeOf 17 = .ok (.iconst 0, 1) := by decide +kernel
theorem dT_placeOf_18 : decode bT_placeOf 18 = .ok (.ireturn, 1) := by decide +kernel
theorem dT_typeOfTest_0 : decode bT_typeOfTest 0 = .ok (.aload_n 0, 1) := by decide +kernel
theorem dT_typeOfTest_1 : decode bT_typeOfTest 1 = .ok (.iload_n 1, 1) := by decide +kernel
theorem dT_typeOfTest_2 : decode bT_typeOfTest 2 = .ok (.invokevirtual 68, 3) := by decide +kernel
theorem dT_typeOfTest_5 : decode bT_typeOfTest 5 = .ok (.ifCond .eq 12, 3) := by decide +kernel
theorem dT_typeOfTest_8 : decode bT_typeOfTest 8 = .ok (.aload_n 0, 1) := by decide +kernel
theorem dT_typeOfTest_9 : decode bT_typeOfTest 9 = .ok (.getfield 27, 3) := by decide +kernel
theorem dT_typeOfTest_12 : decode bT_typeOfTest 12 = .ok (.iload_n 1, 1) := by decide +kernel
theorem dT_typeOfTest_13 : decode bT_typeOfTest 13 = .ok (.iaload, 1) := by decide +kernel
theorem dT_typeOfTest_14 : decode bT_typeOfTest 14 = .ok (.goto 4, 3) := by decide +kernel
theorem dT_typeOfTest_17 : decode bT_typeOfTest 17 = .ok (.iconst (-1), 1) := by decide +kernel
theorem dT_typeOfTest_18 : decode bT_typeOfTest 18 = .ok (.ireturn, 1) := by decide +kernel
theorem dT_labelOf_0 : decode bT_labelOf 0 = .ok (.aload_n 0, 1) := by decide +kernel
theorem dT_labelOf_1 : decode bT_labelOf 1 = .ok (.iload_n 1, 1) := by decide +kernel
theorem dT_labelOf_2 : decode bT_labelOf 2 = .ok (.invokevirtual 68, 3) := by decide +kernel
theorem dT_labelOf_5 : decode bT_labelOf 5 = .ok (.ifCond .eq 12, 3) := by decide +kernel
theorem dT_labelOf_8 : decode bT_labelOf 8 = .ok (.aload_n 0, 1) := by decide +kernel
theorem dT_labelOf_9 : decode bT_labelOf 9 = .ok (.getfield 18, 3) := by decide +kernel
theorem dT_labelOf_12 : decode bT_labelOf 12 = .ok (.iload_n 1, 1) := by decide +kernel
theorem dT_labelOf_13 : decode bT_labelOf 13 = .ok (.iaload, 1) := by decide +kernel
theorem dT_labelOf_14 : decode bT_labelOf 14 = .ok (.goto 4, 3) := by decide +kernel
theorem dT_labelOf_17 : decode bT_labelOf 17 = .ok (.iconst 0, 1) := by decide +kernel
theorem dT_labelOf_18 : decode bT_labelOf 18 = .ok (.ireturn, 1) := by decide +kernel
theorem dT_addNode_0 : decode bT_addNode 0 = .ok (.aload_n 0, 1) := by decide +kernel
theorem dT_addNode_1 : decode bT_addNode 1 = .ok (.getfield 49, 3) := by decide +kernel
theorem dT_addNode_4 : decode bT_addNode 4 = .ok (.bipush 60, 2) := by decide +kernel
theorem dT_addNode_6 : decode bT_addNode 6 = .ok (.if_icmp .lt 5, 3) := by decide +kernel
theorem dT_addNode_9 : decode bT_addNode 9 = .ok (.iconst 0, 1) := by decide +kernel
theorem dT_addNode_10 : decode bT_addNode 10 = .ok (.ireturn, 1) := by decide +kernel
theorem dT_addNode_11 : decode bT_addNode 11 = .ok (.aload_n 0, 1) := by decide +kernel
theorem dT_addNode_12 : decode bT_addNode 12 = .ok (.getfield 18, 3) := by decide +kernel
theorem dT_addNode_15 : decode bT_addNode 15 = .ok (.aload_n 0, 1) := by decide +kernel
theorem dT_addNode_16 : decode bT_addNode 16 = .ok (.getfield 49, 3) := by decide +kernel
theorem dT_addNode_19 : decode bT_addNode 19 = .ok (.iload_n 1, 1) := by decide +kernel
theorem dT_addNode_20 : decode bT_addNode 20 = .ok (.iastore, 1) := by decide +kernel
theorem dT_addNode_21 : decode bT_addNode 21 = .ok (.aload_n 0, 1) := by decide +kernel
theorem dT_addNode_22 : decode bT_addNode 22 = .ok (.getfield 9, 3) := by decide +kernel
theorem dT_addNode_25 : decode bT_addNode 25 = .ok (.aload_n 0, 1) := by decide +kernel
theorem dT_addNode_26 : decode bT_addNode 26 = .ok (.getfield 49, 3) := by decide +kernel
theorem dT_addNode_29 : decode bT_addNode 29 = .ok (.iload_n 2, 1) := by decide +kernel
theorem dT_addNode_30 : decode bT_addNode 30 = .ok (.iastore, 1) := by decide +kernel
theorem dT_addNode_31 : decode bT_addNode 31 = .ok (.aload_n 0, 1) := by decide +kernel
theorem dT_addNode_32 : decode bT_addNode 32 = .ok (.getfield 15, 3) := by decide +kernel
theorem dT_addNode_35 : decode bT_addNode 35 = .ok (.aload_n 0, 1) := by decide +kernel
theorem dT_addNode_36 : decode bT_addNode 36 = .ok (.getfield 49, 3) := by decide +kernel
theorem dT_addNode_39 : decode bT_addNode 39 = .ok (.iload_n 3, 1) := by decide +kernel
theorem dT_addNode_40 : decode bT_addNode 40 = .ok (.iastore, 1) := by decide +kernel
theorem dT_addNode_41 : decode bT_addNode 41 = .ok (.aload_n 0, 1) := by decide +kernel
theorem dT_addNode_42 : decode bT_addNode 42 = .ok (.getfield 21, 3) := by decide +kernel
theorem dT_addNode_45 : decode bT_addNode 45 = .ok (.aload_n 0, 1) := by decide +kernel
theorem dT_addNode_46 : decode bT_addNode 46 = .ok (.getfield 49, 3) := by decide +kernel
theorem dT_addNode_49 : decode bT_addNode 49 = .ok (.iload 4, 2) := by decide +kernel
theorem dT_addNode_51 : decode bT_addNode 51 = .ok (.iastore, 1) := by decide +kernel
theorem dT_addNode_52 : decode bT_addNode 52 = .ok (.aload_n 0, 1) := by decide +kernel
theorem dT_addNode_53 : decode bT_addNode 53 = .ok (.getfield 24, 3) := by decide +kernel
theorem dT_addNode_56 : decode bT_addNode 56 = .ok (.aload_n 0, 1) := by decide +kernel
theorem dT_addNode_57 : decode bT_addNode 57 = .ok (.getfield 49, 3) := by decide +kernel
theorem dT_addNode_60 : decode bT_addNode 60 = .ok (.iconst 0, 1) := by decide +kernel
theorem dT_addNode_61 : decode bT_addNode 61 = .ok (.iastore, 1) := by decide +kernel
theorem dT_addNode_62 : decode bT_addNode 62 = .ok (.aload_n 0, 1) := by decide +kernel
theorem dT_addNode_63 : decode bT_addNode 63 = .ok (.getfield 27, 3) := by decide +kernel
theorem dT_addNode_66 : decode bT_addNode 66 = .ok (.aload_n 0, 1) := by decide +kernel
theorem dT_addNode_67 : decode bT_addNode 67 = .ok (.getfield 49, 3) := by decide +kernel
theorem dT_addNode_70 : decode bT_addNode 70 = .ok (.iconst (-1), 1) := by decide +kernel
theorem dT_addNode_71 : decode bT_addNode 71 = .ok (.iastore, 1) := by decide +kernel
theorem dT_addNode_72 : decode bT_addNode 72 = .ok (.aload_n 0, 1) := by decide +kernel
theorem dT_addNode_73 : decode bT_addNode 73 = .ok (.getfield 30, 3) := by decide +kernel
theorem dT_addNode_76 : decode bT_addNode 76 = .ok (.aload_n 0, 1) := by decide +kernel
theorem dT_addNode_77 : decode bT_addNode 77 = .ok (.getfield 49, 3) := by decide +kernel
theorem dT_addNode_80 : decode bT_addNode 80 = .ok (.iconst (-1), 1) := by decide +kernel
theorem dT_addNode_81 : decode bT_addNode 81 = .ok (.iastore, 1) := by decide +kernel
theorem dT_addNode_82 : decode bT_addNode 82 = .ok (.aload_n 0, 1) := by decide +kernel
theorem dT_addNode_83 : decode bT_addNode 83 = .ok (.getfield 33, 3) := by decide +kernel
theorem dT_addNode_86 : decode bT_addNode 86 = .ok (.aload_n 0, 1) := by decide +kernel
theorem dT_addNode_87 : decode bT_addNode 87 = .ok (.getfield 49, 3) := by decide +kernel
theorem dT_addNode_90 : decode bT_addNode 90 = .ok (.iconst 0, 1) := by decide +kernel
theorem dT_addNode_91 : decode bT_addNode 91 = .ok (.iastore, 1) := by decide +kernel
theorem dT_addNode_92 : decode bT_addNode 92 = .ok (.aload_n 0, 1) := by decide +kernel
theorem dT_addNode_93 : decode bT_addNode 93 = .ok (.getfield 36, 3) := by decide +kernel
theorem dT_addNode_96 : decode bT_addNode 96 = .ok (.aload_n 0, 1) := by decide +kernel
theorem dT_addNode_97 : decode bT_addNode 97 = .ok (.getfield 49, 3) := by decide +kernel
theorem dT_addNode_100 : decode bT_addNode 100 = .ok (.iconst 0, 1) := by decide +kernel
theorem dT_addNode_101 : decode bT_addNode 101 = .ok (.iastore, 1) := by decide +kernel
theorem dT_addNode_102 : decode bT_addNode 102 = .ok (.aload_n 0, 1) := by decide +kernel
theorem dT_addNode_103 : decode bT_addNode 103 = .ok (.dup, 1) := by decide +kernel
theorem dT_addNode_104 : decode bT_addNode 104 = .ok (.getfield 49, 3) := by decide +kernel
theorem dT_addNode_107 : decode bT_addNode 107 = .ok (.iconst 1, 1) := by decide +kernel
theorem dT_addNode_108 : decode bT_addNode 108 = .ok (.iadd, 1) := by decide +kernel
theorem dT_addNode_109 : decode bT_addNode 109 = .ok (.putfield 49, 3) := by decide +kernel
theorem dT_addNode_112 : decode bT_addNode 112 = .ok (.iconst 1, 1) := by decide +kernel
theorem dT_addNode_113 : decode bT_addNode 113 = .ok (.ireturn, 1) := by decide +kernel
theorem dT_makeLeaf_0 : decode bT_makeLeaf 0 = .ok (.aload_n 0, 1) := by decide +kernel
theorem dT_makeLeaf_1 : decode bT_makeLeaf 1 = .ok (.getfield 30, 3) := by decide +kernel
theorem dT_makeLeaf_4 : decode bT_makeLeaf 4 = .ok (.iload_n 1, 1) := by decide +kernel
theorem dT_makeLeaf_5 : decode bT_makeLeaf 5 = .ok (.aload_n 0, 1) := by decide +kernel
theorem dT_makeLeaf_6 : decode bT_makeLeaf 6 = .ok (.getfield 64, 3) := by decide +kernel
theorem dT_makeLeaf_9 : decode bT_makeLeaf 9 = .ok (.aload_n 0, 1) := by decide +kernel
theorem dT_makeLeaf_10 : decode bT_makeLeaf 10 = .ok (.getfield 9, 3) := by decide +kernel
theorem dT_makeLeaf_13 : decode bT_makeLeaf 13 = .ok (.iload_n 1, 1) := by decide +kernel
theorem dT_makeLeaf_14 : decode bT_makeLeaf 14 = .ok (.iaload, 1) := by decide +kernel
theorem dT_makeLeaf_15 : decode bT_makeLeaf 15 = .ok (.invokevirtual 105, 3) := by decide +kernel
theorem dT_makeLeaf_18 : decode bT_makeLeaf 18 = .ok (.iastore, 1) := by decide +kernel
theorem dT_makeLeaf_19 : decode bT_makeLeaf 19 = .ok (.aload_n 0, 1) := by decide +kernel
theorem dT_makeLeaf_20 : decode bT_makeLeaf 20 = .ok (.getfield 30, 3) := by decide +kernel
theorem dT_makeLeaf_23 : decode bT_makeLeaf 23 = .ok (.iload_n 1, 1) := by decide +kernel
theorem dT_makeLeaf_24 : decode bT_makeLeaf 24 = .ok (.iaload, 1) := by decide +kernel
theorem dT_makeLeaf_25 : decode bT_makeLeaf 25 = .ok (.iconst (-1), 1) := by decide +kernel
theorem dT_makeLeaf_26 : decode bT_makeLeaf 26 = .ok (.if_icmp .eq 20, 3) := by decide +kernel
theorem dT_makeLeaf_29 : decode bT_makeLeaf 29 = .ok (.aload_n 0, 1) := by decide +kernel
theorem dT_makeLeaf_30 : decode bT_makeLeaf 30 = .ok (.dup, 1) := by decide +kernel
theorem dT_makeLeaf_31 : decode bT_makeLeaf 31 = .ok (.getfield 53, 3) := by decide +kernel
theorem dT_makeLeaf_34 : decode bT_makeLeaf 34 = .ok (.iconst 1, 1) := by decide +kernel
theorem dT_makeLeaf_35 : decode bT_makeLeaf 35 = .ok (.aload_n 0, 1) := by decide +kernel
theorem dT_makeLeaf_36 : decode bT_makeLeaf 36 = .ok (.getfield 30, 3) := by decide +kernel
theorem dT_makeLeaf_39 : decode bT_makeLeaf 39 = .ok (.iload_n 1, 1) := by decide +kernel
theorem dT_makeLeaf_40 : decode bT_makeLeaf 40 = .ok (.iaload, 1) := by decide +kernel
theorem dT_makeLeaf_41 : decode bT_makeLeaf 41 = .ok (.ishl, 1) := by decide +kernel
theorem dT_makeLeaf_42 : decode bT_makeLeaf 42 = .ok (.ior, 1) := by decide +kernel
theorem dT_makeLeaf_43 : decode bT_makeLeaf 43 = .ok (.putfield 53, 3) := by decide +kernel
theorem dT_makeLeaf_46 : decode bT_makeLeaf 46 = .ok (.return_, 1) := by decide +kernel
theorem dT_addNumbers_0 : decode bT_addNumbers 0 = .ok (.iconst 1, 1) := by decide +kernel
theorem dT_addNumbers_1 : decode bT_addNumbers 1 = .ok (.istore_n 2, 1) := by decide +kernel
theorem dT_addNumbers_2 : decode bT_addNumbers 2 = .ok (.aload_n 0, 1) := by decide +kernel
theorem dT_addNumbers_3 : decode bT_addNumbers 3 = .ok (.getfield 15, 3) := by decide +kernel
theorem dT_addNumbers_6 : decode bT_addNumbers 6 = .ok (.iload_n 1, 1) := by decide +kernel
theorem dT_addNumbers_7 : decode bT_addNumbers 7 = .ok (.iaload, 1) := by decide +kernel
theorem dT_addNumbers_8 : decode bT_addNumbers 8 = .ok (.iconst 1, 1) := by decide +kernel
theorem dT_addNumbers_9 : decode bT_addNumbers 9 = .ok (.aload_n 0, 1) := by decide +kernel
theorem dT_addNumbers_10 : decode bT_addNumbers 10 = .ok (.getfield 24, 3) := by decide +kernel
theorem dT_addNumbers_13 : decode bT_addNumbers 13 = .ok (.iload_n 1, 1) := by decide +kernel
theorem dT_addNumbers_14 : decode bT_addNumbers 14 = .ok (.iaload, 1) := by decide +kernel
theorem dT_addNumbers_15 : decode bT_addNumbers 15 = .ok (.ishl, 1) := by decide +kernel
theorem dT_addNumbers_16 : decode bT_addNumbers 16 = .ok (.iconst (-1), 1) := by decide +kernel
theorem dT_addNumbers_17 : decode bT_addNumbers 17 = .ok (.ixor, 1) := by decide +kernel
theorem dT_addNumbers_18 : decode bT_addNumbers 18 = .ok (.iand, 1) := by decide +kernel
theorem dT_addNumbers_19 : decode bT_addNumbers 19 = .ok (.istore_n 3, 1) := by decide +kernel
theorem dT_addNumbers_20 : decode bT_addNumbers 20 = .ok (.aload_n 0, 1) := by decide +kernel
theorem dT_addNumbers_21 : decode bT_addNumbers 21 = .ok (.getfield 64, 3) := by decide +kernel
theorem dT_addNumbers_24 : decode bT_addNumbers 24 = .ok (.ldc2_w 109, 3) := by decide +kernel
theorem dT_addNumbers_27 : decode bT_addNumbers 27 = .ok (.aload_n 0, 1) := by decide +kernel
theorem dT_addNumbers_28 : decode bT_addNumbers 28 = .ok (.getfield 9, 3) := by decide +kernel
theorem dT_addNumbers_31 : decode bT_addNumbers 31 = .ok (.iload_n 1, 1) := by decide +kernel
theorem dT_addNumbers_32 : decode bT_addNumbers 32 = .ok (.iaload, 1) := by decide +kernel
theorem dT_addNumbers_33 : decode bT_addNumbers 33 = .ok (.aload_n 0, 1) := by decide +kernel
theorem dT_addNumbers_34 : decode bT_addNumbers 34 = .ok (.getfield 24, 3) := by decide +kernel
theorem dT_addNumbers_37 : decode bT_addNumbers 37 = .ok (.iload_n 1, 1) := by decide +kernel
theorem dT_addNumbers_38 : decode bT_addNumbers 38 = .ok (.iaload, 1) := by decide +kernel
theorem dT_addNumbers_39 : decode bT_addNumbers 39 = .ok (.invokevirtual 111, 3) := by decide +kernel
theorem dT_addNumbers_42 : decode bT_addNumbers 42 = .ok (.lstore 4, 2) := by decide +kernel
theorem dT_addNumbers_44 : decode bT_addNumbers 44 = .ok (.iconst 0, 1) := by decide +kernel
theorem dT_addNumbers_45 : decode bT_addNumbers 45 = .ok (.istore 6, 2) := by decide +kernel
theorem dT_addNumbers_47 : decode bT_addNumbers 47 = .ok (.iload 6, 2) := by decide +kernel
theorem dT_addNumbers_49 : decode bT_addNumbers 49 = .ok (.bipush 16, 2) := by decide +kernel
theorem dT_addNumbers_51 : decode bT_addNumbers 51 = .ok (.if_icmp .ge 88, 3) := by decide +kernel
theorem dT_addNumbers_54 : decode bT_addNumbers 54 = .ok (.lload 4, 2) := by decide +kernel
theorem dT_addNumbers_56 : decode bT_addNumbers 56 = .ok (.ldc2_w 115, 3) := by decide +kernel
theorem dT_addNumbers_59 : decode bT_addNumbers 59 = .ok (.lcmp, 1) := by decide +kernel
theorem dT_addNumbers_60 : decode bT_addNumbers 60 = .ok (.ifCond .eq 79, 3) := by decide +kernel
theorem dT_addNumbers_63 : decode bT_addNumbers 63 = .ok (.iload_n 2, 1) := by decide +kernel
theorem dT_addNumbers_64 : decode bT_addNumbers 64 = .ok (.ifCond .eq 75, 3) := by decide +kernel
theorem dT_addNumbers_67 : decode bT_addNumbers 67 = .ok (.aload_n 0, 1) := by decide +kernel
theorem dT_addNumbers_68 : decode bT_addNumbers 68 = .ok (.getfield 64, 3) := by decide +kernel
theorem dT_addNumbers_71 : decode bT_addNumbers 71 = .ok (.aload_n 0, 1) := by decide +kernel
theorem dT_addNumbers_72 : decode bT_addNumbers 72 = .ok (.getfield 9, 3) := by decide +kernel
theorem dT_addNumbers_75 : decode bT_addNumbers 75 = .ok (.iload_n 1, 1) := by decide +kernel
theorem dT_addNumbers_76 : decode bT_addNumbers 76 = .ok (.iaload, 1) := by decide +kernel
theorem dT_addNumbers_77 : decode bT_addNumbers 77 = .ok (.aload_n 0, 1) := by decide +kernel
theorem dT_addNumbers_78 : decode bT_addNumbers 78 = .ok (.getfield 24, 3) := by decide +kernel
theorem dT_addNumbers_81 : decode bT_addNumbers 81 = .ok (.iload_n 1, 1) := by decide +kernel
theorem dT_addNumbers_82 : decode bT_addNumbers 82 = .ok (.iaload, 1) := by decide +kernel
theorem dT_addNumbers_83 : decode bT_addNumbers 83 = .ok (.lload 4, 2) := by decide +kernel
theorem dT_addNumbers_85 : decode bT_addNumbers 85 = .ok (.l2i, 1) := by decide +kernel
theorem dT_addNumbers_86 : decode bT_addNumbers 86 = .ok (.invokevirtual 117, 3) := by decide +kernel
theorem dT_addNumbers_89 : decode bT_addNumbers 89 = .ok (.istore 7, 2) := by decide +kernel
theorem dT_addNumbers_91 : decode bT_addNumbers 91 = .ok (.aload_n 0, 1) := by decide +kernel
theorem dT_addNumbers_92 : decode bT_addNumbers 92 = .ok (.lload 4, 2) := by decide +kernel
theorem dT_addNumbers_94 : decode bT_addNumbers 94 = .ok (.l2i, 1) := by decide +kernel
theorem dT_addNumbers_95 : decode bT_addNumbers 95 = .ok (.iload 7, 2) := by decide +kernel
theorem dT_addNumbers_97 : decode bT_addNumbers 97 = .ok (.iload_n 3, 1) := by decide +kernel
theorem dT_addNumbers_98 : decode bT_addNumbers 98 = .ok (.aload_n 0, 1) := by decide +kernel
theorem dT_addNumbers_99 : decode bT_addNumbers 99 = .ok (.getfield 21, 3) := by decide +kernel
theorem dT_addNumbers_102 : decode bT_addNumbers 102 = .ok (.iload_n 1, 1) := by decide +kernel
theorem dT_addNumbers_103 : decode bT_addNumbers 103 = .ok (.iaload, 1) := by decide +kernel
theorem dT_addNumbers_104 : decode bT_addNumbers 104 = .ok (.iconst 1, 1) := by decide +kernel
theorem dT_addNumbers_105 : decode bT_addNumbers 105 = .ok (.iadd, 1) := by decide +kernel
theorem dT_addNumbers_106 : decode bT_addNumbers 106 = .ok (.invokevirtual 78, 3) := by decide +kernel
theorem dT_addNumbers_109 : decode bT_addNumbers 109 = .ok (.istore_n 2, 1) := by decide +kernel
theorem dT_addNumbers_110 : decode bT_addNumbers 110 = .ok (.aload_n 0, 1) := by decide +kernel
theorem dT_addNumbers_111 : decode bT_addNumbers 111 = .ok (.getfield 64, 3) := by decide +kernel
theorem dT_addNumbers_114 : decode bT_addNumbers 114 = .ok (.lload 4, 2) := by decide +kernel
theorem dT_addNumbers_116 : decode bT_addNumbers 116 = .ok (.aload_n 0, 1) := by decide +kernel
theorem dT_addNumbers_117 : decode bT_addNumbers 117 = .ok (.getfield 9, 3) := by decide +kernel
theorem dT_addNumbers_120 : decode bT_addNumbers 120 = .ok (.iload_n 1, 1) := by decide +kernel
theorem dT_addNumbers_121 : decode bT_addNumbers 121 = .ok (.iaload, 1) := by decide +kernel
theorem dT_addNumbers_122 : decode bT_addNumbers 122 = .ok (.aload_n 0, 1) := by decide +kernel
theorem dT_addNumbers_123 : decode bT_addNumbers 123 = .ok (.getfield 24, 3) := by decide +kernel
theorem dT_addNumbers_126 : decode bT_addNumbers 126 = .ok (.iload_n 1, 1) := by decide +kernel
theorem dT_addNumbers_127 : decode bT_addNumbers 127 = .ok (.iaload, 1) := by decide +kernel
theorem dT_addNumbers_128 : decode bT_addNumbers 128 = .ok (.invokevirtual 111, 3) := by decide +kernel
theorem dT_addNumbers_131 : decode bT_addNumbers 131 = .ok (.lstore 4, 2) := by decide +kernel
theorem dT_addNumbers_133 : decode bT_addNumbers 133 = .ok (.iinc 6 1, 3) := by decide +kernel
theorem dT_addNumbers_136 : decode bT_addNumbers 136 = .ok (.goto (-89), 3) := by decide +kernel
theorem dT_addNumbers_139 : decode bT_addNumbers 139 = .ok (.aload_n 0, 1) := by decide +kernel
theorem dT_addNumbers_140 : decode bT_addNumbers 140 = .ok (.getfield 64, 3) := by decide +kernel
theorem dT_addNumbers_143 : decode bT_addNumbers 143 = .ok (.aload_n 0, 1) := by decide +kernel
theorem dT_addNumbers_144 : decode bT_addNumbers 144 = .ok (.getfield 9, 3) := by decide +kernel
theorem dT_addNumbers_147 : decode bT_addNumbers 147 = .ok (.iload_n 1, 1) := by decide +kernel
theorem dT_addNumbers_148 : decode bT_addNumbers 148 = .ok (.iaload, 1) := by decide +kernel
theorem dT_addNumbers_149 : decode bT_addNumbers 149 = .ok (.aload_n 0, 1) := by decide +kernel
theorem dT_addNumbers_150 : decode bT_addNumbers 150 = .ok (.getfield 24, 3) := by decide +kernel
theorem dT_addNumbers_153 : decode bT_addNumbers 153 = .ok (.iload_n 1, 1) := by decide +kernel
theorem dT_addNumbers_154 : decode bT_addNumbers 154 = .ok (.iaload, 1) := by decide +kernel
theorem dT_addNumbers_155 : decode bT_addNumbers 155 = .ok (.invokevirtual 121, 3) := by decide +kernel
theorem dT_addNumbers_158 : decode bT_addNumbers 158 = .ok (.istore 6, 2) := by decide +kernel
theorem dT_addNumbers_160 : decode bT_addNumbers 160 = .ok (.iload_n 2, 1) := by decide +kernel
theorem dT_addNumbers_161 : decode bT_addNumbers 161 = .ok (.ifCond .eq 26, 3) := by decide +kernel
theorem dT_addNumbers_164 : decode bT_addNumbers 164 = .ok (.aload_n 0, 1) := by decide +kernel
theorem dT_addNumbers_165 : decode bT_addNumbers 165 = .ok (.iconst 0, 1) := by decide +kernel
theorem dT_addNumbers_166 : decode bT_addNumbers 166 = .ok (.iload 6, 2) := by decide +kernel
theorem dT_addNumbers_168 : decode bT_addNumbers 168 = .ok (.iload_n 3, 1) := by decide +kernel
theorem dT_addNumbers_169 : decode bT_addNumbers 169 = .ok (.aload_n 0, 1) := by decide +kernel
theorem dT_addNumbers_170 : decode bT_addNumbers 170 = .ok (.getfield 21, 3) := by decide +kernel
theorem dT_addNumbers_173 : decode bT_addNumbers 173 = .ok (.iload_n 1, 1) := by decide +kernel
theorem dT_addNumbers_174 : decode bT_addNumbers 174 = .ok (.iaload, 1) := by decide +kernel
theorem dT_addNumbers_175 : decode bT_addNumbers 175 = .ok (.iconst 1, 1) := by decide +kernel
theorem dT_addNumbers_176 : decode bT_addNumbers 176 = .ok (.iadd, 1) := by decide +kernel
theorem dT_addNumbers_177 : decode bT_addNumbers 177 = .ok (.invokevirtual 78, 3) := by decide +kernel
theorem dT_addNumbers_180 : decode bT_addNumbers 180 = .ok (.ifCond .eq 7, 3) := by decide +kernel
theorem dT_addNumbers_183 : decode bT_addNumbers 183 = .ok (.iconst 1, 1) := by decide +kernel
theorem dT_addNumbers_184 : decode bT_addNumbers 184 = .ok (.goto 4, 3) := by decide +kernel
theorem dT_addNumbers_187 : decode bT_addNumbers 187 = .ok (.iconst 0, 1) := by decide +kernel
theorem dT_addNumbers_188 : decode bT_addNumbers 188 = .ok (.ireturn, 1) := by decide +kernel
theorem dT_addConstructors_0 : decode bT_addConstructors 0 = .ok (.iconst 1, 1) := by decide +kernel
theorem dT_addConstructors_1 : decode bT_addConstructors 1 = .ok (.istore_n 2, 1) := by decide +kernel
theorem dT_addConstructors_2 : decode bT_addConstructors 2 = .ok (.aload_n 0, 1) := by decide +kernel
theorem dT_addConstructors_3 : decode bT_addConstructors 3 = .ok (.getfield 15, 3) := by decide +kernel
theorem dT_addConstructors_6 : decode bT_addConstructors 6 = .ok (.iload_n 1, 1) := by decide +kernel
theorem dT_addConstructors_7 : decode bT_addConstructors 7 = .ok (.iaload, 1) := by decide +kernel
theorem dT_addConstructors_8 : decode bT_addConstructors 8 = .ok (.iconst 1, 1) := by decide +kernel
theorem dT_addConstructors_9 : decode bT_addConstructors 9 = .ok (.aload_n 0, 1) := by decide +kernel
theorem dT_addConstructors_10 : decode bT_addConstructors 10 = .ok (.getfield 24, 3) := by decide +kernel
theorem dT_addConstructors_13 : decode bT_addConstructors 13 = .ok (.iload_n 1, 1) := by decide +kernel
theorem dT_addConstructors_14 : decode bT_addConstructors 14 = .ok (.iaload, 1) := by decide +kernel
theorem dT_addConstructors_15 : decode bT_addConstructors 15 = .ok (.ishl, 1) := by decide +kernel
theorem dT_addConstructors_16 : decode bT_addConstructors 16 = .ok (.iconst (-1), 1) := by decide +kernel
theorem dT_addConstructors_17 : decode bT_addConstructors 17 = .ok (.ixor, 1) := by decide +kernel
theorem dT_addConstructors_18 : decode bT_addConstructors 18 = .ok (.iand, 1) := by decide +kernel
theorem dT_addConstructors_19 : decode bT_addConstructors 19 = .ok (.istore_n 3, 1) := by decide +kernel
theorem dT_addConstructors_20 : decode bT_addConstructors 20 = .ok (.iconst 0, 1) := by decide +kernel
theorem dT_addConstructors_21 : decode bT_addConstructors 21 = .ok (.istore 4, 2) := by decide +kernel
theorem dT_addConstructors_23 : decode bT_addConstructors 23 = .ok (.iload 4, 2) := by decide +kernel
theorem dT_addConstructors_25 : decode bT_addConstructors 25 = .ok (.aload_n 0, 1) := by decide +kernel
theorem dT_addConstructors_26 : decode bT_addConstructors 26 = .ok (.getfield 60, 3) := by decide +kernel
theorem dT_addConstructors_29 : decode bT_addConstructors 29 = .ok (.invokevirtual 124, 3) := by decide +kernel
theorem dT_addConstructors_32 : decode bT_addConstructors 32 = .ok (.if_icmp .ge 92, 3) := by decide +kernel
theorem dT_addConstructors_35 : decode bT_addConstructors 35 = .ok (.iload_n 2, 1) := by decide +kernel
theorem dT_addConstructors_36 : decode bT_addConstructors 36 = .ok (.ifCond .eq 88, 3) := by decide +kernel
theorem dT_addConstructors_39 : decode bT_addConstructors 39 = .ok (.aload_n 0, 1) := by decide +kernel
theorem dT_addConstructors_40 : decode bT_addConstructors 40 = .ok (.getfield 60, 3) := by decide +kernel
theorem dT_addConstructors_43 : decode bT_addConstructors 43 = .ok (.iload 4, 2) := by decide +kernel
theorem dT_addConstructors_45 : decode bT_addConstructors 45 = .ok (.invokevirtual 129, 3) := by decide +kernel
theorem dT_addConstructors_48 : decode bT_addConstructors 48 = .ok (.aload_n 0, 1) := by decide +kernel
theorem dT_addConstructors_49 : decode bT_addConstructors 49 = .ok (.getfield 27, 3) := by decide +kernel
theorem dT_addConstructors_52 : decode bT_addConstructors 52 = .ok (.iload_n 1, 1) := by decide +kernel
theorem dT_addConstructors_53 : decode bT_addConstructors 53 = .ok (.iaload, 1) := by decide +kernel
theorem dT_addConstructors_54 : decode bT_addConstructors 54 = .ok (.if_icmp .ne 64, 3) := by decide +kernel
theorem dT_addConstructors_57 : decode bT_addConstructors 57 = .ok (.aload_n 0, 1) := by decide +kernel
theorem dT_addConstructors_58 : decode bT_addConstructors 58 = .ok (.getfield 64, 3) := by decide +kernel
theorem dT_addConstructors_61 : decode bT_addConstructors 61 = .ok (.aload_n 0, 1) := by decide +kernel
theorem dT_addConstructors_62 : decode bT_addConstructors 62 = .ok (.getfield 9, 3) := by decide +kernel
theorem dT_addConstructors_65 : decode bT_addConstructors 65 = .ok (.iload_n 1, 1) := by decide +kernel
theorem dT_addConstructors_66 : decode bT_addConstructors 66 = .ok (.iaload, 1) := by decide +kernel
theorem dT_addConstructors_67 : decode bT_addConstructors 67 = .ok (.aload_n 0, 1) := by decide +kernel
theorem dT_addConstructors_68 : decode bT_addConstructors 68 = .ok (.getfield 24, 3) := by decide +kernel
theorem dT_addConstructors_71 : decode bT_addConstructors 71 = .ok (.iload_n 1, 1) := by decide +kernel
theorem dT_addConstructors_72 : decode bT_addConstructors 72 = .ok (.iaload, 1) := by decide +kernel
theorem dT_addConstructors_73 : decode bT_addConstructors 73 = .ok (.iload 4, 2) := by decide +kernel
theorem dT_addConstructors_75 : decode bT_addConstructors 75 = .ok (.invokevirtual 117, 3) := by decide +kernel
theorem dT_addConstructors_78 : decode bT_addConstructors 78 = .ok (.istore 5, 2) := by decide +kernel
theorem dT_addConstructors_80 : decode bT_addConstructors 80 = .ok (.aload_n 0, 1) := by decide +kernel
theorem dT_addConstructors_81 : decode bT_addConstructors 81 = .ok (.getfield 60, 3) := by decide +kernel
theorem dT_addConstructors_84 : decode bT_addConstructors 84 = .ok (.iload 4, 2) := by decide +kernel
theorem dT_addConstructors_86 : decode bT_addConstructors 86 = .ok (.aload_n 0, 1) := by decide +kernel
theorem dT_addConstructors_87 : decode bT_addConstructors 87 = .ok (.getfield 24, 3) := by decide +kernel
theorem dT_addConstructors_90 : decode bT_addConstructors 90 = .ok (.iload_n 1, 1) := by decide +kernel
theorem dT_addConstructors_91 : decode bT_addConstructors 91 = .ok (.iaload, 1) := by decide +kernel
theorem dT_addConstructors_92 : decode bT_addConstructors 92 = .ok (.invokevirtual 132, 3) := by decide +kernel
theorem dT_addConstructors_95 : decode bT_addConstructors 95 = .ok (.istore 6, 2) := by decide +kernel
theorem dT_addConstructors_97 : decode bT_addConstructors 97 = .ok (.aload_n 0, 1) := by decide +kernel
theorem dT_addConstructors_98 : decode bT_addConstructors 98 = .ok (.iload 4, 2) := by decide +kernel
theorem dT_addConstructors_100 : decode bT_addConstructors 100 = .ok (.iload 5, 2) := by decide +kernel
theorem dT_addConstructors_102 : decode bT_addConstructors 102 = .ok (.iload_n 3, 1) := by decide +kernel
theorem dT_addConstructors_103 : decode bT_addConstructors 103 = .ok (.iload 6, 2) := by decide +kernel
theorem dT_addConstructors_105 : decode bT_addConstructors 105 = .ok (.ior, 1) := by decide +kernel
theorem dT_addConstructors_106 : decode bT_addConstructors 106 = .ok (.aload_n 0, 1) := by decide +kernel
theorem dT_addConstructors_107 : decode bT_addConstructors 107 = .ok (.getfield 21, 3) := by decide +kernel
theorem dT_addConstructors_110 : decode bT_addConstructors 110 = .ok (.iload_n 1, 1) := by decide +kernel
theorem dT_addConstructors_111 : decode bT_addConstructors 111 = .ok (.iaload, 1) := by decide +kernel
theorem dT_addConstructors_112 : decode bT_addConstructors 112 = .ok (.iconst 1, 1) := by decide +kernel
theorem dT_addConstructors_113 : decode bT_addConstructors 113 = .ok (.iadd, 1) := by decide +kernel
theorem dT_addConstructors_114 : decode bT_addConstructors 114 = .ok (.invokevirtual 78, 3) := by decide +kernel
theorem dT_addConstructors_117 : decode bT_addConstructors 117 = .ok (.istore_n 2, 1) := by decide +kernel
theorem dT_addConstructors_118 : decode bT_addConstructors 118 = .ok (.iinc 4 1, 3) := by decide +kernel
theorem dT_addConstructors_121 : decode bT_addConstructors 121 = .ok (.goto (-98), 3) := by decide +kernel
theorem dT_addConstructors_124 : decode bT_addConstructors 124 = .ok (.iload_n 2, 1) := by decide +kernel
theorem dT_addConstructors_125 : decode bT_addConstructors 125 = .ok (.ireturn, 1) := by decide +kernel
theorem dT_expand_0 : decode bT_expand 0 = .ok (.aload_n 0, 1) := by decide +kernel
theorem dT_expand_1 : decode bT_expand 1 = .ok (.getfield 24, 3) := by decide +kernel
theorem dT_expand_4 : decode bT_expand 4 = .ok (.iload_n 1, 1) := by decide +kernel
theorem dT_expand_5 : decode bT_expand 5 = .ok (.aload_n 0, 1) := by decide +kernel
theorem dT_expand_6 : decode bT_expand 6 = .ok (.getfield 64, 3) := by decide +kernel
theorem dT_expand_9 : decode bT_expand 9 = .ok (.aload_n 0, 1) := by decide +kernel
theorem dT_expand_10 : decode bT_expand 10 = .ok (.getfield 9, 3) := by decide +kernel
theorem dT_expand_13 : decode bT_expand 13 = .ok (.iload_n 1, 1) := by decide +kernel
theorem dT_expand_14 : decode bT_expand 14 = .ok (.iaload, 1) := by decide +kernel
theorem dT_expand_15 : decode bT_expand 15 = .ok (.aload_n 0, 1) := by decide +kernel
theorem dT_expand_16 : decode bT_expand 16 = .ok (.getfield 15, 3) := by decide +kernel
theorem dT_expand_19 : decode bT_expand 19 = .ok (.iload_n 1, 1) := by decide +kernel
theorem dT_expand_20 : decode bT_expand 20 = .ok (.iaload, 1) := by decide +kernel
theorem dT_expand_21 : decode bT_expand 21 = .ok (.invokevirtual 88, 3) := by decide +kernel
theorem dT_expand_24 : decode bT_expand 24 = .ok (.iastore, 1) := by decide +kernel
theorem dT_expand_25 : decode bT_expand 25 = .ok (.aload_n 0, 1) := by decide +kernel
theorem dT_expand_26 : decode bT_expand 26 = .ok (.getfield 24, 3) := by decide +kernel
theorem dT_expand_29 : decode bT_expand 29 = .ok (.iload_n 1, 1) := by decide +kernel
theorem dT_expand_30 : decode bT_expand 30 = .ok (.iaload, 1) := by decide +kernel
theorem dT_expand_31 : decode bT_expand 31 = .ok (.ifCond .ne 10, 3) := by decide +kernel
theorem dT_expand_34 : decode bT_expand 34 = .ok (.aload_n 0, 1) := by decide +kernel
theorem dT_expand_35 : decode bT_expand 35 = .ok (.iload_n 1, 1) := by decide +kernel
theorem dT_expand_36 : decode bT_expand 36 = .ok (.invokevirtual 92, 3) := by decide +kernel
theorem dT_expand_39 : decode bT_expand 39 = .ok (.iconst 1, 1) := by decide +kernel
theorem dT_expand_40 : decode bT_expand 40 = .ok (.ireturn, 1) := by decide +kernel
theorem dT_expand_41 : decode bT_expand 41 = .ok (.aload_n 0, 1) := by decide +kernel
theorem dT_expand_42 : decode bT_expand 42 = .ok (.getfield 27, 3) := by decide +kernel
theorem dT_expand_45 : decode bT_expand 45 = .ok (.iload_n 1, 1) := by decide +kernel
theorem dT_expand_46 : decode bT_expand 46 = .ok (.aload_n 0, 1) := by decide +kernel
theorem dT_expand_47 : decode bT_expand 47 = .ok (.getfield 64, 3) := by decide +kernel
theorem dT_expand_50 : decode bT_expand 50 = .ok (.aload_n 0, 1) := by decide +kernel
theorem dT_expand_51 : decode bT_expand 51 = .ok (.getfield 24, 3) := by decide +kernel
theorem dT_expand_54 : decode bT_expand 54 = .ok (.iload_n 1, 1) := by decide +kernel
theorem dT_expand_55 : decode bT_expand 55 = .ok (.iaload, 1) := by decide +kernel
theorem dT_expand_56 : decode bT_expand 56 = .ok (.aload_n 0, 1) := by decide +kernel
theorem dT_expand_57 : decode bT_expand 57 = .ok (.getfield 9, 3) := by decide +kernel
theorem dT_expand_60 : decode bT_expand 60 = .ok (.iload_n 1, 1) := by decide +kernel
theorem dT_expand_61 : decode bT_expand 61 = .ok (.iaload, 1) := by decide +kernel
theorem dT_expand_62 : decode bT_expand 62 = .ok (.invokevirtual 96, 3) := by decide +kernel
theorem dT_expand_65 : decode bT_expand 65 = .ok (.iastore, 1) := by decide +kernel
theorem dT_expand_66 : decode bT_expand 66 = .ok (.aload_n 0, 1) := by decide +kernel
theorem dT_expand_67 : decode bT_expand 67 = .ok (.getfield 33, 3) := by decide +kernel
theorem dT_expand_70 : decode bT_expand 70 = .ok (.iload_n 1, 1) := by decide +kernel
theorem dT_expand_71 : decode bT_expand 71 = .ok (.aload_n 0, 1) := by decide +kernel
theorem dT_expand_72 : decode bT_expand 72 = .ok (.getfield 49, 3) := by decide +kernel
theorem dT_expand_75 : decode bT_expand 75 = .ok (.iastore, 1) := by decide +kernel
theorem dT_expand_76 : decode bT_expand 76 = .ok (.aload_n 0, 1) := by decide +kernel
theorem dT_expand_77 : decode bT_expand 77 = .ok (.getfield 27, 3) := by decide +kernel
theorem dT_expand_80 : decode bT_expand 80 = .ok (.iload_n 1, 1) := by decide +kernel
theorem dT_expand_81 : decode bT_expand 81 = .ok (.iaload, 1) := by decide +kernel
theorem dT_expand_82 : decode bT_expand 82 = .ok (.ifCond .ne 11, 3) := by decide +kernel
theorem dT_expand_85 : decode bT_expand 85 = .ok (.aload_n 0, 1) := by decide +kernel
theorem dT_expand_86 : decode bT_expand 86 = .ok (.iload_n 1, 1) := by decide +kernel
theorem dT_expand_87 : decode bT_expand 87 = .ok (.invokevirtual 99, 3) := by decide +kernel
theorem dT_expand_90 : decode bT_expand 90 = .ok (.goto 8, 3) := by decide +kernel
theorem dT_expand_93 : decode bT_expand 93 = .ok (.aload_n 0, 1) := by decide +kernel
theorem dT_expand_94 : decode bT_expand 94 = .ok (.iload_n 1, 1) := by decide +kernel
theorem dT_expand_95 : decode bT_expand 95 = .ok (.invokevirtual 102, 3) := by decide +kernel
theorem dT_expand_98 : decode bT_expand 98 = .ok (.istore_n 2, 1) := by decide +kernel
theorem dT_expand_99 : decode bT_expand 99 = .ok (.aload_n 0, 1) := by decide +kernel
theorem dT_expand_100 : decode bT_expand 100 = .ok (.getfield 36, 3) := by decide +kernel
theorem dT_expand_103 : decode bT_expand 103 = .ok (.iload_n 1, 1) := by decide +kernel
theorem dT_expand_104 : decode bT_expand 104 = .ok (.aload_n 0, 1) := by decide +kernel
theorem dT_expand_105 : decode bT_expand 105 = .ok (.getfield 49, 3) := by decide +kernel
theorem dT_expand_108 : decode bT_expand 108 = .ok (.aload_n 0, 1) := by decide +kernel
theorem dT_expand_109 : decode bT_expand 109 = .ok (.getfield 33, 3) := by decide +kernel
theorem dT_expand_112 : decode bT_expand 112 = .ok (.iload_n 1, 1) := by decide +kernel
theorem dT_expand_113 : decode bT_expand 113 = .ok (.iaload, 1) := by decide +kernel
theorem dT_expand_114 : decode bT_expand 114 = .ok (.isub, 1) := by decide +kernel
theorem dT_expand_115 : decode bT_expand 115 = .ok (.iastore, 1) := by decide +kernel
theorem dT_expand_116 : decode bT_expand 116 = .ok (.iload_n 2, 1) := by decide +kernel
theorem dT_expand_117 : decode bT_expand 117 = .ok (.ireturn, 1) := by decide +kernel
theorem dT_failingBranch_0 : decode bT_failingBranch 0 = .ok (.aload_n 0, 1) := by decide +kernel
theorem dT_failingBranch_1 : decode bT_failingBranch 1 = .ok (.iload_n 1, 1) := by decide +kernel
theorem dT_failingBranch_2 : decode bT_failingBranch 2 = .ok (.invokevirtual 68, 3) := by decide +kernel
theorem dT_failingBranch_5 : decode bT_failingBranch 5 = .ok (.ifCond .ne 5, 3) := by decide +kernel
theorem dT_failingBranch_8 : decode bT_failingBranch 8 = .ok (.iload_n 1, 1) := by decide +kernel
theorem dT_failingBranch_9 : decode bT_failingBranch 9 = .ok (.ireturn, 1) := by decide +kernel
theorem dT_failingBranch_10 : decode bT_failingBranch 10 = .ok (.iconst 0, 1) := by decide +kernel
theorem dT_failingBranch_11 : decode bT_failingBranch 11 = .ok (.istore_n 2, 1) := by decide +kernel
theorem dT_failingBranch_12 : decode bT_failingBranch 12 = .ok (.iload_n 2, 1) := by decide +kernel
theorem dT_failingBranch_13 : decode bT_failingBranch 13 = .ok (.aload_n 0, 1) := by decide +kernel
theorem dT_failingBranch_14 : decode bT_failingBranch 14 = .ok (.getfield 36, 3) := by decide +kernel
theorem dT_failingBranch_17 : decode bT_failingBranch 17 = .ok (.iload_n 1, 1) := by decide +kernel
theorem dT_failingBranch_18 : decode bT_failingBranch 18 = .ok (.iaload, 1) := by decide +kernel
theorem dT_failingBranch_19 : decode bT_failingBranch 19 = .ok (.if_icmp .ge 34, 3) := by decide +kernel
theorem dT_failingBranch_22 : decode bT_failingBranch 22 = .ok (.aload_n 0, 1) := by decide +kernel
theorem dT_failingBranch_23 : decode bT_failingBranch 23 = .ok (.getfield 42, 3) := by decide +kernel
theorem dT_failingBranch_26 : decode bT_failingBranch 26 = .ok (.aload_n 0, 1) := by decide +kernel
theorem dT_failingBranch_27 : decode bT_failingBranch 27 = .ok (.getfield 33, 3) := by decide +kernel
theorem dT_failingBranch_30 : decode bT_failingBranch 30 = .ok (.iload_n 1, 1) := by decide +kernel
theorem dT_failingBranch_31 : decode bT_failingBranch 31 = .ok (.iaload, 1) := by decide +kernel
theorem dT_failingBranch_32 : decode bT_failingBranch 32 = .ok (.iload_n 2, 1) := by decide +kernel
theorem dT_failingBranch_33 : decode bT_failingBranch 33 = .ok (.iadd, 1) := by decide +kernel
theorem dT_failingBranch_34 : decode bT_failingBranch 34 = .ok (.baload, 1) := by decide +kernel
theorem dT_failingBranch_35 : decode bT_failingBranch 35 = .ok (.ifCond .eq 12, 3) := by decide +kernel
theorem dT_failingBranch_38 : decode bT_failingBranch 38 = .ok (.aload_n 0, 1) := by decide +kernel
theorem dT_failingBranch_39 : decode bT_failingBranch 39 = .ok (.getfield 33, 3) := by decide +kernel
theorem dT_failingBranch_42 : decode bT_failingBranch 42 = .ok (.iload_n 1, 1) := by decide +kernel
theorem dT_failingBranch_43 : decode bT_failingBranch 43 = .ok (.iaload, 1) := by decide +kernel
theorem dT_failingBranch_44 : decode bT_failingBranch 44 = .ok (.iload_n 2, 1) := by decide +kernel
theorem dT_failingBranch_45 : decode bT_failingBranch 45 = .ok (.iadd, 1) := by decide +kernel
theorem dT_failingBranch_46 : decode bT_failingBranch 46 = .ok (.ireturn, 1) := by decide +kernel
theorem dT_failingBranch_47 : decode bT_failingBranch 47 = .ok (.iinc 2 1, 3) := by decide +kernel
theorem dT_failingBranch_50 : decode bT_failingBranch 50 = .ok (.goto (-38), 3) := by decide +kernel
theorem dT_failingBranch_53 : decode bT_failingBranch 53 = .ok (.iload_n 1, 1) := by decide +kernel
theorem dT_failingBranch_54 : decode bT_failingBranch 54 = .ok (.ireturn, 1) := by decide +kernel
theorem dT_markFailing_0 : decode bT_markFailing 0 = .ok (.aload_n 0, 1) := by decide +kernel
theorem dT_markFailing_1 : decode bT_markFailing 1 = .ok (.getfield 49, 3) := by decide +kernel
theorem dT_markFailing_4 : decode bT_markFailing 4 = .ok (.iconst 1, 1) := by decide +kernel
theorem dT_markFailing_5 : decode bT_markFailing 5 = .ok (.isub, 1) := by decide +kernel
theorem dT_markFailing_6 : decode bT_markFailing 6 = .ok (.istore_n 1, 1) := by decide +kernel
theorem dT_markFailing_7 : decode bT_markFailing 7 = .ok (.iload_n 1, 1) := by decide +kernel
theorem dT_markFailing_8 : decode bT_markFailing 8 = .ok (.ifCond .lt 66, 3) := by decide +kernel
theorem dT_markFailing_11 : decode bT_markFailing 11 = .ok (.aload_n 0, 1) := by decide +kernel
theorem dT_markFailing_12 : decode bT_markFailing 12 = .ok (.getfield 24, 3) := by decide +kernel
theorem dT_markFailing_15 : decode bT_markFailing 15 = .ok (.iload_n 1, 1) := by decide +kernel
theorem dT_markFailing_16 : decode bT_markFailing 16 = .ok (.iaload, 1) := by decide +kernel
theorem dT_markFailing_17 : decode bT_markFailing 17 = .ok (.ifCond .ne 7, 3) := by decide +kernel
theorem dT_markFailing_20 : decode bT_markFailing 20 = .ok (.iconst 1, 1) := by decide +kernel
theorem dT_markFailing_21 : decode bT_markFailing 21 = .ok (.goto 4, 3) := by decide +kernel
theorem dT_markFailing_24 : decode bT_markFailing 24 = .ok (.iconst 0, 1) := by decide +kernel
theorem dT_markFailing_25 : decode bT_markFailing 25 = .ok (.istore_n 2, 1) := by decide +kernel
theorem dT_markFailing_26 : decode bT_markFailing 26 = .ok (.aload_n 0, 1) := by decide +kernel
theorem dT_markFailing_27 : decode bT_markFailing 27 = .ok (.getfield 42, 3) := by decide +kernel
theorem dT_markFailing_30 : decode bT_markFailing 30 = .ok (.iload_n 1, 1) := by decide +kernel
theorem dT_markFailing_31 : decode bT_markFailing 31 = .ok (.iload_n 2, 1) := by decide +kernel
theorem dT_markFailing_32 : decode bT_markFailing 32 = .ok (.ifCond .eq 21, 3) := by decide +kernel
theorem dT_markFailing_35 : decode bT_markFailing 35 = .ok (.aload_n 0, 1) := by decide +kernel
theorem dT_markFailing_36 : decode bT_markFailing 36 = .ok (.getfield 30, 3) := by decide +kernel
theorem dT_markFailing_39 : decode bT_markFailing 39 = .ok (.iload_n 1, 1) := by decide +kernel
theorem dT_markFailing_40 : decode bT_markFailing 40 = .ok (.iaload, 1) := by decide +kernel
theorem dT_markFailing_41 : decode bT_markFailing 41 = .ok (.iconst (-1), 1) := by decide +kernel
theorem dT_markFailing_42 : decode bT_markFailing 42 = .ok (.if_icmp .ne 7, 3) := by decide +kernel
theorem dT_markFailing_45 : decode bT_markFailing 45 = .ok (.iconst 1, 1) := by decide +kernel
theorem dT_markFailing_46 : decode bT_markFailing 46 = .ok (.goto 21, 3) := by decide +kernel
theorem dT_markFailing_49 : decode bT_markFailing 49 = .ok (.iconst 0, 1) := by decide +kernel
theorem dT_markFailing_50 : decode bT_markFailing 50 = .ok (.goto 17, 3) := by decide +kernel
theorem dT_markFailing_53 : decode bT_markFailing 53 = .ok (.aload_n 0, 1) := by decide +kernel
theorem dT_markFailing_54 : decode bT_markFailing 54 = .ok (.iload_n 1, 1) := by decide +kernel
theorem dT_markFailing_55 : decode bT_markFailing 55 = .ok (.invokevirtual 135, 3) := by decide +kernel
theorem dT_markFailing_58 : decode bT_markFailing 58 = .ok (.iload_n 1, 1) := by decide +kernel
theorem dT_markFailing_59 : decode bT_markFailing 59 = .ok (.if_icmp .eq 7, 3) := by decide +kernel
theorem dT_markFailing_62 : decode bT_markFailing 62 = .ok (.iconst 1, 1) := by decide +kernel
theorem dT_markFailing_63 : decode bT_markFailing 63 = .ok (.goto 4, 3) := by decide +kernel
theorem dT_markFailing_66 : decode bT_markFailing 66 = .ok (.iconst 0, 1) := by decide +kernel
theorem dT_markFailing_67 : decode bT_markFailing 67 = .ok (.bastore, 1) := by decide +kernel
theorem dT_markFailing_68 : decode bT_markFailing 68 = .ok (.iinc 1 (-1), 3) := by decide +kernel
theorem dT_markFailing_71 : decode bT_markFailing 71 = .ok (.goto (-64), 3) := by decide +kernel
theorem dT_markFailing_74 : decode bT_markFailing 74 = .ok (.return_, 1) := by decide +kernel
theorem dT_grow_0 : decode bT_grow 0 = .ok (.aload_n 0, 1) := by decide +kernel
theorem dT_grow_1 : decode bT_grow 1 = .ok (.iconst 0, 1) := by decide +kernel
theorem dT_grow_2 : decode bT_grow 2 = .ok (.putfield 56, 3) := by decide +kernel
theorem dT_grow_5 : decode bT_grow 5 = .ok (.aload_n 0, 1) := by decide +kernel
theorem dT_grow_6 : decode bT_grow 6 = .ok (.iconst 0, 1) := by decide +kernel
theorem dT_grow_7 : decode bT_grow 7 = .ok (.putfield 49, 3) := by decide +kernel
theorem dT_grow_10 : decode bT_grow 10 = .ok (.aload_n 0, 1) := by decide +kernel
theorem dT_grow_11 : decode bT_grow 11 = .ok (.iconst 0, 1) := by decide +kernel
theorem dT_grow_12 : decode bT_grow 12 = .ok (.putfield 53, 3) := by decide +kernel
theorem dT_grow_15 : decode bT_grow 15 = .ok (.aload_n 0, 1) := by decide +kernel
theorem dT_grow_16 : decode bT_grow 16 = .ok (.iconst 0, 1) := by decide +kernel
theorem dT_grow_17 : decode bT_grow 17 = .ok (.aload_n 0, 1) := by decide +kernel
theorem dT_grow_18 : decode bT_grow 18 = .ok (.getfield 64, 3) := by decide +kernel
theorem dT_grow_21 : decode bT_grow 21 = .ok (.invokevirtual 72, 3) := by decide +kernel
theorem dT_grow_24 : decode bT_grow 24 = .ok (.iconst 2, 1) := by decide +kernel
theorem dT_grow_25 : decode bT_grow 25 = .ok (.iconst 0, 1) := by decide +kernel
theorem dT_grow_26 : decode bT_grow 26 = .ok (.invokevirtual 78, 3) := by decide +kernel
theorem dT_grow_29 : decode bT_grow 29 = .ok (.istore_n 1, 1) := by decide +kernel
theorem dT_grow_30 : decode bT_grow 30 = .ok (.iconst 0, 1) := by decide +kernel
theorem dT_grow_31 : decode bT_grow 31 = .ok (.istore_n 2, 1) := by decide +kernel
theorem dT_grow_32 : decode bT_grow 32 = .ok (.iload_n 2, 1) := by decide +kernel
theorem dT_grow_33 : decode bT_grow 33 = .ok (.bipush 60, 2) := by decide +kernel
theorem dT_grow_35 : decode bT_grow 35 = .ok (.if_icmp .ge 27, 3) := by decide +kernel
theorem dT_grow_38 : decode bT_grow 38 = .ok (.iload_n 2, 1) := by decide +kernel
theorem dT_grow_39 : decode bT_grow 39 = .ok (.aload_n 0, 1) := by decide +kernel
theorem dT_grow_40 : decode bT_grow 40 = .ok (.getfield 49, 3) := by decide +kernel
theorem dT_grow_43 : decode bT_grow 43 = .ok (.if_icmp .ge 19, 3) := by decide +kernel
theorem dT_grow_46 : decode bT_grow 46 = .ok (.iload_n 1, 1) := by decide +kernel
theorem dT_grow_47 : decode bT_grow 47 = .ok (.ifCond .eq 15, 3) := by decide +kernel
theorem dT_grow_50 : decode bT_grow 50 = .ok (.aload_n 0, 1) := by decide +kernel
theorem dT_grow_51 : decode bT_grow 51 = .ok (.iload_n 2, 1) := by decide +kernel
theorem dT_grow_52 : decode bT_grow 52 = .ok (.invokevirtual 82, 3) := by decide +kernel
theorem dT_grow_55 : decode bT_grow 55 = .ok (.istore_n 1, 1) := by decide +kernel
theorem dT_grow_56 : decode bT_grow 56 = .ok (.iinc 2 1, 3) := by decide +kernel
theorem dT_grow_59 : decode bT_grow 59 = .ok (.goto (-27), 3) := by decide +kernel
theorem dT_grow_62 : decode bT_grow 62 = .ok (.iload_n 1, 1) := by decide +kernel
theorem dT_grow_63 : decode bT_grow 63 = .ok (.ifCond .eq 12, 3) := by decide +kernel
theorem dT_grow_66 : decode bT_grow 66 = .ok (.aload_n 0, 1) := by decide +kernel
theorem dT_grow_67 : decode bT_grow 67 = .ok (.invokevirtual 85, 3) := by decide +kernel
theorem dT_grow_70 : decode bT_grow 70 = .ok (.aload_n 0, 1) := by decide +kernel
theorem dT_grow_71 : decode bT_grow 71 = .ok (.iconst 1, 1) := by decide +kernel
theorem dT_grow_72 : decode bT_grow 72 = .ok (.putfield 56, 3) := by decide +kernel
theorem dT_grow_75 : decode bT_grow 75 = .ok (.iload_n 1, 1) := by decide +kernel
theorem dT_grow_76 : decode bT_grow 76 = .ok (.ireturn, 1) := by decide +kernel
theorem dT_hasFailing_0 : decode bT_hasFailing 0 = .ok (.aload_n 0, 1) := by decide +kernel
theorem dT_hasFailing_1 : decode bT_hasFailing 1 = .ok (.getfield 49, 3) := by decide +kernel
theorem dT_hasFailing_4 : decode bT_hasFailing 4 = .ok (.ifCond .le 16, 3) := by decide +kernel
theorem dT_hasFailing_7 : decode bT_hasFailing 7 = .ok (.aload_n 0, 1) := by decide +kernel
theorem dT_hasFailing_8 : decode bT_hasFailing 8 = .ok (.getfield 42, 3) := by decide +kernel
theorem dT_hasFailing_11 : decode bT_hasFailing 11 = .ok (.iconst 0, 1) := by decide +kernel
theorem dT_hasFailing_12 : decode bT_hasFailing 12 = .ok (.baload, 1) := by decide +kernel
theorem dT_hasFailing_13 : decode bT_hasFailing 13 = .ok (.ifCond .eq 7, 3) := by decide +kernel
theorem dT_hasFailing_16 : decode bT_hasFailing 16 = .ok (.iconst 1, 1) := by decide +kernel
theorem dT_hasFailing_17 : decode bT_hasFailing 17 = .ok (.goto 4, 3) := by decide +kernel
theorem dT_hasFailing_20 : decode bT_hasFailing 20 = .ok (.iconst 0, 1) := by decide +kernel
theorem dT_hasFailing_21 : decode bT_hasFailing 21 = .ok (.ireturn, 1) := by decide +kernel
theorem dT_mostTests_0 : decode bT_mostTests 0 = .ok (.iconst 0, 1) := by decide +kernel
theorem dT_mostTests_1 : decode bT_mostTests 1 = .ok (.istore_n 1, 1) := by decide +kernel
theorem dT_mostTests_2 : decode bT_mostTests 2 = .ok (.iconst 0, 1) := by decide +kernel
theorem dT_mostTests_3 : decode bT_mostTests 3 = .ok (.istore_n 2, 1) := by decide +kernel
theorem dT_mostTests_4 : decode bT_mostTests 4 = .ok (.iload_n 2, 1) := by decide +kernel
theorem dT_mostTests_5 : decode bT_mostTests 5 = .ok (.aload_n 0, 1) := by decide +kernel
theorem dT_mostTests_6 : decode bT_mostTests 6 = .ok (.getfield 49, 3) := by decide +kernel
theorem dT_mostTests_9 : decode bT_mostTests 9 = .ok (.if_icmp .ge 20, 3) := by decide +kernel
theorem dT_mostTests_12 : decode bT_mostTests 12 = .ok (.iload_n 1, 1) := by decide +kernel
theorem dT_mostTests_13 : decode bT_mostTests 13 = .ok (.aload_n 0, 1) := by decide +kernel
theorem dT_mostTests_14 : decode bT_mostTests 14 = .ok (.getfield 21, 3) := by decide +kernel
theorem dT_mostTests_17 : decode bT_mostTests 17 = .ok (.iload_n 2, 1) := by decide +kernel
theorem dT_mostTests_18 : decode bT_mostTests 18 = .ok (.iaload, 1) := by decide +kernel
theorem dT_mostTests_19 : decode bT_mostTests 19 = .ok (.invokestatic 138, 3) := by decide +kernel
theorem dT_mostTests_22 : decode bT_mostTests 22 = .ok (.istore_n 1, 1) := by decide +kernel
theorem dT_mostTests_23 : decode bT_mostTests 23 = .ok (.iinc 2 1, 3) := by decide +kernel
theorem dT_mostTests_26 : decode bT_mostTests 26 = .ok (.goto (-22), 3) := by decide +kernel
theorem dT_mostTests_29 : decode bT_mostTests 29 = .ok (.iload_n 1, 1) := by decide +kernel
theorem dT_mostTests_30 : decode bT_mostTests 30 = .ok (.ireturn, 1) := by decide +kernel
theorem dT_alike_0 : decode bT_alike 0 = .ok (.aload_n 0, 1) := by decide +kernel
theorem dT_alike_1 : decode bT_alike 1 = .ok (.getfield 24, 3) := by decide +kernel
theorem dT_alike_4 : decode bT_alike 4 = .ok (.iload_n 1, 1) := by decide +kernel
theorem dT_alike_5 : decode bT_alike 5 = .ok (.iaload, 1) := by decide +kernel
theorem dT_alike_6 : decode bT_alike 6 = .ok (.aload_n 0, 1) := by decide +kernel
theorem dT_alike_7 : decode bT_alike 7 = .ok (.getfield 24, 3) := by decide +kernel
theorem dT_alike_10 : decode bT_alike 10 = .ok (.iload_n 2, 1) := by decide +kernel
theorem dT_alike_11 : decode bT_alike 11 = .ok (.iaload, 1) := by decide +kernel
theorem dT_alike_12 : decode bT_alike 12 = .ok (.if_icmp .ne 52, 3) := by decide +kernel
theorem dT_alike_15 : decode bT_alike 15 = .ok (.aload_n 0, 1) := by decide +kernel
theorem dT_alike_16 : decode bT_alike 16 = .ok (.getfield 27, 3) := by decide +kernel
theorem dT_alike_19 : decode bT_alike 19 = .ok (.iload_n 1, 1) := by decide +kernel
theorem dT_alike_20 : decode bT_alike 20 = .ok (.iaload, 1) := by decide +kernel
theorem dT_alike_21 : decode bT_alike 21 = .ok (.aload_n 0, 1) := by decide +kernel
theorem dT_alike_22 : decode bT_alike 22 = .ok (.getfield 27, 3) := by decide +kernel
theorem dT_alike_25 : decode bT_alike 25 = .ok (.iload_n 2, 1) := by decide +kernel
theorem dT_alike_26 : decode bT_alike 26 = .ok (.iaload, 1) := by decide +kernel
theorem dT_alike_27 : decode bT_alike 27 = .ok (.if_icmp .ne 37, 3) := by decide +kernel
theorem dT_alike_30 : decode bT_alike 30 = .ok (.aload_n 0, 1) := by decide +kernel
theorem dT_alike_31 : decode bT_alike 31 = .ok (.getfield 30, 3) := by decide +kernel
theorem dT_alike_34 : decode bT_alike 34 = .ok (.iload_n 1, 1) := by decide +kernel
theorem dT_alike_35 : decode bT_alike 35 = .ok (.iaload, 1) := by decide +kernel
theorem dT_alike_36 : decode bT_alike 36 = .ok (.aload_n 0, 1) := by decide +kernel
theorem dT_alike_37 : decode bT_alike 37 = .ok (.getfield 30, 3) := by decide +kernel
theorem dT_alike_40 : decode bT_alike 40 = .ok (.iload_n 2, 1) := by decide +kernel
theorem dT_alike_41 : decode bT_alike 41 = .ok (.iaload, 1) := by decide +kernel
theorem dT_alike_42 : decode bT_alike 42 = .ok (.if_icmp .ne 22, 3) := by decide +kernel
theorem dT_alike_45 : decode bT_alike 45 = .ok (.aload_n 0, 1) := by decide +kernel
theorem dT_alike_46 : decode bT_alike 46 = .ok (.getfield 36, 3) := by decide +kernel
theorem dT_alike_49 : decode bT_alike 49 = .ok (.iload_n 1, 1) := by decide +kernel
theorem dT_alike_50 : decode bT_alike 50 = .ok (.iaload, 1) := by decide +kernel
theorem dT_alike_51 : decode bT_alike 51 = .ok (.aload_n 0, 1) := by decide +kernel
theorem dT_alike_52 : decode bT_alike 52 = .ok (.getfield 36, 3) := by decide +kernel
theorem dT_alike_55 : decode bT_alike 55 = .ok (.iload_n 2, 1) := by decide +kernel
theorem dT_alike_56 : decode bT_alike 56 = .ok (.iaload, 1) := by decide +kernel
theorem dT_alike_57 : decode bT_alike 57 = .ok (.if_icmp .ne 7, 3) := by decide +kernel
theorem dT_alike_60 : decode bT_alike 60 = .ok (.iconst 1, 1) := by decide +kernel
theorem dT_alike_61 : decode bT_alike 61 = .ok (.goto 4, 3) := by decide +kernel
theorem dT_alike_64 : decode bT_alike 64 = .ok (.iconst 0, 1) := by decide +kernel
theorem dT_alike_65 : decode bT_alike 65 = .ok (.istore_n 3, 1) := by decide +kernel
theorem dT_alike_66 : decode bT_alike 66 = .ok (.iconst 0, 1) := by decide +kernel
theorem dT_alike_67 : decode bT_alike 67 = .ok (.istore 4, 2) := by decide +kernel
theorem dT_alike_69 : decode bT_alike 69 = .ok (.iload 4, 2) := by decide +kernel
theorem dT_alike_71 : decode bT_alike 71 = .ok (.aload_n 0, 1) := by decide +kernel
theorem dT_alike_72 : decode bT_alike 72 = .ok (.getfield 36, 3) := by decide +kernel
theorem dT_alike_75 : decode bT_alike 75 = .ok (.iload_n 1, 1) := by decide +kernel
theorem dT_alike_76 : decode bT_alike 76 = .ok (.iaload, 1) := by decide +kernel
theorem dT_alike_77 : decode bT_alike 77 = .ok (.if_icmp .ge 75, 3) := by decide +kernel
theorem dT_alike_80 : decode bT_alike 80 = .ok (.iload_n 3, 1) := by decide +kernel
theorem dT_alike_81 : decode bT_alike 81 = .ok (.ifCond .eq 71, 3) := by decide +kernel
theorem dT_alike_84 : decode bT_alike 84 = .ok (.aload_n 0, 1) := by decide +kernel
theorem dT_alike_85 : decode bT_alike 85 = .ok (.getfield 33, 3) := by decide +kernel
theorem dT_alike_88 : decode bT_alike 88 = .ok (.iload_n 1, 1) := by decide +kernel
theorem dT_alike_89 : decode bT_alike 89 = .ok (.iaload, 1) := by decide +kernel
theorem dT_alike_90 : decode bT_alike 90 = .ok (.iload 4, 2) := by decide +kernel
theorem dT_alike_92 : decode bT_alike 92 = .ok (.iadd, 1) := by decide +kernel
theorem dT_alike_93 : decode bT_alike 93 = .ok (.istore 5, 2) := by decide +kernel
theorem dT_alike_95 : decode bT_alike 95 = .ok (.aload_n 0, 1) := by decide +kernel
theorem dT_alike_96 : decode bT_alike 96 = .ok (.getfield 33, 3) := by decide +kernel
theorem dT_alike_99 : decode bT_alike 99 = .ok (.iload_n 2, 1) := by decide +kernel
theorem dT_alike_100 : decode bT_alike 100 = .ok (.iaload, 1) := by decide +kernel
theorem dT_alike_101 : decode bT_alike 101 = .ok (.iload 4, 2) := by decide +kernel
theorem dT_alike_103 : decode bT_alike 103 = .ok (.iadd, 1) := by decide +kernel
theorem dT_alike_104 : decode bT_alike 104 = .ok (.istore 6, 2) := by decide +kernel
theorem dT_alike_106 : decode bT_alike 106 = .ok (.aload_n 0, 1) := by decide +kernel
theorem dT_alike_107 : decode bT_alike 107 = .ok (.getfield 18, 3) := by decide +kernel
theorem dT_alike_110 : decode bT_alike 110 = .ok (.iload 5, 2) := by decide +kernel
theorem dT_alike_112 : decode bT_alike 112 = .ok (.iaload, 1) := by decide +kernel
theorem dT_alike_113 : decode bT_alike 113 = .ok (.aload_n 0, 1) := by decide +kernel
theorem dT_alike_114 : decode bT_alike 114 = .ok (.getfield 18, 3) := by decide +kernel
theorem dT_alike_117 : decode bT_alike 117 = .ok (.iload 6, 2) := by decide +kernel
theorem dT_alike_119 : decode bT_alike 119 = .ok (.iaload, 1) := by decide +kernel
theorem dT_alike_120 : decode bT_alike 120 = .ok (.if_icmp .ne 24, 3) := by decide +kernel
theorem dT_alike_123 : decode bT_alike 123 = .ok (.aload_n 0, 1) := by decide +kernel
theorem dT_alike_124 : decode bT_alike 124 = .ok (.getfield 39, 3) := by decide +kernel
theorem dT_alike_127 : decode bT_alike 127 = .ok (.iload 5, 2) := by decide +kernel
theorem dT_alike_129 : decode bT_alike 129 = .ok (.iaload, 1) := by decide +kernel
theorem dT_alike_130 : decode bT_alike 130 = .ok (.aload_n 0, 1) := by decide +kernel
theorem dT_alike_131 : decode bT_alike 131 = .ok (.getfield 39, 3) := by decide +kernel
theorem dT_alike_134 : decode bT_alike 134 = .ok (.iload 6, 2) := by decide +kernel
theorem dT_alike_136 : decode bT_alike 136 = .ok (.iaload, 1) := by decide +kernel
theorem dT_alike_137 : decode bT_alike 137 = .ok (.if_icmp .ne 7, 3) := by decide +kernel
theorem dT_alike_140 : decode bT_alike 140 = .ok (.iconst 1, 1) := by decide +kernel
theorem dT_alike_141 : decode bT_alike 141 = .ok (.goto 4, 3) := by decide +kernel
theorem dT_alike_144 : decode bT_alike 144 = .ok (.iconst 0, 1) := by decide +kernel
theorem dT_alike_145 : decode bT_alike 145 = .ok (.istore_n 3, 1) := by decide +kernel
theorem dT_alike_146 : decode bT_alike 146 = .ok (.iinc 4 1, 3) := by decide +kernel
theorem dT_alike_149 : decode bT_alike 149 = .ok (.goto (-80), 3) := by decide +kernel
theorem dT_alike_152 : decode bT_alike 152 = .ok (.iload_n 3, 1) := by decide +kernel
theorem dT_alike_153 : decode bT_alike 153 = .ok (.ireturn, 1) := by decide +kernel
theorem dT_countKinds_0 : decode bT_countKinds 0 = .ok (.iconst 0, 1) := by decide +kernel
theorem dT_countKinds_1 : decode bT_countKinds 1 = .ok (.istore_n 1, 1) := by decide +kernel
theorem dT_countKinds_2 : decode bT_countKinds 2 = .ok (.aload_n 0, 1) := by decide +kernel
theorem dT_countKinds_3 : decode bT_countKinds 3 = .ok (.getfield 49, 3) := by decide +kernel
theorem dT_countKinds_6 : decode bT_countKinds 6 = .ok (.iconst 1, 1) := by decide +kernel
theorem dT_countKinds_7 : decode bT_countKinds 7 = .ok (.isub, 1) := by decide +kernel
theorem dT_countKinds_8 : decode bT_countKinds 8 = .ok (.istore_n 2, 1) := by decide +kernel
theorem dT_countKinds_9 : decode bT_countKinds 9 = .ok (.iload_n 2, 1) := by decide +kernel
theorem dT_countKinds_10 : decode bT_countKinds 10 = .ok (.ifCond .lt 83, 3) := by decide +kernel
theorem dT_countKinds_13 : decode bT_countKinds 13 = .ok (.aload_n 0, 1) := by decide +kernel
theorem dT_countKinds_14 : decode bT_countKinds 14 = .ok (.getfield 39, 3) := by decide +kernel
theorem dT_countKinds_17 : decode bT_countKinds 17 = .ok (.iload_n 2, 1) := by decide +kernel
theorem dT_countKinds_18 : decode bT_countKinds 18 = .ok (.iload_n 2, 1) := by decide +kernel
theorem dT_countKinds_19 : decode bT_countKinds 19 = .ok (.iastore, 1) := by decide +kernel
theorem dT_countKinds_20 : decode bT_countKinds 20 = .ok (.aload_n 0, 1) := by decide +kernel
theorem dT_countKinds_21 : decode bT_countKinds 21 = .ok (.getfield 49, 3) := by decide +kernel
theorem dT_countKinds_24 : decode bT_countKinds 24 = .ok (.iconst 1, 1) := by decide +kernel
theorem dT_countKinds_25 : decode bT_countKinds 25 = .ok (.isub, 1) := by decide +kernel
theorem dT_countKinds_26 : decode bT_countKinds 26 = .ok (.istore_n 3, 1) := by decide +kernel
theorem dT_countKinds_27 : decode bT_countKinds 27 = .ok (.iload_n 3, 1) := by decide +kernel
theorem dT_countKinds_28 : decode bT_countKinds 28 = .ok (.iload_n 2, 1) := by decide +kernel
theorem dT_countKinds_29 : decode bT_countKinds 29 = .ok (.if_icmp .le 45, 3) := by decide +kernel
theorem dT_countKinds_32 : decode bT_countKinds 32 = .ok (.aload_n 0, 1) := by decide +kernel
theorem dT_countKinds_33 : decode bT_countKinds 33 = .ok (.getfield 39, 3) := by decide +kernel
theorem dT_countKinds_36 : decode bT_countKinds 36 = .ok (.iload_n 2, 1) := by decide +kernel
theorem dT_countKinds_37 : decode bT_countKinds 37 = .ok (.iaload, 1) := by decide +kernel
theorem dT_countKinds_38 : decode bT_countKinds 38 = .ok (.iload_n 2, 1) := by decide +kernel
theorem dT_countKinds_39 : decode bT_countKinds 39 = .ok (.if_icmp .ne 35, 3) := by decide +kernel
theorem dT_countKinds_42 : decode bT_countKinds 42 = .ok (.aload_n 0, 1) := by decide +kernel
theorem dT_countKinds_43 : decode bT_countKinds 43 = .ok (.getfield 39, 3) := by decide +kernel
theorem dT_countKinds_46 : decode bT_countKinds 46 = .ok (.iload_n 3, 1) := by decide +kernel
theorem dT_countKinds_47 : decode bT_countKinds 47 = .ok (.iaload, 1) := by decide +kernel
theorem dT_countKinds_48 : decode bT_countKinds 48 = .ok (.iload_n 3, 1) := by decide +kernel
theorem dT_countKinds_49 : decode bT_countKinds 49 = .ok (.if_icmp .ne 19, 3) := by decide +kernel
theorem dT_countKinds_52 : decode bT_countKinds 52 = .ok (.aload_n 0, 1) := by decide +kernel
theorem dT_countKinds_53 : decode bT_countKinds 53 = .ok (.iload_n 2, 1) := by decide +kernel
theorem dT_countKinds_54 : decode bT_countKinds 54 = .ok (.iload_n 3, 1) := by decide +kernel
theorem dT_countKinds_55 : decode bT_countKinds 55 = .ok (.invokevirtual 143, 3) := by decide +kernel
theorem dT_countKinds_58 : decode bT_countKinds 58 = .ok (.ifCond .eq 10, 3) := by decide +kernel
theorem dT_countKinds_61 : decode bT_countKinds 61 = .ok (.aload_n 0, 1) := by decide +kernel
theorem dT_countKinds_62 : decode bT_countKinds 62 = .ok (.getfield 39, 3) := by decide +kernel
theorem dT_countKinds_65 : decode bT_countKinds 65 = .ok (.iload_n 2, 1) := by decide +kernel
theorem dT_countKinds_66 : decode bT_countKinds 66 = .ok (.iload_n 3, 1) := by decide +kernel
theorem dT_countKinds_67 : decode bT_countKinds 67 = .ok (.iastore, 1) := by decide +kernel
theorem dT_countKinds_68 : decode bT_countKinds 68 = .ok (.iinc 3 (-1), 3) := by decide +kernel
theorem dT_countKinds_71 : decode bT_countKinds 71 = .ok (.goto (-44), 3) := by decide +kernel
theorem dT_countKinds_74 : decode bT_countKinds 74 = .ok (.aload_n 0, 1) := by decide +kernel
theorem dT_countKinds_75 : decode bT_countKinds 75 = .ok (.getfield 39, 3) := by decide +kernel
theorem dT_countKinds_78 : decode bT_countKinds 78 = .ok (.iload_n 2, 1) := by decide +kernel
theorem dT_countKinds_79 : decode bT_countKinds 79 = .ok (.iaload, 1) := by decide +kernel
theorem dT_countKinds_80 : decode bT_countKinds 80 = .ok (.iload_n 2, 1) := by decide +kernel
theorem dT_countKinds_81 : decode bT_countKinds 81 = .ok (.if_icmp .ne 6, 3) := by decide +kernel
theorem dT_countKinds_84 : decode bT_countKinds 84 = .ok (.iinc 1 1, 3) := by decide +kernel
theorem dT_countKinds_87 : decode bT_countKinds 87 = .ok (.iinc 2 (-1), 3) := by decide +kernel
theorem dT_countKinds_90 : decode bT_countKinds 90 = .ok (.goto (-81), 3) := by decide +kernel
theorem dT_countKinds_93 : decode bT_countKinds 93 = .ok (.iload_n 1, 1) := by decide +kernel
theorem dT_countKinds_94 : decode bT_countKinds 94 = .ok (.ireturn, 1) := by decide +kernel
theorem dT_branchFor_0 : decode bT_branchFor 0 = .ok (.aload_n 0, 1) := by decide +kernel
theorem dT_branchFor_1 : decode bT_branchFor 1 = .ok (.getfield 33, 3) := by decide +kernel
theorem dT_branchFor_4 : decode bT_branchFor 4 = .ok (.iload_n 1, 1) := by decide +kernel
theorem dT_branchFor_5 : decode bT_branchFor 5 = .ok (.iaload, 1) := by decide +kernel
theorem dT_branchFor_6 : decode bT_branchFor 6 = .ok (.aload_n 0, 1) := by decide +kernel
theorem dT_branchFor_7 : decode bT_branchFor 7 = .ok (.getfield 36, 3) := by decide +kernel
theorem dT_branchFor_10 : decode bT_branchFor 10 = .ok (.iload_n 1, 1) := by decide +kernel
theorem dT_branchFor_11 : decode bT_branchFor 11 = .ok (.iaload, 1) := by decide +kernel
theorem dT_branchFor_12 : decode bT_branchFor 12 = .ok (.iadd, 1) := by decide +kernel
theorem dT_branchFor_13 : decode bT_branchFor 13 = .ok (.iconst 1, 1) := by decide +kernel
theorem dT_branchFor_14 : decode bT_branchFor 14 = .ok (.isub, 1) := by decide +kernel
theorem dT_branchFor_15 : decode bT_branchFor 15 = .ok (.istore_n 3, 1) := by decide +kernel
theorem dT_branchFor_16 : decode bT_branchFor 16 = .ok (.aload_n 0, 1) := by decide +kernel
theorem dT_branchFor_17 : decode bT_branchFor 17 = .ok (.getfield 33, 3) := by decide +kernel
theorem dT_branchFor_20 : decode bT_branchFor 20 = .ok (.iload_n 1, 1) := by decide +kernel
theorem dT_branchFor_21 : decode bT_branchFor 21 = .ok (.iaload, 1) := by decide +kernel
theorem dT_branchFor_22 : decode bT_branchFor 22 = .ok (.istore 4, 2) := by decide +kernel
theorem dT_branchFor_24 : decode bT_branchFor 24 = .ok (.iload 4, 2) := by decide +kernel
theorem dT_branchFor_26 : decode bT_branchFor 26 = .ok (.iload_n 3, 1) := by decide +kernel
theorem dT_branchFor_27 : decode bT_branchFor 27 = .ok (.if_icmp .ge 23, 3) := by decide +kernel
theorem dT_branchFor_30 : decode bT_branchFor 30 = .ok (.aload_n 0, 1) := by decide +kernel
theorem dT_branchFor_31 : decode bT_branchFor 31 = .ok (.getfield 18, 3) := by decide +kernel
theorem dT_branchFor_34 : decode bT_branchFor 34 = .ok (.iload 4, 2) := by decide +kernel
theorem dT_branchFor_36 : decode bT_branchFor 36 = .ok (.iaload, 1) := by decide +kernel
theorem dT_branchFor_37 : decode bT_branchFor 37 = .ok (.iload_n 2, 1) := by decide +kernel
theorem dT_branchFor_38 : decode bT_branchFor 38 = .ok (.if_icmp .ne 6, 3) := by decide +kernel
theorem dT_branchFor_41 : decode bT_branchFor 41 = .ok (.iload 4, 2) := by decide +kernel
theorem dT_branchFor_43 : decode bT_branchFor 43 = .ok (.ireturn, 1) := by decide +kernel
theorem dT_branchFor_44 : decode bT_branchFor 44 = .ok (.iinc 4 1, 3) := by decide +kernel
theorem dT_branchFor_47 : decode bT_branchFor 47 = .ok (.goto (-23), 3) := by decide +kernel
theorem dT_branchFor_50 : decode bT_branchFor 50 = .ok (.iload_n 3, 1) := by decide +kernel
theorem dT_branchFor_51 : decode bT_branchFor 51 = .ok (.ireturn, 1) := by decide +kernel
theorem dT_leafFor_0 : decode bT_leafFor 0 = .ok (.iconst 0, 1) := by decide +kernel
theorem dT_leafFor_1 : decode bT_leafFor 1 = .ok (.istore_n 3, 1) := by decide +kernel
theorem dT_leafFor_2 : decode bT_leafFor 2 = .ok (.aload_n 0, 1) := by decide +kernel
theorem dT_leafFor_3 : decode bT_leafFor 3 = .ok (.getfield 46, 3) := by decide +kernel
theorem dT_leafFor_6 : decode bT_leafFor 6 = .ok (.iconst 1, 1) := by decide +kernel
theorem dT_leafFor_7 : decode bT_leafFor 7 = .ok (.iload_n 2, 1) := by decide +kernel
theorem dT_leafFor_8 : decode bT_leafFor 8 = .ok (.iastore, 1) := by decide +kernel
theorem dT_leafFor_9 : decode bT_leafFor 9 = .ok (.iconst 0, 1) := by decide +kernel
theorem dT_leafFor_10 : decode bT_leafFor 10 = .ok (.istore 4, 2) := by decide +kernel
theorem dT_leafFor_12 : decode bT_leafFor 12 = .ok (.iload 4, 2) := by decide +kernel
theorem dT_leafFor_14 : decode bT_leafFor 14 = .ok (.bipush 16, 2) := by decide +kernel
theorem dT_leafFor_16 : decode bT_leafFor 16 = .ok (.if_icmp .ge 78, 3) := by decide +kernel
theorem dT_leafFor_19 : decode bT_leafFor 19 = .ok (.aload_n 0, 1) := by decide +kernel
theorem dT_leafFor_20 : decode bT_leafFor 20 = .ok (.iload_n 3, 1) := by decide +kernel
theorem dT_leafFor_21 : decode bT_leafFor 21 = .ok (.invokevirtual 147, 3) := by decide +kernel
theorem dT_leafFor_24 : decode bT_leafFor 24 = .ok (.ifCond .eq 70, 3) := by decide +kernel
theorem dT_leafFor_27 : decode bT_leafFor 27 = .ok (.aload_n 0, 1) := by decide +kernel
theorem dT_leafFor_28 : decode bT_leafFor 28 = .ok (.getfield 24, 3) := by decide +kernel
theorem dT_leafFor_31 : decode bT_leafFor 31 = .ok (.iload_n 3, 1) := by decide +kernel
theorem dT_leafFor_32 : decode bT_leafFor 32 = .ok (.iaload, 1) := by decide +kernel
theorem dT_leafFor_33 : decode bT_leafFor 33 = .ok (.istore 5, 2) := by decide +kernel
theorem dT_leafFor_35 : decode bT_leafFor 35 = .ok (.aload_n 0, 1) := by decide +kernel
theorem dT_leafFor_36 : decode bT_leafFor 36 = .ok (.getfield 46, 3) := by decide +kernel
theorem dT_leafFor_39 : decode bT_leafFor 39 = .ok (.iload 5, 2) := by decide +kernel
theorem dT_leafFor_41 : decode bT_leafFor 41 = .ok (.iaload, 1) := by decide +kernel
theorem dT_leafFor_42 : decode bT_leafFor 42 = .ok (.istore 6, 2) := by decide +kernel
theorem dT_leafFor_44 : decode bT_leafFor 44 = .ok (.aload_n 0, 1) := by decide +kernel
theorem dT_leafFor_45 : decode bT_leafFor 45 = .ok (.getfield 46, 3) := by decide +kernel
theorem dT_leafFor_48 : decode bT_leafFor 48 = .ok (.iconst 2, 1) := by decide +kernel
theorem dT_leafFor_49 : decode bT_leafFor 49 = .ok (.iload 5, 2) := by decide +kernel
theorem dT_leafFor_51 : decode bT_leafFor 51 = .ok (.imul, 1) := by decide +kernel
theorem dT_leafFor_52 : decode bT_leafFor 52 = .ok (.aload_n 1, 1) := by decide +kernel
theorem dT_leafFor_53 : decode bT_leafFor 53 = .ok (.iload 6, 2) := by decide +kernel
theorem dT_leafFor_55 : decode bT_leafFor 55 = .ok (.invokevirtual 150, 3) := by decide +kernel
theorem dT_leafFor_58 : decode bT_leafFor 58 = .ok (.iastore, 1) := by decide +kernel
theorem dT_leafFor_59 : decode bT_leafFor 59 = .ok (.aload_n 0, 1) := by decide +kernel
theorem dT_leafFor_60 : decode bT_leafFor 60 = .ok (.getfield 46, 3) := by decide +kernel
theorem dT_leafFor_63 : decode bT_leafFor 63 = .ok (.iconst 2, 1) := by decide +kernel
theorem dT_leafFor_64 : decode bT_leafFor 64 = .ok (.iload 5, 2) := by decide +kernel
theorem dT_leafFor_66 : decode bT_leafFor 66 = .ok (.imul, 1) := by decide +kernel
theorem dT_leafFor_67 : decode bT_leafFor 67 = .ok (.iconst 1, 1) := by decide +kernel
theorem dT_leafFor_68 : decode bT_leafFor 68 = .ok (.iadd, 1) := by decide +kernel
theorem dT_leafFor_69 : decode bT_leafFor 69 = .ok (.aload_n 1, 1) := by decide +kernel
theorem dT_leafFor_70 : decode bT_leafFor 70 = .ok (.iload 6, 2) := by decide +kernel
theorem dT_leafFor_72 : decode bT_leafFor 72 = .ok (.invokevirtual 153, 3) := by decide +kernel
theorem dT_leafFor_75 : decode bT_leafFor 75 = .ok (.iastore, 1) := by decide +kernel
theorem dT_leafFor_76 : decode bT_leafFor 76 = .ok (.aload_n 0, 1) := by decide +kernel
theorem dT_leafFor_77 : decode bT_leafFor 77 = .ok (.iload_n 3, 1) := by decide +kernel
theorem dT_leafFor_78 : decode bT_leafFor 78 = .ok (.aload_n 1, 1) := by decide +kernel
theorem dT_leafFor_79 : decode bT_leafFor 79 = .ok (.iload 6, 2) := by decide +kernel
theorem dT_leafFor_81 : decode bT_leafFor 81 = .ok (.invokevirtual 156, 3) := by decide +kernel
theorem dT_leafFor_84 : decode bT_leafFor 84 = .ok (.invokevirtual 159, 3) := by decide +kernel
theorem dT_leafFor_87 : decode bT_leafFor 87 = .ok (.istore_n 3, 1) := by decide +kernel
theorem dT_leafFor_88 : decode bT_leafFor 88 = .ok (.iinc 4 1, 3) := by decide +kernel
theorem dT_leafFor_91 : decode bT_leafFor 91 = .ok (.goto (-79), 3) := by decide +kernel
theorem dT_leafFor_94 : decode bT_leafFor 94 = .ok (.iload_n 3, 1) := by decide +kernel
theorem dT_leafFor_95 : decode bT_leafFor 95 = .ok (.ireturn, 1) := by decide +kernel
theorem dT_lastBranch_0 : decode bT_lastBranch 0 = .ok (.aload_n 0, 1) := by decide +kernel
theorem dT_lastBranch_1 : decode bT_lastBranch 1 = .ok (.iload_n 1, 1) := by decide +kernel
theorem dT_lastBranch_2 : decode bT_lastBranch 2 = .ok (.invokevirtual 68, 3) := by decide +kernel
theorem dT_lastBranch_5 : decode bT_lastBranch 5 = .ok (.ifCond .eq 21, 3) := by decide +kernel
theorem dT_lastBranch_8 : decode bT_lastBranch 8 = .ok (.aload_n 0, 1) := by decide +kernel
theorem dT_lastBranch_9 : decode bT_lastBranch 9 = .ok (.getfield 33, 3) := by decide +kernel
theorem dT_lastBranch_12 : decode bT_lastBranch 12 = .ok (.iload_n 1, 1) := by decide +kernel
theorem dT_lastBranch_13 : decode bT_lastBranch 13 = .ok (.iaload, 1) := by decide +kernel
theorem dT_lastBranch_14 : decode bT_lastBranch 14 = .ok (.aload_n 0, 1) := by decide +kernel
theorem dT_lastBranch_15 : decode bT_lastBranch 15 = .ok (.getfield 36, 3) := by decide +kernel
theorem dT_lastBranch_18 : decode bT_lastBranch 18 = .ok (.iload_n 1, 1) := by decide +kernel
theorem dT_lastBranch_19 : decode bT_lastBranch 19 = .ok (.iaload, 1) := by decide +kernel
theorem dT_lastBranch_20 : decode bT_lastBranch 20 = .ok (.iadd, 1) := by decide +kernel
theorem dT_lastBranch_21 : decode bT_lastBranch 21 = .ok (.iconst 1, 1) := by decide +kernel
theorem dT_lastBranch_22 : decode bT_lastBranch 22 = .ok (.isub, 1) := by decide +kernel
theorem dT_lastBranch_23 : decode bT_lastBranch 23 = .ok (.goto 4, 3) := by decide +kernel
theorem dT_lastBranch_26 : decode bT_lastBranch 26 = .ok (.iload_n 1, 1) := by decide +kernel
theorem dT_lastBranch_27 : decode bT_lastBranch 27 = .ok (.ireturn, 1) := by decide +kernel
theorem dT_leastWithoutBranch_0 : decode bT_leastWithoutBranch 0 = .ok (.aload_n 0, 1) := by decide +kernel
theorem dT_leastWithoutBranch_1 : decode bT_leastWithoutBranch 1 = .ok (.iload_n 1, 1) := by decide +kernel
theorem dT_leastWithoutBranch_2 : decode bT_leastWithoutBranch 2 = .ok (.invokevirtual 68, 3) := by decide +kernel
theorem dT_leastWithoutBranch_5 : decode bT_leastWithoutBranch 5 = .ok (.ifCond .ne 5, 3) := by decide +kernel
theorem dT_leastWithoutBranch_8 : decode bT_leastWithoutBranch 8 = .ok (.iconst 0, 1) := by decide +kernel
theorem dT_leastWithoutBranch_9 : decode bT_leastWithoutBranch 9 = .ok (.ireturn, 1) := by decide +kernel
theorem dT_leastWithoutBranch_10 : decode bT_leastWithoutBranch 10 = .ok (.aload_n 0, 1) := by decide +kernel
theorem dT_leastWithoutBranch_11 : decode bT_leastWithoutBranch 11 = .ok (.iload_n 1, 1) := by decide +kernel
theorem dT_leastWithoutBranch_12 : decode bT_leastWithoutBranch 12 = .ok (.invokevirtual 162, 3) := by decide +kernel
theorem dT_leastWithoutBranch_15 : decode bT_leastWithoutBranch 15 = .ok (.istore_n 2, 1) := by decide +kernel
theorem dT_leastWithoutBranch_16 : decode bT_leastWithoutBranch 16 = .ok (.iconst 0, 1) := by decide +kernel
theorem dT_leastWithoutBranch_17 : decode bT_leastWithoutBranch 17 = .ok (.istore_n 3, 1) := by decide +kernel
theorem dT_leastWithoutBranch_18 : decode bT_leastWithoutBranch 18 = .ok (.iconst 0, 1) := by decide +kernel
theorem dT_leastWithoutBranch_19 : decode bT_leastWithoutBranch 19 = .ok (.istore 4, 2) := by decide +kernel
theorem dT_leastWithoutBranch_21 : decode bT_leastWithoutBranch 21 = .ok (.iload 4, 2) := by decide +kernel
theorem dT_leastWithoutBranch_23 : decode bT_leastWithoutBranch 23 = .ok (.bipush 16, 2) := by decide +kernel
theorem dT_leastWithoutBranch_25 : decode bT_leastWithoutBranch 25 = .ok (.if_icmp .ge 22, 3) := by decide +kernel
theorem dT_leastWithoutBranch_28 : decode bT_leastWithoutBranch 28 = .ok (.aload_n 0, 1) := by decide +kernel
theorem dT_leastWithoutBranch_29 : decode bT_leastWithoutBranch 29 = .ok (.iload_n 1, 1) := by decide +kernel
theorem dT_leastWithoutBranch_30 : decode bT_leastWithoutBranch 30 = .ok (.iload_n 3, 1) := by decide +kernel
theorem dT_leastWithoutBranch_31 : decode bT_leastWithoutBranch 31 = .ok (.invokevirtual 159, 3) := by decide +kernel
theorem dT_leastWithoutBranch_34 : decode bT_leastWithoutBranch 34 = .ok (.iload_n 2, 1) := by decide +kernel
theorem dT_leastWithoutBranch_35 : decode bT_leastWithoutBranch 35 = .ok (.if_icmp .eq 12, 3) := by decide +kernel
theorem dT_leastWithoutBranch_38 : decode bT_leastWithoutBranch 38 = .ok (.iinc 3 1, 3) := by decide +kernel
theorem dT_leastWithoutBranch_41 : decode bT_leastWithoutBranch 41 = .ok (.iinc 4 1, 3) := by decide +kernel
theorem dT_leastWithoutBranch_44 : decode bT_leastWithoutBranch 44 = .ok (.goto (-23), 3) := by decide +kernel
theorem dT_leastWithoutBranch_47 : decode bT_leastWithoutBranch 47 = .ok (.iload_n 3, 1) := by decide +kernel
theorem dT_leastWithoutBranch_48 : decode bT_leastWithoutBranch 48 = .ok (.ireturn, 1) := by decide +kernel
section Stree
variable {p : Program} {l : Launch} {e : Env} {R : Room} {s : State} {m : MethodId} {args : Array Value} {below : List Frame} {meth : Method} {c : Code} {Q : State → Prop} {D : va_G} {cA : Nat → ClassId} {ad : Nat → Nat} {H0 : Heap}
def fT_drop (st : ck_S) : Option ck_S := (some (ck_u st 5 16 (0 : Int32)))
set_option maxRecDepth 100000 in
set_option maxHeartbeats 4000000 in
theorem cT_drop (l : Launch) (D : va_G) (cA : Nat → ClassId) (ad : Nat → Nat) {st : ck_S} {st0 : ck_S} (hf : fT_drop st = some st0) : Met l yT_drop (.code yT_drop bT_drop 1 none :: ck_T) (ck_R 0) (va_Pc [.ref (ad 5)] (ck_P sh_C cm_cl D cA ad st)) (va_Qv (fun u => u = st0) (ck_P sh_C cm_cl D cA ad) (ck_A ad sh_C.length)) 0 0 (ck_A ad sh_C.length) := by
  refine ck_met_v (own := R_T) (by decide +kernel) rfl (Nat.le_of_ble_eq_true rfl) (fun p e R s m args below meth c H0 Q ls C hret h hl => ?_)
  have C1 := C
  obtain ⟨hx, hb, hml, hown, hts, hK, hlv, hlo⟩ := C1
  have hl : lv_has ls 1 [(0, .ref (ad 5))] := hl
  unfold fT_drop at hf
  refine lv_aload_n hx hb dT_drop_0 rfl (lv_at hl 0 rfl) ?_
  refine lv_iconst (v := 0) hx hb dT_drop_1 (by decide) ?_
  refine ck_pi C h GT_there (ck_nz ck_z0) rfl dT_drop_2 (fun H locs h => ?_)
  exact ck_rv hf hret h dT_drop_5
def fT_isThere (st : ck_S) : Option (Int32 × ck_S) := (ck_gz (st 5 16) (some ((st 5 16), st)))
set_option maxRecDepth 100000 in
set_option maxHeartbeats 4000000 in
theorem cT_isThere (l : Launch) (D : va_G) (cA : Nat → ClassId) (ad : Nat → Nat) {st : ck_S} {r0 : Int32} {st0 : ck_S} (hf : fT_isThere st = some (r0, st0)) : Met l yT_isThere (.code yT_isThere bT_isThere 1 (some .boolean) :: ck_T) (ck_R 0) (va_Pc [.ref (ad 5)] (ck_P sh_C cm_cl D cA ad st)) (va_Qi (fun a u => a = r0 ∧ u = st0) (ck_P sh_C cm_cl D cA ad) (ck_A ad sh_C.length)) 0 0 (ck_A ad sh_C.length) := by
  refine ck_met_z (own := R_T) (by decide +kernel) rfl (Nat.le_of_ble_eq_true rfl) (fun p e R s m args below meth c H0 Q ls C hret h hl => ?_)
  have C1 := C
  obtain ⟨hx, hb, hml, hown, hts, hK, hlv, hlo⟩ := C1
  have hl : lv_has ls 1 [(0, .ref (ad 5))] := hl
  unfold fT_isThere at hf
  refine lv_aload_n hx hb dT_isThere_0 rfl (lv_at hl 0 rfl) ?_
  refine ck_gi (x := (st 5 16)) C h FT_there rfl dT_isThere_1 ?_
  obtain ⟨hz, hf⟩ := ck_gz_e hf
  exact ck_rz hf hret hz h dT_isThere_4
def fT_size (st : ck_S) : Option (Int32 × ck_S) := (some ((st 5 14), st))
set_option maxRecDepth 100000 in
set_option maxHeartbeats 4000000 in
theorem cT_size (l : Launch) (D : va_G) (cA : Nat → ClassId) (ad : Nat → Nat) {st : ck_S} {r0 : Int32} {st0 : ck_S} (hf : fT_size st = some (r0, st0)) : Met l yT_size (.code yT_size bT_size 1 (some .int) :: ck_T) (ck_R 0) (va_Pc [.ref (ad 5)] (ck_P sh_C cm_cl D cA ad st)) (va_Qi (fun a u => a = r0 ∧ u = st0) (ck_P sh_C cm_cl D cA ad) (ck_A ad sh_C.length)) 0 0 (ck_A ad sh_C.length) := by
  refine ck_met_i (own := R_T) (by decide +kernel) rfl (Nat.le_of_ble_eq_true rfl) (fun p e R s m args below meth c H0 Q ls C hret h hl => ?_)
  have C1 := C
  obtain ⟨hx, hb, hml, hown, hts, hK, hlv, hlo⟩ := C1
  have hl : lv_has ls 1 [(0, .ref (ad 5))] := hl
  unfold fT_size at hf
  refine lv_aload_n hx hb dT_size_0 rfl (lv_at hl 0 rfl) ?_
  refine ck_gi (x := (st 5 14)) C h FT_size rfl dT_size_1 ?_
  exact ck_ri hf hret h dT_size_4
def fT_caught (st : ck_S) : Option (Int32 × ck_S) := (some ((st 5 15), st))
set_option maxRecDepth 100000 in
set_option maxHeartbeats 4000000 in
theorem cT_caught (l : Launch) (D : va_G) (cA : Nat → ClassId) (ad : Nat → Nat) {st : ck_S} {r0 : Int32} {st0 : ck_S} (hf : fT_caught st = some (r0, st0)) : Met l yT_caught (.code yT_caught bT_caught 1 (some .int) :: ck_T) (ck_R 0) (va_Pc [.ref (ad 5)] (ck_P sh_C cm_cl D cA ad st)) (va_Qi (fun a u => a = r0 ∧ u = st0) (ck_P sh_C cm_cl D cA ad) (ck_A ad sh_C.length)) 0 0 (ck_A ad sh_C.length) := by
  refine ck_met_i (own := R_T) (by decide +kernel) rfl (Nat.le_of_ble_eq_true rfl) (fun p e R s m args below meth c H0 Q ls C hret h hl => ?_)
  have C1 := C
  obtain ⟨hx, hb, hml, hown, hts, hK, hlv, hlo⟩ := C1
  have hl : lv_has ls 1 [(0, .ref (ad 5))] := hl
  unfold fT_caught at hf
  refine lv_aload_n hx hb dT_caught_0 rfl (lv_at hl 0 rfl) ?_
  refine ck_gi (x := (st 5 15)) C h FT_caught rfl dT_caught_1 ?_
  exact ck_ri hf hret h dT_caught_4
def fT_has (x1 : Int32) (st : ck_S) : Option (Int32 × ck_S) := (if x1 < 0 then (some ((0 : Int32), st)) else (if (st 5 14) ≤ x1 then (some ((0 : Int32), st)) else (some ((1 : Int32), st))))
set_option maxRecDepth 100000 in
set_option maxHeartbeats 4000000 in
theorem cT_has (l : Launch) (D : va_G) (cA : Nat → ClassId) (ad : Nat → Nat) {x1 : Int32} {st : ck_S} {r0 : Int32} {st0 : ck_S} (hf : fT_has x1 st = some (r0, st0)) : Met l yT_has (.code yT_has bT_has 2 (some .boolean) :: ck_T) (ck_R 0) (va_Pc [.ref (ad 5), .int x1] (ck_P sh_C cm_cl D cA ad st)) (va_Qi (fun a u => a = r0 ∧ u = st0) (ck_P sh_C cm_cl D cA ad) (ck_A ad sh_C.length)) 0 0 (ck_A ad sh_C.length) := by
  refine ck_met_z (own := R_T) (by decide +kernel) rfl (Nat.le_of_ble_eq_true rfl) (fun p e R s m args below meth c H0 Q ls C hret h hl => ?_)
  have C1 := C
  obtain ⟨hx, hb, hml, hown, hts, hK, hlv, hlo⟩ := C1
  have hl : lv_has ls 2 [(0, .ref (ad 5)), (1, .int x1)] := hl
  unfold fT_has at hf
  refine lv_iload_n hx hb dT_has_0 rfl (lv_at hl 1 rfl) ?_
  refine lv_if_lt (tgt := 16) hx hb dT_has_1 rfl (fun hq => ?_) (fun hq => ?_)
  · have hf := ck_t hq hf
    refine lv_iconst (v := 0) hx hb dT_has_16 (by decide) ?_
    exact ck_rz hf hret ck_z0 h dT_has_17
  · have hf := ck_f hq hf
    refine lv_iload_n hx hb dT_has_4 rfl (lv_at hl 1 rfl) ?_
    refine lv_aload_n hx hb dT_has_5 rfl (lv_at hl 0 rfl) ?_
    refine ck_gi (x := (st 5 14)) C h FT_size rfl dT_has_6 ?_
    refine lv_icmp_ge (tgt := 16) hx hb dT_has_9 rfl (fun hq => ?_) (fun hq => ?_)
    · have hf := ck_t hq hf
      refine lv_iconst (v := 0) hx hb dT_has_16 (by decide) ?_
      exact ck_rz hf hret ck_z0 h dT_has_17
    · have hf := ck_f hq hf
      refine lv_iconst (v := 1) hx hb dT_has_12 (by decide) ?_
      refine lv_goto (tgt := 17) hx hb dT_has_13 rfl ?_
      exact ck_rz hf hret ck_z1 h dT_has_17
def fT_testsAbove (x1 : Int32) (st : ck_S) : Option (Int32 × ck_S) := (ck_b (fT_has x1 st) fun v2 st1 => (if v2 = 0 then (some ((0 : Int32), st1)) else (ck_gd x1 60 (some ((st1 29 (x1).toNatClampNeg), st1)))))
set_option maxRecDepth 100000 in
set_option maxHeartbeats 4000000 in
theorem cT_testsAbove (l : Launch) (D : va_G) (cA : Nat → ClassId) (ad : Nat → Nat) {x1 : Int32} {st : ck_S} {r0 : Int32} {st0 : ck_S} (hf : fT_testsAbove x1 st = some (r0, st0)) : Met l yT_testsAbove (.code yT_testsAbove bT_testsAbove 2 (some .int) :: ck_T) (ck_R 1) (va_Pc [.ref (ad 5), .int x1] (ck_P sh_C cm_cl D cA ad st)) (va_Qi (fun a u => a = r0 ∧ u = st0) (ck_P sh_C cm_cl D cA ad) (ck_A ad sh_C.length)) 0 0 (ck_A ad sh_C.length) := by
  refine ck_met_i (own := R_T) (by decide +kernel) rfl (Nat.le_of_ble_eq_true rfl) (fun p e R s m args below meth c H0 Q ls C hret h hl => ?_)
  have C1 := C
  obtain ⟨hx, hb, hml, hown, hts, hK, hlv, hlo⟩ := C1
  have hl : lv_has ls 2 [(0, .ref (ad 5)), (1, .int x1)] := hl
  unfold fT_testsAbove at hf
  refine lv_aload_n hx hb dT_testsAbove_0 rfl (lv_at hl 0 rfl) ?_
  refine lv_iload_n hx hb dT_testsAbove_1 rfl (lv_at hl 1 rfl) ?_
  obtain ⟨v2, st1, hc, hf⟩ := ck_b_e hf
  refine ck_vi (As := [.int x1]) (rest := []) (q := 5) C h hl CT_T_has sT_has q_T (cT_has l D cA ad hc) (Nat.le_of_ble_eq_true rfl) rfl rfl (Nat.le_of_ble_eq_true rfl) dT_testsAbove_2 (fun H locs h => ?_)
  refine lv_if_eq (tgt := 17) hx hb dT_testsAbove_5 rfl (fun hq => ?_) (fun hq => ?_)
  · have hf := ck_t hq hf
    refine lv_iconst (v := 0) hx hb dT_testsAbove_17 (by decide) ?_
    exact ck_ri hf hret h dT_testsAbove_18
  · have hf := ck_f hq hf
    refine lv_aload_n hx hb dT_testsAbove_8 rfl (lv_at hl 0 rfl) ?_
    refine ck_gr C h FT_above dT_testsAbove_9 ?_
    refine lv_iload_n hx hb dT_testsAbove_12 rfl (lv_at hl 1 rfl) ?_
    obtain ⟨hg, hf⟩ := ck_gd_e hf
    refine ck_ai (x := (st1 29 (x1).toNatClampNeg)) C h (show sh_C[29]? = some (.inr (0, 60)) from rfl) hg rfl dT_testsAbove_13 ?_
    refine lv_goto (tgt := 18) hx hb dT_testsAbove_14 rfl ?_
    exact ck_ri hf hret h dT_testsAbove_18
def fT_clauseAt (x1 : Int32) (st : ck_S) : Option (Int32 × ck_S) := (ck_b (fT_has x1 st) fun v2 st1 => (if v2 = 0 then (some ((-1 : Int32), st1)) else (ck_gd x1 60 (some ((st1 32 (x1).toNatClampNeg), st1)))))
set_option maxRecDepth 100000 in
set_option maxHeartbeats 4000000 in
theorem cT_clauseAt (l : Launch) (D : va_G) (cA : Nat → ClassId) (ad : Nat → Nat) {x1 : Int32} {st : ck_S} {r0 : Int32} {st0 : ck_S} (hf : fT_clauseAt x1 st = some (r0, st0)) : Met l yT_clauseAt (.code yT_clauseAt bT_clauseAt 2 (some .int) :: ck_T) (ck_R 1) (va_Pc [.ref (ad 5), .int x1] (ck_P sh_C cm_cl D cA ad st)) (va_Qi (fun a u => a = r0 ∧ u = st0) (ck_P sh_C cm_cl D cA ad) (ck_A ad sh_C.length)) 0 0 (ck_A ad sh_C.length) := by
  refine ck_met_i (own := R_T) (by decide +kernel) rfl (Nat.le_of_ble_eq_true rfl) (fun p e R s m args below meth c H0 Q ls C hret h hl => ?_)
  have C1 := C
  obtain ⟨hx, hb, hml, hown, hts, hK, hlv, hlo⟩ := C1
  have hl : lv_has ls 2 [(0, .ref (ad 5)), (1, .int x1)] := hl
  unfold fT_clauseAt at hf
  refine lv_aload_n hx hb dT_clauseAt_0 rfl (lv_at hl 0 rfl) ?_
  refine lv_iload_n hx hb dT_clauseAt_1 rfl (lv_at hl 1 rfl) ?_
  obtain ⟨v2, st1, hc, hf⟩ := ck_b_e hf
  refine ck_vi (As := [.int x1]) (rest := []) (q := 5) C h hl CT_T_has sT_has q_T (cT_has l D cA ad hc) (Nat.le_of_ble_eq_true rfl) rfl rfl (Nat.le_of_ble_eq_true rfl) dT_clauseAt_2 (fun H locs h => ?_)
  refine lv_if_eq (tgt := 17) hx hb dT_clauseAt_5 rfl (fun hq => ?_) (fun hq => ?_)
  · have hf := ck_t hq hf
    refine lv_iconst (v := (-1)) hx hb dT_clauseAt_17 (by decide) ?_
    exact ck_ri hf hret h dT_clauseAt_18
  · have hf := ck_f hq hf
    refine lv_aload_n hx hb dT_clauseAt_8 rfl (lv_at hl 0 rfl) ?_
    refine ck_gr C h FT_clause dT_clauseAt_9 ?_
    refine lv_iload_n hx hb dT_clauseAt_12 rfl (lv_at hl 1 rfl) ?_
    obtain ⟨hg, hf⟩ := ck_gd_e hf
    refine ck_ai (x := (st1 32 (x1).toNatClampNeg)) C h (show sh_C[32]? = some (.inr (0, 60)) from rfl) hg rfl dT_clauseAt_13 ?_
    refine lv_goto (tgt := 18) hx hb dT_clauseAt_14 rfl ?_
    exact ck_ri hf hret h dT_clauseAt_18
def fT_placeOf (x1 : Int32) (st : ck_S) : Option (Int32 × ck_S) := (ck_b (fT_has x1 st) fun v2 st1 => (if v2 = 0 then (some ((0 : Int32), st1)) else (ck_gd x1 60 (some ((st1 30 (x1).toNatClampNeg), st1)))))
set_option maxRecDepth 100000 in
set_option maxHeartbeats 4000000 in
theorem cT_placeOf (l : Launch) (D : va_G) (cA : Nat → ClassId) (ad : Nat → Nat) {x1 : Int32} {st : ck_S} {r0 : Int32} {st0 : ck_S} (hf : fT_placeOf x1 st = some (r0, st0)) : Met l yT_placeOf (.code yT_placeOf bT_placeOf 2 (some .int) :: ck_T) (ck_R 1) (va_Pc [.ref (ad 5), .int x1] (ck_P sh_C cm_cl D cA ad st)) (va_Qi (fun a u => a = r0 ∧ u = st0) (ck_P sh_C cm_cl D cA ad) (ck_A ad sh_C.length)) 0 0 (ck_A ad sh_C.length) := by
  refine ck_met_i (own := R_T) (by decide +kernel) rfl (Nat.le_of_ble_eq_true rfl) (fun p e R s m args below meth c H0 Q ls C hret h hl => ?_)
  have C1 := C
  obtain ⟨hx, hb, hml, hown, hts, hK, hlv, hlo⟩ := C1
  have hl : lv_has ls 2 [(0, .ref (ad 5)), (1, .int x1)] := hl
  unfold fT_placeOf at hf
  refine lv_aload_n hx hb dT_placeOf_0 rfl (lv_at hl 0 rfl) ?_
  refine lv_iload_n hx hb dT_placeOf_1 rfl (lv_at hl 1 rfl) ?_
  obtain ⟨v2, st1, hc, hf⟩ := ck_b_e hf
  refine ck_vi (As := [.int x1]) (rest := []) (q := 5) C h hl CT_T_has sT_has q_T (cT_has l D cA ad hc) (Nat.le_of_ble_eq_true rfl) rfl rfl (Nat.le_of_ble_eq_true rfl) dT_placeOf_2 (fun H locs h => ?_)
  refine lv_if_eq (tgt := 17) hx hb dT_placeOf_5 rfl (fun hq => ?_) (fun hq => ?_)
  · have hf := ck_t hq hf
    refine lv_iconst (v := 0) hx hb dT_placeOf_17 (by decide) ?_
    exact ck_ri hf hret h dT_placeOf_18
  · have hf := ck_f hq hf
    refine lv_aload_n hx hb dT_placeOf_8 rfl (lv_at hl 0 rfl) ?_
    refine ck_gr C h FT_place dT_placeOf_9 ?_
    refine lv_iload_n hx hb dT_placeOf_12 rfl (lv_at hl 1 rfl) ?_
    obtain ⟨hg, hf⟩ := ck_gd_e hf
    refine ck_ai (x := (st1 30 (x1).toNatClampNeg)) C h (show sh_C[30]? = some (.inr (0, 60)) from rfl) hg rfl dT_placeOf_13 ?_
    refine lv_goto (tgt := 18) hx hb dT_placeOf_14 rfl ?_
    exact ck_ri hf hret h dT_placeOf_18
def fT_typeOfTest (x1 : Int32) (st : ck_S) : Option (Int32 × ck_S) := (ck_b (fT_has x1 st) fun v2 st1 => (if v2 = 0 then (some ((-1 : Int32), st1)) else (ck_gd x1 60 (some ((st1 31 (x1).toNatClampNeg), st1)))))
set_option maxRecDepth 100000 in
set_option maxHeartbeats 4000000 in
theorem cT_typeOfTest (l : Launch) (D : va_G) (cA : Nat → ClassId) (ad : Nat → Nat) {x1 : Int32} {st : ck_S} {r0 : Int32} {st0 : ck_S} (hf : fT_typeOfTest x1 st = some (r0, st0)) : Met l yT_typeOfTest (.code yT_typeOfTest bT_typeOfTest 2 (some .int) :: ck_T) (ck_R 1) (va_Pc [.ref (ad 5), .int x1] (ck_P sh_C cm_cl D cA ad st)) (va_Qi (fun a u => a = r0 ∧ u = st0) (ck_P sh_C cm_cl D cA ad) (ck_A ad sh_C.length)) 0 0 (ck_A ad sh_C.length) := by
  refine ck_met_i (own := R_T) (by decide +kernel) rfl (Nat.le_of_ble_eq_true rfl) (fun p e R s m args below meth c H0 Q ls C hret h hl => ?_)
  have C1 := C
  obtain ⟨hx, hb, hml, hown, hts, hK, hlv, hlo⟩ := C1
  have hl : lv_has ls 2 [(0, .ref (ad 5)), (1, .int x1)] := hl
  unfold fT_typeOfTest at hf
  refine lv_aload_n hx hb dT_typeOfTest_0 rfl (lv_at hl 0 rfl) ?_
  refine lv_iload_n hx hb dT_typeOfTest_1 rfl (lv_at hl 1 rfl) ?_
  obtain ⟨v2, st1, hc, hf⟩ := ck_b_e hf
  refine ck_vi (As := [.int x1]) (rest := []) (q := 5) C h hl CT_T_has sT_has q_T (cT_has l D cA ad hc) (Nat.le_of_ble_eq_true rfl) rfl rfl (Nat.le_of_ble_eq_true rfl) dT_typeOfTest_2 (fun H locs h => ?_)
  refine lv_if_eq (tgt := 17) hx hb dT_typeOfTest_5 rfl (fun hq => ?_) (fun hq => ?_)
  · have hf := ck_t hq hf
    refine lv_iconst (v := (-1)) hx hb dT_typeOfTest_17 (by decide) ?_
    exact ck_ri hf hret h dT_typeOfTest_18
  · have hf := ck_f hq hf
    refine lv_aload_n hx hb dT_typeOfTest_8 rfl (lv_at hl 0 rfl) ?_
    refine ck_gr C h FT_testType dT_typeOfTest_9 ?_
    refine lv_iload_n hx hb dT_typeOfTest_12 rfl (lv_at hl 1 rfl) ?_
    obtain ⟨hg, hf⟩ := ck_gd_e hf
    refine ck_ai (x := (st1 31 (x1).toNatClampNeg)) C h (show sh_C[31]? = some (.inr (0, 60)) from rfl) hg rfl dT_typeOfTest_13 ?_
    refine lv_goto (tgt := 18) hx hb dT_typeOfTest_14 rfl ?_
    exact ck_ri hf hret h dT_typeOfTest_18
def fT_labelOf (x1 : Int32) (st : ck_S) : Option (Int32 × ck_S) := (ck_b (fT_has x1 st) fun v2 st1 => (if v2 = 0 then (some ((0 : Int32), st1)) else (ck_gd x1 60 (some ((st1 28 (x1).toNatClampNeg), st1)))))
set_option maxRecDepth 100000 in
set_option maxHeartbeats 4000000 in
theorem cT_labelOf (l : Launch) (D : va_G) (cA : Nat → ClassId) (ad : Nat → Nat) {x1 : Int32} {st : ck_S} {r0 : Int32} {st0 : ck_S} (hf : fT_labelOf x1 st = some (r0, st0)) : Met l yT_labelOf (.code yT_labelOf bT_labelOf 2 (some .int) :: ck_T) (ck_R 1) (va_Pc [.ref (ad 5), .int x1] (ck_P sh_C cm_cl D cA ad st)) (va_Qi (fun a u => a = r0 ∧ u = st0) (ck_P sh_C cm_cl D cA ad) (ck_A ad sh_C.length)) 0 0 (ck_A ad sh_C.length) := by
  refine ck_met_i (own := R_T) (by decide +kernel) rfl (Nat.le_of_ble_eq_true rfl) (fun p e R s m args below meth c H0 Q ls C hret h hl => ?_)
  have C1 := C
  obtain ⟨hx, hb, hml, hown, hts, hK, hlv, hlo⟩ := C1
  have hl : lv_has ls 2 [(0, .ref (ad 5)), (1, .int x1)] := hl
  unfold fT_labelOf at hf
  refine lv_aload_n hx hb dT_labelOf_0 rfl (lv_at hl 0 rfl) ?_
  refine lv_iload_n hx hb dT_labelOf_1 rfl (lv_at hl 1 rfl) ?_
  obtain ⟨v2, st1, hc, hf⟩ := ck_b_e hf
  refine ck_vi (As := [.int x1]) (rest := []) (q := 5) C h hl CT_T_has sT_has q_T (cT_has l D cA ad hc) (Nat.le_of_ble_eq_true rfl) rfl rfl (Nat.le_of_ble_eq_true rfl) dT_labelOf_2 (fun H locs h => ?_)
  refine lv_if_eq (tgt := 17) hx hb dT_labelOf_5 rfl (fun hq => ?_) (fun hq => ?_)
  · have hf := ck_t hq hf
    refine lv_iconst (v := 0) hx hb dT_labelOf_17 (by decide) ?_
    exact ck_ri hf hret h dT_labelOf_18
  · have hf := ck_f hq hf
    refine lv_aload_n hx hb dT_labelOf_8 rfl (lv_at hl 0 rfl) ?_
    refine ck_gr C h FT_label dT_labelOf_9 ?_
    refine lv_iload_n hx hb dT_labelOf_12 rfl (lv_at hl 1 rfl) ?_
    obtain ⟨hg, hf⟩ := ck_gd_e hf
    refine ck_ai (x := (st1 28 (x1).toNatClampNeg)) C h (show sh_C[28]? = some (.inr (0, 60)) from rfl) hg rfl dT_labelOf_13 ?_
    refine lv_goto (tgt := 18) hx hb dT_labelOf_14 rfl ?_
    exact ck_ri hf hret h dT_labelOf_18
def fT_addNode (x1 : Int32) (x2 : Int32) (x3 : Int32) (x4 : Int32) (st : ck_S) : Option (Int32 × ck_S) := (if (st 5 14) < (60 : Int32) then (ck_gd (st 5 14) 60 (ck_gd (st 5 14) 60 (ck_gd (st 5 14) 60 (ck_gd (st 5 14) 60 (ck_gd (st 5 14) 60 (ck_gd (st 5 14) 60 (ck_gd (st 5 14) 60 (ck_gd (st 5 14) 60 (ck_gd (st 5 14) 60 (some ((1 : Int32), (ck_u (ck_u (ck_u (ck_u (ck_u (ck_u (ck_u (ck_u (ck_u (ck_u st 28 ((st 5 14)).toNatClampNeg x1) 26 ((st 5 14)).toNatClampNeg x2) 27 ((st 5 14)).toNatClampNeg x3) 29 ((st 5 14)).toNatClampNeg x4) 30 ((st 5 14)).toNatClampNeg (0 : Int32)) 31 ((st 5 14)).toNatClampNeg (-1 : Int32)) 32 ((st 5 14)).toNatClampNeg (-1 : Int32)) 33 ((st 5 14)).toNatClampNeg (0 : Int32)) 34 ((st 5 14)).toNatClampNeg (0 : Int32)) 5 14 ((st 5 14) + (1 : Int32)))))))))))))) else (some ((0 : Int32), st)))
set_option maxRecDepth 100000 in
set_option maxHeartbeats 4000000 in
theorem cT_addNode (l : Launch) (D : va_G) (cA : Nat → ClassId) (ad : Nat → Nat) {x1 : Int32} {x2 : Int32} {x3 : Int32} {x4 : Int32} {st : ck_S} {r0 : Int32} {st0 : ck_S} (hf : fT_addNode x1 x2 x3 x4 st = some (r0, st0)) : Met l yT_addNode (.code yT_addNode bT_addNode 5 (some .boolean) :: ck_T) (ck_R 0) (va_Pc [.ref (ad 5), .int x1, .int x2, .int x3, .int x4] (ck_P sh_C cm_cl D cA ad st)) (va_Qi (fun a u => a = r0 ∧ u = st0) (ck_P sh_C cm_cl D cA ad) (ck_A ad sh_C.length)) 0 0 (ck_A ad sh_C.length) := by
  refine ck_met_z (own := R_T) (by decide +kernel) rfl (Nat.le_of_ble_eq_true rfl) (fun p e R s m args below meth c H0 Q ls C hret h hl => ?_)
  have C1 := C
  obtain ⟨hx, hb, hml, hown, hts, hK, hlv, hlo⟩ := C1
  have hl : lv_has ls 5 [(0, .ref (ad 5)), (1, .int x1), (2, .int x2), (3, .int x3), (4, .int x4)] := hl
  unfold fT_addNode at hf
  refine lv_aload_n hx hb dT_addNode_0 rfl (lv_at hl 0 rfl) ?_
  refine ck_gi (x := (st 5 14)) C h FT_size rfl dT_addNode_1 ?_
  refine lv_bipush (v := 60) hx hb dT_addNode_4 (by decide) ?_
  refine lv_icmp_lt (tgt := 11) hx hb dT_addNode_6 rfl (fun hq => ?_) (fun hq => ?_)
  · have hf := ck_t hq hf
    refine lv_aload_n hx hb dT_addNode_11 rfl (lv_at hl 0 rfl) ?_
    refine ck_gr C h FT_label dT_addNode_12 ?_
    refine lv_aload_n hx hb dT_addNode_15 rfl (lv_at hl 0 rfl) ?_
    refine ck_gi (x := (st 5 14)) C h FT_size rfl dT_addNode_16 ?_
    refine lv_iload_n hx hb dT_addNode_19 rfl (lv_at hl 1 rfl) ?_
    obtain ⟨hg, hf⟩ := ck_gd_e hf
    refine ck_si C h (show sh_C[28]? = some (.inr (0, 60)) from rfl) hg dT_addNode_20 (fun H locs h => ?_)
    refine lv_aload_n hx hb dT_addNode_21 rfl (lv_at hl 0 rfl) ?_
    refine ck_gr C h FT_left dT_addNode_22 ?_
    refine lv_aload_n hx hb dT_addNode_25 rfl (lv_at hl 0 rfl) ?_
    refine ck_gi (x := (st 5 14)) C h FT_size rfl dT_addNode_26 ?_
    refine lv_iload_n hx hb dT_addNode_29 rfl (lv_at hl 2 rfl) ?_
    obtain ⟨hg, hf⟩ := ck_gd_e hf
    refine ck_si C h (show sh_C[26]? = some (.inr (0, 60)) from rfl) hg dT_addNode_30 (fun H locs h => ?_)
    refine lv_aload_n hx hb dT_addNode_31 rfl (lv_at hl 0 rfl) ?_
    refine ck_gr C h FT_open dT_addNode_32 ?_
    refine lv_aload_n hx hb dT_addNode_35 rfl (lv_at hl 0 rfl) ?_
    refine ck_gi (x := (st 5 14)) C h FT_size rfl dT_addNode_36 ?_
    refine lv_iload_n hx hb dT_addNode_39 rfl (lv_at hl 3 rfl) ?_
    obtain ⟨hg, hf⟩ := ck_gd_e hf
    refine ck_si C h (show sh_C[27]? = some (.inr (0, 60)) from rfl) hg dT_addNode_40 (fun H locs h => ?_)
    refine lv_aload_n hx hb dT_addNode_41 rfl (lv_at hl 0 rfl) ?_
    refine ck_gr C h FT_above dT_addNode_42 ?_
    refine lv_aload_n hx hb dT_addNode_45 rfl (lv_at hl 0 rfl) ?_
    refine ck_gi (x := (st 5 14)) C h FT_size rfl dT_addNode_46 ?_
    refine lv_iload hx hb dT_addNode_49 (lv_at hl 4 rfl) ?_
    obtain ⟨hg, hf⟩ := ck_gd_e hf
    refine ck_si C h (show sh_C[29]? = some (.inr (0, 60)) from rfl) hg dT_addNode_51 (fun H locs h => ?_)
    refine lv_aload_n hx hb dT_addNode_52 rfl (lv_at hl 0 rfl) ?_
    refine ck_gr C h FT_place dT_addNode_53 ?_
    refine lv_aload_n hx hb dT_addNode_56 rfl (lv_at hl 0 rfl) ?_
    refine ck_gi (x := (st 5 14)) C h FT_size rfl dT_addNode_57 ?_
    refine lv_iconst (v := 0) hx hb dT_addNode_60 (by decide) ?_
    obtain ⟨hg, hf⟩ := ck_gd_e hf
    refine ck_si C h (show sh_C[30]? = some (.inr (0, 60)) from rfl) hg dT_addNode_61 (fun H locs h => ?_)
    refine lv_aload_n hx hb dT_addNode_62 rfl (lv_at hl 0 rfl) ?_
    refine ck_gr C h FT_testType dT_addNode_63 ?_
    refine lv_aload_n hx hb dT_addNode_66 rfl (lv_at hl 0 rfl) ?_
    refine ck_gi (x := (st 5 14)) C h FT_size rfl dT_addNode_67 ?_
    refine lv_iconst (v := (-1)) hx hb dT_addNode_70 (by decide) ?_
    obtain ⟨hg, hf⟩ := ck_gd_e hf
    refine ck_si C h (show sh_C[31]? = some (.inr (0, 60)) from rfl) hg dT_addNode_71 (fun H locs h => ?_)
    refine lv_aload_n hx hb dT_addNode_72 rfl (lv_at hl 0 rfl) ?_
    refine ck_gr C h FT_clause dT_addNode_73 ?_
    refine lv_aload_n hx hb dT_addNode_76 rfl (lv_at hl 0 rfl) ?_
    refine ck_gi (x := (st 5 14)) C h FT_size rfl dT_addNode_77 ?_
    refine lv_iconst (v := (-1)) hx hb dT_addNode_80 (by decide) ?_
    obtain ⟨hg, hf⟩ := ck_gd_e hf
    refine ck_si C h (show sh_C[32]? = some (.inr (0, 60)) from rfl) hg dT_addNode_81 (fun H locs h => ?_)
    refine lv_aload_n hx hb dT_addNode_82 rfl (lv_at hl 0 rfl) ?_
    refine ck_gr C h FT_firstBranch dT_addNode_83 ?_
    refine lv_aload_n hx hb dT_addNode_86 rfl (lv_at hl 0 rfl) ?_
    refine ck_gi (x := (st 5 14)) C h FT_size rfl dT_addNode_87 ?_
    refine lv_iconst (v := 0) hx hb dT_addNode_90 (by decide) ?_
    obtain ⟨hg, hf⟩ := ck_gd_e hf
    refine ck_si C h (show sh_C[33]? = some (.inr (0, 60)) from rfl) hg dT_addNode_91 (fun H locs h => ?_)
    refine lv_aload_n hx hb dT_addNode_92 rfl (lv_at hl 0 rfl) ?_
    refine ck_gr C h FT_branchCount dT_addNode_93 ?_
    refine lv_aload_n hx hb dT_addNode_96 rfl (lv_at hl 0 rfl) ?_
    refine ck_gi (x := (st 5 14)) C h FT_size rfl dT_addNode_97 ?_
    refine lv_iconst (v := 0) hx hb dT_addNode_100 (by decide) ?_
    obtain ⟨hg, hf⟩ := ck_gd_e hf
    refine ck_si C h (show sh_C[34]? = some (.inr (0, 60)) from rfl) hg dT_addNode_101 (fun H locs h => ?_)
    refine lv_aload_n hx hb dT_addNode_102 rfl (lv_at hl 0 rfl) ?_
    refine lv_dup hx hb dT_addNode_103 rfl ?_
    refine ck_gi (x := (st 5 14)) C h FT_size rfl dT_addNode_104 ?_
    refine lv_iconst (v := 1) hx hb dT_addNode_107 (by decide) ?_
    refine lv_iadd hx hb dT_addNode_108 ?_
    refine ck_pi C h GT_size rfl rfl dT_addNode_109 (fun H locs h => ?_)
    refine lv_iconst (v := 1) hx hb dT_addNode_112 (by decide) ?_
    exact ck_rz hf hret ck_z1 h dT_addNode_113
  · have hf := ck_f hq hf
    refine lv_iconst (v := 0) hx hb dT_addNode_9 (by decide) ?_
    exact ck_rz hf hret ck_z0 h dT_addNode_10
def fT_makeLeaf (x1 : Int32) (st : ck_S) : Option ck_S := (ck_gd x1 60 (ck_b (fM_firstOf (st 26 (x1).toNatClampNeg) st) fun v2 st1 => (ck_gd x1 60 (ck_gd x1 60 (if ((ck_u st1 32 (x1).toNatClampNeg v2) 32 (x1).toNatClampNeg) = (-1 : Int32) then (some (ck_u st1 32 (x1).toNatClampNeg v2)) else (ck_gd x1 60 (some (ck_u (ck_u st1 32 (x1).toNatClampNeg v2) 5 15 ((st1 5 15) ||| ((1 : Int32) <<< (((ck_u st1 32 (x1).toNatClampNeg v2) 32 (x1).toNatClampNeg) &&& 31)))))))))))
set_option maxRecDepth 100000 in
set_option maxHeartbeats 4000000 in
theorem cT_makeLeaf (l : Launch) (D : va_G) (cA : Nat → ClassId) (ad : Nat → Nat) {x1 : Int32} {st : ck_S} {st0 : ck_S} (hf : fT_makeLeaf x1 st = some st0) : Met l yT_makeLeaf (.code yT_makeLeaf bT_makeLeaf 2 none :: ck_T) (ck_R 1) (va_Pc [.ref (ad 5), .int x1] (ck_P sh_C cm_cl D cA ad st)) (va_Qv (fun u => u = st0) (ck_P sh_C cm_cl D cA ad) (ck_A ad sh_C.length)) 0 0 (ck_A ad sh_C.length) := by
  refine ck_met_v (own := R_T) (by decide +kernel) rfl (Nat.le_of_ble_eq_true rfl) (fun p e R s m args below meth c H0 Q ls C hret h hl => ?_)
  have C1 := C
  obtain ⟨hx, hb, hml, hown, hts, hK, hlv, hlo⟩ := C1
  have hl : lv_has ls 2 [(0, .ref (ad 5)), (1, .int x1)] := hl
  unfold fT_makeLeaf at hf
  refine lv_aload_n hx hb dT_makeLeaf_0 rfl (lv_at hl 0 rfl) ?_
  refine ck_gr C h FT_clause dT_makeLeaf_1 ?_
  refine lv_iload_n hx hb dT_makeLeaf_4 rfl (lv_at hl 1 rfl) ?_
  refine lv_aload_n hx hb dT_makeLeaf_5 rfl (lv_at hl 0 rfl) ?_
  refine ck_gr C h FT_match dT_makeLeaf_6 ?_
  refine lv_aload_n hx hb dT_makeLeaf_9 rfl (lv_at hl 0 rfl) ?_
  refine ck_gr C h FT_left dT_makeLeaf_10 ?_
  refine lv_iload_n hx hb dT_makeLeaf_13 rfl (lv_at hl 1 rfl) ?_
  obtain ⟨hg, hf⟩ := ck_gd_e hf
  refine ck_ai (x := (st 26 (x1).toNatClampNeg)) C h (show sh_C[26]? = some (.inr (0, 60)) from rfl) hg rfl dT_makeLeaf_14 ?_
  obtain ⟨v2, st1, hc, hf⟩ := ck_b_e hf
  refine ck_vi (As := [.int (st 26 (x1).toNatClampNeg)]) (rest := [.int x1, .ref (ad 32)]) (q := 4) C h hl CT_M_firstOf sM_firstOf q_M (cM_firstOf l D cA ad hc) (Nat.le_of_ble_eq_true rfl) rfl rfl (Nat.le_of_ble_eq_true rfl) dT_makeLeaf_15 (fun H locs h => ?_)
  obtain ⟨hg, hf⟩ := ck_gd_e hf
  refine ck_si C h (show sh_C[32]? = some (.inr (0, 60)) from rfl) hg dT_makeLeaf_18 (fun H locs h => ?_)
  refine lv_aload_n hx hb dT_makeLeaf_19 rfl (lv_at hl 0 rfl) ?_
  refine ck_gr C h FT_clause dT_makeLeaf_20 ?_
  refine lv_iload_n hx hb dT_makeLeaf_23 rfl (lv_at hl 1 rfl) ?_
  obtain ⟨hg, hf⟩ := ck_gd_e hf
  refine ck_ai (x := ((ck_u st1 32 (x1).toNatClampNeg v2) 32 (x1).toNatClampNeg)) C h (show sh_C[32]? = some (.inr (0, 60)) from rfl) hg rfl dT_makeLeaf_24 ?_
  refine lv_iconst (v := (-1)) hx hb dT_makeLeaf_25 (by decide) ?_
  refine lv_icmp_eq (tgt := 46) hx hb dT_makeLeaf_26 rfl (fun hq => ?_) (fun hq => ?_)
  · have hf := ck_t hq hf
    exact ck_rv hf hret h dT_makeLeaf_46
  · have hf := ck_f hq hf
    refine lv_aload_n hx hb dT_makeLeaf_29 rfl (lv_at hl 0 rfl) ?_
    refine lv_dup hx hb dT_makeLeaf_30 rfl ?_
    refine ck_gi (x := (st1 5 15)) C h FT_caught rfl dT_makeLeaf_31 ?_
    refine lv_iconst (v := 1) hx hb dT_makeLeaf_34 (by decide) ?_
    refine lv_aload_n hx hb dT_makeLeaf_35 rfl (lv_at hl 0 rfl) ?_
    refine ck_gr C h FT_clause dT_makeLeaf_36 ?_
    refine lv_iload_n hx hb dT_makeLeaf_39 rfl (lv_at hl 1 rfl) ?_
    obtain ⟨hg, hf⟩ := ck_gd_e hf
    refine ck_ai (x := ((ck_u st1 32 (x1).toNatClampNeg v2) 32 (x1).toNatClampNeg)) C h (show sh_C[32]? = some (.inr (0, 60)) from rfl) hg rfl dT_makeLeaf_40 ?_
    refine lv_ishl hx hb dT_makeLeaf_41 ?_
    refine lv_ior hx hb dT_makeLeaf_42 ?_
    refine ck_pi C h GT_caught rfl rfl dT_makeLeaf_43 (fun H locs h => ?_)
    exact ck_rv hf hret h dT_makeLeaf_46
def fT_addNumbers_l47 (k139 : Int32 → Int32 → Int32 → ck_S → Option (Int32 × ck_S)) : Nat → Int32 → Int32 → Int32 → Int64 → Int32 → ck_S → Option (Int32 × ck_S)
  | 0, _, _, _, _, _, _ => none
  | n + 1, x1, x2, x3, x4, x6, st => (if (16 : Int32) ≤ x6 then (k139 x1 x2 x3 st) else (if (lg_cmp x4 (4294967296 : Int64)) = 0 then (k139 x1 x2 x3 st) else (if x2 = 0 then (k139 x1 x2 x3 st) else (ck_gd x1 60 (ck_gd x1 60 (ck_b (fM_notAskingElse (st 26 (x1).toNatClampNeg) (st 30 (x1).toNatClampNeg) ((x4).toInt32) st) fun v2 st1 => (ck_gd x1 60 (ck_b (fT_addNode ((x4).toInt32) v2 x3 ((st1 29 (x1).toNatClampNeg) + (1 : Int32)) st1) fun v4 st3 => (ck_gd x1 60 (ck_gd x1 60 (ck_b (fM_leastAbove x4 (st3 26 (x1).toNatClampNeg) (st3 30 (x1).toNatClampNeg) st3) fun v6 st5 => (fT_addNumbers_l47 k139 n x1 v4 x3 v6 (x6 + 1) st5))))))))))))
set_option maxRecDepth 100000 in
set_option maxHeartbeats 4000000 in
theorem BT_addNumbers_47 (C : ck_X cm_cl D cA bT_addNumbers 8 R_T 2 p R s m args c) {r0 : Int32} {st0 : ck_S} (hret : ∀ (pc : Nat) (H : Heap) (locs : List Loc) (ls : Array Slot), decode bT_addNumbers pc = .ok (.ireturn, 1) → (r0 = 0 ∨ r0 = 1) → ck_AT sh_C cm_cl D cA ad H0 st0 H locs → W p l e R s m args below meth c H locs 0 0 Q (F0 m pc ls [.int r0])) {k139 : Int32 → Int32 → Int32 → ck_S → Option (Int32 × ck_S)} (hk139 : ∀ (x1 : Int32) (x2 : Int32) (x3 : Int32) (st : ck_S) (H : Heap) (locs : List Loc) (ls : Array Slot), ck_AT sh_C cm_cl D cA ad H0 st H locs → lv_has ls 8 [(0, .ref (ad 5)), (1, .int x1), (2, .int x2), (3, .int x3)] → k139 x1 x2 x3 st = some (r0, st0) → W p l e R s m args below meth c H locs 0 0 Q (F0 m 139 ls [])) : ∀ (n : Nat) (x1 : Int32) (x2 : Int32) (x3 : Int32) (x4 : Int64) (x6 : Int32) (st : ck_S) (H : Heap) (locs : List Loc) (ls : Array Slot), ck_AT sh_C cm_cl D cA ad H0 st H locs → lv_has ls 8 [(0, .ref (ad 5)), (1, .int x1), (2, .int x2), (3, .int x3), (4, .long x4), (6, .int x6)] → fT_addNumbers_l47 k139 n x1 x2 x3 x4 x6 st = some (r0, st0) → W p l e R s m args below meth c H locs 0 0 Q (F0 m 47 ls []) := by
  have C1 := C
  obtain ⟨hx, hb, hml, hown, hts, hK, hlv, hlo⟩ := C1
  intro n
  induction n with
  | zero => intro _ _ _ _ _ _ _ _ _ _ _ hf; cases hf
  | succ n ih =>
    intro x1 x2 x3 x4 x6 st H locs ls h hl hf
    rw [fT_addNumbers_l47] at hf
    refine lv_iload hx hb dT_addNumbers_47 (lv_at hl 5 rfl) ?_
    refine lv_bipush (v := 16) hx hb dT_addNumbers_49 (by decide) ?_
    refine lv_icmp_ge (tgt := 139) hx hb dT_addNumbers_51 rfl (fun hq => ?_) (fun hq => ?_)
    · have hf := ck_t hq hf
      exact hk139 _ _ _ _ _ _ _ h (lv_sub hl [0, 1, 2, 3] rfl) hf
    · have hf := ck_f hq hf
      refine lv_lload hx hb dT_addNumbers_54 (lv_at hl 4 rfl) ?_
      refine lv_ldc2 (v := 4294967296) hx hb hown (hts _ (ck_T_mk (List.mem_of_getElem? (i := 545) (by decide +kernel)) (by decide +kernel))) dT_addNumbers_56 ?_
      refine W.lcmp hx hb dT_addNumbers_59 ?_
      refine lv_if_eq (tgt := 139) hx hb dT_addNumbers_60 rfl (fun hq => ?_) (fun hq => ?_)
      · have hf := ck_t hq hf
        exact hk139 _ _ _ _ _ _ _ h (lv_sub hl [0, 1, 2, 3] rfl) hf
      · have hf := ck_f hq hf
        refine lv_iload_n hx hb dT_addNumbers_63 rfl (lv_at hl 2 rfl) ?_
        refine lv_if_eq (tgt := 139) hx hb dT_addNumbers_64 rfl (fun hq => ?_) (fun hq => ?_)
        · have hf := ck_t hq hf
          exact hk139 _ _ _ _ _ _ _ h (lv_sub hl [0, 1, 2, 3] rfl) hf
        · have hf := ck_f hq hf
          refine lv_aload_n hx hb dT_addNumbers_67 rfl (lv_at hl 0 rfl) ?_
          refine ck_gr C h FT_match dT_addNumbers_68 ?_
          refine lv_aload_n hx hb dT_addNumbers_71 rfl (lv_at hl 0 rfl) ?_
          refine ck_gr C h FT_left dT_addNumbers_72 ?_
          refine lv_iload_n hx hb dT_addNumbers_75 rfl (lv_at hl 1 rfl) ?_
          obtain ⟨hg, hf⟩ := ck_gd_e hf
          refine ck_ai (x := (st 26 (x1).toNatClampNeg)) C h (show sh_C[26]? = some (.inr (0, 60)) from rfl) hg rfl dT_addNumbers_76 ?_
          refine lv_aload_n hx hb dT_addNumbers_77 rfl (lv_at hl 0 rfl) ?_
          refine ck_gr C h FT_place dT_addNumbers_78 ?_
          refine lv_iload_n hx hb dT_addNumbers_81 rfl (lv_at hl 1 rfl) ?_
          obtain ⟨hg, hf⟩ := ck_gd_e hf
          refine ck_ai (x := (st 30 (x1).toNatClampNeg)) C h (show sh_C[30]? = some (.inr (0, 60)) from rfl) hg rfl dT_addNumbers_82 ?_
          refine lv_lload hx hb dT_addNumbers_83 (lv_at hl 4 rfl) ?_
          refine lv_l2i hx hb dT_addNumbers_85 rfl ?_
          obtain ⟨v2, st1, hc, hf⟩ := ck_b_e hf
          refine ck_vi (As := [.int (st 26 (x1).toNatClampNeg), .int (st 30 (x1).toNatClampNeg), .int ((x4).toInt32)]) (rest := []) (q := 4) C h hl CT_M_notAskingElse sM_notAskingElse q_M (cM_notAskingElse l D cA ad hc) (Nat.le_of_ble_eq_true rfl) rfl rfl (Nat.le_of_ble_eq_true rfl) dT_addNumbers_86 (fun H locs h => ?_)
          refine lv_istore (lv' := [(7, .int v2), (0, .ref (ad 5)), (1, .int x1), (2, .int x2), (3, .int x3), (4, .long x4), (6, .int x6)]) hx hb dT_addNumbers_89 hl (by decide) rfl (fun ls hl => ?_)
          refine lv_aload_n hx hb dT_addNumbers_91 rfl (lv_at hl 1 rfl) ?_
          refine lv_lload hx hb dT_addNumbers_92 (lv_at hl 5 rfl) ?_
          refine lv_l2i hx hb dT_addNumbers_94 rfl ?_
          refine lv_iload hx hb dT_addNumbers_95 (lv_at hl 0 rfl) ?_
          refine lv_iload_n hx hb dT_addNumbers_97 rfl (lv_at hl 4 rfl) ?_
          refine lv_aload_n hx hb dT_addNumbers_98 rfl (lv_at hl 1 rfl) ?_
          refine ck_gr C h FT_above dT_addNumbers_99 ?_
          refine lv_iload_n hx hb dT_addNumbers_102 rfl (lv_at hl 2 rfl) ?_
          obtain ⟨hg, hf⟩ := ck_gd_e hf
          refine ck_ai (x := (st1 29 (x1).toNatClampNeg)) C h (show sh_C[29]? = some (.inr (0, 60)) from rfl) hg rfl dT_addNumbers_103 ?_
          refine lv_iconst (v := 1) hx hb dT_addNumbers_104 (by decide) ?_
          refine lv_iadd hx hb dT_addNumbers_105 ?_
          obtain ⟨v4, st3, hc, hf⟩ := ck_b_e hf
          refine ck_vi (As := [.int ((x4).toInt32), .int v2, .int x3, .int ((st1 29 (x1).toNatClampNeg) + (1 : Int32))]) (rest := []) (q := 5) C h hl CT_T_addNode sT_addNode q_T (cT_addNode l D cA ad hc) (Nat.le_of_ble_eq_true rfl) rfl rfl (Nat.le_of_ble_eq_true rfl) dT_addNumbers_106 (fun H locs h => ?_)
          refine lv_istore_n (lv' := [(2, .int v4), (7, .int v2), (0, .ref (ad 5)), (1, .int x1), (3, .int x3), (4, .long x4), (6, .int x6)]) hx hb dT_addNumbers_109 rfl hl (by decide) rfl (fun ls hl => ?_)
          refine lv_aload_n hx hb dT_addNumbers_110 rfl (lv_at hl 2 rfl) ?_
          refine ck_gr C h FT_match dT_addNumbers_111 ?_
          refine lv_lload hx hb dT_addNumbers_114 (lv_at hl 5 rfl) ?_
          refine lv_aload_n hx hb dT_addNumbers_116 rfl (lv_at hl 2 rfl) ?_
          refine ck_gr C h FT_left dT_addNumbers_117 ?_
          refine lv_iload_n hx hb dT_addNumbers_120 rfl (lv_at hl 3 rfl) ?_
          obtain ⟨hg, hf⟩ := ck_gd_e hf
          refine ck_ai (x := (st3 26 (x1).toNatClampNeg)) C h (show sh_C[26]? = some (.inr (0, 60)) from rfl) hg rfl dT_addNumbers_121 ?_
          refine lv_aload_n hx hb dT_addNumbers_122 rfl (lv_at hl 2 rfl) ?_
          refine ck_gr C h FT_place dT_addNumbers_123 ?_
          refine lv_iload_n hx hb dT_addNumbers_126 rfl (lv_at hl 3 rfl) ?_
          obtain ⟨hg, hf⟩ := ck_gd_e hf
          refine ck_ai (x := (st3 30 (x1).toNatClampNeg)) C h (show sh_C[30]? = some (.inr (0, 60)) from rfl) hg rfl dT_addNumbers_127 ?_
          obtain ⟨v6, st5, hc, hf⟩ := ck_b_e hf
          refine ck_vl (As := [.long x4, .int (st3 26 (x1).toNatClampNeg), .int (st3 30 (x1).toNatClampNeg)]) (rest := []) (q := 4) C h hl CT_M_leastAbove sM_leastAbove q_M (cM_leastAbove l D cA ad hc) (Nat.le_of_ble_eq_true rfl) rfl rfl (Nat.le_of_ble_eq_true rfl) dT_addNumbers_128 (fun H locs h => ?_)
          refine lv_lstore (lv' := [(4, .long v6), (2, .int v4), (7, .int v2), (0, .ref (ad 5)), (1, .int x1), (3, .int x3), (6, .int x6)]) hx hb dT_addNumbers_131 hl (by decide) rfl (fun ls hl => ?_)
          refine lv_iinc (k := 6) (v := (x6 + 1)) (lv' := [(6, .int (x6 + 1)), (4, .long v6), (2, .int v4), (7, .int v2), (0, .ref (ad 5)), (1, .int x1), (3, .int x3)]) hx hb dT_addNumbers_133 hl rfl rfl (by decide) rfl (fun ls hl => ?_)
          refine lv_goto (tgt := 47) hx hb dT_addNumbers_136 rfl ?_
          exact ih _ _ _ _ _ _ _ _ _ h (lv_sub hl [4, 5, 2, 6, 1, 0] rfl) hf
def fT_addNumbers_b139 (x1 : Int32) (x2 : Int32) (x3 : Int32) (st : ck_S) : Option (Int32 × ck_S) := (ck_gd x1 60 (ck_gd x1 60 (ck_b (fM_notAsking (st 26 (x1).toNatClampNeg) (st 30 (x1).toNatClampNeg) st) fun v2 st1 => (if x2 = 0 then (some ((0 : Int32), st1)) else (ck_gd x1 60 (ck_b (fT_addNode (0 : Int32) v2 x3 ((st1 29 (x1).toNatClampNeg) + (1 : Int32)) st1) fun v4 st3 => (if v4 = 0 then (some ((0 : Int32), st3)) else (some ((1 : Int32), st3)))))))))
set_option maxRecDepth 100000 in
set_option maxHeartbeats 4000000 in
theorem BT_addNumbers_139 (C : ck_X cm_cl D cA bT_addNumbers 8 R_T 2 p R s m args c) {r0 : Int32} {st0 : ck_S} (hret : ∀ (pc : Nat) (H : Heap) (locs : List Loc) (ls : Array Slot), decode bT_addNumbers pc = .ok (.ireturn, 1) → (r0 = 0 ∨ r0 = 1) → ck_AT sh_C cm_cl D cA ad H0 st0 H locs → W p l e R s m args below meth c H locs 0 0 Q (F0 m pc ls [.int r0])) (x1 : Int32) (x2 : Int32) (x3 : Int32) (st : ck_S) (H : Heap) (locs : List Loc) (ls : Array Slot) (h : ck_AT sh_C cm_cl D cA ad H0 st H locs) (hl : lv_has ls 8 [(0, .ref (ad 5)), (1, .int x1), (2, .int x2), (3, .int x3)]) (hf : fT_addNumbers_b139 x1 x2 x3 st = some (r0, st0)) : W p l e R s m args below meth c H locs 0 0 Q (F0 m 139 ls []) := by
  have C1 := C
  obtain ⟨hx, hb, hml, hown, hts, hK, hlv, hlo⟩ := C1
  unfold fT_addNumbers_b139 at hf
  refine lv_aload_n hx hb dT_addNumbers_139 rfl (lv_at hl 0 rfl) ?_
  refine ck_gr C h FT_match dT_addNumbers_140 ?_
  refine lv_aload_n hx hb dT_addNumbers_143 rfl (lv_at hl 0 rfl) ?_
  refine ck_gr C h FT_left dT_addNumbers_144 ?_
  refine lv_iload_n hx hb dT_addNumbers_147 rfl (lv_at hl 1 rfl) ?_
  obtain ⟨hg, hf⟩ := ck_gd_e hf
  refine ck_ai (x := (st 26 (x1).toNatClampNeg)) C h (show sh_C[26]? = some (.inr (0, 60)) from rfl) hg rfl dT_addNumbers_148 ?_
  refine lv_aload_n hx hb dT_addNumbers_149 rfl (lv_at hl 0 rfl) ?_
  refine ck_gr C h FT_place dT_addNumbers_150 ?_
  refine lv_iload_n hx hb dT_addNumbers_153 rfl (lv_at hl 1 rfl) ?_
  obtain ⟨hg, hf⟩ := ck_gd_e hf
  refine ck_ai (x := (st 30 (x1).toNatClampNeg)) C h (show sh_C[30]? = some (.inr (0, 60)) from rfl) hg rfl dT_addNumbers_154 ?_
  obtain ⟨v2, st1, hc, hf⟩ := ck_b_e hf
  refine ck_vi (As := [.int (st 26 (x1).toNatClampNeg), .int (st 30 (x1).toNatClampNeg)]) (rest := []) (q := 4) C h hl CT_M_notAsking sM_notAsking q_M (cM_notAsking l D cA ad hc) (Nat.le_of_ble_eq_true rfl) rfl rfl (Nat.le_of_ble_eq_true rfl) dT_addNumbers_155 (fun H locs h => ?_)
  refine lv_istore (lv' := [(6, .int v2), (0, .ref (ad 5)), (1, .int x1), (2, .int x2), (3, .int x3)]) hx hb dT_addNumbers_158 hl (by decide) rfl (fun ls hl => ?_)
  refine lv_iload_n hx hb dT_addNumbers_160 rfl (lv_at hl 3 rfl) ?_
  refine lv_if_eq (tgt := 187) hx hb dT_addNumbers_161 rfl (fun hq => ?_) (fun hq => ?_)
  · have hf := ck_t hq hf
    refine lv_iconst (v := 0) hx hb dT_addNumbers_187 (by decide) ?_
    exact ck_rz hf hret ck_z0 h dT_addNumbers_188
  · have hf := ck_f hq hf
    refine lv_aload_n hx hb dT_addNumbers_164 rfl (lv_at hl 1 rfl) ?_
    refine lv_iconst (v := 0) hx hb dT_addNumbers_165 (by decide) ?_
    refine lv_iload hx hb dT_addNumbers_166 (lv_at hl 0 rfl) ?_
    refine lv_iload_n hx hb dT_addNumbers_168 rfl (lv_at hl 4 rfl) ?_
    refine lv_aload_n hx hb dT_addNumbers_169 rfl (lv_at hl 1 rfl) ?_
    refine ck_gr C h FT_above dT_addNumbers_170 ?_
    refine lv_iload_n hx hb dT_addNumbers_173 rfl (lv_at hl 2 rfl) ?_
    obtain ⟨hg, hf⟩ := ck_gd_e hf
    refine ck_ai (x := (st1 29 (x1).toNatClampNeg)) C h (show sh_C[29]? = some (.inr (0, 60)) from rfl) hg rfl dT_addNumbers_174 ?_
    refine lv_iconst (v := 1) hx hb dT_addNumbers_175 (by decide) ?_
    refine lv_iadd hx hb dT_addNumbers_176 ?_
    obtain ⟨v4, st3, hc, hf⟩ := ck_b_e hf
    refine ck_vi (As := [.int (0 : Int32), .int v2, .int x3, .int ((st1 29 (x1).toNatClampNeg) + (1 : Int32))]) (rest := []) (q := 5) C h hl CT_T_addNode sT_addNode q_T (cT_addNode l D cA ad hc) (Nat.le_of_ble_eq_true rfl) rfl rfl (Nat.le_of_ble_eq_true rfl) dT_addNumbers_177 (fun H locs h => ?_)
    refine lv_if_eq (tgt := 187) hx hb dT_addNumbers_180 rfl (fun hq => ?_) (fun hq => ?_)
    · have hf := ck_t hq hf
      refine lv_iconst (v := 0) hx hb dT_addNumbers_187 (by decide) ?_
      exact ck_rz hf hret ck_z0 h dT_addNumbers_188
    · have hf := ck_f hq hf
      refine lv_iconst (v := 1) hx hb dT_addNumbers_183 (by decide) ?_
      refine lv_goto (tgt := 188) hx hb dT_addNumbers_184 rfl ?_
      exact ck_rz hf hret ck_z1 h dT_addNumbers_188
def fT_addNumbers (x1 : Int32) (st : ck_S) : Option (Int32 × ck_S) := (ck_gd x1 60 (ck_gd x1 60 (ck_gd x1 60 (ck_gd x1 60 (ck_b (fM_leastAbove (-4294967296 : Int64) (st 26 (x1).toNatClampNeg) (st 30 (x1).toNatClampNeg) st) fun v2 st1 => (fT_addNumbers_l47 (fun x1 x2 x3 st => (fT_addNumbers_b139 x1 x2 x3 st)) 4096 x1 (1 : Int32) ((st 27 (x1).toNatClampNeg) &&& (((1 : Int32) <<< ((st 30 (x1).toNatClampNeg) &&& 31)) ^^^ (-1 : Int32))) v2 (0 : Int32) st1))))))
set_option maxRecDepth 100000 in
set_option maxHeartbeats 4000000 in
theorem cT_addNumbers (l : Launch) (D : va_G) (cA : Nat → ClassId) (ad : Nat → Nat) {x1 : Int32} {st : ck_S} {r0 : Int32} {st0 : ck_S} (hf : fT_addNumbers x1 st = some (r0, st0)) : Met l yT_addNumbers (.code yT_addNumbers bT_addNumbers 8 (some .boolean) :: ck_T) (ck_R 2) (va_Pc [.ref (ad 5), .int x1] (ck_P sh_C cm_cl D cA ad st)) (va_Qi (fun a u => a = r0 ∧ u = st0) (ck_P sh_C cm_cl D cA ad) (ck_A ad sh_C.length)) 0 0 (ck_A ad sh_C.length) := by
  refine ck_met_z (own := R_T) (by decide +kernel) rfl (Nat.le_of_ble_eq_true rfl) (fun p e R s m args below meth c H0 Q ls C hret h hl => ?_)
  have C1 := C
  obtain ⟨hx, hb, hml, hown, hts, hK, hlv, hlo⟩ := C1
  have hl : lv_has ls 8 [(0, .ref (ad 5)), (1, .int x1)] := hl
  unfold fT_addNumbers at hf
  refine lv_iconst (v := 1) hx hb dT_addNumbers_0 (by decide) ?_
  refine lv_istore_n (lv' := [(2, .int (1 : Int32)), (0, .ref (ad 5)), (1, .int x1)]) hx hb dT_addNumbers_1 rfl hl (by decide) rfl (fun ls hl => ?_)
  refine lv_aload_n hx hb dT_addNumbers_2 rfl (lv_at hl 1 rfl) ?_
  refine ck_gr C h FT_open dT_addNumbers_3 ?_
  refine lv_iload_n hx hb dT_addNumbers_6 rfl (lv_at hl 2 rfl) ?_
  obtain ⟨hg, hf⟩ := ck_gd_e hf
  refine ck_ai (x := (st 27 (x1).toNatClampNeg)) C h (show sh_C[27]? = some (.inr (0, 60)) from rfl) hg rfl dT_addNumbers_7 ?_
  refine lv_iconst (v := 1) hx hb dT_addNumbers_8 (by decide) ?_
  refine lv_aload_n hx hb dT_addNumbers_9 rfl (lv_at hl 1 rfl) ?_
  refine ck_gr C h FT_place dT_addNumbers_10 ?_
  refine lv_iload_n hx hb dT_addNumbers_13 rfl (lv_at hl 2 rfl) ?_
  obtain ⟨hg, hf⟩ := ck_gd_e hf
  refine ck_ai (x := (st 30 (x1).toNatClampNeg)) C h (show sh_C[30]? = some (.inr (0, 60)) from rfl) hg rfl dT_addNumbers_14 ?_
  refine lv_ishl hx hb dT_addNumbers_15 ?_
  refine lv_iconst (v := (-1)) hx hb dT_addNumbers_16 (by decide) ?_
  refine lv_ixor hx hb dT_addNumbers_17 ?_
  refine lv_iand hx hb dT_addNumbers_18 ?_
  refine lv_istore_n (lv' := [(3, .int ((st 27 (x1).toNatClampNeg) &&& (((1 : Int32) <<< ((st 30 (x1).toNatClampNeg) &&& 31)) ^^^ (-1 : Int32)))), (2, .int (1 : Int32)), (0, .ref (ad 5)), (1, .int x1)]) hx hb dT_addNumbers_19 rfl hl (by decide) rfl (fun ls hl => ?_)
  refine lv_aload_n hx hb dT_addNumbers_20 rfl (lv_at hl 2 rfl) ?_
  refine ck_gr C h FT_match dT_addNumbers_21 ?_
  refine lv_ldc2 (v := (-4294967296)) hx hb hown (hts _ (ck_T_mk (List.mem_of_getElem? (i := 539) (by decide +kernel)) (by decide +kernel))) dT_addNumbers_24 ?_
  refine lv_aload_n hx hb dT_addNumbers_27 rfl (lv_at hl 2 rfl) ?_
  refine ck_gr C h FT_left dT_addNumbers_28 ?_
  refine lv_iload_n hx hb dT_addNumbers_31 rfl (lv_at hl 3 rfl) ?_
  obtain ⟨hg, hf⟩ := ck_gd_e hf
  refine ck_ai (x := (st 26 (x1).toNatClampNeg)) C h (show sh_C[26]? = some (.inr (0, 60)) from rfl) hg rfl dT_addNumbers_32 ?_
  refine lv_aload_n hx hb dT_addNumbers_33 rfl (lv_at hl 2 rfl) ?_
  refine ck_gr C h FT_place dT_addNumbers_34 ?_
  refine lv_iload_n hx hb dT_addNumbers_37 rfl (lv_at hl 3 rfl) ?_
  obtain ⟨hg, hf⟩ := ck_gd_e hf
  refine ck_ai (x := (st 30 (x1).toNatClampNeg)) C h (show sh_C[30]? = some (.inr (0, 60)) from rfl) hg rfl dT_addNumbers_38 ?_
  obtain ⟨v2, st1, hc, hf⟩ := ck_b_e hf
  refine ck_vl (As := [.long (-4294967296 : Int64), .int (st 26 (x1).toNatClampNeg), .int (st 30 (x1).toNatClampNeg)]) (rest := []) (q := 4) C h hl CT_M_leastAbove sM_leastAbove q_M (cM_leastAbove l D cA ad hc) (Nat.le_of_ble_eq_true rfl) rfl rfl (Nat.le_of_ble_eq_true rfl) dT_addNumbers_39 (fun H locs h => ?_)
  refine lv_lstore (lv' := [(4, .long v2), (3, .int ((st 27 (x1).toNatClampNeg) &&& (((1 : Int32) <<< ((st 30 (x1).toNatClampNeg) &&& 31)) ^^^ (-1 : Int32)))), (2, .int (1 : Int32)), (0, .ref (ad 5)), (1, .int x1)]) hx hb dT_addNumbers_42 hl (by decide) rfl (fun ls hl => ?_)
  refine lv_iconst (v := 0) hx hb dT_addNumbers_44 (by decide) ?_
  refine lv_istore (lv' := [(6, .int (0 : Int32)), (4, .long v2), (3, .int ((st 27 (x1).toNatClampNeg) &&& (((1 : Int32) <<< ((st 30 (x1).toNatClampNeg) &&& 31)) ^^^ (-1 : Int32)))), (2, .int (1 : Int32)), (0, .ref (ad 5)), (1, .int x1)]) hx hb dT_addNumbers_45 hl (by decide) rfl (fun ls hl => ?_)
  exact BT_addNumbers_47 C hret (fun x1 x2 x3 st H locs ls h hl hf => by
      exact BT_addNumbers_139 C hret _ _ _ _ _ _ _ h (lv_sub hl [0, 1, 2, 3] rfl) hf) 4096 _ _ _ _ _ _ _ _ _ h (lv_sub hl [4, 5, 3, 2, 1, 0] rfl) hf
def fT_addConstructors_l23 : Nat → Int32 → Int32 → Int32 → Int32 → ck_S → Option (Int32 × ck_S)
  | 0, _, _, _, _, _ => none
  | n + 1, x1, x2, x3, x4, st => (ck_b (fD_constructorCount st) fun v2 st1 => (if v2 ≤ x4 then (ck_gz x2 (some (x2, st1))) else (if x2 = 0 then (ck_gz x2 (some (x2, st1))) else (ck_b (fD_ownerOf x4 st1) fun v4 st3 => (ck_gd x1 60 (if v4 = (st3 31 (x1).toNatClampNeg) then (ck_gd x1 60 (ck_gd x1 60 (ck_b (fM_notAskingElse (st3 26 (x1).toNatClampNeg) (st3 30 (x1).toNatClampNeg) x4 st3) fun v6 st5 => (ck_gd x1 60 (ck_b (fD_argumentPlaces x4 (st5 30 (x1).toNatClampNeg) st5) fun v8 st7 => (ck_gd x1 60 (ck_b (fT_addNode x4 v6 (x3 ||| v8) ((st7 29 (x1).toNatClampNeg) + (1 : Int32)) st7) fun v10 st9 => (fT_addConstructors_l23 n x1 v10 x3 (x4 + 1) st9)))))))) else (fT_addConstructors_l23 n x1 x2 x3 (x4 + 1) st3)))))))
set_option maxRecDepth 100000 in
set_option maxHeartbeats 4000000 in
theorem BT_addConstructors_23 (C : ck_X cm_cl D cA bT_addConstructors 7 R_T 3 p R s m args c) {r0 : Int32} {st0 : ck_S} (hret : ∀ (pc : Nat) (H : Heap) (locs : List Loc) (ls : Array Slot), decode bT_addConstructors pc = .ok (.ireturn, 1) → (r0 = 0 ∨ r0 = 1) → ck_AT sh_C cm_cl D cA ad H0 st0 H locs → W p l e R s m args below meth c H locs 0 0 Q (F0 m pc ls [.int r0])) : ∀ (n : Nat) (x1 : Int32) (x2 : Int32) (x3 : Int32) (x4 : Int32) (st : ck_S) (H : Heap) (locs : List Loc) (ls : Array Slot), ck_AT sh_C cm_cl D cA ad H0 st H locs → lv_has ls 7 [(0, .ref (ad 5)), (1, .int x1), (2, .int x2), (3, .int x3), (4, .int x4)] → fT_addConstructors_l23  n x1 x2 x3 x4 st = some (r0, st0) → W p l e R s m args below meth c H locs 0 0 Q (F0 m 23 ls []) := by
  have C1 := C
  obtain ⟨hx, hb, hml, hown, hts, hK, hlv, hlo⟩ := C1
  intro n
  induction n with
  | zero => intro _ _ _ _ _ _ _ _ _ _ hf; cases hf
  | succ n ih =>
    intro x1 x2 x3 x4 st H locs ls h hl hf
    rw [fT_addConstructors_l23] at hf
    refine lv_iload hx hb dT_addConstructors_23 (lv_at hl 4 rfl) ?_
    refine lv_aload_n hx hb dT_addConstructors_25 rfl (lv_at hl 0 rfl) ?_
    refine ck_gr C h FT_declared dT_addConstructors_26 ?_
    obtain ⟨v2, st1, hc, hf⟩ := ck_b_e hf
    refine ck_vi (As := []) (rest := [.int x4]) (q := 1) C h hl CT_D_constructorCount sD_constructorCount q_D (cD_constructorCount l D cA ad hc) (Nat.le_of_ble_eq_true rfl) rfl rfl (Nat.le_of_ble_eq_true rfl) dT_addConstructors_29 (fun H locs h => ?_)
    refine lv_icmp_ge (tgt := 124) hx hb dT_addConstructors_32 rfl (fun hq => ?_) (fun hq => ?_)
    · have hf := ck_t hq hf
      refine lv_iload_n hx hb dT_addConstructors_124 rfl (lv_at hl 2 rfl) ?_
      obtain ⟨hz, hf⟩ := ck_gz_e hf
      exact ck_rz hf hret hz h dT_addConstructors_125
    · have hf := ck_f hq hf
      refine lv_iload_n hx hb dT_addConstructors_35 rfl (lv_at hl 2 rfl) ?_
      refine lv_if_eq (tgt := 124) hx hb dT_addConstructors_36 rfl (fun hq => ?_) (fun hq => ?_)
      · have hf := ck_t hq hf
        refine lv_iload_n hx hb dT_addConstructors_124 rfl (lv_at hl 2 rfl) ?_
        obtain ⟨hz, hf⟩ := ck_gz_e hf
        exact ck_rz hf hret hz h dT_addConstructors_125
      · have hf := ck_f hq hf
        refine lv_aload_n hx hb dT_addConstructors_39 rfl (lv_at hl 0 rfl) ?_
        refine ck_gr C h FT_declared dT_addConstructors_40 ?_
        refine lv_iload hx hb dT_addConstructors_43 (lv_at hl 4 rfl) ?_
        obtain ⟨v4, st3, hc, hf⟩ := ck_b_e hf
        refine ck_vi (As := [.int x4]) (rest := []) (q := 1) C h hl CT_D_ownerOf sD_ownerOf q_D (cD_ownerOf l D cA ad hc) (Nat.le_of_ble_eq_true rfl) rfl rfl (Nat.le_of_ble_eq_true rfl) dT_addConstructors_45 (fun H locs h => ?_)
        refine lv_aload_n hx hb dT_addConstructors_48 rfl (lv_at hl 0 rfl) ?_
        refine ck_gr C h FT_testType dT_addConstructors_49 ?_
        refine lv_iload_n hx hb dT_addConstructors_52 rfl (lv_at hl 1 rfl) ?_
        obtain ⟨hg, hf⟩ := ck_gd_e hf
        refine ck_ai (x := (st3 31 (x1).toNatClampNeg)) C h (show sh_C[31]? = some (.inr (0, 60)) from rfl) hg rfl dT_addConstructors_53 ?_
        refine lv_icmp_ne (tgt := 118) hx hb dT_addConstructors_54 rfl (fun hq => ?_) (fun hq => ?_)
        · have hf := ck_f hq hf
          refine lv_iinc (k := 4) (v := (x4 + 1)) (lv' := [(4, .int (x4 + 1)), (0, .ref (ad 5)), (1, .int x1), (2, .int x2), (3, .int x3)]) hx hb dT_addConstructors_118 hl rfl rfl (by decide) rfl (fun ls hl => ?_)
          refine lv_goto (tgt := 23) hx hb dT_addConstructors_121 rfl ?_
          exact ih _ _ _ _ _ _ _ _ h (lv_sub hl [1, 2, 3, 4, 0] rfl) hf
        · have hf := ck_t hq hf
          refine lv_aload_n hx hb dT_addConstructors_57 rfl (lv_at hl 0 rfl) ?_
          refine ck_gr C h FT_match dT_addConstructors_58 ?_
          refine lv_aload_n hx hb dT_addConstructors_61 rfl (lv_at hl 0 rfl) ?_
          refine ck_gr C h FT_left dT_addConstructors_62 ?_
          refine lv_iload_n hx hb dT_addConstructors_65 rfl (lv_at hl 1 rfl) ?_
          obtain ⟨hg, hf⟩ := ck_gd_e hf
          refine ck_ai (x := (st3 26 (x1).toNatClampNeg)) C h (show sh_C[26]? = some (.inr (0, 60)) from rfl) hg rfl dT_addConstructors_66 ?_
          refine lv_aload_n hx hb dT_addConstructors_67 rfl (lv_at hl 0 rfl) ?_
          refine ck_gr C h FT_place dT_addConstructors_68 ?_
          refine lv_iload_n hx hb dT_addConstructors_71 rfl (lv_at hl 1 rfl) ?_
          obtain ⟨hg, hf⟩ := ck_gd_e hf
          refine ck_ai (x := (st3 30 (x1).toNatClampNeg)) C h (show sh_C[30]? = some (.inr (0, 60)) from rfl) hg rfl dT_addConstructors_72 ?_
          refine lv_iload hx hb dT_addConstructors_73 (lv_at hl 4 rfl) ?_
          obtain ⟨v6, st5, hc, hf⟩ := ck_b_e hf
          refine ck_vi (As := [.int (st3 26 (x1).toNatClampNeg), .int (st3 30 (x1).toNatClampNeg), .int x4]) (rest := []) (q := 4) C h hl CT_M_notAskingElse sM_notAskingElse q_M (cM_notAskingElse l D cA ad hc) (Nat.le_of_ble_eq_true rfl) rfl rfl (Nat.le_of_ble_eq_true rfl) dT_addConstructors_75 (fun H locs h => ?_)
          refine lv_istore (lv' := [(5, .int v6), (0, .ref (ad 5)), (1, .int x1), (2, .int x2), (3, .int x3), (4, .int x4)]) hx hb dT_addConstructors_78 hl (by decide) rfl (fun ls hl => ?_)
          refine lv_aload_n hx hb dT_addConstructors_80 rfl (lv_at hl 1 rfl) ?_
          refine ck_gr C h FT_declared dT_addConstructors_81 ?_
          refine lv_iload hx hb dT_addConstructors_84 (lv_at hl 5 rfl) ?_
          refine lv_aload_n hx hb dT_addConstructors_86 rfl (lv_at hl 1 rfl) ?_
          refine ck_gr C h FT_place dT_addConstructors_87 ?_
          refine lv_iload_n hx hb dT_addConstructors_90 rfl (lv_at hl 2 rfl) ?_
          obtain ⟨hg, hf⟩ := ck_gd_e hf
          refine ck_ai (x := (st5 30 (x1).toNatClampNeg)) C h (show sh_C[30]? = some (.inr (0, 60)) from rfl) hg rfl dT_addConstructors_91 ?_
          obtain ⟨v8, st7, hc, hf⟩ := ck_b_e hf
          refine ck_vi (As := [.int x4, .int (st5 30 (x1).toNatClampNeg)]) (rest := []) (q := 1) C h hl CT_D_argumentPlaces sD_argumentPlaces q_D (cD_argumentPlaces l D cA ad hc) (Nat.le_of_ble_eq_true rfl) rfl rfl (Nat.le_of_ble_eq_true rfl) dT_addConstructors_92 (fun H locs h => ?_)
          refine lv_istore (lv' := [(6, .int v8), (5, .int v6), (0, .ref (ad 5)), (1, .int x1), (2, .int x2), (3, .int x3), (4, .int x4)]) hx hb dT_addConstructors_95 hl (by decide) rfl (fun ls hl => ?_)
          refine lv_aload_n hx hb dT_addConstructors_97 rfl (lv_at hl 2 rfl) ?_
          refine lv_iload hx hb dT_addConstructors_98 (lv_at hl 6 rfl) ?_
          refine lv_iload hx hb dT_addConstructors_100 (lv_at hl 1 rfl) ?_
          refine lv_iload_n hx hb dT_addConstructors_102 rfl (lv_at hl 5 rfl) ?_
          refine lv_iload hx hb dT_addConstructors_103 (lv_at hl 0 rfl) ?_
          refine lv_ior hx hb dT_addConstructors_105 ?_
          refine lv_aload_n hx hb dT_addConstructors_106 rfl (lv_at hl 2 rfl) ?_
          refine ck_gr C h FT_above dT_addConstructors_107 ?_
          refine lv_iload_n hx hb dT_addConstructors_110 rfl (lv_at hl 3 rfl) ?_
          obtain ⟨hg, hf⟩ := ck_gd_e hf
          refine ck_ai (x := (st7 29 (x1).toNatClampNeg)) C h (show sh_C[29]? = some (.inr (0, 60)) from rfl) hg rfl dT_addConstructors_111 ?_
          refine lv_iconst (v := 1) hx hb dT_addConstructors_112 (by decide) ?_
          refine lv_iadd hx hb dT_addConstructors_113 ?_
          obtain ⟨v10, st9, hc, hf⟩ := ck_b_e hf
          refine ck_vi (As := [.int x4, .int v6, .int (x3 ||| v8), .int ((st7 29 (x1).toNatClampNeg) + (1 : Int32))]) (rest := []) (q := 5) C h hl CT_T_addNode sT_addNode q_T (cT_addNode l D cA ad hc) (Nat.le_of_ble_eq_true rfl) rfl rfl (Nat.le_of_ble_eq_true rfl) dT_addConstructors_114 (fun H locs h => ?_)
          refine lv_istore_n (lv' := [(2, .int v10), (6, .int v8), (5, .int v6), (0, .ref (ad 5)), (1, .int x1), (3, .int x3), (4, .int x4)]) hx hb dT_addConstructors_117 rfl hl (by decide) rfl (fun ls hl => ?_)
          refine lv_iinc (k := 6) (v := (x4 + 1)) (lv' := [(4, .int (x4 + 1)), (2, .int v10), (6, .int v8), (5, .int v6), (0, .ref (ad 5)), (1, .int x1), (3, .int x3)]) hx hb dT_addConstructors_118 hl rfl rfl (by decide) rfl (fun ls hl => ?_)
          refine lv_goto (tgt := 23) hx hb dT_addConstructors_121 rfl ?_
          exact ih _ _ _ _ _ _ _ _ h (lv_sub hl [4, 5, 1, 6, 0] rfl) hf
def fT_addConstructors (x1 : Int32) (st : ck_S) : Option (Int32 × ck_S) := (ck_gd x1 60 (ck_gd x1 60 (fT_addConstructors_l23  4096 x1 (1 : Int32) ((st 27 (x1).toNatClampNeg) &&& (((1 : Int32) <<< ((st 30 (x1).toNatClampNeg) &&& 31)) ^^^ (-1 : Int32))) (0 : Int32) st)))
set_option maxRecDepth 100000 in
set_option maxHeartbeats 4000000 in
theorem cT_addConstructors (l : Launch) (D : va_G) (cA : Nat → ClassId) (ad : Nat → Nat) {x1 : Int32} {st : ck_S} {r0 : Int32} {st0 : ck_S} (hf : fT_addConstructors x1 st = some (r0, st0)) : Met l yT_addConstructors (.code yT_addConstructors bT_addConstructors 7 (some .boolean) :: ck_T) (ck_R 3) (va_Pc [.ref (ad 5), .int x1] (ck_P sh_C cm_cl D cA ad st)) (va_Qi (fun a u => a = r0 ∧ u = st0) (ck_P sh_C cm_cl D cA ad) (ck_A ad sh_C.length)) 0 0 (ck_A ad sh_C.length) := by
  refine ck_met_z (own := R_T) (by decide +kernel) rfl (Nat.le_of_ble_eq_true rfl) (fun p e R s m args below meth c H0 Q ls C hret h hl => ?_)
  have C1 := C
  obtain ⟨hx, hb, hml, hown, hts, hK, hlv, hlo⟩ := C1
  have hl : lv_has ls 7 [(0, .ref (ad 5)), (1, .int x1)] := hl
  unfold fT_addConstructors at hf
  refine lv_iconst (v := 1) hx hb dT_addConstructors_0 (by decide) ?_
  refine lv_istore_n (lv' := [(2, .int (1 : Int32)), (0, .ref (ad 5)), (1, .int x1)]) hx hb dT_addConstructors_1 rfl hl (by decide) rfl (fun ls hl => ?_)
  refine lv_aload_n hx hb dT_addConstructors_2 rfl (lv_at hl 1 rfl) ?_
  refine ck_gr C h FT_open dT_addConstructors_3 ?_
  refine lv_iload_n hx hb dT_addConstructors_6 rfl (lv_at hl 2 rfl) ?_
  obtain ⟨hg, hf⟩ := ck_gd_e hf
  refine ck_ai (x := (st 27 (x1).toNatClampNeg)) C h (show sh_C[27]? = some (.inr (0, 60)) from rfl) hg rfl dT_addConstructors_7 ?_
  refine lv_iconst (v := 1) hx hb dT_addConstructors_8 (by decide) ?_
  refine lv_aload_n hx hb dT_addConstructors_9 rfl (lv_at hl 1 rfl) ?_
  refine ck_gr C h FT_place dT_addConstructors_10 ?_
  refine lv_iload_n hx hb dT_addConstructors_13 rfl (lv_at hl 2 rfl) ?_
  obtain ⟨hg, hf⟩ := ck_gd_e hf
  refine ck_ai (x := (st 30 (x1).toNatClampNeg)) C h (show sh_C[30]? = some (.inr (0, 60)) from rfl) hg rfl dT_addConstructors_14 ?_
  refine lv_ishl hx hb dT_addConstructors_15 ?_
  refine lv_iconst (v := (-1)) hx hb dT_addConstructors_16 (by decide) ?_
  refine lv_ixor hx hb dT_addConstructors_17 ?_
  refine lv_iand hx hb dT_addConstructors_18 ?_
  refine lv_istore_n (lv' := [(3, .int ((st 27 (x1).toNatClampNeg) &&& (((1 : Int32) <<< ((st 30 (x1).toNatClampNeg) &&& 31)) ^^^ (-1 : Int32)))), (2, .int (1 : Int32)), (0, .ref (ad 5)), (1, .int x1)]) hx hb dT_addConstructors_19 rfl hl (by decide) rfl (fun ls hl => ?_)
  refine lv_iconst (v := 0) hx hb dT_addConstructors_20 (by decide) ?_
  refine lv_istore (lv' := [(4, .int (0 : Int32)), (3, .int ((st 27 (x1).toNatClampNeg) &&& (((1 : Int32) <<< ((st 30 (x1).toNatClampNeg) &&& 31)) ^^^ (-1 : Int32)))), (2, .int (1 : Int32)), (0, .ref (ad 5)), (1, .int x1)]) hx hb dT_addConstructors_21 hl (by decide) rfl (fun ls hl => ?_)
  exact BT_addConstructors_23 C hret  4096 _ _ _ _ _ _ _ _ h (lv_sub hl [3, 4, 2, 1, 0] rfl) hf
def fT_expand_b98 (y0 : Int32) (x1 : Int32) (st : ck_S) : Option (Int32 × ck_S) := (ck_gd x1 60 (ck_gd x1 60 (ck_gz y0 (some (y0, (ck_u st 34 (x1).toNatClampNeg ((st 5 14) - (st 33 (x1).toNatClampNeg))))))))
set_option maxRecDepth 100000 in
set_option maxHeartbeats 4000000 in
theorem BT_expand_98 (C : ck_X cm_cl D cA bT_expand 3 R_T 4 p R s m args c) {r0 : Int32} {st0 : ck_S} (hret : ∀ (pc : Nat) (H : Heap) (locs : List Loc) (ls : Array Slot), decode bT_expand pc = .ok (.ireturn, 1) → (r0 = 0 ∨ r0 = 1) → ck_AT sh_C cm_cl D cA ad H0 st0 H locs → W p l e R s m args below meth c H locs 0 0 Q (F0 m pc ls [.int r0])) (y0 : Int32) (x1 : Int32) (st : ck_S) (H : Heap) (locs : List Loc) (ls : Array Slot) (h : ck_AT sh_C cm_cl D cA ad H0 st H locs) (hl : lv_has ls 3 [(0, .ref (ad 5)), (1, .int x1)]) (hf : fT_expand_b98 y0 x1 st = some (r0, st0)) : W p l e R s m args below meth c H locs 0 0 Q (F0 m 98 ls [.int y0]) := by
  have C1 := C
  obtain ⟨hx, hb, hml, hown, hts, hK, hlv, hlo⟩ := C1
  unfold fT_expand_b98 at hf
  refine lv_istore_n (lv' := [(2, .int y0), (0, .ref (ad 5)), (1, .int x1)]) hx hb dT_expand_98 rfl hl (by decide) rfl (fun ls hl => ?_)
  refine lv_aload_n hx hb dT_expand_99 rfl (lv_at hl 1 rfl) ?_
  refine ck_gr C h FT_branchCount dT_expand_100 ?_
  refine lv_iload_n hx hb dT_expand_103 rfl (lv_at hl 2 rfl) ?_
  refine lv_aload_n hx hb dT_expand_104 rfl (lv_at hl 1 rfl) ?_
  refine ck_gi (x := (st 5 14)) C h FT_size rfl dT_expand_105 ?_
  refine lv_aload_n hx hb dT_expand_108 rfl (lv_at hl 1 rfl) ?_
  refine ck_gr C h FT_firstBranch dT_expand_109 ?_
  refine lv_iload_n hx hb dT_expand_112 rfl (lv_at hl 2 rfl) ?_
  obtain ⟨hg, hf⟩ := ck_gd_e hf
  refine ck_ai (x := (st 33 (x1).toNatClampNeg)) C h (show sh_C[33]? = some (.inr (0, 60)) from rfl) hg rfl dT_expand_113 ?_
  refine lv_isub hx hb dT_expand_114 ?_
  obtain ⟨hg, hf⟩ := ck_gd_e hf
  refine ck_si C h (show sh_C[34]? = some (.inr (0, 60)) from rfl) hg dT_expand_115 (fun H locs h => ?_)
  refine lv_iload_n hx hb dT_expand_116 rfl (lv_at hl 0 rfl) ?_
  obtain ⟨hz, hf⟩ := ck_gz_e hf
  exact ck_rz hf hret hz h dT_expand_117
def fT_expand (x1 : Int32) (st : ck_S) : Option (Int32 × ck_S) := (ck_gd x1 60 (ck_gd x1 60 (ck_b (fM_placeToTest (st 26 (x1).toNatClampNeg) (st 27 (x1).toNatClampNeg) st) fun v2 st1 => (ck_gd x1 60 (ck_gd x1 60 (if ((ck_u st1 30 (x1).toNatClampNeg v2) 30 (x1).toNatClampNeg) = 0 then (ck_bv (fT_makeLeaf x1 (ck_u st1 30 (x1).toNatClampNeg v2)) fun st3 => (some ((1 : Int32), st3))) else (ck_gd x1 60 (ck_gd x1 60 (ck_b (fM_typeAskedAt ((ck_u st1 30 (x1).toNatClampNeg v2) 30 (x1).toNatClampNeg) (st1 26 (x1).toNatClampNeg) (ck_u st1 30 (x1).toNatClampNeg v2)) fun v4 st3 => (ck_gd x1 60 (ck_gd x1 60 (ck_gd x1 60 (if ((ck_u st3 31 (x1).toNatClampNeg v4) 31 (x1).toNatClampNeg) = 0 then (ck_b (fT_addNumbers x1 (ck_u (ck_u st3 31 (x1).toNatClampNeg v4) 33 (x1).toNatClampNeg (st3 5 14))) fun v6 st5 => (fT_expand_b98 v6 x1 st5)) else (ck_b (fT_addConstructors x1 (ck_u (ck_u st3 31 (x1).toNatClampNeg v4) 33 (x1).toNatClampNeg (st3 5 14))) fun v6 st5 => (fT_expand_b98 v6 x1 st5)))))))))))))))
set_option maxRecDepth 100000 in
set_option maxHeartbeats 4000000 in
theorem cT_expand (l : Launch) (D : va_G) (cA : Nat → ClassId) (ad : Nat → Nat) {x1 : Int32} {st : ck_S} {r0 : Int32} {st0 : ck_S} (hf : fT_expand x1 st = some (r0, st0)) : Met l yT_expand (.code yT_expand bT_expand 3 (some .boolean) :: ck_T) (ck_R 4) (va_Pc [.ref (ad 5), .int x1] (ck_P sh_C cm_cl D cA ad st)) (va_Qi (fun a u => a = r0 ∧ u = st0) (ck_P sh_C cm_cl D cA ad) (ck_A ad sh_C.length)) 0 0 (ck_A ad sh_C.length) := by
  refine ck_met_z (own := R_T) (by decide +kernel) rfl (Nat.le_of_ble_eq_true rfl) (fun p e R s m args below meth c H0 Q ls C hret h hl => ?_)
  have C1 := C
  obtain ⟨hx, hb, hml, hown, hts, hK, hlv, hlo⟩ := C1
  have hl : lv_has ls 3 [(0, .ref (ad 5)), (1, .int x1)] := hl
  unfold fT_expand at hf
  refine lv_aload_n hx hb dT_expand_0 rfl (lv_at hl 0 rfl) ?_
  refine ck_gr C h FT_place dT_expand_1 ?_
  refine lv_iload_n hx hb dT_expand_4 rfl (lv_at hl 1 rfl) ?_
  refine lv_aload_n hx hb dT_expand_5 rfl (lv_at hl 0 rfl) ?_
  refine ck_gr C h FT_match dT_expand_6 ?_
  refine lv_aload_n hx hb dT_expand_9 rfl (lv_at hl 0 rfl) ?_
  refine ck_gr C h FT_left dT_expand_10 ?_
  refine lv_iload_n hx hb dT_expand_13 rfl (lv_at hl 1 rfl) ?_
  obtain ⟨hg, hf⟩ := ck_gd_e hf
  refine ck_ai (x := (st 26 (x1).toNatClampNeg)) C h (show sh_C[26]? = some (.inr (0, 60)) from rfl) hg rfl dT_expand_14 ?_
  refine lv_aload_n hx hb dT_expand_15 rfl (lv_at hl 0 rfl) ?_
  refine ck_gr C h FT_open dT_expand_16 ?_
  refine lv_iload_n hx hb dT_expand_19 rfl (lv_at hl 1 rfl) ?_
  obtain ⟨hg, hf⟩ := ck_gd_e hf
  refine ck_ai (x := (st 27 (x1).toNatClampNeg)) C h (show sh_C[27]? = some (.inr (0, 60)) from rfl) hg rfl dT_expand_20 ?_
  obtain ⟨v2, st1, hc, hf⟩ := ck_b_e hf
  refine ck_vi (As := [.int (st 26 (x1).toNatClampNeg), .int (st 27 (x1).toNatClampNeg)]) (rest := [.int x1, .ref (ad 30)]) (q := 4) C h hl CT_M_placeToTest sM_placeToTest q_M (cM_placeToTest l D cA ad hc) (Nat.le_of_ble_eq_true rfl) rfl rfl (Nat.le_of_ble_eq_true rfl) dT_expand_21 (fun H locs h => ?_)
  obtain ⟨hg, hf⟩ := ck_gd_e hf
  refine ck_si C h (show sh_C[30]? = some (.inr (0, 60)) from rfl) hg dT_expand_24 (fun H locs h => ?_)
  refine lv_aload_n hx hb dT_expand_25 rfl (lv_at hl 0 rfl) ?_
  refine ck_gr C h FT_place dT_expand_26 ?_
  refine lv_iload_n hx hb dT_expand_29 rfl (lv_at hl 1 rfl) ?_
  obtain ⟨hg, hf⟩ := ck_gd_e hf
  refine ck_ai (x := ((ck_u st1 30 (x1).toNatClampNeg v2) 30 (x1).toNatClampNeg)) C h (show sh_C[30]? = some (.inr (0, 60)) from rfl) hg rfl dT_expand_30 ?_
  refine lv_if_ne (tgt := 41) hx hb dT_expand_31 rfl (fun hq => ?_) (fun hq => ?_)
  · have hf := ck_f hq hf
    refine lv_aload_n hx hb dT_expand_41 rfl (lv_at hl 0 rfl) ?_
    refine ck_gr C h FT_testType dT_expand_42 ?_
    refine lv_iload_n hx hb dT_expand_45 rfl (lv_at hl 1 rfl) ?_
    refine lv_aload_n hx hb dT_expand_46 rfl (lv_at hl 0 rfl) ?_
    refine ck_gr C h FT_match dT_expand_47 ?_
    refine lv_aload_n hx hb dT_expand_50 rfl (lv_at hl 0 rfl) ?_
    refine ck_gr C h FT_place dT_expand_51 ?_
    refine lv_iload_n hx hb dT_expand_54 rfl (lv_at hl 1 rfl) ?_
    obtain ⟨hg, hf⟩ := ck_gd_e hf
    refine ck_ai (x := ((ck_u st1 30 (x1).toNatClampNeg v2) 30 (x1).toNatClampNeg)) C h (show sh_C[30]? = some (.inr (0, 60)) from rfl) hg rfl dT_expand_55 ?_
    refine lv_aload_n hx hb dT_expand_56 rfl (lv_at hl 0 rfl) ?_
    refine ck_gr C h FT_left dT_expand_57 ?_
    refine lv_iload_n hx hb dT_expand_60 rfl (lv_at hl 1 rfl) ?_
    obtain ⟨hg, hf⟩ := ck_gd_e hf
    refine ck_ai (x := (st1 26 (x1).toNatClampNeg)) C h (show sh_C[26]? = some (.inr (0, 60)) from rfl) hg rfl dT_expand_61 ?_
    obtain ⟨v4, st3, hc, hf⟩ := ck_b_e hf
    refine ck_vi (As := [.int ((ck_u st1 30 (x1).toNatClampNeg v2) 30 (x1).toNatClampNeg), .int (st1 26 (x1).toNatClampNeg)]) (rest := [.int x1, .ref (ad 31)]) (q := 4) C h hl CT_M_typeAskedAt sM_typeAskedAt q_M (cM_typeAskedAt l D cA ad hc) (Nat.le_of_ble_eq_true rfl) rfl rfl (Nat.le_of_ble_eq_true rfl) dT_expand_62 (fun H locs h => ?_)
    obtain ⟨hg, hf⟩ := ck_gd_e hf
    refine ck_si C h (show sh_C[31]? = some (.inr (0, 60)) from rfl) hg dT_expand_65 (fun H locs h => ?_)
    refine lv_aload_n hx hb dT_expand_66 rfl (lv_at hl 0 rfl) ?_
    refine ck_gr C h FT_firstBranch dT_expand_67 ?_
    refine lv_iload_n hx hb dT_expand_70 rfl (lv_at hl 1 rfl) ?_
    refine lv_aload_n hx hb dT_expand_71 rfl (lv_at hl 0 rfl) ?_
    refine ck_gi (x := (st3 5 14)) C h FT_size rfl dT_expand_72 ?_
    obtain ⟨hg, hf⟩ := ck_gd_e hf
    refine ck_si C h (show sh_C[33]? = some (.inr (0, 60)) from rfl) hg dT_expand_75 (fun H locs h => ?_)
    refine lv_aload_n hx hb dT_expand_76 rfl (lv_at hl 0 rfl) ?_
    refine ck_gr C h FT_testType dT_expand_77 ?_
    refine lv_iload_n hx hb dT_expand_80 rfl (lv_at hl 1 rfl) ?_
    obtain ⟨hg, hf⟩ := ck_gd_e hf
    refine ck_ai (x := ((ck_u st3 31 (x1).toNatClampNeg v4) 31 (x1).toNatClampNeg)) C h (show sh_C[31]? = some (.inr (0, 60)) from rfl) hg rfl dT_expand_81 ?_
    refine lv_if_ne (tgt := 93) hx hb dT_expand_82 rfl (fun hq => ?_) (fun hq => ?_)
    · have hf := ck_f hq hf
      refine lv_aload_n hx hb dT_expand_93 rfl (lv_at hl 0 rfl) ?_
      refine lv_iload_n hx hb dT_expand_94 rfl (lv_at hl 1 rfl) ?_
      obtain ⟨v6, st5, hc, hf⟩ := ck_b_e hf
      refine ck_vi (As := [.int x1]) (rest := []) (q := 5) C h hl CT_T_addConstructors sT_addConstructors q_T (cT_addConstructors l D cA ad hc) (Nat.le_of_ble_eq_true rfl) rfl rfl (Nat.le_of_ble_eq_true rfl) dT_expand_95 (fun H locs h => ?_)
      exact BT_expand_98 C hret _ _ _ _ _ _ h (lv_sub hl [0, 1] rfl) hf
    · have hf := ck_t hq hf
      refine lv_aload_n hx hb dT_expand_85 rfl (lv_at hl 0 rfl) ?_
      refine lv_iload_n hx hb dT_expand_86 rfl (lv_at hl 1 rfl) ?_
      obtain ⟨v6, st5, hc, hf⟩ := ck_b_e hf
      refine ck_vi (As := [.int x1]) (rest := []) (q := 5) C h hl CT_T_addNumbers sT_addNumbers q_T (cT_addNumbers l D cA ad hc) (Nat.le_of_ble_eq_true rfl) rfl rfl (Nat.le_of_ble_eq_true rfl) dT_expand_87 (fun H locs h => ?_)
      refine lv_goto (tgt := 98) hx hb dT_expand_90 rfl ?_
      exact BT_expand_98 C hret _ _ _ _ _ _ h (lv_sub hl [0, 1] rfl) hf
  · have hf := ck_t hq hf
    refine lv_aload_n hx hb dT_expand_34 rfl (lv_at hl 0 rfl) ?_
    refine lv_iload_n hx hb dT_expand_35 rfl (lv_at hl 1 rfl) ?_
    obtain ⟨st3, hc, hf⟩ := ck_bv_e hf
    refine ck_vv (As := [.int x1]) (rest := []) (q := 5) C h hl CT_T_makeLeaf sT_makeLeaf q_T (cT_makeLeaf l D cA ad hc) (Nat.le_of_ble_eq_true rfl) rfl rfl (Nat.le_of_ble_eq_true rfl) dT_expand_36 (fun H locs h => ?_)
    refine lv_iconst (v := 1) hx hb dT_expand_39 (by decide) ?_
    exact ck_rz hf hret ck_z1 h dT_expand_40
def fT_failingBranch_l12 : Nat → Int32 → Int32 → ck_S → Option (Int32 × ck_S)
  | 0, _, _, _ => none
  | n + 1, x1, x2, st => (ck_gd x1 60 (if (st 34 (x1).toNatClampNeg) ≤ x2 then (some (x1, st)) else (ck_gd x1 60 (ck_gd ((st 33 (x1).toNatClampNeg) + x2) 60 (if (st 36 (((st 33 (x1).toNatClampNeg) + x2)).toNatClampNeg) = 0 then (fT_failingBranch_l12 n x1 (x2 + 1) st) else (ck_gd x1 60 (some (((st 33 (x1).toNatClampNeg) + x2), st))))))))
set_option maxRecDepth 100000 in
set_option maxHeartbeats 4000000 in
theorem BT_failingBranch_12 (C : ck_X cm_cl D cA bT_failingBranch 3 R_T 1 p R s m args c) {r0 : Int32} {st0 : ck_S} (hret : ∀ (pc : Nat) (H : Heap) (locs : List Loc) (ls : Array Slot), decode bT_failingBranch pc = .ok (.ireturn, 1) → ck_AT sh_C cm_cl D cA ad H0 st0 H locs → W p l e R s m args below meth c H locs 0 0 Q (F0 m pc ls [.int r0])) : ∀ (n : Nat) (x1 : Int32) (x2 : Int32) (st : ck_S) (H : Heap) (locs : List Loc) (ls : Array Slot), ck_AT sh_C cm_cl D cA ad H0 st H locs → lv_has ls 3 [(0, .ref (ad 5)), (1, .int x1), (2, .int x2)] → fT_failingBranch_l12  n x1 x2 st = some (r0, st0) → W p l e R s m args below meth c H locs 0 0 Q (F0 m 12 ls []) := by
  have C1 := C
  obtain ⟨hx, hb, hml, hown, hts, hK, hlv, hlo⟩ := C1
  intro n
  induction n with
  | zero => intro _ _ _ _ _ _ _ _ hf; cases hf
  | succ n ih =>
    intro x1 x2 st H locs ls h hl hf
    rw [fT_failingBranch_l12] at hf
    refine lv_iload_n hx hb dT_failingBranch_12 rfl (lv_at hl 2 rfl) ?_
    refine lv_aload_n hx hb dT_failingBranch_13 rfl (lv_at hl 0 rfl) ?_
    refine ck_gr C h FT_branchCount dT_failingBranch_14 ?_
    refine lv_iload_n hx hb dT_failingBranch_17 rfl (lv_at hl 1 rfl) ?_
    obtain ⟨hg, hf⟩ := ck_gd_e hf
    refine ck_ai (x := (st 34 (x1).toNatClampNeg)) C h (show sh_C[34]? = some (.inr (0, 60)) from rfl) hg rfl dT_failingBranch_18 ?_
    refine lv_icmp_ge (tgt := 53) hx hb dT_failingBranch_19 rfl (fun hq => ?_) (fun hq => ?_)
    · have hf := ck_t hq hf
      refine lv_iload_n hx hb dT_failingBranch_53 rfl (lv_at hl 1 rfl) ?_
      exact ck_ri hf hret h dT_failingBranch_54
    · have hf := ck_f hq hf
      refine lv_aload_n hx hb dT_failingBranch_22 rfl (lv_at hl 0 rfl) ?_
      refine ck_gr C h FT_failing dT_failingBranch_23 ?_
      refine lv_aload_n hx hb dT_failingBranch_26 rfl (lv_at hl 0 rfl) ?_
      refine ck_gr C h FT_firstBranch dT_failingBranch_27 ?_
      refine lv_iload_n hx hb dT_failingBranch_30 rfl (lv_at hl 1 rfl) ?_
      obtain ⟨hg, hf⟩ := ck_gd_e hf
      refine ck_ai (x := (st 33 (x1).toNatClampNeg)) C h (show sh_C[33]? = some (.inr (0, 60)) from rfl) hg rfl dT_failingBranch_31 ?_
      refine lv_iload_n hx hb dT_failingBranch_32 rfl (lv_at hl 2 rfl) ?_
      refine lv_iadd hx hb dT_failingBranch_33 ?_
      obtain ⟨hg, hf⟩ := ck_gd_e hf
      refine ck_az (x := (st 36 (((st 33 (x1).toNatClampNeg) + x2)).toNatClampNeg)) C h (show sh_C[36]? = some (.inr (1, 60)) from rfl) hg rfl dT_failingBranch_34 ?_
      refine lv_if_eq (tgt := 47) hx hb dT_failingBranch_35 rfl (fun hq => ?_) (fun hq => ?_)
      · have hf := ck_t hq hf
        refine lv_iinc (k := 2) (v := (x2 + 1)) (lv' := [(2, .int (x2 + 1)), (0, .ref (ad 5)), (1, .int x1)]) hx hb dT_failingBranch_47 hl rfl rfl (by decide) rfl (fun ls hl => ?_)
        refine lv_goto (tgt := 12) hx hb dT_failingBranch_50 rfl ?_
        exact ih _ _ _ _ _ _ h (lv_sub hl [1, 2, 0] rfl) hf
      · have hf := ck_f hq hf
        refine lv_aload_n hx hb dT_failingBranch_38 rfl (lv_at hl 0 rfl) ?_
        refine ck_gr C h FT_firstBranch dT_failingBranch_39 ?_
        refine lv_iload_n hx hb dT_failingBranch_42 rfl (lv_at hl 1 rfl) ?_
        obtain ⟨hg, hf⟩ := ck_gd_e hf
        refine ck_ai (x := (st 33 (x1).toNatClampNeg)) C h (show sh_C[33]? = some (.inr (0, 60)) from rfl) hg rfl dT_failingBranch_43 ?_
        refine lv_iload_n hx hb dT_failingBranch_44 rfl (lv_at hl 2 rfl) ?_
        refine lv_iadd hx hb dT_failingBranch_45 ?_
        exact ck_ri hf hret h dT_failingBranch_46
def fT_failingBranch (x1 : Int32) (st : ck_S) : Option (Int32 × ck_S) := (ck_b (fT_has x1 st) fun v2 st1 => (if v2 = 0 then (some (x1, st1)) else (fT_failingBranch_l12  4096 x1 (0 : Int32) st1)))
set_option maxRecDepth 100000 in
set_option maxHeartbeats 4000000 in
theorem cT_failingBranch (l : Launch) (D : va_G) (cA : Nat → ClassId) (ad : Nat → Nat) {x1 : Int32} {st : ck_S} {r0 : Int32} {st0 : ck_S} (hf : fT_failingBranch x1 st = some (r0, st0)) : Met l yT_failingBranch (.code yT_failingBranch bT_failingBranch 3 (some .int) :: ck_T) (ck_R 1) (va_Pc [.ref (ad 5), .int x1] (ck_P sh_C cm_cl D cA ad st)) (va_Qi (fun a u => a = r0 ∧ u = st0) (ck_P sh_C cm_cl D cA ad) (ck_A ad sh_C.length)) 0 0 (ck_A ad sh_C.length) := by
  refine ck_met_i (own := R_T) (by decide +kernel) rfl (Nat.le_of_ble_eq_true rfl) (fun p e R s m args below meth c H0 Q ls C hret h hl => ?_)
  have C1 := C
  obtain ⟨hx, hb, hml, hown, hts, hK, hlv, hlo⟩ := C1
  have hl : lv_has ls 3 [(0, .ref (ad 5)), (1, .int x1)] := hl
  unfold fT_failingBranch at hf
  refine lv_aload_n hx hb dT_failingBranch_0 rfl (lv_at hl 0 rfl) ?_
  refine lv_iload_n hx hb dT_failingBranch_1 rfl (lv_at hl 1 rfl) ?_
  obtain ⟨v2, st1, hc, hf⟩ := ck_b_e hf
  refine ck_vi (As := [.int x1]) (rest := []) (q := 5) C h hl CT_T_has sT_has q_T (cT_has l D cA ad hc) (Nat.le_of_ble_eq_true rfl) rfl rfl (Nat.le_of_ble_eq_true rfl) dT_failingBranch_2 (fun H locs h => ?_)
  refine lv_if_ne (tgt := 10) hx hb dT_failingBranch_5 rfl (fun hq => ?_) (fun hq => ?_)
  · have hf := ck_f hq hf
    refine lv_iconst (v := 0) hx hb dT_failingBranch_10 (by decide) ?_
    refine lv_istore_n (lv' := [(2, .int (0 : Int32)), (0, .ref (ad 5)), (1, .int x1)]) hx hb dT_failingBranch_11 rfl hl (by decide) rfl (fun ls hl => ?_)
    exact BT_failingBranch_12 C hret  4096 _ _ _ _ _ _ h (lv_sub hl [1, 2, 0] rfl) hf
  · have hf := ck_t hq hf
    refine lv_iload_n hx hb dT_failingBranch_8 rfl (lv_at hl 1 rfl) ?_
    exact ck_ri hf hret h dT_failingBranch_9
def fT_markFailing_b25 (k7 : Int32 → ck_S → Option ck_S) (y0 : Int32) (x1 : Int32) (st : ck_S) : Option ck_S := (if y0 = 0 then (ck_b (fT_failingBranch x1 st) fun v2 st1 => (if v2 = x1 then (ck_gd x1 60 (k7 (x1 + (-1)) (ck_u st1 36 (x1).toNatClampNeg (vp_nar .boolean (0 : Int32))))) else (ck_gd x1 60 (k7 (x1 + (-1)) (ck_u st1 36 (x1).toNatClampNeg (vp_nar .boolean (1 : Int32))))))) else (ck_gd x1 60 (if (st 32 (x1).toNatClampNeg) = (-1 : Int32) then (ck_gd x1 60 (k7 (x1 + (-1)) (ck_u st 36 (x1).toNatClampNeg (vp_nar .boolean (1 : Int32))))) else (ck_gd x1 60 (k7 (x1 + (-1)) (ck_u st 36 (x1).toNatClampNeg (vp_nar .boolean (0 : Int32))))))))
set_option maxRecDepth 100000 in
set_option maxHeartbeats 4000000 in
theorem BT_markFailing_25 (C : ck_X cm_cl D cA bT_markFailing 3 R_T 2 p R s m args c) {st0 : ck_S} (hret : ∀ (pc : Nat) (H : Heap) (locs : List Loc) (ls : Array Slot), decode bT_markFailing pc = .ok (.return_, 1) → ck_AT sh_C cm_cl D cA ad H0 st0 H locs → W p l e R s m args below meth c H locs 0 0 Q (F0 m pc ls [])) {k7 : Int32 → ck_S → Option ck_S} (hk7 : ∀ (x1 : Int32) (st : ck_S) (H : Heap) (locs : List Loc) (ls : Array Slot), ck_AT sh_C cm_cl D cA ad H0 st H locs → lv_has ls 3 [(0, .ref (ad 5)), (1, .int x1)] → k7 x1 st = some st0 → W p l e R s m args below meth c H locs 0 0 Q (F0 m 7 ls [])) (y0 : Int32) (x1 : Int32) (st : ck_S) (H : Heap) (locs : List Loc) (ls : Array Slot) (h : ck_AT sh_C cm_cl D cA ad H0 st H locs) (hl : lv_has ls 3 [(0, .ref (ad 5)), (1, .int x1)]) (hf : fT_markFailing_b25 k7 y0 x1 st = some st0) : W p l e R s m args below meth c H locs 0 0 Q (F0 m 25 ls [.int y0]) := by
  have C1 := C
  obtain ⟨hx, hb, hml, hown, hts, hK, hlv, hlo⟩ := C1
  unfold fT_markFailing_b25 at hf
  refine lv_istore_n (lv' := [(2, .int y0), (0, .ref (ad 5)), (1, .int x1)]) hx hb dT_markFailing_25 rfl hl (by decide) rfl (fun ls hl => ?_)
  refine lv_aload_n hx hb dT_markFailing_26 rfl (lv_at hl 1 rfl) ?_
  refine ck_gr C h FT_failing dT_markFailing_27 ?_
  refine lv_iload_n hx hb dT_markFailing_30 rfl (lv_at hl 2 rfl) ?_
  refine lv_iload_n hx hb dT_markFailing_31 rfl (lv_at hl 0 rfl) ?_
  refine lv_if_eq (tgt := 53) hx hb dT_markFailing_32 rfl (fun hq => ?_) (fun hq => ?_)
  · have hf := ck_t hq hf
    refine lv_aload_n hx hb dT_markFailing_53 rfl (lv_at hl 1 rfl) ?_
    refine lv_iload_n hx hb dT_markFailing_54 rfl (lv_at hl 2 rfl) ?_
    obtain ⟨v2, st1, hc, hf⟩ := ck_b_e hf
    refine ck_vi (As := [.int x1]) (rest := [.int x1, .ref (ad 36)]) (q := 5) C h hl CT_T_failingBranch sT_failingBranch q_T (cT_failingBranch l D cA ad hc) (Nat.le_of_ble_eq_true rfl) rfl rfl (Nat.le_of_ble_eq_true rfl) dT_markFailing_55 (fun H locs h => ?_)
    refine lv_iload_n hx hb dT_markFailing_58 rfl (lv_at hl 2 rfl) ?_
    refine lv_icmp_eq (tgt := 66) hx hb dT_markFailing_59 rfl (fun hq => ?_) (fun hq => ?_)
    · have hf := ck_t hq hf
      refine lv_iconst (v := 0) hx hb dT_markFailing_66 (by decide) ?_
      obtain ⟨hg, hf⟩ := ck_gd_e hf
      refine ck_sz C h (show sh_C[36]? = some (.inr (1, 60)) from rfl) hg dT_markFailing_67 (fun H locs h => ?_)
      refine lv_iinc (k := 2) (v := (x1 + (-1))) (lv' := [(1, .int (x1 + (-1))), (2, .int y0), (0, .ref (ad 5))]) hx hb dT_markFailing_68 hl rfl rfl (by decide) rfl (fun ls hl => ?_)
      refine lv_goto (tgt := 7) hx hb dT_markFailing_71 rfl ?_
      exact hk7 _ _ _ _ _ h (lv_sub hl [2, 0] rfl) hf
    · have hf := ck_f hq hf
      refine lv_iconst (v := 1) hx hb dT_markFailing_62 (by decide) ?_
      refine lv_goto (tgt := 67) hx hb dT_markFailing_63 rfl ?_
      obtain ⟨hg, hf⟩ := ck_gd_e hf
      refine ck_sz C h (show sh_C[36]? = some (.inr (1, 60)) from rfl) hg dT_markFailing_67 (fun H locs h => ?_)
      refine lv_iinc (k := 2) (v := (x1 + (-1))) (lv' := [(1, .int (x1 + (-1))), (2, .int y0), (0, .ref (ad 5))]) hx hb dT_markFailing_68 hl rfl rfl (by decide) rfl (fun ls hl => ?_)
      refine lv_goto (tgt := 7) hx hb dT_markFailing_71 rfl ?_
      exact hk7 _ _ _ _ _ h (lv_sub hl [2, 0] rfl) hf
  · have hf := ck_f hq hf
    refine lv_aload_n hx hb dT_markFailing_35 rfl (lv_at hl 1 rfl) ?_
    refine ck_gr C h FT_clause dT_markFailing_36 ?_
    refine lv_iload_n hx hb dT_markFailing_39 rfl (lv_at hl 2 rfl) ?_
    obtain ⟨hg, hf⟩ := ck_gd_e hf
    refine ck_ai (x := (st 32 (x1).toNatClampNeg)) C h (show sh_C[32]? = some (.inr (0, 60)) from rfl) hg rfl dT_markFailing_40 ?_
    refine lv_iconst (v := (-1)) hx hb dT_markFailing_41 (by decide) ?_
    refine lv_icmp_ne (tgt := 49) hx hb dT_markFailing_42 rfl (fun hq => ?_) (fun hq => ?_)
    · have hf := ck_f hq hf
      refine lv_iconst (v := 0) hx hb dT_markFailing_49 (by decide) ?_
      refine lv_goto (tgt := 67) hx hb dT_markFailing_50 rfl ?_
      obtain ⟨hg, hf⟩ := ck_gd_e hf
      refine ck_sz C h (show sh_C[36]? = some (.inr (1, 60)) from rfl) hg dT_markFailing_67 (fun H locs h => ?_)
      refine lv_iinc (k := 2) (v := (x1 + (-1))) (lv' := [(1, .int (x1 + (-1))), (2, .int y0), (0, .ref (ad 5))]) hx hb dT_markFailing_68 hl rfl rfl (by decide) rfl (fun ls hl => ?_)
      refine lv_goto (tgt := 7) hx hb dT_markFailing_71 rfl ?_
      exact hk7 _ _ _ _ _ h (lv_sub hl [2, 0] rfl) hf
    · have hf := ck_t hq hf
      refine lv_iconst (v := 1) hx hb dT_markFailing_45 (by decide) ?_
      refine lv_goto (tgt := 67) hx hb dT_markFailing_46 rfl ?_
      obtain ⟨hg, hf⟩ := ck_gd_e hf
      refine ck_sz C h (show sh_C[36]? = some (.inr (1, 60)) from rfl) hg dT_markFailing_67 (fun H locs h => ?_)
      refine lv_iinc (k := 2) (v := (x1 + (-1))) (lv' := [(1, .int (x1 + (-1))), (2, .int y0), (0, .ref (ad 5))]) hx hb dT_markFailing_68 hl rfl rfl (by decide) rfl (fun ls hl => ?_)
      refine lv_goto (tgt := 7) hx hb dT_markFailing_71 rfl ?_
      exact hk7 _ _ _ _ _ h (lv_sub hl [2, 0] rfl) hf
def fT_markFailing_l7 : Nat → Int32 → ck_S → Option ck_S
  | 0, _, _ => none
  | n + 1, x1, st => (if x1 < 0 then (some st) else (ck_gd x1 60 (if (st 30 (x1).toNatClampNeg) = 0 then (fT_markFailing_b25 (fT_markFailing_l7 n) (1 : Int32) x1 st) else (fT_markFailing_b25 (fT_markFailing_l7 n) (0 : Int32) x1 st))))
set_option maxRecDepth 100000 in
set_option maxHeartbeats 4000000 in
theorem BT_markFailing_7 (C : ck_X cm_cl D cA bT_markFailing 3 R_T 2 p R s m args c) {st0 : ck_S} (hret : ∀ (pc : Nat) (H : Heap) (locs : List Loc) (ls : Array Slot), decode bT_markFailing pc = .ok (.return_, 1) → ck_AT sh_C cm_cl D cA ad H0 st0 H locs → W p l e R s m args below meth c H locs 0 0 Q (F0 m pc ls [])) : ∀ (n : Nat) (x1 : Int32) (st : ck_S) (H : Heap) (locs : List Loc) (ls : Array Slot), ck_AT sh_C cm_cl D cA ad H0 st H locs → lv_has ls 3 [(0, .ref (ad 5)), (1, .int x1)] → fT_markFailing_l7  n x1 st = some st0 → W p l e R s m args below meth c H locs 0 0 Q (F0 m 7 ls []) := by
  have C1 := C
  obtain ⟨hx, hb, hml, hown, hts, hK, hlv, hlo⟩ := C1
  intro n
  induction n with
  | zero => intro _ _ _ _ _ _ _ hf; cases hf
  | succ n ih =>
    intro x1 st H locs ls h hl hf
    rw [fT_markFailing_l7] at hf
    refine lv_iload_n hx hb dT_markFailing_7 rfl (lv_at hl 1 rfl) ?_
    refine lv_if_lt (tgt := 74) hx hb dT_markFailing_8 rfl (fun hq => ?_) (fun hq => ?_)
    · have hf := ck_t hq hf
      exact ck_rv hf hret h dT_markFailing_74
    · have hf := ck_f hq hf
      refine lv_aload_n hx hb dT_markFailing_11 rfl (lv_at hl 0 rfl) ?_
      refine ck_gr C h FT_place dT_markFailing_12 ?_
      refine lv_iload_n hx hb dT_markFailing_15 rfl (lv_at hl 1 rfl) ?_
      obtain ⟨hg, hf⟩ := ck_gd_e hf
      refine ck_ai (x := (st 30 (x1).toNatClampNeg)) C h (show sh_C[30]? = some (.inr (0, 60)) from rfl) hg rfl dT_markFailing_16 ?_
      refine lv_if_ne (tgt := 24) hx hb dT_markFailing_17 rfl (fun hq => ?_) (fun hq => ?_)
      · have hf := ck_f hq hf
        refine lv_iconst (v := 0) hx hb dT_markFailing_24 (by decide) ?_
        exact BT_markFailing_25 C hret ih _ _ _ _ _ _ h (lv_sub hl [0, 1] rfl) hf
      · have hf := ck_t hq hf
        refine lv_iconst (v := 1) hx hb dT_markFailing_20 (by decide) ?_
        refine lv_goto (tgt := 25) hx hb dT_markFailing_21 rfl ?_
        exact BT_markFailing_25 C hret ih _ _ _ _ _ _ h (lv_sub hl [0, 1] rfl) hf
def fT_markFailing (st : ck_S) : Option ck_S := (fT_markFailing_l7  4096 ((st 5 14) - (1 : Int32)) st)
set_option maxRecDepth 100000 in
set_option maxHeartbeats 4000000 in
theorem cT_markFailing (l : Launch) (D : va_G) (cA : Nat → ClassId) (ad : Nat → Nat) {st : ck_S} {st0 : ck_S} (hf : fT_markFailing st = some st0) : Met l yT_markFailing (.code yT_markFailing bT_markFailing 3 none :: ck_T) (ck_R 2) (va_Pc [.ref (ad 5)] (ck_P sh_C cm_cl D cA ad st)) (va_Qv (fun u => u = st0) (ck_P sh_C cm_cl D cA ad) (ck_A ad sh_C.length)) 0 0 (ck_A ad sh_C.length) := by
  refine ck_met_v (own := R_T) (by decide +kernel) rfl (Nat.le_of_ble_eq_true rfl) (fun p e R s m args below meth c H0 Q ls C hret h hl => ?_)
  have C1 := C
  obtain ⟨hx, hb, hml, hown, hts, hK, hlv, hlo⟩ := C1
  have hl : lv_has ls 3 [(0, .ref (ad 5))] := hl
  unfold fT_markFailing at hf
  refine lv_aload_n hx hb dT_markFailing_0 rfl (lv_at hl 0 rfl) ?_
  refine ck_gi (x := (st 5 14)) C h FT_size rfl dT_markFailing_1 ?_
  refine lv_iconst (v := 1) hx hb dT_markFailing_4 (by decide) ?_
  refine lv_isub hx hb dT_markFailing_5 ?_
  refine lv_istore_n (lv' := [(1, .int ((st 5 14) - (1 : Int32))), (0, .ref (ad 5))]) hx hb dT_markFailing_6 rfl hl (by decide) rfl (fun ls hl => ?_)
  exact BT_markFailing_7 C hret  4096 _ _ _ _ _ h (lv_sub hl [1, 0] rfl) hf
def fT_grow_l32 (k62 : Int32 → ck_S → Option (Int32 × ck_S)) : Nat → Int32 → Int32 → ck_S → Option (Int32 × ck_S)
  | 0, _, _, _ => none
  | n + 1, x1, x2, st => (if (60 : Int32) ≤ x2 then (k62 x1 st) else (if (st 5 14) ≤ x2 then (k62 x1 st) else (if x1 = 0 then (k62 x1 st) else (ck_b (fT_expand x2 st) fun v2 st1 => (fT_grow_l32 k62 n v2 (x2 + 1) st1)))))
set_option maxRecDepth 100000 in
set_option maxHeartbeats 4000000 in
theorem BT_grow_32 (C : ck_X cm_cl D cA bT_grow 3 R_T 5 p R s m args c) {r0 : Int32} {st0 : ck_S} (hret : ∀ (pc : Nat) (H : Heap) (locs : List Loc) (ls : Array Slot), decode bT_grow pc = .ok (.ireturn, 1) → (r0 = 0 ∨ r0 = 1) → ck_AT sh_C cm_cl D cA ad H0 st0 H locs → W p l e R s m args below meth c H locs 0 0 Q (F0 m pc ls [.int r0])) {k62 : Int32 → ck_S → Option (Int32 × ck_S)} (hk62 : ∀ (x1 : Int32) (st : ck_S) (H : Heap) (locs : List Loc) (ls : Array Slot), ck_AT sh_C cm_cl D cA ad H0 st H locs → lv_has ls 3 [(0, .ref (ad 5)), (1, .int x1)] → k62 x1 st = some (r0, st0) → W p l e R s m args below meth c H locs 0 0 Q (F0 m 62 ls [])) : ∀ (n : Nat) (x1 : Int32) (x2 : Int32) (st : ck_S) (H : Heap) (locs : List Loc) (ls : Array Slot), ck_AT sh_C cm_cl D cA ad H0 st H locs → lv_has ls 3 [(0, .ref (ad 5)), (1, .int x1), (2, .int x2)] → fT_grow_l32 k62 n x1 x2 st = some (r0, st0) → W p l e R s m args below meth c H locs 0 0 Q (F0 m 32 ls []) := by
  have C1 := C
  obtain ⟨hx, hb, hml, hown, hts, hK, hlv, hlo⟩ := C1
  intro n
  induction n with
  | zero => intro _ _ _ _ _ _ _ _ hf; cases hf
  | succ n ih =>
    intro x1 x2 st H locs ls h hl hf
    rw [fT_grow_l32] at hf
    refine lv_iload_n hx hb dT_grow_32 rfl (lv_at hl 2 rfl) ?_
    refine lv_bipush (v := 60) hx hb dT_grow_33 (by decide) ?_
    refine lv_icmp_ge (tgt := 62) hx hb dT_grow_35 rfl (fun hq => ?_) (fun hq => ?_)
    · have hf := ck_t hq hf
      exact hk62 _ _ _ _ _ h (lv_sub hl [0, 1] rfl) hf
    · have hf := ck_f hq hf
      refine lv_iload_n hx hb dT_grow_38 rfl (lv_at hl 2 rfl) ?_
      refine lv_aload_n hx hb dT_grow_39 rfl (lv_at hl 0 rfl) ?_
      refine ck_gi (x := (st 5 14)) C h FT_size rfl dT_grow_40 ?_
      refine lv_icmp_ge (tgt := 62) hx hb dT_grow_43 rfl (fun hq => ?_) (fun hq => ?_)
      · have hf := ck_t hq hf
        exact hk62 _ _ _ _ _ h (lv_sub hl [0, 1] rfl) hf
      · have hf := ck_f hq hf
        refine lv_iload_n hx hb dT_grow_46 rfl (lv_at hl 1 rfl) ?_
        refine lv_if_eq (tgt := 62) hx hb dT_grow_47 rfl (fun hq => ?_) (fun hq => ?_)
        · have hf := ck_t hq hf
          exact hk62 _ _ _ _ _ h (lv_sub hl [0, 1] rfl) hf
        · have hf := ck_f hq hf
          refine lv_aload_n hx hb dT_grow_50 rfl (lv_at hl 0 rfl) ?_
          refine lv_iload_n hx hb dT_grow_51 rfl (lv_at hl 2 rfl) ?_
          obtain ⟨v2, st1, hc, hf⟩ := ck_b_e hf
          refine ck_vi (As := [.int x2]) (rest := []) (q := 5) C h hl CT_T_expand sT_expand q_T (cT_expand l D cA ad hc) (Nat.le_of_ble_eq_true rfl) rfl rfl (Nat.le_of_ble_eq_true rfl) dT_grow_52 (fun H locs h => ?_)
          refine lv_istore_n (lv' := [(1, .int v2), (0, .ref (ad 5)), (2, .int x2)]) hx hb dT_grow_55 rfl hl (by decide) rfl (fun ls hl => ?_)
          refine lv_iinc (k := 2) (v := (x2 + 1)) (lv' := [(2, .int (x2 + 1)), (1, .int v2), (0, .ref (ad 5))]) hx hb dT_grow_56 hl rfl rfl (by decide) rfl (fun ls hl => ?_)
          refine lv_goto (tgt := 32) hx hb dT_grow_59 rfl ?_
          exact ih _ _ _ _ _ _ h (lv_sub hl [2, 1, 0] rfl) hf
def fT_grow_b62 (x1 : Int32) (st : ck_S) : Option (Int32 × ck_S) := (if x1 = 0 then (ck_gz x1 (some (x1, st))) else (ck_bv (fT_markFailing st) fun st1 => (ck_gz x1 (some (x1, (ck_u st1 5 16 (1 : Int32)))))))
set_option maxRecDepth 100000 in
set_option maxHeartbeats 4000000 in
theorem BT_grow_62 (C : ck_X cm_cl D cA bT_grow 3 R_T 5 p R s m args c) {r0 : Int32} {st0 : ck_S} (hret : ∀ (pc : Nat) (H : Heap) (locs : List Loc) (ls : Array Slot), decode bT_grow pc = .ok (.ireturn, 1) → (r0 = 0 ∨ r0 = 1) → ck_AT sh_C cm_cl D cA ad H0 st0 H locs → W p l e R s m args below meth c H locs 0 0 Q (F0 m pc ls [.int r0])) (x1 : Int32) (st : ck_S) (H : Heap) (locs : List Loc) (ls : Array Slot) (h : ck_AT sh_C cm_cl D cA ad H0 st H locs) (hl : lv_has ls 3 [(0, .ref (ad 5)), (1, .int x1)]) (hf : fT_grow_b62 x1 st = some (r0, st0)) : W p l e R s m args below meth c H locs 0 0 Q (F0 m 62 ls []) := by
  have C1 := C
  obtain ⟨hx, hb, hml, hown, hts, hK, hlv, hlo⟩ := C1
  unfold fT_grow_b62 at hf
  refine lv_iload_n hx hb dT_grow_62 rfl (lv_at hl 1 rfl) ?_
  refine lv_if_eq (tgt := 75) hx hb dT_grow_63 rfl (fun hq => ?_) (fun hq => ?_)
  · have hf := ck_t hq hf
    refine lv_iload_n hx hb dT_grow_75 rfl (lv_at hl 1 rfl) ?_
    obtain ⟨hz, hf⟩ := ck_gz_e hf
    exact ck_rz hf hret hz h dT_grow_76
  · have hf := ck_f hq hf
    refine lv_aload_n hx hb dT_grow_66 rfl (lv_at hl 0 rfl) ?_
    obtain ⟨st1, hc, hf⟩ := ck_bv_e hf
    refine ck_vv (As := []) (rest := []) (q := 5) C h hl CT_T_markFailing sT_markFailing q_T (cT_markFailing l D cA ad hc) (Nat.le_of_ble_eq_true rfl) rfl rfl (Nat.le_of_ble_eq_true rfl) dT_grow_67 (fun H locs h => ?_)
    refine lv_aload_n hx hb dT_grow_70 rfl (lv_at hl 0 rfl) ?_
    refine lv_iconst (v := 1) hx hb dT_grow_71 (by decide) ?_
    refine ck_pi C h GT_there (ck_nz ck_z1) rfl dT_grow_72 (fun H locs h => ?_)
    refine lv_iload_n hx hb dT_grow_75 rfl (lv_at hl 1 rfl) ?_
    obtain ⟨hz, hf⟩ := ck_gz_e hf
    exact ck_rz hf hret hz h dT_grow_76
def fT_grow (st : ck_S) : Option (Int32 × ck_S) := (ck_b (fM_allClauses (ck_u (ck_u (ck_u st 5 16 (0 : Int32)) 5 14 (0 : Int32)) 5 15 (0 : Int32))) fun v2 st1 => (ck_b (fT_addNode (0 : Int32) v2 (2 : Int32) (0 : Int32) st1) fun v4 st3 => (fT_grow_l32 (fun x1 st => (fT_grow_b62 x1 st)) 4096 v4 (0 : Int32) st3)))
set_option maxRecDepth 100000 in
set_option maxHeartbeats 4000000 in
theorem cT_grow (l : Launch) (D : va_G) (cA : Nat → ClassId) (ad : Nat → Nat) {st : ck_S} {r0 : Int32} {st0 : ck_S} (hf : fT_grow st = some (r0, st0)) : Met l yT_grow (.code yT_grow bT_grow 3 (some .boolean) :: ck_T) (ck_R 5) (va_Pc [.ref (ad 5)] (ck_P sh_C cm_cl D cA ad st)) (va_Qi (fun a u => a = r0 ∧ u = st0) (ck_P sh_C cm_cl D cA ad) (ck_A ad sh_C.length)) 0 0 (ck_A ad sh_C.length) := by
  refine ck_met_z (own := R_T) (by decide +kernel) rfl (Nat.le_of_ble_eq_true rfl) (fun p e R s m args below meth c H0 Q ls C hret h hl => ?_)
  have C1 := C
  obtain ⟨hx, hb, hml, hown, hts, hK, hlv, hlo⟩ := C1
  have hl : lv_has ls 3 [(0, .ref (ad 5))] := hl
  unfold fT_grow at hf
  refine lv_aload_n hx hb dT_grow_0 rfl (lv_at hl 0 rfl) ?_
  refine lv_iconst (v := 0) hx hb dT_grow_1 (by decide) ?_
  refine ck_pi C h GT_there (ck_nz ck_z0) rfl dT_grow_2 (fun H locs h => ?_)
  refine lv_aload_n hx hb dT_grow_5 rfl (lv_at hl 0 rfl) ?_
  refine lv_iconst (v := 0) hx hb dT_grow_6 (by decide) ?_
  refine ck_pi C h GT_size rfl rfl dT_grow_7 (fun H locs h => ?_)
  refine lv_aload_n hx hb dT_grow_10 rfl (lv_at hl 0 rfl) ?_
  refine lv_iconst (v := 0) hx hb dT_grow_11 (by decide) ?_
  refine ck_pi C h GT_caught rfl rfl dT_grow_12 (fun H locs h => ?_)
  refine lv_aload_n hx hb dT_grow_15 rfl (lv_at hl 0 rfl) ?_
  refine lv_iconst (v := 0) hx hb dT_grow_16 (by decide) ?_
  refine lv_aload_n hx hb dT_grow_17 rfl (lv_at hl 0 rfl) ?_
  refine ck_gr C h FT_match dT_grow_18 ?_
  obtain ⟨v2, st1, hc, hf⟩ := ck_b_e hf
  refine ck_vi (As := []) (rest := [.int (0 : Int32), .ref (ad 5)]) (q := 4) C h hl CT_M_allClauses sM_allClauses q_M (cM_allClauses l D cA ad hc) (Nat.le_of_ble_eq_true rfl) rfl rfl (Nat.le_of_ble_eq_true rfl) dT_grow_21 (fun H locs h => ?_)
  refine lv_iconst (v := 2) hx hb dT_grow_24 (by decide) ?_
  refine lv_iconst (v := 0) hx hb dT_grow_25 (by decide) ?_
  obtain ⟨v4, st3, hc, hf⟩ := ck_b_e hf
  refine ck_vi (As := [.int (0 : Int32), .int v2, .int (2 : Int32), .int (0 : Int32)]) (rest := []) (q := 5) C h hl CT_T_addNode sT_addNode q_T (cT_addNode l D cA ad hc) (Nat.le_of_ble_eq_true rfl) rfl rfl (Nat.le_of_ble_eq_true rfl) dT_grow_26 (fun H locs h => ?_)
  refine lv_istore_n (lv' := [(1, .int v4), (0, .ref (ad 5))]) hx hb dT_grow_29 rfl hl (by decide) rfl (fun ls hl => ?_)
  refine lv_iconst (v := 0) hx hb dT_grow_30 (by decide) ?_
  refine lv_istore_n (lv' := [(2, .int (0 : Int32)), (1, .int v4), (0, .ref (ad 5))]) hx hb dT_grow_31 rfl hl (by decide) rfl (fun ls hl => ?_)
  exact BT_grow_32 C hret (fun x1 st H locs ls h hl hf => by
      exact BT_grow_62 C hret _ _ _ _ _ h (lv_sub hl [0, 1] rfl) hf) 4096 _ _ _ _ _ _ h (lv_sub hl [2, 1, 0] rfl) hf
def fT_hasFailing (st : ck_S) : Option (Int32 × ck_S) := (if (st 5 14) ≤ 0 then (some ((0 : Int32), st)) else (ck_gd (0 : Int32) 60 (if (st 36 ((0 : Int32)).toNatClampNeg) = 0 then (some ((0 : Int32), st)) else (some ((1 : Int32), st)))))
set_option maxRecDepth 100000 in
set_option maxHeartbeats 4000000 in
theorem cT_hasFailing (l : Launch) (D : va_G) (cA : Nat → ClassId) (ad : Nat → Nat) {st : ck_S} {r0 : Int32} {st0 : ck_S} (hf : fT_hasFailing st = some (r0, st0)) : Met l yT_hasFailing (.code yT_hasFailing bT_hasFailing 1 (some .boolean) :: ck_T) (ck_R 0) (va_Pc [.ref (ad 5)] (ck_P sh_C cm_cl D cA ad st)) (va_Qi (fun a u => a = r0 ∧ u = st0) (ck_P sh_C cm_cl D cA ad) (ck_A ad sh_C.length)) 0 0 (ck_A ad sh_C.length) := by
  refine ck_met_z (own := R_T) (by decide +kernel) rfl (Nat.le_of_ble_eq_true rfl) (fun p e R s m args below meth c H0 Q ls C hret h hl => ?_)
  have C1 := C
  obtain ⟨hx, hb, hml, hown, hts, hK, hlv, hlo⟩ := C1
  have hl : lv_has ls 1 [(0, .ref (ad 5))] := hl
  unfold fT_hasFailing at hf
  refine lv_aload_n hx hb dT_hasFailing_0 rfl (lv_at hl 0 rfl) ?_
  refine ck_gi (x := (st 5 14)) C h FT_size rfl dT_hasFailing_1 ?_
  refine lv_if_le (tgt := 20) hx hb dT_hasFailing_4 rfl (fun hq => ?_) (fun hq => ?_)
  · have hf := ck_t hq hf
    refine lv_iconst (v := 0) hx hb dT_hasFailing_20 (by decide) ?_
    exact ck_rz hf hret ck_z0 h dT_hasFailing_21
  · have hf := ck_f hq hf
    refine lv_aload_n hx hb dT_hasFailing_7 rfl (lv_at hl 0 rfl) ?_
    refine ck_gr C h FT_failing dT_hasFailing_8 ?_
    refine lv_iconst (v := 0) hx hb dT_hasFailing_11 (by decide) ?_
    obtain ⟨hg, hf⟩ := ck_gd_e hf
    refine ck_az (x := (st 36 ((0 : Int32)).toNatClampNeg)) C h (show sh_C[36]? = some (.inr (1, 60)) from rfl) hg rfl dT_hasFailing_12 ?_
    refine lv_if_eq (tgt := 20) hx hb dT_hasFailing_13 rfl (fun hq => ?_) (fun hq => ?_)
    · have hf := ck_t hq hf
      refine lv_iconst (v := 0) hx hb dT_hasFailing_20 (by decide) ?_
      exact ck_rz hf hret ck_z0 h dT_hasFailing_21
    · have hf := ck_f hq hf
      refine lv_iconst (v := 1) hx hb dT_hasFailing_16 (by decide) ?_
      refine lv_goto (tgt := 21) hx hb dT_hasFailing_17 rfl ?_
      exact ck_rz hf hret ck_z1 h dT_hasFailing_21
def fT_mostTests_l4 : Nat → Int32 → Int32 → ck_S → Option (Int32 × ck_S)
  | 0, _, _, _ => none
  | n + 1, x1, x2, st => (if (st 5 14) ≤ x2 then (some (x1, st)) else (ck_gd x2 60 (fT_mostTests_l4 n (ck_mxv x1 (st 29 (x2).toNatClampNeg)) (x2 + 1) st)))
set_option maxRecDepth 100000 in
set_option maxHeartbeats 4000000 in
theorem BT_mostTests_4 (C : ck_X cm_cl D cA bT_mostTests 3 R_T 1 p R s m args c) {r0 : Int32} {st0 : ck_S} (hret : ∀ (pc : Nat) (H : Heap) (locs : List Loc) (ls : Array Slot), decode bT_mostTests pc = .ok (.ireturn, 1) → ck_AT sh_C cm_cl D cA ad H0 st0 H locs → W p l e R s m args below meth c H locs 0 0 Q (F0 m pc ls [.int r0])) : ∀ (n : Nat) (x1 : Int32) (x2 : Int32) (st : ck_S) (H : Heap) (locs : List Loc) (ls : Array Slot), ck_AT sh_C cm_cl D cA ad H0 st H locs → lv_has ls 3 [(0, .ref (ad 5)), (1, .int x1), (2, .int x2)] → fT_mostTests_l4  n x1 x2 st = some (r0, st0) → W p l e R s m args below meth c H locs 0 0 Q (F0 m 4 ls []) := by
  have C1 := C
  obtain ⟨hx, hb, hml, hown, hts, hK, hlv, hlo⟩ := C1
  intro n
  induction n with
  | zero => intro _ _ _ _ _ _ _ _ hf; cases hf
  | succ n ih =>
    intro x1 x2 st H locs ls h hl hf
    rw [fT_mostTests_l4] at hf
    refine lv_iload_n hx hb dT_mostTests_4 rfl (lv_at hl 2 rfl) ?_
    refine lv_aload_n hx hb dT_mostTests_5 rfl (lv_at hl 0 rfl) ?_
    refine ck_gi (x := (st 5 14)) C h FT_size rfl dT_mostTests_6 ?_
    refine lv_icmp_ge (tgt := 29) hx hb dT_mostTests_9 rfl (fun hq => ?_) (fun hq => ?_)
    · have hf := ck_t hq hf
      refine lv_iload_n hx hb dT_mostTests_29 rfl (lv_at hl 1 rfl) ?_
      exact ck_ri hf hret h dT_mostTests_30
    · have hf := ck_f hq hf
      refine lv_iload_n hx hb dT_mostTests_12 rfl (lv_at hl 1 rfl) ?_
      refine lv_aload_n hx hb dT_mostTests_13 rfl (lv_at hl 0 rfl) ?_
      refine ck_gr C h FT_above dT_mostTests_14 ?_
      refine lv_iload_n hx hb dT_mostTests_17 rfl (lv_at hl 2 rfl) ?_
      obtain ⟨hg, hf⟩ := ck_gd_e hf
      refine ck_ai (x := (st 29 (x2).toNatClampNeg)) C h (show sh_C[29]? = some (.inr (0, 60)) from rfl) hg rfl dT_mostTests_18 ?_
      refine ck_mx C hl (ck_T_mk (List.mem_of_getElem? (i := 659) (by decide +kernel)) (by decide +kernel)) (Nat.le_of_ble_eq_true rfl) (Nat.le_of_ble_eq_true rfl) dT_mostTests_19 ?_
      refine lv_istore_n (lv' := [(1, .int (ck_mxv x1 (st 29 (x2).toNatClampNeg))), (0, .ref (ad 5)), (2, .int x2)]) hx hb dT_mostTests_22 rfl hl (by decide) rfl (fun ls hl => ?_)
      refine lv_iinc (k := 2) (v := (x2 + 1)) (lv' := [(2, .int (x2 + 1)), (1, .int (ck_mxv x1 (st 29 (x2).toNatClampNeg))), (0, .ref (ad 5))]) hx hb dT_mostTests_23 hl rfl rfl (by decide) rfl (fun ls hl => ?_)
      refine lv_goto (tgt := 4) hx hb dT_mostTests_26 rfl ?_
      exact ih _ _ _ _ _ _ h (lv_sub hl [2, 1, 0] rfl) hf
def fT_mostTests (st : ck_S) : Option (Int32 × ck_S) := (fT_mostTests_l4  4096 (0 : Int32) (0 : Int32) st)
set_option maxRecDepth 100000 in
set_option maxHeartbeats 4000000 in
theorem cT_mostTests (l : Launch) (D : va_G) (cA : Nat → ClassId) (ad : Nat → Nat) {st : ck_S} {r0 : Int32} {st0 : ck_S} (hf : fT_mostTests st = some (r0, st0)) : Met l yT_mostTests (.code yT_mostTests bT_mostTests 3 (some .int) :: ck_T) (ck_R 1) (va_Pc [.ref (ad 5)] (ck_P sh_C cm_cl D cA ad st)) (va_Qi (fun a u => a = r0 ∧ u = st0) (ck_P sh_C cm_cl D cA ad) (ck_A ad sh_C.length)) 0 0 (ck_A ad sh_C.length) := by
  refine ck_met_i (own := R_T) (by decide +kernel) rfl (Nat.le_of_ble_eq_true rfl) (fun p e R s m args below meth c H0 Q ls C hret h hl => ?_)
  have C1 := C
  obtain ⟨hx, hb, hml, hown, hts, hK, hlv, hlo⟩ := C1
  have hl : lv_has ls 3 [(0, .ref (ad 5))] := hl
  unfold fT_mostTests at hf
  refine lv_iconst (v := 0) hx hb dT_mostTests_0 (by decide) ?_
  refine lv_istore_n (lv' := [(1, .int (0 : Int32)), (0, .ref (ad 5))]) hx hb dT_mostTests_1 rfl hl (by decide) rfl (fun ls hl => ?_)
  refine lv_iconst (v := 0) hx hb dT_mostTests_2 (by decide) ?_
  refine lv_istore_n (lv' := [(2, .int (0 : Int32)), (1, .int (0 : Int32)), (0, .ref (ad 5))]) hx hb dT_mostTests_3 rfl hl (by decide) rfl (fun ls hl => ?_)
  exact BT_mostTests_4 C hret  4096 _ _ _ _ _ _ h (lv_sub hl [2, 1, 0] rfl) hf
def fT_alike_l69 : Nat → Int32 → Int32 → Int32 → Int32 → ck_S → Option (Int32 × ck_S)
  | 0, _, _, _, _, _ => none
  | n + 1, x1, x2, x3, x4, st => (ck_gd x1 60 (if (st 34 (x1).toNatClampNeg) ≤ x4 then (ck_gz x3 (some (x3, st))) else (if x3 = 0 then (ck_gz x3 (some (x3, st))) else (ck_gd x1 60 (ck_gd x2 60 (ck_gd ((st 33 (x1).toNatClampNeg) + x4) 60 (ck_gd ((st 33 (x2).toNatClampNeg) + x4) 60 (if (st 28 (((st 33 (x1).toNatClampNeg) + x4)).toNatClampNeg) = (st 28 (((st 33 (x2).toNatClampNeg) + x4)).toNatClampNeg) then (ck_gd ((st 33 (x1).toNatClampNeg) + x4) 60 (ck_gd ((st 33 (x2).toNatClampNeg) + x4) 60 (if (st 35 (((st 33 (x1).toNatClampNeg) + x4)).toNatClampNeg) = (st 35 (((st 33 (x2).toNatClampNeg) + x4)).toNatClampNeg) then (fT_alike_l69 n x1 x2 (1 : Int32) (x4 + 1) st) else (fT_alike_l69 n x1 x2 (0 : Int32) (x4 + 1) st)))) else (fT_alike_l69 n x1 x2 (0 : Int32) (x4 + 1) st)))))))))
set_option maxRecDepth 100000 in
set_option maxHeartbeats 4000000 in
theorem BT_alike_69 (C : ck_X cm_cl D cA bT_alike 7 R_T 0 p R s m args c) {r0 : Int32} {st0 : ck_S} (hret : ∀ (pc : Nat) (H : Heap) (locs : List Loc) (ls : Array Slot), decode bT_alike pc = .ok (.ireturn, 1) → (r0 = 0 ∨ r0 = 1) → ck_AT sh_C cm_cl D cA ad H0 st0 H locs → W p l e R s m args below meth c H locs 0 0 Q (F0 m pc ls [.int r0])) : ∀ (n : Nat) (x1 : Int32) (x2 : Int32) (x3 : Int32) (x4 : Int32) (st : ck_S) (H : Heap) (locs : List Loc) (ls : Array Slot), ck_AT sh_C cm_cl D cA ad H0 st H locs → lv_has ls 7 [(0, .ref (ad 5)), (1, .int x1), (2, .int x2), (3, .int x3), (4, .int x4)] → fT_alike_l69  n x1 x2 x3 x4 st = some (r0, st0) → W p l e R s m args below meth c H locs 0 0 Q (F0 m 69 ls []) := by
  have C1 := C
  obtain ⟨hx, hb, hml, hown, hts, hK, hlv, hlo⟩ := C1
  intro n
  induction n with
  | zero => intro _ _ _ _ _ _ _ _ _ _ hf; cases hf
  | succ n ih =>
    intro x1 x2 x3 x4 st H locs ls h hl hf
    rw [fT_alike_l69] at hf
    refine lv_iload hx hb dT_alike_69 (lv_at hl 4 rfl) ?_
    refine lv_aload_n hx hb dT_alike_71 rfl (lv_at hl 0 rfl) ?_
    refine ck_gr C h FT_branchCount dT_alike_72 ?_
    refine lv_iload_n hx hb dT_alike_75 rfl (lv_at hl 1 rfl) ?_
    obtain ⟨hg, hf⟩ := ck_gd_e hf
    refine ck_ai (x := (st 34 (x1).toNatClampNeg)) C h (show sh_C[34]? = some (.inr (0, 60)) from rfl) hg rfl dT_alike_76 ?_
    refine lv_icmp_ge (tgt := 152) hx hb dT_alike_77 rfl (fun hq => ?_) (fun hq => ?_)
    · have hf := ck_t hq hf
      refine lv_iload_n hx hb dT_alike_152 rfl (lv_at hl 3 rfl) ?_
      obtain ⟨hz, hf⟩ := ck_gz_e hf
      exact ck_rz hf hret hz h dT_alike_153
    · have hf := ck_f hq hf
      refine lv_iload_n hx hb dT_alike_80 rfl (lv_at hl 3 rfl) ?_
      refine lv_if_eq (tgt := 152) hx hb dT_alike_81 rfl (fun hq => ?_) (fun hq => ?_)
      · have hf := ck_t hq hf
        refine lv_iload_n hx hb dT_alike_152 rfl (lv_at hl 3 rfl) ?_
        obtain ⟨hz, hf⟩ := ck_gz_e hf
        exact ck_rz hf hret hz h dT_alike_153
      · have hf := ck_f hq hf
        refine lv_aload_n hx hb dT_alike_84 rfl (lv_at hl 0 rfl) ?_
        refine ck_gr C h FT_firstBranch dT_alike_85 ?_
        refine lv_iload_n hx hb dT_alike_88 rfl (lv_at hl 1 rfl) ?_
        obtain ⟨hg, hf⟩ := ck_gd_e hf
        refine ck_ai (x := (st 33 (x1).toNatClampNeg)) C h (show sh_C[33]? = some (.inr (0, 60)) from rfl) hg rfl dT_alike_89 ?_
        refine lv_iload hx hb dT_alike_90 (lv_at hl 4 rfl) ?_
        refine lv_iadd hx hb dT_alike_92 ?_
        refine lv_istore (lv' := [(5, .int ((st 33 (x1).toNatClampNeg) + x4)), (0, .ref (ad 5)), (1, .int x1), (2, .int x2), (3, .int x3), (4, .int x4)]) hx hb dT_alike_93 hl (by decide) rfl (fun ls hl => ?_)
        refine lv_aload_n hx hb dT_alike_95 rfl (lv_at hl 1 rfl) ?_
        refine ck_gr C h FT_firstBranch dT_alike_96 ?_
        refine lv_iload_n hx hb dT_alike_99 rfl (lv_at hl 3 rfl) ?_
        obtain ⟨hg, hf⟩ := ck_gd_e hf
        refine ck_ai (x := (st 33 (x2).toNatClampNeg)) C h (show sh_C[33]? = some (.inr (0, 60)) from rfl) hg rfl dT_alike_100 ?_
        refine lv_iload hx hb dT_alike_101 (lv_at hl 5 rfl) ?_
        refine lv_iadd hx hb dT_alike_103 ?_
        refine lv_istore (lv' := [(6, .int ((st 33 (x2).toNatClampNeg) + x4)), (5, .int ((st 33 (x1).toNatClampNeg) + x4)), (0, .ref (ad 5)), (1, .int x1), (2, .int x2), (3, .int x3), (4, .int x4)]) hx hb dT_alike_104 hl (by decide) rfl (fun ls hl => ?_)
        refine lv_aload_n hx hb dT_alike_106 rfl (lv_at hl 2 rfl) ?_
        refine ck_gr C h FT_label dT_alike_107 ?_
        refine lv_iload hx hb dT_alike_110 (lv_at hl 1 rfl) ?_
        obtain ⟨hg, hf⟩ := ck_gd_e hf
        refine ck_ai (x := (st 28 (((st 33 (x1).toNatClampNeg) + x4)).toNatClampNeg)) C h (show sh_C[28]? = some (.inr (0, 60)) from rfl) hg rfl dT_alike_112 ?_
        refine lv_aload_n hx hb dT_alike_113 rfl (lv_at hl 2 rfl) ?_
        refine ck_gr C h FT_label dT_alike_114 ?_
        refine lv_iload hx hb dT_alike_117 (lv_at hl 0 rfl) ?_
        obtain ⟨hg, hf⟩ := ck_gd_e hf
        refine ck_ai (x := (st 28 (((st 33 (x2).toNatClampNeg) + x4)).toNatClampNeg)) C h (show sh_C[28]? = some (.inr (0, 60)) from rfl) hg rfl dT_alike_119 ?_
        refine lv_icmp_ne (tgt := 144) hx hb dT_alike_120 rfl (fun hq => ?_) (fun hq => ?_)
        · have hf := ck_f hq hf
          refine lv_iconst (v := 0) hx hb dT_alike_144 (by decide) ?_
          refine lv_istore_n (lv' := [(3, .int (0 : Int32)), (6, .int ((st 33 (x2).toNatClampNeg) + x4)), (5, .int ((st 33 (x1).toNatClampNeg) + x4)), (0, .ref (ad 5)), (1, .int x1), (2, .int x2), (4, .int x4)]) hx hb dT_alike_145 rfl hl (by decide) rfl (fun ls hl => ?_)
          refine lv_iinc (k := 6) (v := (x4 + 1)) (lv' := [(4, .int (x4 + 1)), (3, .int (0 : Int32)), (6, .int ((st 33 (x2).toNatClampNeg) + x4)), (5, .int ((st 33 (x1).toNatClampNeg) + x4)), (0, .ref (ad 5)), (1, .int x1), (2, .int x2)]) hx hb dT_alike_146 hl rfl rfl (by decide) rfl (fun ls hl => ?_)
          refine lv_goto (tgt := 69) hx hb dT_alike_149 rfl ?_
          exact ih _ _ _ _ _ _ _ _ h (lv_sub hl [4, 5, 6, 1, 0] rfl) hf
        · have hf := ck_t hq hf
          refine lv_aload_n hx hb dT_alike_123 rfl (lv_at hl 2 rfl) ?_
          refine ck_gr C h FT_kind dT_alike_124 ?_
          refine lv_iload hx hb dT_alike_127 (lv_at hl 1 rfl) ?_
          obtain ⟨hg, hf⟩ := ck_gd_e hf
          refine ck_ai (x := (st 35 (((st 33 (x1).toNatClampNeg) + x4)).toNatClampNeg)) C h (show sh_C[35]? = some (.inr (0, 60)) from rfl) hg rfl dT_alike_129 ?_
          refine lv_aload_n hx hb dT_alike_130 rfl (lv_at hl 2 rfl) ?_
          refine ck_gr C h FT_kind dT_alike_131 ?_
          refine lv_iload hx hb dT_alike_134 (lv_at hl 0 rfl) ?_
          obtain ⟨hg, hf⟩ := ck_gd_e hf
          refine ck_ai (x := (st 35 (((st 33 (x2).toNatClampNeg) + x4)).toNatClampNeg)) C h (show sh_C[35]? = some (.inr (0, 60)) from rfl) hg rfl dT_alike_136 ?_
          refine lv_icmp_ne (tgt := 144) hx hb dT_alike_137 rfl (fun hq => ?_) (fun hq => ?_)
          · have hf := ck_f hq hf
            refine lv_iconst (v := 0) hx hb dT_alike_144 (by decide) ?_
            refine lv_istore_n (lv' := [(3, .int (0 : Int32)), (6, .int ((st 33 (x2).toNatClampNeg) + x4)), (5, .int ((st 33 (x1).toNatClampNeg) + x4)), (0, .ref (ad 5)), (1, .int x1), (2, .int x2), (4, .int x4)]) hx hb dT_alike_145 rfl hl (by decide) rfl (fun ls hl => ?_)
            refine lv_iinc (k := 6) (v := (x4 + 1)) (lv' := [(4, .int (x4 + 1)), (3, .int (0 : Int32)), (6, .int ((st 33 (x2).toNatClampNeg) + x4)), (5, .int ((st 33 (x1).toNatClampNeg) + x4)), (0, .ref (ad 5)), (1, .int x1), (2, .int x2)]) hx hb dT_alike_146 hl rfl rfl (by decide) rfl (fun ls hl => ?_)
            refine lv_goto (tgt := 69) hx hb dT_alike_149 rfl ?_
            exact ih _ _ _ _ _ _ _ _ h (lv_sub hl [4, 5, 6, 1, 0] rfl) hf
          · have hf := ck_t hq hf
            refine lv_iconst (v := 1) hx hb dT_alike_140 (by decide) ?_
            refine lv_goto (tgt := 145) hx hb dT_alike_141 rfl ?_
            refine lv_istore_n (lv' := [(3, .int (1 : Int32)), (6, .int ((st 33 (x2).toNatClampNeg) + x4)), (5, .int ((st 33 (x1).toNatClampNeg) + x4)), (0, .ref (ad 5)), (1, .int x1), (2, .int x2), (4, .int x4)]) hx hb dT_alike_145 rfl hl (by decide) rfl (fun ls hl => ?_)
            refine lv_iinc (k := 6) (v := (x4 + 1)) (lv' := [(4, .int (x4 + 1)), (3, .int (1 : Int32)), (6, .int ((st 33 (x2).toNatClampNeg) + x4)), (5, .int ((st 33 (x1).toNatClampNeg) + x4)), (0, .ref (ad 5)), (1, .int x1), (2, .int x2)]) hx hb dT_alike_146 hl rfl rfl (by decide) rfl (fun ls hl => ?_)
            refine lv_goto (tgt := 69) hx hb dT_alike_149 rfl ?_
            exact ih _ _ _ _ _ _ _ _ h (lv_sub hl [4, 5, 6, 1, 0] rfl) hf
def fT_alike (x1 : Int32) (x2 : Int32) (st : ck_S) : Option (Int32 × ck_S) := (ck_gd x1 60 (ck_gd x2 60 (if (st 30 (x1).toNatClampNeg) = (st 30 (x2).toNatClampNeg) then (ck_gd x1 60 (ck_gd x2 60 (if (st 31 (x1).toNatClampNeg) = (st 31 (x2).toNatClampNeg) then (ck_gd x1 60 (ck_gd x2 60 (if (st 32 (x1).toNatClampNeg) = (st 32 (x2).toNatClampNeg) then (ck_gd x1 60 (ck_gd x2 60 (if (st 34 (x1).toNatClampNeg) = (st 34 (x2).toNatClampNeg) then (fT_alike_l69  4096 x1 x2 (1 : Int32) (0 : Int32) st) else (fT_alike_l69  4096 x1 x2 (0 : Int32) (0 : Int32) st)))) else (fT_alike_l69  4096 x1 x2 (0 : Int32) (0 : Int32) st)))) else (fT_alike_l69  4096 x1 x2 (0 : Int32) (0 : Int32) st)))) else (fT_alike_l69  4096 x1 x2 (0 : Int32) (0 : Int32) st))))
set_option maxRecDepth 100000 in
set_option maxHeartbeats 4000000 in
theorem cT_alike (l : Launch) (D : va_G) (cA : Nat → ClassId) (ad : Nat → Nat) {x1 : Int32} {x2 : Int32} {st : ck_S} {r0 : Int32} {st0 : ck_S} (hf : fT_alike x1 x2 st = some (r0, st0)) : Met l yT_alike (.code yT_alike bT_alike 7 (some .boolean) :: ck_T) (ck_R 0) (va_Pc [.ref (ad 5), .int x1, .int x2] (ck_P sh_C cm_cl D cA ad st)) (va_Qi (fun a u => a = r0 ∧ u = st0) (ck_P sh_C cm_cl D cA ad) (ck_A ad sh_C.length)) 0 0 (ck_A ad sh_C.length) := by
  refine ck_met_z (own := R_T) (by decide +kernel) rfl (Nat.le_of_ble_eq_true rfl) (fun p e R s m args below meth c H0 Q ls C hret h hl => ?_)
  have C1 := C
  obtain ⟨hx, hb, hml, hown, hts, hK, hlv, hlo⟩ := C1
  have hl : lv_has ls 7 [(0, .ref (ad 5)), (1, .int x1), (2, .int x2)] := hl
  unfold fT_alike at hf
  refine lv_aload_n hx hb dT_alike_0 rfl (lv_at hl 0 rfl) ?_
  refine ck_gr C h FT_place dT_alike_1 ?_
  refine lv_iload_n hx hb dT_alike_4 rfl (lv_at hl 1 rfl) ?_
  obtain ⟨hg, hf⟩ := ck_gd_e hf
  refine ck_ai (x := (st 30 (x1).toNatClampNeg)) C h (show sh_C[30]? = some (.inr (0, 60)) from rfl) hg rfl dT_alike_5 ?_
  refine lv_aload_n hx hb dT_alike_6 rfl (lv_at hl 0 rfl) ?_
  refine ck_gr C h FT_place dT_alike_7 ?_
  refine lv_iload_n hx hb dT_alike_10 rfl (lv_at hl 2 rfl) ?_
  obtain ⟨hg, hf⟩ := ck_gd_e hf
  refine ck_ai (x := (st 30 (x2).toNatClampNeg)) C h (show sh_C[30]? = some (.inr (0, 60)) from rfl) hg rfl dT_alike_11 ?_
  refine lv_icmp_ne (tgt := 64) hx hb dT_alike_12 rfl (fun hq => ?_) (fun hq => ?_)
  · have hf := ck_f hq hf
    refine lv_iconst (v := 0) hx hb dT_alike_64 (by decide) ?_
    refine lv_istore_n (lv' := [(3, .int (0 : Int32)), (0, .ref (ad 5)), (1, .int x1), (2, .int x2)]) hx hb dT_alike_65 rfl hl (by decide) rfl (fun ls hl => ?_)
    refine lv_iconst (v := 0) hx hb dT_alike_66 (by decide) ?_
    refine lv_istore (lv' := [(4, .int (0 : Int32)), (3, .int (0 : Int32)), (0, .ref (ad 5)), (1, .int x1), (2, .int x2)]) hx hb dT_alike_67 hl (by decide) rfl (fun ls hl => ?_)
    exact BT_alike_69 C hret  4096 _ _ _ _ _ _ _ _ h (lv_sub hl [2, 3, 4, 1, 0] rfl) hf
  · have hf := ck_t hq hf
    refine lv_aload_n hx hb dT_alike_15 rfl (lv_at hl 0 rfl) ?_
    refine ck_gr C h FT_testType dT_alike_16 ?_
    refine lv_iload_n hx hb dT_alike_19 rfl (lv_at hl 1 rfl) ?_
    obtain ⟨hg, hf⟩ := ck_gd_e hf
    refine ck_ai (x := (st 31 (x1).toNatClampNeg)) C h (show sh_C[31]? = some (.inr (0, 60)) from rfl) hg rfl dT_alike_20 ?_
    refine lv_aload_n hx hb dT_alike_21 rfl (lv_at hl 0 rfl) ?_
    refine ck_gr C h FT_testType dT_alike_22 ?_
    refine lv_iload_n hx hb dT_alike_25 rfl (lv_at hl 2 rfl) ?_
    obtain ⟨hg, hf⟩ := ck_gd_e hf
    refine ck_ai (x := (st 31 (x2).toNatClampNeg)) C h (show sh_C[31]? = some (.inr (0, 60)) from rfl) hg rfl dT_alike_26 ?_
    refine lv_icmp_ne (tgt := 64) hx hb dT_alike_27 rfl (fun hq => ?_) (fun hq => ?_)
    · have hf := ck_f hq hf
      refine lv_iconst (v := 0) hx hb dT_alike_64 (by decide) ?_
      refine lv_istore_n (lv' := [(3, .int (0 : Int32)), (0, .ref (ad 5)), (1, .int x1), (2, .int x2)]) hx hb dT_alike_65 rfl hl (by decide) rfl (fun ls hl => ?_)
      refine lv_iconst (v := 0) hx hb dT_alike_66 (by decide) ?_
      refine lv_istore (lv' := [(4, .int (0 : Int32)), (3, .int (0 : Int32)), (0, .ref (ad 5)), (1, .int x1), (2, .int x2)]) hx hb dT_alike_67 hl (by decide) rfl (fun ls hl => ?_)
      exact BT_alike_69 C hret  4096 _ _ _ _ _ _ _ _ h (lv_sub hl [2, 3, 4, 1, 0] rfl) hf
    · have hf := ck_t hq hf
      refine lv_aload_n hx hb dT_alike_30 rfl (lv_at hl 0 rfl) ?_
      refine ck_gr C h FT_clause dT_alike_31 ?_
      refine lv_iload_n hx hb dT_alike_34 rfl (lv_at hl 1 rfl) ?_
      obtain ⟨hg, hf⟩ := ck_gd_e hf
      refine ck_ai (x := (st 32 (x1).toNatClampNeg)) C h (show sh_C[32]? = some (.inr (0, 60)) from rfl) hg rfl dT_alike_35 ?_
      refine lv_aload_n hx hb dT_alike_36 rfl (lv_at hl 0 rfl) ?_
      refine ck_gr C h FT_clause dT_alike_37 ?_
      refine lv_iload_n hx hb dT_alike_40 rfl (lv_at hl 2 rfl) ?_
      obtain ⟨hg, hf⟩ := ck_gd_e hf
      refine ck_ai (x := (st 32 (x2).toNatClampNeg)) C h (show sh_C[32]? = some (.inr (0, 60)) from rfl) hg rfl dT_alike_41 ?_
      refine lv_icmp_ne (tgt := 64) hx hb dT_alike_42 rfl (fun hq => ?_) (fun hq => ?_)
      · have hf := ck_f hq hf
        refine lv_iconst (v := 0) hx hb dT_alike_64 (by decide) ?_
        refine lv_istore_n (lv' := [(3, .int (0 : Int32)), (0, .ref (ad 5)), (1, .int x1), (2, .int x2)]) hx hb dT_alike_65 rfl hl (by decide) rfl (fun ls hl => ?_)
        refine lv_iconst (v := 0) hx hb dT_alike_66 (by decide) ?_
        refine lv_istore (lv' := [(4, .int (0 : Int32)), (3, .int (0 : Int32)), (0, .ref (ad 5)), (1, .int x1), (2, .int x2)]) hx hb dT_alike_67 hl (by decide) rfl (fun ls hl => ?_)
        exact BT_alike_69 C hret  4096 _ _ _ _ _ _ _ _ h (lv_sub hl [2, 3, 4, 1, 0] rfl) hf
      · have hf := ck_t hq hf
        refine lv_aload_n hx hb dT_alike_45 rfl (lv_at hl 0 rfl) ?_
        refine ck_gr C h FT_branchCount dT_alike_46 ?_
        refine lv_iload_n hx hb dT_alike_49 rfl (lv_at hl 1 rfl) ?_
        obtain ⟨hg, hf⟩ := ck_gd_e hf
        refine ck_ai (x := (st 34 (x1).toNatClampNeg)) C h (show sh_C[34]? = some (.inr (0, 60)) from rfl) hg rfl dT_alike_50 ?_
        refine lv_aload_n hx hb dT_alike_51 rfl (lv_at hl 0 rfl) ?_
        refine ck_gr C h FT_branchCount dT_alike_52 ?_
        refine lv_iload_n hx hb dT_alike_55 rfl (lv_at hl 2 rfl) ?_
        obtain ⟨hg, hf⟩ := ck_gd_e hf
        refine ck_ai (x := (st 34 (x2).toNatClampNeg)) C h (show sh_C[34]? = some (.inr (0, 60)) from rfl) hg rfl dT_alike_56 ?_
        refine lv_icmp_ne (tgt := 64) hx hb dT_alike_57 rfl (fun hq => ?_) (fun hq => ?_)
        · have hf := ck_f hq hf
          refine lv_iconst (v := 0) hx hb dT_alike_64 (by decide) ?_
          refine lv_istore_n (lv' := [(3, .int (0 : Int32)), (0, .ref (ad 5)), (1, .int x1), (2, .int x2)]) hx hb dT_alike_65 rfl hl (by decide) rfl (fun ls hl => ?_)
          refine lv_iconst (v := 0) hx hb dT_alike_66 (by decide) ?_
          refine lv_istore (lv' := [(4, .int (0 : Int32)), (3, .int (0 : Int32)), (0, .ref (ad 5)), (1, .int x1), (2, .int x2)]) hx hb dT_alike_67 hl (by decide) rfl (fun ls hl => ?_)
          exact BT_alike_69 C hret  4096 _ _ _ _ _ _ _ _ h (lv_sub hl [2, 3, 4, 1, 0] rfl) hf
        · have hf := ck_t hq hf
          refine lv_iconst (v := 1) hx hb dT_alike_60 (by decide) ?_
          refine lv_goto (tgt := 65) hx hb dT_alike_61 rfl ?_
          refine lv_istore_n (lv' := [(3, .int (1 : Int32)), (0, .ref (ad 5)), (1, .int x1), (2, .int x2)]) hx hb dT_alike_65 rfl hl (by decide) rfl (fun ls hl => ?_)
          refine lv_iconst (v := 0) hx hb dT_alike_66 (by decide) ?_
          refine lv_istore (lv' := [(4, .int (0 : Int32)), (3, .int (1 : Int32)), (0, .ref (ad 5)), (1, .int x1), (2, .int x2)]) hx hb dT_alike_67 hl (by decide) rfl (fun ls hl => ?_)
          exact BT_alike_69 C hret  4096 _ _ _ _ _ _ _ _ h (lv_sub hl [2, 3, 4, 1, 0] rfl) hf
def fT_countKinds_l27 (k74 : Int32 → Int32 → ck_S → Option (Int32 × ck_S)) : Nat → Int32 → Int32 → Int32 → ck_S → Option (Int32 × ck_S)
  | 0, _, _, _, _ => none
  | n + 1, x1, x2, x3, st => (if x3 ≤ x2 then (k74 x1 x2 st) else (ck_gd x2 60 (if (st 35 (x2).toNatClampNeg) = x2 then (ck_gd x3 60 (if (st 35 (x3).toNatClampNeg) = x3 then (ck_b (fT_alike x2 x3 st) fun v2 st1 => (if v2 = 0 then (fT_countKinds_l27 k74 n x1 x2 (x3 + (-1)) st1) else (ck_gd x2 60 (fT_countKinds_l27 k74 n x1 x2 (x3 + (-1)) (ck_u st1 35 (x2).toNatClampNeg x3))))) else (fT_countKinds_l27 k74 n x1 x2 (x3 + (-1)) st))) else (k74 x1 x2 st))))
set_option maxRecDepth 100000 in
set_option maxHeartbeats 4000000 in
theorem BT_countKinds_27 (C : ck_X cm_cl D cA bT_countKinds 4 R_T 1 p R s m args c) {r0 : Int32} {st0 : ck_S} (hret : ∀ (pc : Nat) (H : Heap) (locs : List Loc) (ls : Array Slot), decode bT_countKinds pc = .ok (.ireturn, 1) → ck_AT sh_C cm_cl D cA ad H0 st0 H locs → W p l e R s m args below meth c H locs 0 0 Q (F0 m pc ls [.int r0])) {k74 : Int32 → Int32 → ck_S → Option (Int32 × ck_S)} (hk74 : ∀ (x1 : Int32) (x2 : Int32) (st : ck_S) (H : Heap) (locs : List Loc) (ls : Array Slot), ck_AT sh_C cm_cl D cA ad H0 st H locs → lv_has ls 4 [(0, .ref (ad 5)), (1, .int x1), (2, .int x2)] → k74 x1 x2 st = some (r0, st0) → W p l e R s m args below meth c H locs 0 0 Q (F0 m 74 ls [])) : ∀ (n : Nat) (x1 : Int32) (x2 : Int32) (x3 : Int32) (st : ck_S) (H : Heap) (locs : List Loc) (ls : Array Slot), ck_AT sh_C cm_cl D cA ad H0 st H locs → lv_has ls 4 [(0, .ref (ad 5)), (1, .int x1), (2, .int x2), (3, .int x3)] → fT_countKinds_l27 k74 n x1 x2 x3 st = some (r0, st0) → W p l e R s m args below meth c H locs 0 0 Q (F0 m 27 ls []) := by
  have C1 := C
  obtain ⟨hx, hb, hml, hown, hts, hK, hlv, hlo⟩ := C1
  intro n
  induction n with
  | zero => intro _ _ _ _ _ _ _ _ _ hf; cases hf
  | succ n ih =>
    intro x1 x2 x3 st H locs ls h hl hf
    rw [fT_countKinds_l27] at hf
    refine lv_iload_n hx hb dT_countKinds_27 rfl (lv_at hl 3 rfl) ?_
    refine lv_iload_n hx hb dT_countKinds_28 rfl (lv_at hl 2 rfl) ?_
    refine lv_icmp_le (tgt := 74) hx hb dT_countKinds_29 rfl (fun hq => ?_) (fun hq => ?_)
    · have hf := ck_t hq hf
      exact hk74 _ _ _ _ _ _ h (lv_sub hl [0, 1, 2] rfl) hf
    · have hf := ck_f hq hf
      refine lv_aload_n hx hb dT_countKinds_32 rfl (lv_at hl 0 rfl) ?_
      refine ck_gr C h FT_kind dT_countKinds_33 ?_
      refine lv_iload_n hx hb dT_countKinds_36 rfl (lv_at hl 2 rfl) ?_
      obtain ⟨hg, hf⟩ := ck_gd_e hf
      refine ck_ai (x := (st 35 (x2).toNatClampNeg)) C h (show sh_C[35]? = some (.inr (0, 60)) from rfl) hg rfl dT_countKinds_37 ?_
      refine lv_iload_n hx hb dT_countKinds_38 rfl (lv_at hl 2 rfl) ?_
      refine lv_icmp_ne (tgt := 74) hx hb dT_countKinds_39 rfl (fun hq => ?_) (fun hq => ?_)
      · have hf := ck_f hq hf
        exact hk74 _ _ _ _ _ _ h (lv_sub hl [0, 1, 2] rfl) hf
      · have hf := ck_t hq hf
        refine lv_aload_n hx hb dT_countKinds_42 rfl (lv_at hl 0 rfl) ?_
        refine ck_gr C h FT_kind dT_countKinds_43 ?_
        refine lv_iload_n hx hb dT_countKinds_46 rfl (lv_at hl 3 rfl) ?_
        obtain ⟨hg, hf⟩ := ck_gd_e hf
        refine ck_ai (x := (st 35 (x3).toNatClampNeg)) C h (show sh_C[35]? = some (.inr (0, 60)) from rfl) hg rfl dT_countKinds_47 ?_
        refine lv_iload_n hx hb dT_countKinds_48 rfl (lv_at hl 3 rfl) ?_
        refine lv_icmp_ne (tgt := 68) hx hb dT_countKinds_49 rfl (fun hq => ?_) (fun hq => ?_)
        · have hf := ck_f hq hf
          refine lv_iinc (k := 3) (v := (x3 + (-1))) (lv' := [(3, .int (x3 + (-1))), (0, .ref (ad 5)), (1, .int x1), (2, .int x2)]) hx hb dT_countKinds_68 hl rfl rfl (by decide) rfl (fun ls hl => ?_)
          refine lv_goto (tgt := 27) hx hb dT_countKinds_71 rfl ?_
          exact ih _ _ _ _ _ _ _ h (lv_sub hl [1, 2, 3, 0] rfl) hf
        · have hf := ck_t hq hf
          refine lv_aload_n hx hb dT_countKinds_52 rfl (lv_at hl 0 rfl) ?_
          refine lv_iload_n hx hb dT_countKinds_53 rfl (lv_at hl 2 rfl) ?_
          refine lv_iload_n hx hb dT_countKinds_54 rfl (lv_at hl 3 rfl) ?_
          obtain ⟨v2, st1, hc, hf⟩ := ck_b_e hf
          refine ck_vi (As := [.int x2, .int x3]) (rest := []) (q := 5) C h hl CT_T_alike sT_alike q_T (cT_alike l D cA ad hc) (Nat.le_of_ble_eq_true rfl) rfl rfl (Nat.le_of_ble_eq_true rfl) dT_countKinds_55 (fun H locs h => ?_)
          refine lv_if_eq (tgt := 68) hx hb dT_countKinds_58 rfl (fun hq => ?_) (fun hq => ?_)
          · have hf := ck_t hq hf
            refine lv_iinc (k := 3) (v := (x3 + (-1))) (lv' := [(3, .int (x3 + (-1))), (0, .ref (ad 5)), (1, .int x1), (2, .int x2)]) hx hb dT_countKinds_68 hl rfl rfl (by decide) rfl (fun ls hl => ?_)
            refine lv_goto (tgt := 27) hx hb dT_countKinds_71 rfl ?_
            exact ih _ _ _ _ _ _ _ h (lv_sub hl [1, 2, 3, 0] rfl) hf
          · have hf := ck_f hq hf
            refine lv_aload_n hx hb dT_countKinds_61 rfl (lv_at hl 0 rfl) ?_
            refine ck_gr C h FT_kind dT_countKinds_62 ?_
            refine lv_iload_n hx hb dT_countKinds_65 rfl (lv_at hl 2 rfl) ?_
            refine lv_iload_n hx hb dT_countKinds_66 rfl (lv_at hl 3 rfl) ?_
            obtain ⟨hg, hf⟩ := ck_gd_e hf
            refine ck_si C h (show sh_C[35]? = some (.inr (0, 60)) from rfl) hg dT_countKinds_67 (fun H locs h => ?_)
            refine lv_iinc (k := 3) (v := (x3 + (-1))) (lv' := [(3, .int (x3 + (-1))), (0, .ref (ad 5)), (1, .int x1), (2, .int x2)]) hx hb dT_countKinds_68 hl rfl rfl (by decide) rfl (fun ls hl => ?_)
            refine lv_goto (tgt := 27) hx hb dT_countKinds_71 rfl ?_
            exact ih _ _ _ _ _ _ _ h (lv_sub hl [1, 2, 3, 0] rfl) hf
def fT_countKinds_b74 (k9 : Int32 → Int32 → ck_S → Option (Int32 × ck_S)) (x1 : Int32) (x2 : Int32) (st : ck_S) : Option (Int32 × ck_S) := (ck_gd x2 60 (if (st 35 (x2).toNatClampNeg) = x2 then (k9 (x1 + 1) (x2 + (-1)) st) else (k9 x1 (x2 + (-1)) st)))
set_option maxRecDepth 100000 in
set_option maxHeartbeats 4000000 in
theorem BT_countKinds_74 (C : ck_X cm_cl D cA bT_countKinds 4 R_T 1 p R s m args c) {r0 : Int32} {st0 : ck_S} (hret : ∀ (pc : Nat) (H : Heap) (locs : List Loc) (ls : Array Slot), decode bT_countKinds pc = .ok (.ireturn, 1) → ck_AT sh_C cm_cl D cA ad H0 st0 H locs → W p l e R s m args below meth c H locs 0 0 Q (F0 m pc ls [.int r0])) {k9 : Int32 → Int32 → ck_S → Option (Int32 × ck_S)} (hk9 : ∀ (x1 : Int32) (x2 : Int32) (st : ck_S) (H : Heap) (locs : List Loc) (ls : Array Slot), ck_AT sh_C cm_cl D cA ad H0 st H locs → lv_has ls 4 [(0, .ref (ad 5)), (1, .int x1), (2, .int x2)] → k9 x1 x2 st = some (r0, st0) → W p l e R s m args below meth c H locs 0 0 Q (F0 m 9 ls [])) (x1 : Int32) (x2 : Int32) (st : ck_S) (H : Heap) (locs : List Loc) (ls : Array Slot) (h : ck_AT sh_C cm_cl D cA ad H0 st H locs) (hl : lv_has ls 4 [(0, .ref (ad 5)), (1, .int x1), (2, .int x2)]) (hf : fT_countKinds_b74 k9 x1 x2 st = some (r0, st0)) : W p l e R s m args below meth c H locs 0 0 Q (F0 m 74 ls []) := by
  have C1 := C
  obtain ⟨hx, hb, hml, hown, hts, hK, hlv, hlo⟩ := C1
  unfold fT_countKinds_b74 at hf
  refine lv_aload_n hx hb dT_countKinds_74 rfl (lv_at hl 0 rfl) ?_
  refine ck_gr C h FT_kind dT_countKinds_75 ?_
  refine lv_iload_n hx hb dT_countKinds_78 rfl (lv_at hl 2 rfl) ?_
  obtain ⟨hg, hf⟩ := ck_gd_e hf
  refine ck_ai (x := (st 35 (x2).toNatClampNeg)) C h (show sh_C[35]? = some (.inr (0, 60)) from rfl) hg rfl dT_countKinds_79 ?_
  refine lv_iload_n hx hb dT_countKinds_80 rfl (lv_at hl 2 rfl) ?_
  refine lv_icmp_ne (tgt := 87) hx hb dT_countKinds_81 rfl (fun hq => ?_) (fun hq => ?_)
  · have hf := ck_f hq hf
    refine lv_iinc (k := 2) (v := (x2 + (-1))) (lv' := [(2, .int (x2 + (-1))), (0, .ref (ad 5)), (1, .int x1)]) hx hb dT_countKinds_87 hl rfl rfl (by decide) rfl (fun ls hl => ?_)
    refine lv_goto (tgt := 9) hx hb dT_countKinds_90 rfl ?_
    exact hk9 _ _ _ _ _ _ h (lv_sub hl [1, 2, 0] rfl) hf
  · have hf := ck_t hq hf
    refine lv_iinc (k := 1) (v := (x1 + 1)) (lv' := [(1, .int (x1 + 1)), (0, .ref (ad 5)), (2, .int x2)]) hx hb dT_countKinds_84 hl rfl rfl (by decide) rfl (fun ls hl => ?_)
    refine lv_iinc (k := 2) (v := (x2 + (-1))) (lv' := [(2, .int (x2 + (-1))), (1, .int (x1 + 1)), (0, .ref (ad 5))]) hx hb dT_countKinds_87 hl rfl rfl (by decide) rfl (fun ls hl => ?_)
    refine lv_goto (tgt := 9) hx hb dT_countKinds_90 rfl ?_
    exact hk9 _ _ _ _ _ _ h (lv_sub hl [2, 1, 0] rfl) hf
def fT_countKinds_l9 : Nat → Int32 → Int32 → ck_S → Option (Int32 × ck_S)
  | 0, _, _, _ => none
  | n + 1, x1, x2, st => (if x2 < 0 then (some (x1, st)) else (ck_gd x2 60 (fT_countKinds_l27 (fun x1 x2 st => (fT_countKinds_b74 (fT_countKinds_l9 n) x1 x2 st)) 4096 x1 x2 ((st 5 14) - (1 : Int32)) (ck_u st 35 (x2).toNatClampNeg x2))))
set_option maxRecDepth 100000 in
set_option maxHeartbeats 4000000 in
theorem BT_countKinds_9 (C : ck_X cm_cl D cA bT_countKinds 4 R_T 1 p R s m args c) {r0 : Int32} {st0 : ck_S} (hret : ∀ (pc : Nat) (H : Heap) (locs : List Loc) (ls : Array Slot), decode bT_countKinds pc = .ok (.ireturn, 1) → ck_AT sh_C cm_cl D cA ad H0 st0 H locs → W p l e R s m args below meth c H locs 0 0 Q (F0 m pc ls [.int r0])) : ∀ (n : Nat) (x1 : Int32) (x2 : Int32) (st : ck_S) (H : Heap) (locs : List Loc) (ls : Array Slot), ck_AT sh_C cm_cl D cA ad H0 st H locs → lv_has ls 4 [(0, .ref (ad 5)), (1, .int x1), (2, .int x2)] → fT_countKinds_l9  n x1 x2 st = some (r0, st0) → W p l e R s m args below meth c H locs 0 0 Q (F0 m 9 ls []) := by
  have C1 := C
  obtain ⟨hx, hb, hml, hown, hts, hK, hlv, hlo⟩ := C1
  intro n
  induction n with
  | zero => intro _ _ _ _ _ _ _ _ hf; cases hf
  | succ n ih =>
    intro x1 x2 st H locs ls h hl hf
    rw [fT_countKinds_l9] at hf
    refine lv_iload_n hx hb dT_countKinds_9 rfl (lv_at hl 2 rfl) ?_
    refine lv_if_lt (tgt := 93) hx hb dT_countKinds_10 rfl (fun hq => ?_) (fun hq => ?_)
    · have hf := ck_t hq hf
      refine lv_iload_n hx hb dT_countKinds_93 rfl (lv_at hl 1 rfl) ?_
      exact ck_ri hf hret h dT_countKinds_94
    · have hf := ck_f hq hf
      refine lv_aload_n hx hb dT_countKinds_13 rfl (lv_at hl 0 rfl) ?_
      refine ck_gr C h FT_kind dT_countKinds_14 ?_
      refine lv_iload_n hx hb dT_countKinds_17 rfl (lv_at hl 2 rfl) ?_
      refine lv_iload_n hx hb dT_countKinds_18 rfl (lv_at hl 2 rfl) ?_
      obtain ⟨hg, hf⟩ := ck_gd_e hf
      refine ck_si C h (show sh_C[35]? = some (.inr (0, 60)) from rfl) hg dT_countKinds_19 (fun H locs h => ?_)
      refine lv_aload_n hx hb dT_countKinds_20 rfl (lv_at hl 0 rfl) ?_
      refine ck_gi (x := (st 5 14)) C h FT_size rfl dT_countKinds_21 ?_
      refine lv_iconst (v := 1) hx hb dT_countKinds_24 (by decide) ?_
      refine lv_isub hx hb dT_countKinds_25 ?_
      refine lv_istore_n (lv' := [(3, .int ((st 5 14) - (1 : Int32))), (0, .ref (ad 5)), (1, .int x1), (2, .int x2)]) hx hb dT_countKinds_26 rfl hl (by decide) rfl (fun ls hl => ?_)
      exact BT_countKinds_27 C hret (fun x1 x2 st H locs ls h hl hf => by
          exact BT_countKinds_74 C hret ih _ _ _ _ _ _ h (lv_sub hl [0, 1, 2] rfl) hf) 4096 _ _ _ _ _ _ _ h (lv_sub hl [1, 2, 3, 0] rfl) hf
def fT_countKinds (st : ck_S) : Option (Int32 × ck_S) := (fT_countKinds_l9  4096 (0 : Int32) ((st 5 14) - (1 : Int32)) st)
set_option maxRecDepth 100000 in
set_option maxHeartbeats 4000000 in
theorem cT_countKinds (l : Launch) (D : va_G) (cA : Nat → ClassId) (ad : Nat → Nat) {st : ck_S} {r0 : Int32} {st0 : ck_S} (hf : fT_countKinds st = some (r0, st0)) : Met l yT_countKinds (.code yT_countKinds bT_countKinds 4 (some .int) :: ck_T) (ck_R 1) (va_Pc [.ref (ad 5)] (ck_P sh_C cm_cl D cA ad st)) (va_Qi (fun a u => a = r0 ∧ u = st0) (ck_P sh_C cm_cl D cA ad) (ck_A ad sh_C.length)) 0 0 (ck_A ad sh_C.length) := by
  refine ck_met_i (own := R_T) (by decide +kernel) rfl (Nat.le_of_ble_eq_true rfl) (fun p e R s m args below meth c H0 Q ls C hret h hl => ?_)
  have C1 := C
  obtain ⟨hx, hb, hml, hown, hts, hK, hlv, hlo⟩ := C1
  have hl : lv_has ls 4 [(0, .ref (ad 5))] := hl
  unfold fT_countKinds at hf
  refine lv_iconst (v := 0) hx hb dT_countKinds_0 (by decide) ?_
  refine lv_istore_n (lv' := [(1, .int (0 : Int32)), (0, .ref (ad 5))]) hx hb dT_countKinds_1 rfl hl (by decide) rfl (fun ls hl => ?_)
  refine lv_aload_n hx hb dT_countKinds_2 rfl (lv_at hl 1 rfl) ?_
  refine ck_gi (x := (st 5 14)) C h FT_size rfl dT_countKinds_3 ?_
  refine lv_iconst (v := 1) hx hb dT_countKinds_6 (by decide) ?_
  refine lv_isub hx hb dT_countKinds_7 ?_
  refine lv_istore_n (lv' := [(2, .int ((st 5 14) - (1 : Int32))), (1, .int (0 : Int32)), (0, .ref (ad 5))]) hx hb dT_countKinds_8 rfl hl (by decide) rfl (fun ls hl => ?_)
  exact BT_countKinds_9 C hret  4096 _ _ _ _ _ _ h (lv_sub hl [2, 1, 0] rfl) hf
def fT_branchFor_l24 : Nat → Int32 → Int32 → Int32 → ck_S → Option (Int32 × ck_S)
  | 0, _, _, _, _ => none
  | n + 1, x2, x3, x4, st => (if x3 ≤ x4 then (some (x3, st)) else (ck_gd x4 60 (if (st 28 (x4).toNatClampNeg) = x2 then (some (x4, st)) else (fT_branchFor_l24 n x2 x3 (x4 + 1) st))))
set_option maxRecDepth 100000 in
set_option maxHeartbeats 4000000 in
theorem BT_branchFor_24 (C : ck_X cm_cl D cA bT_branchFor 5 R_T 0 p R s m args c) {r0 : Int32} {st0 : ck_S} (hret : ∀ (pc : Nat) (H : Heap) (locs : List Loc) (ls : Array Slot), decode bT_branchFor pc = .ok (.ireturn, 1) → ck_AT sh_C cm_cl D cA ad H0 st0 H locs → W p l e R s m args below meth c H locs 0 0 Q (F0 m pc ls [.int r0])) : ∀ (n : Nat) (x2 : Int32) (x3 : Int32) (x4 : Int32) (st : ck_S) (H : Heap) (locs : List Loc) (ls : Array Slot), ck_AT sh_C cm_cl D cA ad H0 st H locs → lv_has ls 5 [(0, .ref (ad 5)), (2, .int x2), (3, .int x3), (4, .int x4)] → fT_branchFor_l24  n x2 x3 x4 st = some (r0, st0) → W p l e R s m args below meth c H locs 0 0 Q (F0 m 24 ls []) := by
  have C1 := C
  obtain ⟨hx, hb, hml, hown, hts, hK, hlv, hlo⟩ := C1
  intro n
  induction n with
  | zero => intro _ _ _ _ _ _ _ _ _ hf; cases hf
  | succ n ih =>
    intro x2 x3 x4 st H locs ls h hl hf
    rw [fT_branchFor_l24] at hf
    refine lv_iload hx hb dT_branchFor_24 (lv_at hl 3 rfl) ?_
    refine lv_iload_n hx hb dT_branchFor_26 rfl (lv_at hl 2 rfl) ?_
    refine lv_icmp_ge (tgt := 50) hx hb dT_branchFor_27 rfl (fun hq => ?_) (fun hq => ?_)
    · have hf := ck_t hq hf
      refine lv_iload_n hx hb dT_branchFor_50 rfl (lv_at hl 2 rfl) ?_
      exact ck_ri hf hret h dT_branchFor_51
    · have hf := ck_f hq hf
      refine lv_aload_n hx hb dT_branchFor_30 rfl (lv_at hl 0 rfl) ?_
      refine ck_gr C h FT_label dT_branchFor_31 ?_
      refine lv_iload hx hb dT_branchFor_34 (lv_at hl 3 rfl) ?_
      obtain ⟨hg, hf⟩ := ck_gd_e hf
      refine ck_ai (x := (st 28 (x4).toNatClampNeg)) C h (show sh_C[28]? = some (.inr (0, 60)) from rfl) hg rfl dT_branchFor_36 ?_
      refine lv_iload_n hx hb dT_branchFor_37 rfl (lv_at hl 1 rfl) ?_
      refine lv_icmp_ne (tgt := 44) hx hb dT_branchFor_38 rfl (fun hq => ?_) (fun hq => ?_)
      · have hf := ck_f hq hf
        refine lv_iinc (k := 3) (v := (x4 + 1)) (lv' := [(4, .int (x4 + 1)), (0, .ref (ad 5)), (2, .int x2), (3, .int x3)]) hx hb dT_branchFor_44 hl rfl rfl (by decide) rfl (fun ls hl => ?_)
        refine lv_goto (tgt := 24) hx hb dT_branchFor_47 rfl ?_
        exact ih _ _ _ _ _ _ _ h (lv_sub hl [1, 2, 3, 0] rfl) hf
      · have hf := ck_t hq hf
        refine lv_iload hx hb dT_branchFor_41 (lv_at hl 3 rfl) ?_
        exact ck_ri hf hret h dT_branchFor_43
def fT_branchFor (x1 : Int32) (x2 : Int32) (st : ck_S) : Option (Int32 × ck_S) := (ck_gd x1 60 (ck_gd x1 60 (ck_gd x1 60 (fT_branchFor_l24  4096 x2 (((st 33 (x1).toNatClampNeg) + (st 34 (x1).toNatClampNeg)) - (1 : Int32)) (st 33 (x1).toNatClampNeg) st))))
set_option maxRecDepth 100000 in
set_option maxHeartbeats 4000000 in
theorem cT_branchFor (l : Launch) (D : va_G) (cA : Nat → ClassId) (ad : Nat → Nat) {x1 : Int32} {x2 : Int32} {st : ck_S} {r0 : Int32} {st0 : ck_S} (hf : fT_branchFor x1 x2 st = some (r0, st0)) : Met l yT_branchFor (.code yT_branchFor bT_branchFor 5 (some .int) :: ck_T) (ck_R 0) (va_Pc [.ref (ad 5), .int x1, .int x2] (ck_P sh_C cm_cl D cA ad st)) (va_Qi (fun a u => a = r0 ∧ u = st0) (ck_P sh_C cm_cl D cA ad) (ck_A ad sh_C.length)) 0 0 (ck_A ad sh_C.length) := by
  refine ck_met_i (own := R_T) (by decide +kernel) rfl (Nat.le_of_ble_eq_true rfl) (fun p e R s m args below meth c H0 Q ls C hret h hl => ?_)
  have C1 := C
  obtain ⟨hx, hb, hml, hown, hts, hK, hlv, hlo⟩ := C1
  have hl : lv_has ls 5 [(0, .ref (ad 5)), (1, .int x1), (2, .int x2)] := hl
  unfold fT_branchFor at hf
  refine lv_aload_n hx hb dT_branchFor_0 rfl (lv_at hl 0 rfl) ?_
  refine ck_gr C h FT_firstBranch dT_branchFor_1 ?_
  refine lv_iload_n hx hb dT_branchFor_4 rfl (lv_at hl 1 rfl) ?_
  obtain ⟨hg, hf⟩ := ck_gd_e hf
  refine ck_ai (x := (st 33 (x1).toNatClampNeg)) C h (show sh_C[33]? = some (.inr (0, 60)) from rfl) hg rfl dT_branchFor_5 ?_
  refine lv_aload_n hx hb dT_branchFor_6 rfl (lv_at hl 0 rfl) ?_
  refine ck_gr C h FT_branchCount dT_branchFor_7 ?_
  refine lv_iload_n hx hb dT_branchFor_10 rfl (lv_at hl 1 rfl) ?_
  obtain ⟨hg, hf⟩ := ck_gd_e hf
  refine ck_ai (x := (st 34 (x1).toNatClampNeg)) C h (show sh_C[34]? = some (.inr (0, 60)) from rfl) hg rfl dT_branchFor_11 ?_
  refine lv_iadd hx hb dT_branchFor_12 ?_
  refine lv_iconst (v := 1) hx hb dT_branchFor_13 (by decide) ?_
  refine lv_isub hx hb dT_branchFor_14 ?_
  refine lv_istore_n (lv' := [(3, .int (((st 33 (x1).toNatClampNeg) + (st 34 (x1).toNatClampNeg)) - (1 : Int32))), (0, .ref (ad 5)), (1, .int x1), (2, .int x2)]) hx hb dT_branchFor_15 rfl hl (by decide) rfl (fun ls hl => ?_)
  refine lv_aload_n hx hb dT_branchFor_16 rfl (lv_at hl 1 rfl) ?_
  refine ck_gr C h FT_firstBranch dT_branchFor_17 ?_
  refine lv_iload_n hx hb dT_branchFor_20 rfl (lv_at hl 2 rfl) ?_
  obtain ⟨hg, hf⟩ := ck_gd_e hf
  refine ck_ai (x := (st 33 (x1).toNatClampNeg)) C h (show sh_C[33]? = some (.inr (0, 60)) from rfl) hg rfl dT_branchFor_21 ?_
  refine lv_istore (lv' := [(4, .int (st 33 (x1).toNatClampNeg)), (3, .int (((st 33 (x1).toNatClampNeg) + (st 34 (x1).toNatClampNeg)) - (1 : Int32))), (0, .ref (ad 5)), (1, .int x1), (2, .int x2)]) hx hb dT_branchFor_22 hl (by decide) rfl (fun ls hl => ?_)
  exact BT_branchFor_24 C hret  4096 _ _ _ _ _ _ _ h (lv_sub hl [2, 4, 1, 0] rfl) hf
def fT_leafFor_l12 : Nat → Int32 → Int32 → ck_S → Option (Int32 × ck_S)
  | 0, _, _, _ => none
  | n + 1, x3, x4, st => (if (16 : Int32) ≤ x4 then (some (x3, st)) else (ck_b (fT_placeOf x3 st) fun v2 st1 => (if v2 = 0 then (some (x3, st1)) else (ck_gd x3 60 (ck_gd (st1 30 (x3).toNatClampNeg) 32 (ck_b (fV_firstOf (st1 37 ((st1 30 (x3).toNatClampNeg)).toNatClampNeg) st1) fun v4 st3 => (ck_gd ((2 : Int32) * (st1 30 (x3).toNatClampNeg)) 32 (ck_b (fV_secondOf (st1 37 ((st1 30 (x3).toNatClampNeg)).toNatClampNeg) (ck_u st3 37 (((2 : Int32) * (st1 30 (x3).toNatClampNeg))).toNatClampNeg v4)) fun v6 st5 => (ck_gd (((2 : Int32) * (st1 30 (x3).toNatClampNeg)) + (1 : Int32)) 32 (ck_b (fV_symbolOf (st1 37 ((st1 30 (x3).toNatClampNeg)).toNatClampNeg) (ck_u st5 37 ((((2 : Int32) * (st1 30 (x3).toNatClampNeg)) + (1 : Int32))).toNatClampNeg v6)) fun v8 st7 => (ck_b (fT_branchFor x3 v8 st7) fun v10 st9 => (fT_leafFor_l12 n v10 (x4 + 1) st9))))))))))))
set_option maxRecDepth 100000 in
set_option maxHeartbeats 4000000 in
theorem BT_leafFor_12 (C : ck_X cm_cl D cA bT_leafFor 7 R_T 2 p R s m args c) {r0 : Int32} {st0 : ck_S} (hret : ∀ (pc : Nat) (H : Heap) (locs : List Loc) (ls : Array Slot), decode bT_leafFor pc = .ok (.ireturn, 1) → ck_AT sh_C cm_cl D cA ad H0 st0 H locs → W p l e R s m args below meth c H locs 0 0 Q (F0 m pc ls [.int r0])) : ∀ (n : Nat) (x3 : Int32) (x4 : Int32) (st : ck_S) (H : Heap) (locs : List Loc) (ls : Array Slot), ck_AT sh_C cm_cl D cA ad H0 st H locs → lv_has ls 7 [(0, .ref (ad 5)), (1, .ref (ad 3)), (3, .int x3), (4, .int x4)] → fT_leafFor_l12  n x3 x4 st = some (r0, st0) → W p l e R s m args below meth c H locs 0 0 Q (F0 m 12 ls []) := by
  have C1 := C
  obtain ⟨hx, hb, hml, hown, hts, hK, hlv, hlo⟩ := C1
  intro n
  induction n with
  | zero => intro _ _ _ _ _ _ _ _ hf; cases hf
  | succ n ih =>
    intro x3 x4 st H locs ls h hl hf
    rw [fT_leafFor_l12] at hf
    refine lv_iload hx hb dT_leafFor_12 (lv_at hl 3 rfl) ?_
    refine lv_bipush (v := 16) hx hb dT_leafFor_14 (by decide) ?_
    refine lv_icmp_ge (tgt := 94) hx hb dT_leafFor_16 rfl (fun hq => ?_) (fun hq => ?_)
    · have hf := ck_t hq hf
      refine lv_iload_n hx hb dT_leafFor_94 rfl (lv_at hl 2 rfl) ?_
      exact ck_ri hf hret h dT_leafFor_95
    · have hf := ck_f hq hf
      refine lv_aload_n hx hb dT_leafFor_19 rfl (lv_at hl 0 rfl) ?_
      refine lv_iload_n hx hb dT_leafFor_20 rfl (lv_at hl 2 rfl) ?_
      obtain ⟨v2, st1, hc, hf⟩ := ck_b_e hf
      refine ck_vi (As := [.int x3]) (rest := []) (q := 5) C h hl CT_T_placeOf sT_placeOf q_T (cT_placeOf l D cA ad hc) (Nat.le_of_ble_eq_true rfl) rfl rfl (Nat.le_of_ble_eq_true rfl) dT_leafFor_21 (fun H locs h => ?_)
      refine lv_if_eq (tgt := 94) hx hb dT_leafFor_24 rfl (fun hq => ?_) (fun hq => ?_)
      · have hf := ck_t hq hf
        refine lv_iload_n hx hb dT_leafFor_94 rfl (lv_at hl 2 rfl) ?_
        exact ck_ri hf hret h dT_leafFor_95
      · have hf := ck_f hq hf
        refine lv_aload_n hx hb dT_leafFor_27 rfl (lv_at hl 0 rfl) ?_
        refine ck_gr C h FT_place dT_leafFor_28 ?_
        refine lv_iload_n hx hb dT_leafFor_31 rfl (lv_at hl 2 rfl) ?_
        obtain ⟨hg, hf⟩ := ck_gd_e hf
        refine ck_ai (x := (st1 30 (x3).toNatClampNeg)) C h (show sh_C[30]? = some (.inr (0, 60)) from rfl) hg rfl dT_leafFor_32 ?_
        refine lv_istore (lv' := [(5, .int (st1 30 (x3).toNatClampNeg)), (0, .ref (ad 5)), (1, .ref (ad 3)), (3, .int x3), (4, .int x4)]) hx hb dT_leafFor_33 hl (by decide) rfl (fun ls hl => ?_)
        refine lv_aload_n hx hb dT_leafFor_35 rfl (lv_at hl 1 rfl) ?_
        refine ck_gr C h FT_valueAt dT_leafFor_36 ?_
        refine lv_iload hx hb dT_leafFor_39 (lv_at hl 0 rfl) ?_
        obtain ⟨hg, hf⟩ := ck_gd_e hf
        refine ck_ai (x := (st1 37 ((st1 30 (x3).toNatClampNeg)).toNatClampNeg)) C h (show sh_C[37]? = some (.inr (0, 32)) from rfl) hg rfl dT_leafFor_41 ?_
        refine lv_istore (lv' := [(6, .int (st1 37 ((st1 30 (x3).toNatClampNeg)).toNatClampNeg)), (5, .int (st1 30 (x3).toNatClampNeg)), (0, .ref (ad 5)), (1, .ref (ad 3)), (3, .int x3), (4, .int x4)]) hx hb dT_leafFor_42 hl (by decide) rfl (fun ls hl => ?_)
        refine lv_aload_n hx hb dT_leafFor_44 rfl (lv_at hl 2 rfl) ?_
        refine ck_gr C h FT_valueAt dT_leafFor_45 ?_
        refine lv_iconst (v := 2) hx hb dT_leafFor_48 (by decide) ?_
        refine lv_iload hx hb dT_leafFor_49 (lv_at hl 1 rfl) ?_
        refine lv_imul hx hb dT_leafFor_51 ?_
        refine lv_aload_n hx hb dT_leafFor_52 rfl (lv_at hl 3 rfl) ?_
        refine lv_iload hx hb dT_leafFor_53 (lv_at hl 0 rfl) ?_
        obtain ⟨v4, st3, hc, hf⟩ := ck_b_e hf
        refine ck_vi (As := [.int (st1 37 ((st1 30 (x3).toNatClampNeg)).toNatClampNeg)]) (rest := [.int ((2 : Int32) * (st1 30 (x3).toNatClampNeg)), .ref (ad 37)]) (q := 3) C h hl CT_V_firstOf sV_firstOf q_V (cV_firstOf l D cA ad hc) (Nat.le_of_ble_eq_true rfl) rfl rfl (Nat.le_of_ble_eq_true rfl) dT_leafFor_55 (fun H locs h => ?_)
        obtain ⟨hg, hf⟩ := ck_gd_e hf
        refine ck_si C h (show sh_C[37]? = some (.inr (0, 32)) from rfl) hg dT_leafFor_58 (fun H locs h => ?_)
        refine lv_aload_n hx hb dT_leafFor_59 rfl (lv_at hl 2 rfl) ?_
        refine ck_gr C h FT_valueAt dT_leafFor_60 ?_
        refine lv_iconst (v := 2) hx hb dT_leafFor_63 (by decide) ?_
        refine lv_iload hx hb dT_leafFor_64 (lv_at hl 1 rfl) ?_
        refine lv_imul hx hb dT_leafFor_66 ?_
        refine lv_iconst (v := 1) hx hb dT_leafFor_67 (by decide) ?_
        refine lv_iadd hx hb dT_leafFor_68 ?_
        refine lv_aload_n hx hb dT_leafFor_69 rfl (lv_at hl 3 rfl) ?_
        refine lv_iload hx hb dT_leafFor_70 (lv_at hl 0 rfl) ?_
        obtain ⟨v6, st5, hc, hf⟩ := ck_b_e hf
        refine ck_vi (As := [.int (st1 37 ((st1 30 (x3).toNatClampNeg)).toNatClampNeg)]) (rest := [.int (((2 : Int32) * (st1 30 (x3).toNatClampNeg)) + (1 : Int32)), .ref (ad 37)]) (q := 3) C h hl CT_V_secondOf sV_secondOf q_V (cV_secondOf l D cA ad hc) (Nat.le_of_ble_eq_true rfl) rfl rfl (Nat.le_of_ble_eq_true rfl) dT_leafFor_72 (fun H locs h => ?_)
        obtain ⟨hg, hf⟩ := ck_gd_e hf
        refine ck_si C h (show sh_C[37]? = some (.inr (0, 32)) from rfl) hg dT_leafFor_75 (fun H locs h => ?_)
        refine lv_aload_n hx hb dT_leafFor_76 rfl (lv_at hl 2 rfl) ?_
        refine lv_iload_n hx hb dT_leafFor_77 rfl (lv_at hl 4 rfl) ?_
        refine lv_aload_n hx hb dT_leafFor_78 rfl (lv_at hl 3 rfl) ?_
        refine lv_iload hx hb dT_leafFor_79 (lv_at hl 0 rfl) ?_
        obtain ⟨v8, st7, hc, hf⟩ := ck_b_e hf
        refine ck_vi (As := [.int (st1 37 ((st1 30 (x3).toNatClampNeg)).toNatClampNeg)]) (rest := [.int x3, .ref (ad 5)]) (q := 3) C h hl CT_V_symbolOf sV_symbolOf q_V (cV_symbolOf l D cA ad hc) (Nat.le_of_ble_eq_true rfl) rfl rfl (Nat.le_of_ble_eq_true rfl) dT_leafFor_81 (fun H locs h => ?_)
        obtain ⟨v10, st9, hc, hf⟩ := ck_b_e hf
        refine ck_vi (As := [.int x3, .int v8]) (rest := []) (q := 5) C h hl CT_T_branchFor sT_branchFor q_T (cT_branchFor l D cA ad hc) (Nat.le_of_ble_eq_true rfl) rfl rfl (Nat.le_of_ble_eq_true rfl) dT_leafFor_84 (fun H locs h => ?_)
        refine lv_istore_n (lv' := [(3, .int v10), (6, .int (st1 37 ((st1 30 (x3).toNatClampNeg)).toNatClampNeg)), (5, .int (st1 30 (x3).toNatClampNeg)), (0, .ref (ad 5)), (1, .ref (ad 3)), (4, .int x4)]) hx hb dT_leafFor_87 rfl hl (by decide) rfl (fun ls hl => ?_)
        refine lv_iinc (k := 5) (v := (x4 + 1)) (lv' := [(4, .int (x4 + 1)), (3, .int v10), (6, .int (st1 37 ((st1 30 (x3).toNatClampNeg)).toNatClampNeg)), (5, .int (st1 30 (x3).toNatClampNeg)), (0, .ref (ad 5)), (1, .ref (ad 3))]) hx hb dT_leafFor_88 hl rfl rfl (by decide) rfl (fun ls hl => ?_)
        refine lv_goto (tgt := 12) hx hb dT_leafFor_91 rfl ?_
        exact ih _ _ _ _ _ _ h (lv_sub hl [4, 5, 1, 0] rfl) hf
def fT_leafFor (x2 : Int32) (st : ck_S) : Option (Int32 × ck_S) := (ck_gd (1 : Int32) 32 (fT_leafFor_l12  4096 (0 : Int32) (0 : Int32) (ck_u st 37 ((1 : Int32)).toNatClampNeg x2)))
set_option maxRecDepth 100000 in
set_option maxHeartbeats 4000000 in
theorem cT_leafFor (l : Launch) (D : va_G) (cA : Nat → ClassId) (ad : Nat → Nat) {x2 : Int32} {st : ck_S} {r0 : Int32} {st0 : ck_S} (hf : fT_leafFor x2 st = some (r0, st0)) : Met l yT_leafFor (.code yT_leafFor bT_leafFor 7 (some .int) :: ck_T) (ck_R 2) (va_Pc [.ref (ad 5), .ref (ad 3), .int x2] (ck_P sh_C cm_cl D cA ad st)) (va_Qi (fun a u => a = r0 ∧ u = st0) (ck_P sh_C cm_cl D cA ad) (ck_A ad sh_C.length)) 0 0 (ck_A ad sh_C.length) := by
  refine ck_met_i (own := R_T) (by decide +kernel) rfl (Nat.le_of_ble_eq_true rfl) (fun p e R s m args below meth c H0 Q ls C hret h hl => ?_)
  have C1 := C
  obtain ⟨hx, hb, hml, hown, hts, hK, hlv, hlo⟩ := C1
  have hl : lv_has ls 7 [(0, .ref (ad 5)), (1, .ref (ad 3)), (2, .int x2)] := hl
  unfold fT_leafFor at hf
  refine lv_iconst (v := 0) hx hb dT_leafFor_0 (by decide) ?_
  refine lv_istore_n (lv' := [(3, .int (0 : Int32)), (0, .ref (ad 5)), (1, .ref (ad 3)), (2, .int x2)]) hx hb dT_leafFor_1 rfl hl (by decide) rfl (fun ls hl => ?_)
  refine lv_aload_n hx hb dT_leafFor_2 rfl (lv_at hl 1 rfl) ?_
  refine ck_gr C h FT_valueAt dT_leafFor_3 ?_
  refine lv_iconst (v := 1) hx hb dT_leafFor_6 (by decide) ?_
  refine lv_iload_n hx hb dT_leafFor_7 rfl (lv_at hl 3 rfl) ?_
  obtain ⟨hg, hf⟩ := ck_gd_e hf
  refine ck_si C h (show sh_C[37]? = some (.inr (0, 32)) from rfl) hg dT_leafFor_8 (fun H locs h => ?_)
  refine lv_iconst (v := 0) hx hb dT_leafFor_9 (by decide) ?_
  refine lv_istore (lv' := [(4, .int (0 : Int32)), (3, .int (0 : Int32)), (0, .ref (ad 5)), (1, .ref (ad 3)), (2, .int x2)]) hx hb dT_leafFor_10 hl (by decide) rfl (fun ls hl => ?_)
  exact BT_leafFor_12 C hret  4096 _ _ _ _ _ _ h (lv_sub hl [2, 3, 1, 0] rfl) hf
def fT_lastBranch (x1 : Int32) (st : ck_S) : Option (Int32 × ck_S) := (ck_b (fT_has x1 st) fun v2 st1 => (if v2 = 0 then (some (x1, st1)) else (ck_gd x1 60 (ck_gd x1 60 (some ((((st1 33 (x1).toNatClampNeg) + (st1 34 (x1).toNatClampNeg)) - (1 : Int32)), st1))))))
set_option maxRecDepth 100000 in
set_option maxHeartbeats 4000000 in
theorem cT_lastBranch (l : Launch) (D : va_G) (cA : Nat → ClassId) (ad : Nat → Nat) {x1 : Int32} {st : ck_S} {r0 : Int32} {st0 : ck_S} (hf : fT_lastBranch x1 st = some (r0, st0)) : Met l yT_lastBranch (.code yT_lastBranch bT_lastBranch 2 (some .int) :: ck_T) (ck_R 1) (va_Pc [.ref (ad 5), .int x1] (ck_P sh_C cm_cl D cA ad st)) (va_Qi (fun a u => a = r0 ∧ u = st0) (ck_P sh_C cm_cl D cA ad) (ck_A ad sh_C.length)) 0 0 (ck_A ad sh_C.length) := by
  refine ck_met_i (own := R_T) (by decide +kernel) rfl (Nat.le_of_ble_eq_true rfl) (fun p e R s m args below meth c H0 Q ls C hret h hl => ?_)
  have C1 := C
  obtain ⟨hx, hb, hml, hown, hts, hK, hlv, hlo⟩ := C1
  have hl : lv_has ls 2 [(0, .ref (ad 5)), (1, .int x1)] := hl
  unfold fT_lastBranch at hf
  refine lv_aload_n hx hb dT_lastBranch_0 rfl (lv_at hl 0 rfl) ?_
  refine lv_iload_n hx hb dT_lastBranch_1 rfl (lv_at hl 1 rfl) ?_
  obtain ⟨v2, st1, hc, hf⟩ := ck_b_e hf
  refine ck_vi (As := [.int x1]) (rest := []) (q := 5) C h hl CT_T_has sT_has q_T (cT_has l D cA ad hc) (Nat.le_of_ble_eq_true rfl) rfl rfl (Nat.le_of_ble_eq_true rfl) dT_lastBranch_2 (fun H locs h => ?_)
  refine lv_if_eq (tgt := 26) hx hb dT_lastBranch_5 rfl (fun hq => ?_) (fun hq => ?_)
  · have hf := ck_t hq hf
    refine lv_iload_n hx hb dT_lastBranch_26 rfl (lv_at hl 1 rfl) ?_
    exact ck_ri hf hret h dT_lastBranch_27
  · have hf := ck_f hq hf
    refine lv_aload_n hx hb dT_lastBranch_8 rfl (lv_at hl 0 rfl) ?_
    refine ck_gr C h FT_firstBranch dT_lastBranch_9 ?_
    refine lv_iload_n hx hb dT_lastBranch_12 rfl (lv_at hl 1 rfl) ?_
    obtain ⟨hg, hf⟩ := ck_gd_e hf
    refine ck_ai (x := (st1 33 (x1).toNatClampNeg)) C h (show sh_C[33]? = some (.inr (0, 60)) from rfl) hg rfl dT_lastBranch_13 ?_
    refine lv_aload_n hx hb dT_lastBranch_14 rfl (lv_at hl 0 rfl) ?_
    refine ck_gr C h FT_branchCount dT_lastBranch_15 ?_
    refine lv_iload_n hx hb dT_lastBranch_18 rfl (lv_at hl 1 rfl) ?_
    obtain ⟨hg, hf⟩ := ck_gd_e hf
    refine ck_ai (x := (st1 34 (x1).toNatClampNeg)) C h (show sh_C[34]? = some (.inr (0, 60)) from rfl) hg rfl dT_lastBranch_19 ?_
    refine lv_iadd hx hb dT_lastBranch_20 ?_
    refine lv_iconst (v := 1) hx hb dT_lastBranch_21 (by decide) ?_
    refine lv_isub hx hb dT_lastBranch_22 ?_
    refine lv_goto (tgt := 27) hx hb dT_lastBranch_23 rfl ?_
    exact ck_ri hf hret h dT_lastBranch_27
def fT_leastWithoutBranch_l21 : Nat → Int32 → Int32 → Int32 → Int32 → ck_S → Option (Int32 × ck_S)
  | 0, _, _, _, _, _ => none
  | n + 1, x1, x2, x3, x4, st => (if (16 : Int32) ≤ x4 then (some (x3, st)) else (ck_b (fT_branchFor x1 x3 st) fun v2 st1 => (if v2 = x2 then (some (x3, st1)) else (fT_leastWithoutBranch_l21 n x1 x2 (x3 + 1) (x4 + 1) st1))))
set_option maxRecDepth 100000 in
set_option maxHeartbeats 4000000 in
theorem BT_leastWithoutBranch_21 (C : ck_X cm_cl D cA bT_leastWithoutBranch 5 R_T 2 p R s m args c) {r0 : Int32} {st0 : ck_S} (hret : ∀ (pc : Nat) (H : Heap) (locs : List Loc) (ls : Array Slot), decode bT_leastWithoutBranch pc = .ok (.ireturn, 1) → ck_AT sh_C cm_cl D cA ad H0 st0 H locs → W p l e R s m args below meth c H locs 0 0 Q (F0 m pc ls [.int r0])) : ∀ (n : Nat) (x1 : Int32) (x2 : Int32) (x3 : Int32) (x4 : Int32) (st : ck_S) (H : Heap) (locs : List Loc) (ls : Array Slot), ck_AT sh_C cm_cl D cA ad H0 st H locs → lv_has ls 5 [(0, .ref (ad 5)), (1, .int x1), (2, .int x2), (3, .int x3), (4, .int x4)] → fT_leastWithoutBranch_l21  n x1 x2 x3 x4 st = some (r0, st0) → W p l e R s m args below meth c H locs 0 0 Q (F0 m 21 ls []) := by
  have C1 := C
  obtain ⟨hx, hb, hml, hown, hts, hK, hlv, hlo⟩ := C1
  intro n
  induction n with
  | zero => intro _ _ _ _ _ _ _ _ _ _ hf; cases hf
  | succ n ih =>
    intro x1 x2 x3 x4 st H locs ls h hl hf
    rw [fT_leastWithoutBranch_l21] at hf
    refine lv_iload hx hb dT_leastWithoutBranch_21 (lv_at hl 4 rfl) ?_
    refine lv_bipush (v := 16) hx hb dT_leastWithoutBranch_23 (by decide) ?_
    refine lv_icmp_ge (tgt := 47) hx hb dT_leastWithoutBranch_25 rfl (fun hq => ?_) (fun hq => ?_)
    · have hf := ck_t hq hf
      refine lv_iload_n hx hb dT_leastWithoutBranch_47 rfl (lv_at hl 3 rfl) ?_
      exact ck_ri hf hret h dT_leastWithoutBranch_48
    · have hf := ck_f hq hf
      refine lv_aload_n hx hb dT_leastWithoutBranch_28 rfl (lv_at hl 0 rfl) ?_
      refine lv_iload_n hx hb dT_leastWithoutBranch_29 rfl (lv_at hl 1 rfl) ?_
      refine lv_iload_n hx hb dT_leastWithoutBranch_30 rfl (lv_at hl 3 rfl) ?_
      obtain ⟨v2, st1, hc, hf⟩ := ck_b_e hf
      refine ck_vi (As := [.int x1, .int x3]) (rest := []) (q := 5) C h hl CT_T_branchFor sT_branchFor q_T (cT_branchFor l D cA ad hc) (Nat.le_of_ble_eq_true rfl) rfl rfl (Nat.le_of_ble_eq_true rfl) dT_leastWithoutBranch_31 (fun H locs h => ?_)
      refine lv_iload_n hx hb dT_leastWithoutBranch_34 rfl (lv_at hl 2 rfl) ?_
      refine lv_icmp_eq (tgt := 47) hx hb dT_leastWithoutBranch_35 rfl (fun hq => ?_) (fun hq => ?_)
      · have hf := ck_t hq hf
        refine lv_iload_n hx hb dT_leastWithoutBranch_47 rfl (lv_at hl 3 rfl) ?_
        exact ck_ri hf hret h dT_leastWithoutBranch_48
      · have hf := ck_f hq hf
        refine lv_iinc (k := 3) (v := (x3 + 1)) (lv' := [(3, .int (x3 + 1)), (0, .ref (ad 5)), (1, .int x1), (2, .int x2), (4, .int x4)]) hx hb dT_leastWithoutBranch_38 hl rfl rfl (by decide) rfl (fun ls hl => ?_)
        refine lv_iinc (k := 4) (v := (x4 + 1)) (lv' := [(4, .int (x4 + 1)), (3, .int (x3 + 1)), (0, .ref (ad 5)), (1, .int x1), (2, .int x2)]) hx hb dT_leastWithoutBranch_41 hl rfl rfl (by decide) rfl (fun ls hl => ?_)
        refine lv_goto (tgt := 21) hx hb dT_leastWithoutBranch_44 rfl ?_
        exact ih _ _ _ _ _ _ _ _ h (lv_sub hl [2, 3, 4, 1, 0] rfl) hf
def fT_leastWithoutBranch (x1 : Int32) (st : ck_S) : Option (Int32 × ck_S) := (ck_b (fT_has x1 st) fun v2 st1 => (if v2 = 0 then (some ((0 : Int32), st1)) else (ck_b (fT_lastBranch x1 st1) fun v4 st3 => (fT_leastWithoutBranch_l21  4096 x1 v4 (0 : Int32) (0 : Int32) st3))))
set_option maxRecDepth 100000 in
set_option maxHeartbeats 4000000 in
theorem cT_leastWithoutBranch (l : Launch) (D : va_G) (cA : Nat → ClassId) (ad : Nat → Nat) {x1 : Int32} {st : ck_S} {r0 : Int32} {st0 : ck_S} (hf : fT_leastWithoutBranch x1 st = some (r0, st0)) : Met l yT_leastWithoutBranch (.code yT_leastWithoutBranch bT_leastWithoutBranch 5 (some .int) :: ck_T) (ck_R 2) (va_Pc [.ref (ad 5), .int x1] (ck_P sh_C cm_cl D cA ad st)) (va_Qi (fun a u => a = r0 ∧ u = st0) (ck_P sh_C cm_cl D cA ad) (ck_A ad sh_C.length)) 0 0 (ck_A ad sh_C.length) := by
  refine ck_met_i (own := R_T) (by decide +kernel) rfl (Nat.le_of_ble_eq_true rfl) (fun p e R s m args below meth c H0 Q ls C hret h hl => ?_)
  have C1 := C
  obtain ⟨hx, hb, hml, hown, hts, hK, hlv, hlo⟩ := C1
  have hl : lv_has ls 5 [(0, .ref (ad 5)), (1, .int x1)] := hl
  unfold fT_leastWithoutBranch at hf
  refine lv_aload_n hx hb dT_leastWithoutBranch_0 rfl (lv_at hl 0 rfl) ?_
  refine lv_iload_n hx hb dT_leastWithoutBranch_1 rfl (lv_at hl 1 rfl) ?_
  obtain ⟨v2, st1, hc, hf⟩ := ck_b_e hf
  refine ck_vi (As := [.int x1]) (rest := []) (q := 5) C h hl CT_T_has sT_has q_T (cT_has l D cA ad hc) (Nat.le_of_ble_eq_true rfl) rfl rfl (Nat.le_of_ble_eq_true rfl) dT_leastWithoutBranch_2 (fun H locs h => ?_)
  refine lv_if_ne (tgt := 10) hx hb dT_leastWithoutBranch_5 rfl (fun hq => ?_) (fun hq => ?_)
  · have hf := ck_f hq hf
    refine lv_aload_n hx hb dT_leastWithoutBranch_10 rfl (lv_at hl 0 rfl) ?_
    refine lv_iload_n hx hb dT_leastWithoutBranch_11 rfl (lv_at hl 1 rfl) ?_
    obtain ⟨v4, st3, hc, hf⟩ := ck_b_e hf
    refine ck_vi (As := [.int x1]) (rest := []) (q := 5) C h hl CT_T_lastBranch sT_lastBranch q_T (cT_lastBranch l D cA ad hc) (Nat.le_of_ble_eq_true rfl) rfl rfl (Nat.le_of_ble_eq_true rfl) dT_leastWithoutBranch_12 (fun H locs h => ?_)
    refine lv_istore_n (lv' := [(2, .int v4), (0, .ref (ad 5)), (1, .int x1)]) hx hb dT_leastWithoutBranch_15 rfl hl (by decide) rfl (fun ls hl => ?_)
    refine lv_iconst (v := 0) hx hb dT_leastWithoutBranch_16 (by decide) ?_
    refine lv_istore_n (lv' := [(3, .int (0 : Int32)), (2, .int v4), (0, .ref (ad 5)), (1, .int x1)]) hx hb dT_leastWithoutBranch_17 rfl hl (by decide) rfl (fun ls hl => ?_)
    refine lv_iconst (v := 0) hx hb dT_leastWithoutBranch_18 (by decide) ?_
    refine lv_istore (lv' := [(4, .int (0 : Int32)), (3, .int (0 : Int32)), (2, .int v4), (0, .ref (ad 5)), (1, .int x1)]) hx hb dT_leastWithoutBranch_19 hl (by decide) rfl (fun ls hl => ?_)
    exact BT_leastWithoutBranch_21 C hret  4096 _ _ _ _ _ _ _ _ h (lv_sub hl [3, 4, 2, 1, 0] rfl) hf
  · have hf := ck_t hq hf
    refine lv_iconst (v := 0) hx hb dT_leastWithoutBranch_8 (by decide) ?_
    exact ck_ri hf hret h dT_leastWithoutBranch_9
end Stree
