theorem dG_length_0 : decode bG_length 0 = .ok (.aload_n 0, 1) := by decide +kernel
theorem dG_length_1 : decode bG_length 1 = .ok (.getfield 24, 3) := by decide +kernel
theorem dG_length_4 : decode bG_length 4 = .ok (.ireturn, 1) := by decide +kernel
theorem dG_has_0 : decode bG_has 0 = .ok (.iload_n 1, 1) := by decide +kernel
theorem dG_has_1 : decode bG_has 1 = .ok (.ifCond .lt 15, 3) := by decide +kernel
theorem dG_has_4 : decode bG_has 4 = .ok (.iload_n 1, 1) := by decide +kernel
theorem dG_has_5 : decode bG_has 5 = .ok (.aload_n 0, 1) := by decide +kernel
theorem dG_has_6 : decode bG_has 6 = .ok (.getfield 24, 3) := by decide +kernel
theorem dG_has_9 : decode bG_has 9 = .ok (.if_icmp .ge 7, 3) := by decide +kernel
theorem dG_has_12 : decode bG_has 12 = .ok (.iconst 1, 1) := by decide +kernel
theorem dG_has_13 : decode bG_has 13 = .ok (.goto 4, 3) := by decide +kernel
theorem dG_has_16 : decode bG_has 16 = .ok (.iconst 0, 1) := by decide +kernel
theorem dG_has_17 : decode bG_has 17 = .ok (.ireturn, 1) := by decide +kernel
theorem dG_kindOf_0 : decode bG_kindOf 0 = .ok (.aload_n 0, 1) := by decide +kernel
theorem dG_kindOf_1 : decode bG_kindOf 1 = .ok (.iload_n 1, 1) := by decide +kernel
theorem dG_kindOf_2 : decode bG_kindOf 2 = .ok (.invokevirtual 36, 3) := by decide +kernel
theorem dG_kindOf_5 : decode bG_kindOf 5 = .ok (.ifCond .eq 12, 3) := by decide +kernel
theorem dG_kindOf_8 : decode bG_kindOf 8 = .ok (.aload_n 0, 1) := by decide +kernel
theorem dG_kindOf_9 : decode bG_kindOf 9 = .ok (.getfield 18, 3) := by decide +kernel
theorem dG_kindOf_12 : decode bG_kindOf 12 = .ok (.iload_n 1, 1) := by decide +kernel
theorem dG_kindOf_13 : decode bG_kindOf 13 = .ok (.iaload, 1) := by decide +kernel
theorem dG_kindOf_14 : decode bG_kindOf 14 = .ok (.goto 4, 3) := by decide +kernel
theorem dG_kindOf_17 : decode bG_kindOf 17 = .ok (.iconst 0, 1) := by decide +kernel
theorem dG_kindOf_18 : decode bG_kindOf 18 = .ok (.ireturn, 1) := by decide +kernel
theorem dG_symbolOf_0 : decode bG_symbolOf 0 = .ok (.aload_n 0, 1) := by decide +kernel
theorem dG_symbolOf_1 : decode bG_symbolOf 1 = .ok (.iload_n 1, 1) := by decide +kernel
theorem dG_symbolOf_2 : decode bG_symbolOf 2 = .ok (.invokevirtual 36, 3) := by decide +kernel
theorem dG_symbolOf_5 : decode bG_symbolOf 5 = .ok (.ifCond .eq 12, 3) := by decide +kernel
theorem dG_symbolOf_8 : decode bG_symbolOf 8 = .ok (.aload_n 0, 1) := by decide +kernel
theorem dG_symbolOf_9 : decode bG_symbolOf 9 = .ok (.getfield 21, 3) := by decide +kernel
theorem dG_symbolOf_12 : decode bG_symbolOf 12 = .ok (.iload_n 1, 1) := by decide +kernel
theorem dG_symbolOf_13 : decode bG_symbolOf 13 = .ok (.iaload, 1) := by decide +kernel
theorem dG_symbolOf_14 : decode bG_symbolOf 14 = .ok (.goto 4, 3) := by decide +kernel
theorem dG_symbolOf_17 : decode bG_symbolOf 17 = .ok (.iconst 0, 1) := by decide +kernel
theorem dG_symbolOf_18 : decode bG_symbolOf 18 = .ok (.ireturn, 1) := by decide +kernel
theorem dG_noteBranch_0 : decode bG_noteBranch 0 = .ok (.aload_n 0, 1) := by decide +kernel
theorem dG_noteBranch_1 : decode bG_noteBranch 1 = .ok (.getfield 32, 3) := by decide +kernel
theorem dG_noteBranch_4 : decode bG_noteBranch 4 = .ok (.iload_n 1, 1) := by decide +kernel
theorem dG_noteBranch_5 : decode bG_noteBranch 5 = .ok (.invokevirtual 59, 3) := by decide +kernel
theorem dG_noteBranch_8 : decode bG_noteBranch 8 = .ok (.istore_n 3, 1) := by decide +kernel
theorem dG_noteBranch_9 : decode bG_noteBranch 9 = .ok (.aload_n 0, 1) := by decide +kernel
theorem dG_noteBranch_10 : decode bG_noteBranch 10 = .ok (.getfield 32, 3) := by decide +kernel
theorem dG_noteBranch_13 : decode bG_noteBranch 13 = .ok (.iload_n 1, 1) := by decide +kernel
theorem dG_noteBranch_14 : decode bG_noteBranch 14 = .ok (.invokevirtual 70, 3) := by decide +kernel
theorem dG_noteBranch_17 : decode bG_noteBranch 17 = .ok (.ifCond .ne 7, 3) := by decide +kernel
theorem dG_noteBranch_20 : decode bG_noteBranch 20 = .ok (.iconst 1, 1) := by decide +kernel
theorem dG_noteBranch_21 : decode bG_noteBranch 21 = .ok (.goto 4, 3) := by decide +kernel
theorem dG_noteBranch_24 : decode bG_noteBranch 24 = .ok (.iconst 0, 1) := by decide +kernel
theorem dG_noteBranch_25 : decode bG_noteBranch 25 = .ok (.istore 4, 2) := by decide +kernel
theorem dG_noteBranch_27 : decode bG_noteBranch 27 = .ok (.iload 4, 2) := by decide +kernel
theorem dG_noteBranch_29 : decode bG_noteBranch 29 = .ok (.ifCond .eq 19, 3) := by decide +kernel
theorem dG_noteBranch_32 : decode bG_noteBranch 32 = .ok (.iload_n 2, 1) := by decide +kernel
theorem dG_noteBranch_33 : decode bG_noteBranch 33 = .ok (.aload_n 0, 1) := by decide +kernel
theorem dG_noteBranch_34 : decode bG_noteBranch 34 = .ok (.getfield 32, 3) := by decide +kernel
theorem dG_noteBranch_37 : decode bG_noteBranch 37 = .ok (.iload_n 1, 1) := by decide +kernel
theorem dG_noteBranch_38 : decode bG_noteBranch 38 = .ok (.invokevirtual 73, 3) := by decide +kernel
theorem dG_noteBranch_41 : decode bG_noteBranch 41 = .ok (.if_icmp .ne 7, 3) := by decide +kernel
theorem dG_noteBranch_44 : decode bG_noteBranch 44 = .ok (.iconst 1, 1) := by decide +kernel
theorem dG_noteBranch_45 : decode bG_noteBranch 45 = .ok (.goto 4, 3) := by decide +kernel
theorem dG_noteBranch_48 : decode bG_noteBranch 48 = .ok (.iconst 0, 1) := by decide +kernel
theorem dG_noteBranch_49 : decode bG_noteBranch 49 = .ok (.istore 5, 2) := by decide +kernel
theorem dG_noteBranch_51 : decode bG_noteBranch 51 = .ok (.aload_n 0, 1) := by decide +kernel
theorem dG_noteBranch_52 : decode bG_noteBranch 52 = .ok (.getfield 9, 3) := by decide +kernel
theorem dG_noteBranch_55 : decode bG_noteBranch 55 = .ok (.iload_n 3, 1) := by decide +kernel
theorem dG_noteBranch_56 : decode bG_noteBranch 56 = .ok (.iload 4, 2) := by decide +kernel
theorem dG_noteBranch_58 : decode bG_noteBranch 58 = .ok (.ifCond .eq 7, 3) := by decide +kernel
theorem dG_noteBranch_61 : decode bG_noteBranch 61 = .ok (.iconst 1, 1) := by decide +kernel
theorem dG_noteBranch_62 : decode bG_noteBranch 62 = .ok (.goto 4, 3) := by decide +kernel
theorem dG_noteBranch_65 : decode bG_noteBranch 65 = .ok (.iconst 2, 1) := by decide +kernel
theorem dG_noteBranch_66 : decode bG_noteBranch 66 = .ok (.iastore, 1) := by decide +kernel
theorem dG_noteBranch_67 : decode bG_noteBranch 67 = .ok (.aload_n 0, 1) := by decide +kernel
theorem dG_noteBranch_68 : decode bG_noteBranch 68 = .ok (.getfield 15, 3) := by decide +kernel
theorem dG_noteBranch_71 : decode bG_noteBranch 71 = .ok (.iload_n 3, 1) := by decide +kernel
theorem dG_noteBranch_72 : decode bG_noteBranch 72 = .ok (.iload 5, 2) := by decide +kernel
theorem dG_noteBranch_74 : decode bG_noteBranch 74 = .ok (.ifCond .eq 14, 3) := by decide +kernel
theorem dG_noteBranch_77 : decode bG_noteBranch 77 = .ok (.aload_n 0, 1) := by decide +kernel
theorem dG_noteBranch_78 : decode bG_noteBranch 78 = .ok (.getfield 32, 3) := by decide +kernel
theorem dG_noteBranch_81 : decode bG_noteBranch 81 = .ok (.iload_n 1, 1) := by decide +kernel
theorem dG_noteBranch_82 : decode bG_noteBranch 82 = .ok (.invokevirtual 76, 3) := by decide +kernel
theorem dG_noteBranch_85 : decode bG_noteBranch 85 = .ok (.goto 11, 3) := by decide +kernel
theorem dG_noteBranch_88 : decode bG_noteBranch 88 = .ok (.aload_n 0, 1) := by decide +kernel
theorem dG_noteBranch_89 : decode bG_noteBranch 89 = .ok (.getfield 32, 3) := by decide +kernel
theorem dG_noteBranch_92 : decode bG_noteBranch 92 = .ok (.iload_n 2, 1) := by decide +kernel
theorem dG_noteBranch_93 : decode bG_noteBranch 93 = .ok (.invokevirtual 79, 3) := by decide +kernel
theorem dG_noteBranch_96 : decode bG_noteBranch 96 = .ok (.iastore, 1) := by decide +kernel
theorem dG_noteBranch_97 : decode bG_noteBranch 97 = .ok (.return_, 1) := by decide +kernel
theorem dG_followWayToFail_0 : decode bG_followWayToFail 0 = .ok (.iconst 0, 1) := by decide +kernel
theorem dG_followWayToFail_1 : decode bG_followWayToFail 1 = .ok (.istore_n 1, 1) := by decide +kernel
theorem dG_followWayToFail_2 : decode bG_followWayToFail 2 = .ok (.iconst 0, 1) := by decide +kernel
theorem dG_followWayToFail_3 : decode bG_followWayToFail 3 = .ok (.istore_n 2, 1) := by decide +kernel
theorem dG_followWayToFail_4 : decode bG_followWayToFail 4 = .ok (.iload_n 2, 1) := by decide +kernel
theorem dG_followWayToFail_5 : decode bG_followWayToFail 5 = .ok (.bipush 16, 2) := by decide +kernel
theorem dG_followWayToFail_7 : decode bG_followWayToFail 7 = .ok (.if_icmp .ge 37, 3) := by decide +kernel
theorem dG_followWayToFail_10 : decode bG_followWayToFail 10 = .ok (.aload_n 0, 1) := by decide +kernel
theorem dG_followWayToFail_11 : decode bG_followWayToFail 11 = .ok (.getfield 32, 3) := by decide +kernel
theorem dG_followWayToFail_14 : decode bG_followWayToFail 14 = .ok (.iload_n 1, 1) := by decide +kernel
theorem dG_followWayToFail_15 : decode bG_followWayToFail 15 = .ok (.invokevirtual 59, 3) := by decide +kernel
theorem dG_followWayToFail_18 : decode bG_followWayToFail 18 = .ok (.ifCond .eq 26, 3) := by decide +kernel
theorem dG_followWayToFail_21 : decode bG_followWayToFail 21 = .ok (.aload_n 0, 1) := by decide +kernel
theorem dG_followWayToFail_22 : decode bG_followWayToFail 22 = .ok (.getfield 32, 3) := by decide +kernel
theorem dG_followWayToFail_25 : decode bG_followWayToFail 25 = .ok (.iload_n 1, 1) := by decide +kernel
theorem dG_followWayToFail_26 : decode bG_followWayToFail 26 = .ok (.invokevirtual 63, 3) := by decide +kernel
theorem dG_followWayToFail_29 : decode bG_followWayToFail 29 = .ok (.istore_n 3, 1) := by decide +kernel
theorem dG_followWayToFail_30 : decode bG_followWayToFail 30 = .ok (.aload_n 0, 1) := by decide +kernel
theorem dG_followWayToFail_31 : decode bG_followWayToFail 31 = .ok (.iload_n 1, 1) := by decide +kernel
theorem dG_followWayToFail_32 : decode bG_followWayToFail 32 = .ok (.iload_n 3, 1) := by decide +kernel
theorem dG_followWayToFail_33 : decode bG_followWayToFail 33 = .ok (.invokevirtual 66, 3) := by decide +kernel
theorem dG_followWayToFail_36 : decode bG_followWayToFail 36 = .ok (.iload_n 3, 1) := by decide +kernel
theorem dG_followWayToFail_37 : decode bG_followWayToFail 37 = .ok (.istore_n 1, 1) := by decide +kernel
theorem dG_followWayToFail_38 : decode bG_followWayToFail 38 = .ok (.iinc 2 1, 3) := by decide +kernel
theorem dG_followWayToFail_41 : decode bG_followWayToFail 41 = .ok (.goto (-37), 3) := by decide +kernel
theorem dG_followWayToFail_44 : decode bG_followWayToFail 44 = .ok (.return_, 1) := by decide +kernel
theorem dG_write_0 : decode bG_write 0 = .ok (.iload_n 1, 1) := by decide +kernel
theorem dG_write_1 : decode bG_write 1 = .ok (.bipush 32, 2) := by decide +kernel
theorem dG_write_3 : decode bG_write 3 = .ok (.if_icmp .ge 12, 3) := by decide +kernel
theorem dG_write_6 : decode bG_write 6 = .ok (.aload_n 0, 1) := by decide +kernel
theorem dG_write_7 : decode bG_write 7 = .ok (.getfield 24, 3) := by decide +kernel
theorem dG_write_10 : decode bG_write 10 = .ok (.bipush 32, 2) := by decide +kernel
theorem dG_write_12 : decode bG_write 12 = .ok (.if_icmp .lt 4, 3) := by decide +kernel
theorem dG_write_15 : decode bG_write 15 = .ok (.return_, 1) := by decide +kernel
theorem dG_write_16 : decode bG_write 16 = .ok (.aload_n 0, 1) := by decide +kernel
theorem dG_write_17 : decode bG_write 17 = .ok (.getfield 18, 3) := by decide +kernel
theorem dG_write_20 : decode bG_write 20 = .ok (.aload_n 0, 1) := by decide +kernel
theorem dG_write_21 : decode bG_write 21 = .ok (.getfield 24, 3) := by decide +kernel
theorem dG_write_24 : decode bG_write 24 = .ok (.aload_n 0, 1) := by decide +kernel
theorem dG_write_25 : decode bG_write 25 = .ok (.getfield 9, 3) := by decide +kernel
theorem dG_write_28 : decode bG_write 28 = .ok (.iload_n 1, 1) := by decide +kernel
theorem dG_write_29 : decode bG_write 29 = .ok (.iaload, 1) := by decide +kernel
theorem dG_write_30 : decode bG_write 30 = .ok (.iastore, 1) := by decide +kernel
theorem dG_write_31 : decode bG_write 31 = .ok (.aload_n 0, 1) := by decide +kernel
theorem dG_write_32 : decode bG_write 32 = .ok (.getfield 21, 3) := by decide +kernel
theorem dG_write_35 : decode bG_write 35 = .ok (.aload_n 0, 1) := by decide +kernel
theorem dG_write_36 : decode bG_write 36 = .ok (.getfield 24, 3) := by decide +kernel
theorem dG_write_39 : decode bG_write 39 = .ok (.aload_n 0, 1) := by decide +kernel
theorem dG_write_40 : decode bG_write 40 = .ok (.getfield 15, 3) := by decide +kernel
theorem dG_write_43 : decode bG_write 43 = .ok (.iload_n 1, 1) := by decide +kernel
theorem dG_write_44 : decode bG_write 44 = .ok (.iaload, 1) := by decide +kernel
theorem dG_write_45 : decode bG_write 45 = .ok (.iastore, 1) := by decide +kernel
theorem dG_write_46 : decode bG_write 46 = .ok (.aload_n 0, 1) := by decide +kernel
theorem dG_write_47 : decode bG_write 47 = .ok (.dup, 1) := by decide +kernel
theorem dG_write_48 : decode bG_write 48 = .ok (.getfield 24, 3) := by decide +kernel
theorem dG_write_51 : decode bG_write 51 = .ok (.iconst 1, 1) := by decide +kernel
theorem dG_write_52 : decode bG_write 52 = .ok (.iadd, 1) := by decide +kernel
theorem dG_write_53 : decode bG_write 53 = .ok (.putfield 24, 3) := by decide +kernel
theorem dG_write_56 : decode bG_write 56 = .ok (.aload_n 0, 1) := by decide +kernel
theorem dG_write_57 : decode bG_write 57 = .ok (.getfield 9, 3) := by decide +kernel
theorem dG_write_60 : decode bG_write 60 = .ok (.iload_n 1, 1) := by decide +kernel
theorem dG_write_61 : decode bG_write 61 = .ok (.iaload, 1) := by decide +kernel
theorem dG_write_62 : decode bG_write 62 = .ok (.iconst 2, 1) := by decide +kernel
theorem dG_write_63 : decode bG_write 63 = .ok (.if_icmp .eq 4, 3) := by decide +kernel
theorem dG_write_66 : decode bG_write 66 = .ok (.return_, 1) := by decide +kernel
theorem dG_write_67 : decode bG_write 67 = .ok (.aload_n 0, 1) := by decide +kernel
theorem dG_write_68 : decode bG_write 68 = .ok (.getfield 28, 3) := by decide +kernel
theorem dG_write_71 : decode bG_write 71 = .ok (.aload_n 0, 1) := by decide +kernel
theorem dG_write_72 : decode bG_write 72 = .ok (.getfield 15, 3) := by decide +kernel
theorem dG_write_75 : decode bG_write 75 = .ok (.iload_n 1, 1) := by decide +kernel
theorem dG_write_76 : decode bG_write 76 = .ok (.iaload, 1) := by decide +kernel
theorem dG_write_77 : decode bG_write 77 = .ok (.invokevirtual 82, 3) := by decide +kernel
theorem dG_write_80 : decode bG_write 80 = .ok (.iconst (-1), 1) := by decide +kernel
theorem dG_write_81 : decode bG_write 81 = .ok (.if_icmp .eq 10, 3) := by decide +kernel
theorem dG_write_84 : decode bG_write 84 = .ok (.aload_n 0, 1) := by decide +kernel
theorem dG_write_85 : decode bG_write 85 = .ok (.iconst 2, 1) := by decide +kernel
theorem dG_write_86 : decode bG_write 86 = .ok (.iload_n 1, 1) := by decide +kernel
theorem dG_write_87 : decode bG_write 87 = .ok (.imul, 1) := by decide +kernel
theorem dG_write_88 : decode bG_write 88 = .ok (.invokevirtual 55, 3) := by decide +kernel
theorem dG_write_91 : decode bG_write 91 = .ok (.aload_n 0, 1) := by decide +kernel
theorem dG_write_92 : decode bG_write 92 = .ok (.getfield 28, 3) := by decide +kernel
theorem dG_write_95 : decode bG_write 95 = .ok (.aload_n 0, 1) := by decide +kernel
theorem dG_write_96 : decode bG_write 96 = .ok (.getfield 15, 3) := by decide +kernel
theorem dG_write_99 : decode bG_write 99 = .ok (.iload_n 1, 1) := by decide +kernel
theorem dG_write_100 : decode bG_write 100 = .ok (.iaload, 1) := by decide +kernel
theorem dG_write_101 : decode bG_write 101 = .ok (.invokevirtual 87, 3) := by decide +kernel
theorem dG_write_104 : decode bG_write 104 = .ok (.iconst (-1), 1) := by decide +kernel
theorem dG_write_105 : decode bG_write 105 = .ok (.if_icmp .eq 12, 3) := by decide +kernel
theorem dG_write_108 : decode bG_write 108 = .ok (.aload_n 0, 1) := by decide +kernel
theorem dG_write_109 : decode bG_write 109 = .ok (.iconst 2, 1) := by decide +kernel
theorem dG_write_110 : decode bG_write 110 = .ok (.iload_n 1, 1) := by decide +kernel
theorem dG_write_111 : decode bG_write 111 = .ok (.imul, 1) := by decide +kernel
theorem dG_write_112 : decode bG_write 112 = .ok (.iconst 1, 1) := by decide +kernel
theorem dG_write_113 : decode bG_write 113 = .ok (.iadd, 1) := by decide +kernel
theorem dG_write_114 : decode bG_write 114 = .ok (.invokevirtual 55, 3) := by decide +kernel
theorem dG_write_117 : decode bG_write 117 = .ok (.return_, 1) := by decide +kernel
theorem dG_readFromTree_0 : decode bG_readFromTree 0 = .ok (.aload_n 0, 1) := by decide +kernel
theorem dG_readFromTree_1 : decode bG_readFromTree 1 = .ok (.iconst 0, 1) := by decide +kernel
theorem dG_readFromTree_2 : decode bG_readFromTree 2 = .ok (.putfield 24, 3) := by decide +kernel
theorem dG_readFromTree_5 : decode bG_readFromTree 5 = .ok (.aload_n 0, 1) := by decide +kernel
theorem dG_readFromTree_6 : decode bG_readFromTree 6 = .ok (.getfield 32, 3) := by decide +kernel
theorem dG_readFromTree_9 : decode bG_readFromTree 9 = .ok (.invokevirtual 40, 3) := by decide +kernel
theorem dG_readFromTree_12 : decode bG_readFromTree 12 = .ok (.ifCond .eq 28, 3) := by decide +kernel
theorem dG_readFromTree_15 : decode bG_readFromTree 15 = .ok (.aload_n 0, 1) := by decide +kernel
theorem dG_readFromTree_16 : decode bG_readFromTree 16 = .ok (.getfield 9, 3) := by decide +kernel
theorem dG_readFromTree_19 : decode bG_readFromTree 19 = .ok (.iconst 0, 1) := by decide +kernel
theorem dG_readFromTree_20 : decode bG_readFromTree 20 = .ok (.invokestatic 46, 3) := by decide +kernel
theorem dG_readFromTree_23 : decode bG_readFromTree 23 = .ok (.aload_n 0, 1) := by decide +kernel
theorem dG_readFromTree_24 : decode bG_readFromTree 24 = .ok (.getfield 15, 3) := by decide +kernel
theorem dG_readFromTree_27 : decode bG_readFromTree 27 = .ok (.iconst 0, 1) := by decide +kernel
theorem dG_readFromTree_28 : decode bG_readFromTree 28 = .ok (.invokestatic 46, 3) := by decide +kernel
theorem dG_readFromTree_31 : decode bG_readFromTree 31 = .ok (.aload_n 0, 1) := by decide +kernel
theorem dG_readFromTree_32 : decode bG_readFromTree 32 = .ok (.invokevirtual 52, 3) := by decide +kernel
theorem dG_readFromTree_35 : decode bG_readFromTree 35 = .ok (.aload_n 0, 1) := by decide +kernel
theorem dG_readFromTree_36 : decode bG_readFromTree 36 = .ok (.iconst 1, 1) := by decide +kernel
theorem dG_readFromTree_37 : decode bG_readFromTree 37 = .ok (.invokevirtual 55, 3) := by decide +kernel
theorem dG_readFromTree_40 : decode bG_readFromTree 40 = .ok (.return_, 1) := by decide +kernel
section Switn
variable {p : Program} {l : Launch} {e : Env} {R : Room} {s : State} {m : MethodId} {args : Array Value} {below : List Frame} {meth : Method} {c : Code} {Q : State → Prop} {D : va_G} {cA : Nat → ClassId} {ad : Nat → Nat} {H0 : Heap}
def fG_length (st : ck_S) : Option (Int32 × ck_S) := (some ((st 6 6), st))
set_option maxRecDepth 100000 in
set_option maxHeartbeats 4000000 in
theorem cG_length (l : Launch) (D : va_G) (cA : Nat → ClassId) (ad : Nat → Nat) {st : ck_S} {r0 : Int32} {st0 : ck_S} (hf : fG_length st = some (r0, st0)) : Met l yG_length (.code yG_length bG_length 1 (some .int) :: ck_T) (ck_R 0) (va_Pc [.ref (ad 6)] (ck_P sh_C cm_cl D cA ad st)) (va_Qi (fun a u => a = r0 ∧ u = st0) (ck_P sh_C cm_cl D cA ad) (ck_A ad sh_C.length)) 0 0 (ck_A ad sh_C.length) := by
  refine ck_met_i (own := R_G) (by decide +kernel) rfl (Nat.le_of_ble_eq_true rfl) (fun p e R s m args below meth c H0 Q ls C hret h hl => ?_)
  have C1 := C
  obtain ⟨hx, hb, hml, hown, hts, hK, hlv, hlo⟩ := C1
  have hl : lv_has ls 1 [(0, .ref (ad 6))] := hl
  unfold fG_length at hf
  refine lv_aload_n hx hb dG_length_0 rfl (lv_at hl 0 rfl) ?_
  refine ck_gi (x := (st 6 6)) C h FG_length rfl dG_length_1 ?_
  exact ck_ri hf hret h dG_length_4
def fG_has (x1 : Int32) (st : ck_S) : Option (Int32 × ck_S) := (if x1 < 0 then (some ((0 : Int32), st)) else (if (st 6 6) ≤ x1 then (some ((0 : Int32), st)) else (some ((1 : Int32), st))))
set_option maxRecDepth 100000 in
set_option maxHeartbeats 4000000 in
theorem cG_has (l : Launch) (D : va_G) (cA : Nat → ClassId) (ad : Nat → Nat) {x1 : Int32} {st : ck_S} {r0 : Int32} {st0 : ck_S} (hf : fG_has x1 st = some (r0, st0)) : Met l yG_has (.code yG_has bG_has 2 (some .boolean) :: ck_T) (ck_R 0) (va_Pc [.ref (ad 6), .int x1] (ck_P sh_C cm_cl D cA ad st)) (va_Qi (fun a u => a = r0 ∧ u = st0) (ck_P sh_C cm_cl D cA ad) (ck_A ad sh_C.length)) 0 0 (ck_A ad sh_C.length) := by
  refine ck_met_z (own := R_G) (by decide +kernel) rfl (Nat.le_of_ble_eq_true rfl) (fun p e R s m args below meth c H0 Q ls C hret h hl => ?_)
  have C1 := C
  obtain ⟨hx, hb, hml, hown, hts, hK, hlv, hlo⟩ := C1
  have hl : lv_has ls 2 [(0, .ref (ad 6)), (1, .int x1)] := hl
  unfold fG_has at hf
  refine lv_iload_n hx hb dG_has_0 rfl (lv_at hl 1 rfl) ?_
  refine lv_if_lt (tgt := 16) hx hb dG_has_1 rfl (fun hq => ?_) (fun hq => ?_)
  · have hf := ck_t hq hf
    refine lv_iconst (v := 0) hx hb dG_has_16 (by decide) ?_
    exact ck_rz hf hret ck_z0 h dG_has_17
  · have hf := ck_f hq hf
    refine lv_iload_n hx hb dG_has_4 rfl (lv_at hl 1 rfl) ?_
    refine lv_aload_n hx hb dG_has_5 rfl (lv_at hl 0 rfl) ?_
    refine ck_gi (x := (st 6 6)) C h FG_length rfl dG_has_6 ?_
    refine lv_icmp_ge (tgt := 16) hx hb dG_has_9 rfl (fun hq => ?_) (fun hq => ?_)
    · have hf := ck_t hq hf
      refine lv_iconst (v := 0) hx hb dG_has_16 (by decide) ?_
      exact ck_rz hf hret ck_z0 h dG_has_17
    · have hf := ck_f hq hf
      refine lv_iconst (v := 1) hx hb dG_has_12 (by decide) ?_
      refine lv_goto (tgt := 17) hx hb dG_has_13 rfl ?_
      exact ck_rz hf hret ck_z1 h dG_has_17
def fG_kindOf (x1 : Int32) (st : ck_S) : Option (Int32 × ck_S) := (ck_b (fG_has x1 st) fun v2 st1 => (if v2 = 0 then (some ((0 : Int32), st1)) else (ck_gd x1 32 (some ((st1 40 (x1).toNatClampNeg), st1)))))
set_option maxRecDepth 100000 in
set_option maxHeartbeats 4000000 in
theorem cG_kindOf (l : Launch) (D : va_G) (cA : Nat → ClassId) (ad : Nat → Nat) {x1 : Int32} {st : ck_S} {r0 : Int32} {st0 : ck_S} (hf : fG_kindOf x1 st = some (r0, st0)) : Met l yG_kindOf (.code yG_kindOf bG_kindOf 2 (some .int) :: ck_T) (ck_R 1) (va_Pc [.ref (ad 6), .int x1] (ck_P sh_C cm_cl D cA ad st)) (va_Qi (fun a u => a = r0 ∧ u = st0) (ck_P sh_C cm_cl D cA ad) (ck_A ad sh_C.length)) 0 0 (ck_A ad sh_C.length) := by
  refine ck_met_i (own := R_G) (by decide +kernel) rfl (Nat.le_of_ble_eq_true rfl) (fun p e R s m args below meth c H0 Q ls C hret h hl => ?_)
  have C1 := C
  obtain ⟨hx, hb, hml, hown, hts, hK, hlv, hlo⟩ := C1
  have hl : lv_has ls 2 [(0, .ref (ad 6)), (1, .int x1)] := hl
  unfold fG_kindOf at hf
  refine lv_aload_n hx hb dG_kindOf_0 rfl (lv_at hl 0 rfl) ?_
  refine lv_iload_n hx hb dG_kindOf_1 rfl (lv_at hl 1 rfl) ?_
  obtain ⟨v2, st1, hc, hf⟩ := ck_b_e hf
  refine ck_vi (As := [.int x1]) (rest := []) (q := 6) C h hl CG_G_has sG_has q_G (cG_has l D cA ad hc) (Nat.le_of_ble_eq_true rfl) rfl rfl (Nat.le_of_ble_eq_true rfl) dG_kindOf_2 (fun H locs h => ?_)
  refine lv_if_eq (tgt := 17) hx hb dG_kindOf_5 rfl (fun hq => ?_) (fun hq => ?_)
  · have hf := ck_t hq hf
    refine lv_iconst (v := 0) hx hb dG_kindOf_17 (by decide) ?_
    exact ck_ri hf hret h dG_kindOf_18
  · have hf := ck_f hq hf
    refine lv_aload_n hx hb dG_kindOf_8 rfl (lv_at hl 0 rfl) ?_
    refine ck_gr C h FG_kind dG_kindOf_9 ?_
    refine lv_iload_n hx hb dG_kindOf_12 rfl (lv_at hl 1 rfl) ?_
    obtain ⟨hg, hf⟩ := ck_gd_e hf
    refine ck_ai (x := (st1 40 (x1).toNatClampNeg)) C h (show sh_C[40]? = some (.inr (0, 32)) from rfl) hg rfl dG_kindOf_13 ?_
    refine lv_goto (tgt := 18) hx hb dG_kindOf_14 rfl ?_
    exact ck_ri hf hret h dG_kindOf_18
def fG_symbolOf (x1 : Int32) (st : ck_S) : Option (Int32 × ck_S) := (ck_b (fG_has x1 st) fun v2 st1 => (if v2 = 0 then (some ((0 : Int32), st1)) else (ck_gd x1 32 (some ((st1 41 (x1).toNatClampNeg), st1)))))
set_option maxRecDepth 100000 in
set_option maxHeartbeats 4000000 in
theorem cG_symbolOf (l : Launch) (D : va_G) (cA : Nat → ClassId) (ad : Nat → Nat) {x1 : Int32} {st : ck_S} {r0 : Int32} {st0 : ck_S} (hf : fG_symbolOf x1 st = some (r0, st0)) : Met l yG_symbolOf (.code yG_symbolOf bG_symbolOf 2 (some .int) :: ck_T) (ck_R 1) (va_Pc [.ref (ad 6), .int x1] (ck_P sh_C cm_cl D cA ad st)) (va_Qi (fun a u => a = r0 ∧ u = st0) (ck_P sh_C cm_cl D cA ad) (ck_A ad sh_C.length)) 0 0 (ck_A ad sh_C.length) := by
  refine ck_met_i (own := R_G) (by decide +kernel) rfl (Nat.le_of_ble_eq_true rfl) (fun p e R s m args below meth c H0 Q ls C hret h hl => ?_)
  have C1 := C
  obtain ⟨hx, hb, hml, hown, hts, hK, hlv, hlo⟩ := C1
  have hl : lv_has ls 2 [(0, .ref (ad 6)), (1, .int x1)] := hl
  unfold fG_symbolOf at hf
  refine lv_aload_n hx hb dG_symbolOf_0 rfl (lv_at hl 0 rfl) ?_
  refine lv_iload_n hx hb dG_symbolOf_1 rfl (lv_at hl 1 rfl) ?_
  obtain ⟨v2, st1, hc, hf⟩ := ck_b_e hf
  refine ck_vi (As := [.int x1]) (rest := []) (q := 6) C h hl CG_G_has sG_has q_G (cG_has l D cA ad hc) (Nat.le_of_ble_eq_true rfl) rfl rfl (Nat.le_of_ble_eq_true rfl) dG_symbolOf_2 (fun H locs h => ?_)
  refine lv_if_eq (tgt := 17) hx hb dG_symbolOf_5 rfl (fun hq => ?_) (fun hq => ?_)
  · have hf := ck_t hq hf
    refine lv_iconst (v := 0) hx hb dG_symbolOf_17 (by decide) ?_
    exact ck_ri hf hret h dG_symbolOf_18
  · have hf := ck_f hq hf
    refine lv_aload_n hx hb dG_symbolOf_8 rfl (lv_at hl 0 rfl) ?_
    refine ck_gr C h FG_symbol dG_symbolOf_9 ?_
    refine lv_iload_n hx hb dG_symbolOf_12 rfl (lv_at hl 1 rfl) ?_
    obtain ⟨hg, hf⟩ := ck_gd_e hf
    refine ck_ai (x := (st1 41 (x1).toNatClampNeg)) C h (show sh_C[41]? = some (.inr (0, 32)) from rfl) hg rfl dG_symbolOf_13 ?_
    refine lv_goto (tgt := 18) hx hb dG_symbolOf_14 rfl ?_
    exact ck_ri hf hret h dG_symbolOf_18
def fG_noteBranch_b66 (y0 : Int32) (y1 : Int32) (x1 : Int32) (x2 : Int32) (x3 : Int32) (x5 : Int32) (st : ck_S) : Option ck_S := (ck_gd y1 32 (if x5 = 0 then (ck_b (fT_labelOf x2 (ck_u st 38 (y1).toNatClampNeg y0)) fun v2 st1 => (ck_gd x3 32 (some (ck_u st1 39 (x3).toNatClampNeg v2)))) else (ck_b (fT_leastWithoutBranch x1 (ck_u st 38 (y1).toNatClampNeg y0)) fun v2 st1 => (ck_gd x3 32 (some (ck_u st1 39 (x3).toNatClampNeg v2))))))
set_option maxRecDepth 100000 in
set_option maxHeartbeats 4000000 in
theorem BG_noteBranch_66 (C : ck_X cm_cl D cA bG_noteBranch 6 R_G 3 p R s m args c) {st0 : ck_S} (hret : ∀ (pc : Nat) (H : Heap) (locs : List Loc) (ls : Array Slot), decode bG_noteBranch pc = .ok (.return_, 1) → ck_AT sh_C cm_cl D cA ad H0 st0 H locs → W p l e R s m args below meth c H locs 0 0 Q (F0 m pc ls [])) (y0 : Int32) (y1 : Int32) (x1 : Int32) (x2 : Int32) (x3 : Int32) (x5 : Int32) (st : ck_S) (H : Heap) (locs : List Loc) (ls : Array Slot) (h : ck_AT sh_C cm_cl D cA ad H0 st H locs) (hl : lv_has ls 6 [(0, .ref (ad 6)), (1, .int x1), (2, .int x2), (3, .int x3), (5, .int x5)]) (hf : fG_noteBranch_b66 y0 y1 x1 x2 x3 x5 st = some st0) : W p l e R s m args below meth c H locs 0 0 Q (F0 m 66 ls [.int y0, .int y1, .ref (ad 38)]) := by
  have C1 := C
  obtain ⟨hx, hb, hml, hown, hts, hK, hlv, hlo⟩ := C1
  unfold fG_noteBranch_b66 at hf
  obtain ⟨hg, hf⟩ := ck_gd_e hf
  refine ck_si C h (show sh_C[38]? = some (.inr (0, 32)) from rfl) hg dG_noteBranch_66 (fun H locs h => ?_)
  refine lv_aload_n hx hb dG_noteBranch_67 rfl (lv_at hl 0 rfl) ?_
  refine ck_gr C h FG_symbolAt dG_noteBranch_68 ?_
  refine lv_iload_n hx hb dG_noteBranch_71 rfl (lv_at hl 3 rfl) ?_
  refine lv_iload hx hb dG_noteBranch_72 (lv_at hl 4 rfl) ?_
  refine lv_if_eq (tgt := 88) hx hb dG_noteBranch_74 rfl (fun hq => ?_) (fun hq => ?_)
  · have hf := ck_t hq hf
    refine lv_aload_n hx hb dG_noteBranch_88 rfl (lv_at hl 0 rfl) ?_
    refine ck_gr C h FG_tree dG_noteBranch_89 ?_
    refine lv_iload_n hx hb dG_noteBranch_92 rfl (lv_at hl 2 rfl) ?_
    obtain ⟨v2, st1, hc, hf⟩ := ck_b_e hf
    refine ck_vi (As := [.int x2]) (rest := [.int x3, .ref (ad 39)]) (q := 5) C h hl CG_T_labelOf sT_labelOf q_T (cT_labelOf l D cA ad hc) (Nat.le_of_ble_eq_true rfl) rfl rfl (Nat.le_of_ble_eq_true rfl) dG_noteBranch_93 (fun H locs h => ?_)
    obtain ⟨hg, hf⟩ := ck_gd_e hf
    refine ck_si C h (show sh_C[39]? = some (.inr (0, 32)) from rfl) hg dG_noteBranch_96 (fun H locs h => ?_)
    exact ck_rv hf hret h dG_noteBranch_97
  · have hf := ck_f hq hf
    refine lv_aload_n hx hb dG_noteBranch_77 rfl (lv_at hl 0 rfl) ?_
    refine ck_gr C h FG_tree dG_noteBranch_78 ?_
    refine lv_iload_n hx hb dG_noteBranch_81 rfl (lv_at hl 1 rfl) ?_
    obtain ⟨v2, st1, hc, hf⟩ := ck_b_e hf
    refine ck_vi (As := [.int x1]) (rest := [.int x3, .ref (ad 39)]) (q := 5) C h hl CG_T_leastWithoutBranch sT_leastWithoutBranch q_T (cT_leastWithoutBranch l D cA ad hc) (Nat.le_of_ble_eq_true rfl) rfl rfl (Nat.le_of_ble_eq_true rfl) dG_noteBranch_82 (fun H locs h => ?_)
    refine lv_goto (tgt := 96) hx hb dG_noteBranch_85 rfl ?_
    obtain ⟨hg, hf⟩ := ck_gd_e hf
    refine ck_si C h (show sh_C[39]? = some (.inr (0, 32)) from rfl) hg dG_noteBranch_96 (fun H locs h => ?_)
    exact ck_rv hf hret h dG_noteBranch_97
def fG_noteBranch_b49 (y0 : Int32) (x1 : Int32) (x2 : Int32) (x3 : Int32) (x4 : Int32) (st : ck_S) : Option ck_S := (if x4 = 0 then (fG_noteBranch_b66 (2 : Int32) x3 x1 x2 x3 y0 st) else (fG_noteBranch_b66 (1 : Int32) x3 x1 x2 x3 y0 st))
set_option maxRecDepth 100000 in
set_option maxHeartbeats 4000000 in
theorem BG_noteBranch_49 (C : ck_X cm_cl D cA bG_noteBranch 6 R_G 3 p R s m args c) {st0 : ck_S} (hret : ∀ (pc : Nat) (H : Heap) (locs : List Loc) (ls : Array Slot), decode bG_noteBranch pc = .ok (.return_, 1) → ck_AT sh_C cm_cl D cA ad H0 st0 H locs → W p l e R s m args below meth c H locs 0 0 Q (F0 m pc ls [])) (y0 : Int32) (x1 : Int32) (x2 : Int32) (x3 : Int32) (x4 : Int32) (st : ck_S) (H : Heap) (locs : List Loc) (ls : Array Slot) (h : ck_AT sh_C cm_cl D cA ad H0 st H locs) (hl : lv_has ls 6 [(0, .ref (ad 6)), (1, .int x1), (2, .int x2), (3, .int x3), (4, .int x4)]) (hf : fG_noteBranch_b49 y0 x1 x2 x3 x4 st = some st0) : W p l e R s m args below meth c H locs 0 0 Q (F0 m 49 ls [.int y0]) := by
  have C1 := C
  obtain ⟨hx, hb, hml, hown, hts, hK, hlv, hlo⟩ := C1
  unfold fG_noteBranch_b49 at hf
  refine lv_istore (lv' := [(5, .int y0), (0, .ref (ad 6)), (1, .int x1), (2, .int x2), (3, .int x3), (4, .int x4)]) hx hb dG_noteBranch_49 hl (by decide) rfl (fun ls hl => ?_)
  refine lv_aload_n hx hb dG_noteBranch_51 rfl (lv_at hl 1 rfl) ?_
  refine ck_gr C h FG_kindAt dG_noteBranch_52 ?_
  refine lv_iload_n hx hb dG_noteBranch_55 rfl (lv_at hl 4 rfl) ?_
  refine lv_iload hx hb dG_noteBranch_56 (lv_at hl 5 rfl) ?_
  refine lv_if_eq (tgt := 65) hx hb dG_noteBranch_58 rfl (fun hq => ?_) (fun hq => ?_)
  · have hf := ck_t hq hf
    refine lv_iconst (v := 2) hx hb dG_noteBranch_65 (by decide) ?_
    exact BG_noteBranch_66 C hret _ _ _ _ _ _ _ _ _ _ h (lv_sub hl [1, 2, 3, 4, 0] rfl) hf
  · have hf := ck_f hq hf
    refine lv_iconst (v := 1) hx hb dG_noteBranch_61 (by decide) ?_
    refine lv_goto (tgt := 66) hx hb dG_noteBranch_62 rfl ?_
    exact BG_noteBranch_66 C hret _ _ _ _ _ _ _ _ _ _ h (lv_sub hl [1, 2, 3, 4, 0] rfl) hf
def fG_noteBranch_b25 (y0 : Int32) (x1 : Int32) (x2 : Int32) (x3 : Int32) (st : ck_S) : Option ck_S := (if y0 = 0 then (fG_noteBranch_b49 (0 : Int32) x1 x2 x3 y0 st) else (ck_b (fT_lastBranch x1 st) fun v2 st1 => (if x2 = v2 then (fG_noteBranch_b49 (1 : Int32) x1 x2 x3 y0 st1) else (fG_noteBranch_b49 (0 : Int32) x1 x2 x3 y0 st1))))
set_option maxRecDepth 100000 in
set_option maxHeartbeats 4000000 in
theorem BG_noteBranch_25 (C : ck_X cm_cl D cA bG_noteBranch 6 R_G 3 p R s m args c) {st0 : ck_S} (hret : ∀ (pc : Nat) (H : Heap) (locs : List Loc) (ls : Array Slot), decode bG_noteBranch pc = .ok (.return_, 1) → ck_AT sh_C cm_cl D cA ad H0 st0 H locs → W p l e R s m args below meth c H locs 0 0 Q (F0 m pc ls [])) (y0 : Int32) (x1 : Int32) (x2 : Int32) (x3 : Int32) (st : ck_S) (H : Heap) (locs : List Loc) (ls : Array Slot) (h : ck_AT sh_C cm_cl D cA ad H0 st H locs) (hl : lv_has ls 6 [(0, .ref (ad 6)), (1, .int x1), (2, .int x2), (3, .int x3)]) (hf : fG_noteBranch_b25 y0 x1 x2 x3 st = some st0) : W p l e R s m args below meth c H locs 0 0 Q (F0 m 25 ls [.int y0]) := by
  have C1 := C
  obtain ⟨hx, hb, hml, hown, hts, hK, hlv, hlo⟩ := C1
  unfold fG_noteBranch_b25 at hf
  refine lv_istore (lv' := [(4, .int y0), (0, .ref (ad 6)), (1, .int x1), (2, .int x2), (3, .int x3)]) hx hb dG_noteBranch_25 hl (by decide) rfl (fun ls hl => ?_)
  refine lv_iload hx hb dG_noteBranch_27 (lv_at hl 0 rfl) ?_
  refine lv_if_eq (tgt := 48) hx hb dG_noteBranch_29 rfl (fun hq => ?_) (fun hq => ?_)
  · have hf := ck_t hq hf
    refine lv_iconst (v := 0) hx hb dG_noteBranch_48 (by decide) ?_
    exact BG_noteBranch_49 C hret _ _ _ _ _ _ _ _ _ h (lv_sub hl [1, 2, 3, 4, 0] rfl) hf
  · have hf := ck_f hq hf
    refine lv_iload_n hx hb dG_noteBranch_32 rfl (lv_at hl 3 rfl) ?_
    refine lv_aload_n hx hb dG_noteBranch_33 rfl (lv_at hl 1 rfl) ?_
    refine ck_gr C h FG_tree dG_noteBranch_34 ?_
    refine lv_iload_n hx hb dG_noteBranch_37 rfl (lv_at hl 2 rfl) ?_
    obtain ⟨v2, st1, hc, hf⟩ := ck_b_e hf
    refine ck_vi (As := [.int x1]) (rest := [.int x2]) (q := 5) C h hl CG_T_lastBranch sT_lastBranch q_T (cT_lastBranch l D cA ad hc) (Nat.le_of_ble_eq_true rfl) rfl rfl (Nat.le_of_ble_eq_true rfl) dG_noteBranch_38 (fun H locs h => ?_)
    refine lv_icmp_ne (tgt := 48) hx hb dG_noteBranch_41 rfl (fun hq => ?_) (fun hq => ?_)
    · have hf := ck_f hq hf
      refine lv_iconst (v := 0) hx hb dG_noteBranch_48 (by decide) ?_
      exact BG_noteBranch_49 C hret _ _ _ _ _ _ _ _ _ h (lv_sub hl [1, 2, 3, 4, 0] rfl) hf
    · have hf := ck_t hq hf
      refine lv_iconst (v := 1) hx hb dG_noteBranch_44 (by decide) ?_
      refine lv_goto (tgt := 49) hx hb dG_noteBranch_45 rfl ?_
      exact BG_noteBranch_49 C hret _ _ _ _ _ _ _ _ _ h (lv_sub hl [1, 2, 3, 4, 0] rfl) hf
def fG_noteBranch (x1 : Int32) (x2 : Int32) (st : ck_S) : Option ck_S := (ck_b (fT_placeOf x1 st) fun v2 st1 => (ck_b (fT_typeOfTest x1 st1) fun v4 st3 => (if v4 = 0 then (fG_noteBranch_b25 (1 : Int32) x1 x2 v2 st3) else (fG_noteBranch_b25 (0 : Int32) x1 x2 v2 st3))))
set_option maxRecDepth 100000 in
set_option maxHeartbeats 4000000 in
theorem cG_noteBranch (l : Launch) (D : va_G) (cA : Nat → ClassId) (ad : Nat → Nat) {x1 : Int32} {x2 : Int32} {st : ck_S} {st0 : ck_S} (hf : fG_noteBranch x1 x2 st = some st0) : Met l yG_noteBranch (.code yG_noteBranch bG_noteBranch 6 none :: ck_T) (ck_R 3) (va_Pc [.ref (ad 6), .int x1, .int x2] (ck_P sh_C cm_cl D cA ad st)) (va_Qv (fun u => u = st0) (ck_P sh_C cm_cl D cA ad) (ck_A ad sh_C.length)) 0 0 (ck_A ad sh_C.length) := by
  refine ck_met_v (own := R_G) (by decide +kernel) rfl (Nat.le_of_ble_eq_true rfl) (fun p e R s m args below meth c H0 Q ls C hret h hl => ?_)
  have C1 := C
  obtain ⟨hx, hb, hml, hown, hts, hK, hlv, hlo⟩ := C1
  have hl : lv_has ls 6 [(0, .ref (ad 6)), (1, .int x1), (2, .int x2)] := hl
  unfold fG_noteBranch at hf
  refine lv_aload_n hx hb dG_noteBranch_0 rfl (lv_at hl 0 rfl) ?_
  refine ck_gr C h FG_tree dG_noteBranch_1 ?_
  refine lv_iload_n hx hb dG_noteBranch_4 rfl (lv_at hl 1 rfl) ?_
  obtain ⟨v2, st1, hc, hf⟩ := ck_b_e hf
  refine ck_vi (As := [.int x1]) (rest := []) (q := 5) C h hl CG_T_placeOf sT_placeOf q_T (cT_placeOf l D cA ad hc) (Nat.le_of_ble_eq_true rfl) rfl rfl (Nat.le_of_ble_eq_true rfl) dG_noteBranch_5 (fun H locs h => ?_)
  refine lv_istore_n (lv' := [(3, .int v2), (0, .ref (ad 6)), (1, .int x1), (2, .int x2)]) hx hb dG_noteBranch_8 rfl hl (by decide) rfl (fun ls hl => ?_)
  refine lv_aload_n hx hb dG_noteBranch_9 rfl (lv_at hl 1 rfl) ?_
  refine ck_gr C h FG_tree dG_noteBranch_10 ?_
  refine lv_iload_n hx hb dG_noteBranch_13 rfl (lv_at hl 2 rfl) ?_
  obtain ⟨v4, st3, hc, hf⟩ := ck_b_e hf
  refine ck_vi (As := [.int x1]) (rest := []) (q := 5) C h hl CG_T_typeOfTest sT_typeOfTest q_T (cT_typeOfTest l D cA ad hc) (Nat.le_of_ble_eq_true rfl) rfl rfl (Nat.le_of_ble_eq_true rfl) dG_noteBranch_14 (fun H locs h => ?_)
  refine lv_if_ne (tgt := 24) hx hb dG_noteBranch_17 rfl (fun hq => ?_) (fun hq => ?_)
  · have hf := ck_f hq hf
    refine lv_iconst (v := 0) hx hb dG_noteBranch_24 (by decide) ?_
    exact BG_noteBranch_25 C hret _ _ _ _ _ _ _ _ h (lv_sub hl [1, 2, 3, 0] rfl) hf
  · have hf := ck_t hq hf
    refine lv_iconst (v := 1) hx hb dG_noteBranch_20 (by decide) ?_
    refine lv_goto (tgt := 25) hx hb dG_noteBranch_21 rfl ?_
    exact BG_noteBranch_25 C hret _ _ _ _ _ _ _ _ h (lv_sub hl [1, 2, 3, 0] rfl) hf
def fG_followWayToFail_l4 : Nat → Int32 → Int32 → ck_S → Option ck_S
  | 0, _, _, _ => none
  | n + 1, x1, x2, st => (if (16 : Int32) ≤ x2 then (some st) else (ck_b (fT_placeOf x1 st) fun v2 st1 => (if v2 = 0 then (some st1) else (ck_b (fT_failingBranch x1 st1) fun v4 st3 => (ck_bv (fG_noteBranch x1 v4 st3) fun st5 => (fG_followWayToFail_l4 n v4 (x2 + 1) st5))))))
set_option maxRecDepth 100000 in
set_option maxHeartbeats 4000000 in
theorem BG_followWayToFail_4 (C : ck_X cm_cl D cA bG_followWayToFail 4 R_G 4 p R s m args c) {st0 : ck_S} (hret : ∀ (pc : Nat) (H : Heap) (locs : List Loc) (ls : Array Slot), decode bG_followWayToFail pc = .ok (.return_, 1) → ck_AT sh_C cm_cl D cA ad H0 st0 H locs → W p l e R s m args below meth c H locs 0 0 Q (F0 m pc ls [])) : ∀ (n : Nat) (x1 : Int32) (x2 : Int32) (st : ck_S) (H : Heap) (locs : List Loc) (ls : Array Slot), ck_AT sh_C cm_cl D cA ad H0 st H locs → lv_has ls 4 [(0, .ref (ad 6)), (1, .int x1), (2, .int x2)] → fG_followWayToFail_l4  n x1 x2 st = some st0 → W p l e R s m args below meth c H locs 0 0 Q (F0 m 4 ls []) := by
  have C1 := C
  obtain ⟨hx, hb, hml, hown, hts, hK, hlv, hlo⟩ := C1
  intro n
  induction n with
  | zero => intro _ _ _ _ _ _ _ _ hf; cases hf
  | succ n ih =>
    intro x1 x2 st H locs ls h hl hf
    rw [fG_followWayToFail_l4] at hf
    refine lv_iload_n hx hb dG_followWayToFail_4 rfl (lv_at hl 2 rfl) ?_
    refine lv_bipush (v := 16) hx hb dG_followWayToFail_5 (by decide) ?_
    refine lv_icmp_ge (tgt := 44) hx hb dG_followWayToFail_7 rfl (fun hq => ?_) (fun hq => ?_)
    · have hf := ck_t hq hf
      exact ck_rv hf hret h dG_followWayToFail_44
    · have hf := ck_f hq hf
      refine lv_aload_n hx hb dG_followWayToFail_10 rfl (lv_at hl 0 rfl) ?_
      refine ck_gr C h FG_tree dG_followWayToFail_11 ?_
      refine lv_iload_n hx hb dG_followWayToFail_14 rfl (lv_at hl 1 rfl) ?_
      obtain ⟨v2, st1, hc, hf⟩ := ck_b_e hf
      refine ck_vi (As := [.int x1]) (rest := []) (q := 5) C h hl CG_T_placeOf sT_placeOf q_T (cT_placeOf l D cA ad hc) (Nat.le_of_ble_eq_true rfl) rfl rfl (Nat.le_of_ble_eq_true rfl) dG_followWayToFail_15 (fun H locs h => ?_)
      refine lv_if_eq (tgt := 44) hx hb dG_followWayToFail_18 rfl (fun hq => ?_) (fun hq => ?_)
      · have hf := ck_t hq hf
        exact ck_rv hf hret h dG_followWayToFail_44
      · have hf := ck_f hq hf
        refine lv_aload_n hx hb dG_followWayToFail_21 rfl (lv_at hl 0 rfl) ?_
        refine ck_gr C h FG_tree dG_followWayToFail_22 ?_
        refine lv_iload_n hx hb dG_followWayToFail_25 rfl (lv_at hl 1 rfl) ?_
        obtain ⟨v4, st3, hc, hf⟩ := ck_b_e hf
        refine ck_vi (As := [.int x1]) (rest := []) (q := 5) C h hl CG_T_failingBranch sT_failingBranch q_T (cT_failingBranch l D cA ad hc) (Nat.le_of_ble_eq_true rfl) rfl rfl (Nat.le_of_ble_eq_true rfl) dG_followWayToFail_26 (fun H locs h => ?_)
        refine lv_istore_n (lv' := [(3, .int v4), (0, .ref (ad 6)), (1, .int x1), (2, .int x2)]) hx hb dG_followWayToFail_29 rfl hl (by decide) rfl (fun ls hl => ?_)
        refine lv_aload_n hx hb dG_followWayToFail_30 rfl (lv_at hl 1 rfl) ?_
        refine lv_iload_n hx hb dG_followWayToFail_31 rfl (lv_at hl 2 rfl) ?_
        refine lv_iload_n hx hb dG_followWayToFail_32 rfl (lv_at hl 0 rfl) ?_
        obtain ⟨st5, hc, hf⟩ := ck_bv_e hf
        refine ck_vv (As := [.int x1, .int v4]) (rest := []) (q := 6) C h hl CG_G_noteBranch sG_noteBranch q_G (cG_noteBranch l D cA ad hc) (Nat.le_of_ble_eq_true rfl) rfl rfl (Nat.le_of_ble_eq_true rfl) dG_followWayToFail_33 (fun H locs h => ?_)
        refine lv_iload_n hx hb dG_followWayToFail_36 rfl (lv_at hl 0 rfl) ?_
        refine lv_istore_n (lv' := [(1, .int v4), (3, .int v4), (0, .ref (ad 6)), (2, .int x2)]) hx hb dG_followWayToFail_37 rfl hl (by decide) rfl (fun ls hl => ?_)
        refine lv_iinc (k := 3) (v := (x2 + 1)) (lv' := [(2, .int (x2 + 1)), (1, .int v4), (3, .int v4), (0, .ref (ad 6))]) hx hb dG_followWayToFail_38 hl rfl rfl (by decide) rfl (fun ls hl => ?_)
        refine lv_goto (tgt := 4) hx hb dG_followWayToFail_41 rfl ?_
        exact ih _ _ _ _ _ _ h (lv_sub hl [3, 1, 0] rfl) hf
def fG_followWayToFail (st : ck_S) : Option ck_S := (fG_followWayToFail_l4  4096 (0 : Int32) (0 : Int32) st)
set_option maxRecDepth 100000 in
set_option maxHeartbeats 4000000 in
theorem cG_followWayToFail (l : Launch) (D : va_G) (cA : Nat → ClassId) (ad : Nat → Nat) {st : ck_S} {st0 : ck_S} (hf : fG_followWayToFail st = some st0) : Met l yG_followWayToFail (.code yG_followWayToFail bG_followWayToFail 4 none :: ck_T) (ck_R 4) (va_Pc [.ref (ad 6)] (ck_P sh_C cm_cl D cA ad st)) (va_Qv (fun u => u = st0) (ck_P sh_C cm_cl D cA ad) (ck_A ad sh_C.length)) 0 0 (ck_A ad sh_C.length) := by
  refine ck_met_v (own := R_G) (by decide +kernel) rfl (Nat.le_of_ble_eq_true rfl) (fun p e R s m args below meth c H0 Q ls C hret h hl => ?_)
  have C1 := C
  obtain ⟨hx, hb, hml, hown, hts, hK, hlv, hlo⟩ := C1
  have hl : lv_has ls 4 [(0, .ref (ad 6))] := hl
  unfold fG_followWayToFail at hf
  refine lv_iconst (v := 0) hx hb dG_followWayToFail_0 (by decide) ?_
  refine lv_istore_n (lv' := [(1, .int (0 : Int32)), (0, .ref (ad 6))]) hx hb dG_followWayToFail_1 rfl hl (by decide) rfl (fun ls hl => ?_)
  refine lv_iconst (v := 0) hx hb dG_followWayToFail_2 (by decide) ?_
  refine lv_istore_n (lv' := [(2, .int (0 : Int32)), (1, .int (0 : Int32)), (0, .ref (ad 6))]) hx hb dG_followWayToFail_3 rfl hl (by decide) rfl (fun ls hl => ?_)
  exact BG_followWayToFail_4 C hret  4096 _ _ _ _ _ _ h (lv_sub hl [2, 1, 0] rfl) hf
def fG_write_b91 (fr : Int32 → ck_S → Option ck_S) (x1 : Int32) (st : ck_S) : Option ck_S := (ck_gd x1 32 (ck_b (fD_secondTypeOf (st 39 (x1).toNatClampNeg) st) fun v2 st1 => (if v2 = (-1 : Int32) then (some st1) else (ck_bv (fr (((2 : Int32) * x1) + (1 : Int32)) st1) fun st3 => (some st3)))))
set_option maxRecDepth 100000 in
set_option maxHeartbeats 4000000 in
theorem BG_write_91 {v : Nat} (C : ck_X cm_cl D cA bG_write 2 R_G (v + 1) p R s m args c) {st0 : ck_S} (hret : ∀ (pc : Nat) (H : Heap) (locs : List Loc) (ls : Array Slot), decode bG_write pc = .ok (.return_, 1) → ck_AT sh_C cm_cl D cA ad H0 st0 H locs → W p l e R s m args below meth c H locs 0 0 Q (F0 m pc ls [])) {fr : Int32 → ck_S → Option ck_S} (hv : 2 ≤ v) (hrec : ∀ (a0 : Int32) (st st1 : ck_S), fr a0 st = some st1 → Met l yG_write (.code yG_write bG_write 2 none :: ck_T) (ck_R v) (va_Pc [.ref (ad 6), .int a0] (ck_P sh_C cm_cl D cA ad st)) (va_Qv (fun u => u = st1) (ck_P sh_C cm_cl D cA ad) (ck_A ad sh_C.length)) 0 0 (ck_A ad sh_C.length)) (x1 : Int32) (st : ck_S) (H : Heap) (locs : List Loc) (ls : Array Slot) (h : ck_AT sh_C cm_cl D cA ad H0 st H locs) (hl : lv_has ls 2 [(0, .ref (ad 6)), (1, .int x1)]) (hf : fG_write_b91 fr x1 st = some st0) : W p l e R s m args below meth c H locs 0 0 Q (F0 m 91 ls []) := by
  have C1 := C
  obtain ⟨hx, hb, hml, hown, hts, hK, hlv, hlo⟩ := C1
  unfold fG_write_b91 at hf
  refine lv_aload_n hx hb dG_write_91 rfl (lv_at hl 0 rfl) ?_
  refine ck_gr C h FG_declared dG_write_92 ?_
  refine lv_aload_n hx hb dG_write_95 rfl (lv_at hl 0 rfl) ?_
  refine ck_gr C h FG_symbolAt dG_write_96 ?_
  refine lv_iload_n hx hb dG_write_99 rfl (lv_at hl 1 rfl) ?_
  obtain ⟨hg, hf⟩ := ck_gd_e hf
  refine ck_ai (x := (st 39 (x1).toNatClampNeg)) C h (show sh_C[39]? = some (.inr (0, 32)) from rfl) hg rfl dG_write_100 ?_
  obtain ⟨v2, st1, hc, hf⟩ := ck_b_e hf
  refine ck_vi (As := [.int (st 39 (x1).toNatClampNeg)]) (rest := []) (q := 1) C h hl CG_D_secondTypeOf sD_secondTypeOf q_D (cD_secondTypeOf l D cA ad hc) (by omega) rfl rfl (Nat.le_of_ble_eq_true rfl) dG_write_101 (fun H locs h => ?_)
  refine lv_iconst (v := (-1)) hx hb dG_write_104 (by decide) ?_
  refine lv_icmp_eq (tgt := 117) hx hb dG_write_105 rfl (fun hq => ?_) (fun hq => ?_)
  · have hf := ck_t hq hf
    exact ck_rv hf hret h dG_write_117
  · have hf := ck_f hq hf
    refine lv_aload_n hx hb dG_write_108 rfl (lv_at hl 0 rfl) ?_
    refine lv_iconst (v := 2) hx hb dG_write_109 (by decide) ?_
    refine lv_iload_n hx hb dG_write_110 rfl (lv_at hl 1 rfl) ?_
    refine lv_imul hx hb dG_write_111 ?_
    refine lv_iconst (v := 1) hx hb dG_write_112 (by decide) ?_
    refine lv_iadd hx hb dG_write_113 ?_
    obtain ⟨st3, hc, hf⟩ := ck_bv_e hf
    refine ck_vv (As := [.int (((2 : Int32) * x1) + (1 : Int32))]) (rest := []) (q := 6) C h hl CG_G_write sG_write q_G (hrec _ _ _ hc) (Nat.le_refl _) rfl rfl (Nat.le_of_ble_eq_true rfl) dG_write_114 (fun H locs h => ?_)
    exact ck_rv hf hret h dG_write_117
def fG_write_s (fr : Int32 → ck_S → Option ck_S) (x1 : Int32) (st : ck_S) : Option ck_S := (if (32 : Int32) ≤ x1 then (some st) else (if (st 6 6) < (32 : Int32) then (ck_gd x1 32 (ck_gd (st 6 6) 32 (ck_gd x1 32 (ck_gd (st 6 6) 32 (ck_gd x1 32 (if (st 38 (x1).toNatClampNeg) = (2 : Int32) then (ck_gd x1 32 (ck_b (fD_firstTypeOf (st 39 (x1).toNatClampNeg) (ck_u (ck_u (ck_u st 40 ((st 6 6)).toNatClampNeg (st 38 (x1).toNatClampNeg)) 41 ((st 6 6)).toNatClampNeg (st 39 (x1).toNatClampNeg)) 6 6 ((st 6 6) + (1 : Int32)))) fun v2 st1 => (if v2 = (-1 : Int32) then (fG_write_b91 fr x1 st1) else (ck_bv (fr ((2 : Int32) * x1) st1) fun st3 => (fG_write_b91 fr x1 st3))))) else (some (ck_u (ck_u (ck_u st 40 ((st 6 6)).toNatClampNeg (st 38 (x1).toNatClampNeg)) 41 ((st 6 6)).toNatClampNeg (st 39 (x1).toNatClampNeg)) 6 6 ((st 6 6) + (1 : Int32)))))))))) else (some st)))
def fG_write_r : Nat → Int32 → ck_S → Option ck_S
  | 0, _, _ => none
  | n + 1, x1, st => fG_write_s (fG_write_r n) x1 st
def fG_write (x1 : Int32) (st : ck_S) : Option ck_S := fG_write_r 8 x1 st
set_option maxRecDepth 100000 in
set_option maxHeartbeats 4000000 in
theorem cG_write_s (l : Launch) (D : va_G) (cA : Nat → ClassId) (ad : Nat → Nat) {v : Nat} {fr : Int32 → ck_S → Option ck_S} (hv : 2 ≤ v) (hrec : ∀ (a0 : Int32) (st st1 : ck_S), fr a0 st = some st1 → Met l yG_write (.code yG_write bG_write 2 none :: ck_T) (ck_R v) (va_Pc [.ref (ad 6), .int a0] (ck_P sh_C cm_cl D cA ad st)) (va_Qv (fun u => u = st1) (ck_P sh_C cm_cl D cA ad) (ck_A ad sh_C.length)) 0 0 (ck_A ad sh_C.length)) {x1 : Int32} {st : ck_S} {st0 : ck_S} (hf : fG_write_s fr x1 st = some st0) : Met l yG_write (.code yG_write bG_write 2 none :: ck_T) (ck_R (v + 1)) (va_Pc [.ref (ad 6), .int x1] (ck_P sh_C cm_cl D cA ad st)) (va_Qv (fun u => u = st0) (ck_P sh_C cm_cl D cA ad) (ck_A ad sh_C.length)) 0 0 (ck_A ad sh_C.length) := by
  refine ck_met_v (own := R_G) (by decide +kernel) rfl (Nat.le_of_ble_eq_true rfl) (fun p e R s m args below meth c H0 Q ls C hret h hl => ?_)
  have C1 := C
  obtain ⟨hx, hb, hml, hown, hts, hK, hlv, hlo⟩ := C1
  have hl : lv_has ls 2 [(0, .ref (ad 6)), (1, .int x1)] := hl
  unfold fG_write_s at hf
  refine lv_iload_n hx hb dG_write_0 rfl (lv_at hl 1 rfl) ?_
  refine lv_bipush (v := 32) hx hb dG_write_1 (by decide) ?_
  refine lv_icmp_ge (tgt := 15) hx hb dG_write_3 rfl (fun hq => ?_) (fun hq => ?_)
  · have hf := ck_t hq hf
    exact ck_rv hf hret h dG_write_15
  · have hf := ck_f hq hf
    refine lv_aload_n hx hb dG_write_6 rfl (lv_at hl 0 rfl) ?_
    refine ck_gi (x := (st 6 6)) C h FG_length rfl dG_write_7 ?_
    refine lv_bipush (v := 32) hx hb dG_write_10 (by decide) ?_
    refine lv_icmp_lt (tgt := 16) hx hb dG_write_12 rfl (fun hq => ?_) (fun hq => ?_)
    · have hf := ck_t hq hf
      refine lv_aload_n hx hb dG_write_16 rfl (lv_at hl 0 rfl) ?_
      refine ck_gr C h FG_kind dG_write_17 ?_
      refine lv_aload_n hx hb dG_write_20 rfl (lv_at hl 0 rfl) ?_
      refine ck_gi (x := (st 6 6)) C h FG_length rfl dG_write_21 ?_
      refine lv_aload_n hx hb dG_write_24 rfl (lv_at hl 0 rfl) ?_
      refine ck_gr C h FG_kindAt dG_write_25 ?_
      refine lv_iload_n hx hb dG_write_28 rfl (lv_at hl 1 rfl) ?_
      obtain ⟨hg, hf⟩ := ck_gd_e hf
      refine ck_ai (x := (st 38 (x1).toNatClampNeg)) C h (show sh_C[38]? = some (.inr (0, 32)) from rfl) hg rfl dG_write_29 ?_
      obtain ⟨hg, hf⟩ := ck_gd_e hf
      refine ck_si C h (show sh_C[40]? = some (.inr (0, 32)) from rfl) hg dG_write_30 (fun H locs h => ?_)
      refine lv_aload_n hx hb dG_write_31 rfl (lv_at hl 0 rfl) ?_
      refine ck_gr C h FG_symbol dG_write_32 ?_
      refine lv_aload_n hx hb dG_write_35 rfl (lv_at hl 0 rfl) ?_
      refine ck_gi (x := (st 6 6)) C h FG_length rfl dG_write_36 ?_
      refine lv_aload_n hx hb dG_write_39 rfl (lv_at hl 0 rfl) ?_
      refine ck_gr C h FG_symbolAt dG_write_40 ?_
      refine lv_iload_n hx hb dG_write_43 rfl (lv_at hl 1 rfl) ?_
      obtain ⟨hg, hf⟩ := ck_gd_e hf
      refine ck_ai (x := (st 39 (x1).toNatClampNeg)) C h (show sh_C[39]? = some (.inr (0, 32)) from rfl) hg rfl dG_write_44 ?_
      obtain ⟨hg, hf⟩ := ck_gd_e hf
      refine ck_si C h (show sh_C[41]? = some (.inr (0, 32)) from rfl) hg dG_write_45 (fun H locs h => ?_)
      refine lv_aload_n hx hb dG_write_46 rfl (lv_at hl 0 rfl) ?_
      refine lv_dup hx hb dG_write_47 rfl ?_
      refine ck_gi (x := (st 6 6)) C h FG_length rfl dG_write_48 ?_
      refine lv_iconst (v := 1) hx hb dG_write_51 (by decide) ?_
      refine lv_iadd hx hb dG_write_52 ?_
      refine ck_pi C h GG_length rfl rfl dG_write_53 (fun H locs h => ?_)
      refine lv_aload_n hx hb dG_write_56 rfl (lv_at hl 0 rfl) ?_
      refine ck_gr C h FG_kindAt dG_write_57 ?_
      refine lv_iload_n hx hb dG_write_60 rfl (lv_at hl 1 rfl) ?_
      obtain ⟨hg, hf⟩ := ck_gd_e hf
      refine ck_ai (x := (st 38 (x1).toNatClampNeg)) C h (show sh_C[38]? = some (.inr (0, 32)) from rfl) hg rfl dG_write_61 ?_
      refine lv_iconst (v := 2) hx hb dG_write_62 (by decide) ?_
      refine lv_icmp_eq (tgt := 67) hx hb dG_write_63 rfl (fun hq => ?_) (fun hq => ?_)
      · have hf := ck_t hq hf
        refine lv_aload_n hx hb dG_write_67 rfl (lv_at hl 0 rfl) ?_
        refine ck_gr C h FG_declared dG_write_68 ?_
        refine lv_aload_n hx hb dG_write_71 rfl (lv_at hl 0 rfl) ?_
        refine ck_gr C h FG_symbolAt dG_write_72 ?_
        refine lv_iload_n hx hb dG_write_75 rfl (lv_at hl 1 rfl) ?_
        obtain ⟨hg, hf⟩ := ck_gd_e hf
        refine ck_ai (x := (st 39 (x1).toNatClampNeg)) C h (show sh_C[39]? = some (.inr (0, 32)) from rfl) hg rfl dG_write_76 ?_
        obtain ⟨v2, st1, hc, hf⟩ := ck_b_e hf
        refine ck_vi (As := [.int (st 39 (x1).toNatClampNeg)]) (rest := []) (q := 1) C h hl CG_D_firstTypeOf sD_firstTypeOf q_D (cD_firstTypeOf l D cA ad hc) (by omega) rfl rfl (Nat.le_of_ble_eq_true rfl) dG_write_77 (fun H locs h => ?_)
        refine lv_iconst (v := (-1)) hx hb dG_write_80 (by decide) ?_
        refine lv_icmp_eq (tgt := 91) hx hb dG_write_81 rfl (fun hq => ?_) (fun hq => ?_)
        · have hf := ck_t hq hf
          exact BG_write_91 C hret hv hrec _ _ _ _ _ h (lv_sub hl [0, 1] rfl) hf
        · have hf := ck_f hq hf
          refine lv_aload_n hx hb dG_write_84 rfl (lv_at hl 0 rfl) ?_
          refine lv_iconst (v := 2) hx hb dG_write_85 (by decide) ?_
          refine lv_iload_n hx hb dG_write_86 rfl (lv_at hl 1 rfl) ?_
          refine lv_imul hx hb dG_write_87 ?_
          obtain ⟨st3, hc, hf⟩ := ck_bv_e hf
          refine ck_vv (As := [.int ((2 : Int32) * x1)]) (rest := []) (q := 6) C h hl CG_G_write sG_write q_G (hrec _ _ _ hc) (Nat.le_refl _) rfl rfl (Nat.le_of_ble_eq_true rfl) dG_write_88 (fun H locs h => ?_)
          exact BG_write_91 C hret hv hrec _ _ _ _ _ h (lv_sub hl [0, 1] rfl) hf
      · have hf := ck_f hq hf
        exact ck_rv hf hret h dG_write_66
    · have hf := ck_f hq hf
      exact ck_rv hf hret h dG_write_15
set_option maxRecDepth 100000 in
set_option maxHeartbeats 4000000 in
theorem cG_write_r (l : Launch) (D : va_G) (cA : Nat → ClassId) (ad : Nat → Nat) : ∀ (n : Nat) (x1 : Int32) (st st0 : ck_S), fG_write_r n x1 st = some st0 → Met l yG_write (.code yG_write bG_write 2 none :: ck_T) (ck_R (2 + n)) (va_Pc [.ref (ad 6), .int x1] (ck_P sh_C cm_cl D cA ad st)) (va_Qv (fun u => u = st0) (ck_P sh_C cm_cl D cA ad) (ck_A ad sh_C.length)) 0 0 (ck_A ad sh_C.length) := by
  intro n
  induction n with
  | zero => intro _ _ _ hf; cases hf
  | succ n ih =>
    intro x1 st st0 hf
    have hf : fG_write_s (fG_write_r n) x1 st = some st0 := hf
    exact cG_write_s l D cA ad (Nat.le_add_right _ _) ih hf
theorem cG_write (l : Launch) (D : va_G) (cA : Nat → ClassId) (ad : Nat → Nat) {x1 : Int32} {st : ck_S} {st0 : ck_S} (hf : fG_write x1 st = some st0) : Met l yG_write (.code yG_write bG_write 2 none :: ck_T) (ck_R 10) (va_Pc [.ref (ad 6), .int x1] (ck_P sh_C cm_cl D cA ad st)) (va_Qv (fun u => u = st0) (ck_P sh_C cm_cl D cA ad) (ck_A ad sh_C.length)) 0 0 (ck_A ad sh_C.length) := cG_write_r l D cA ad 8 _ _ _ hf
def fG_readFromTree (st : ck_S) : Option ck_S := (ck_b (fT_hasFailing (ck_u st 6 6 (0 : Int32))) fun v2 st1 => (if v2 = 0 then (some st1) else (ck_bv (fA_fill_38_C (0 : Int32) st1) fun st3 => (ck_bv (fA_fill_39_C (0 : Int32) st3) fun st4 => (ck_bv (fG_followWayToFail st4) fun st5 => (ck_bv (fG_write (1 : Int32) st5) fun st6 => (some st6)))))))
set_option maxRecDepth 100000 in
set_option maxHeartbeats 4000000 in
theorem cG_readFromTree (l : Launch) (D : va_G) (cA : Nat → ClassId) (ad : Nat → Nat) {st : ck_S} {st0 : ck_S} (hf : fG_readFromTree st = some st0) : Met l yG_readFromTree (.code yG_readFromTree bG_readFromTree 1 none :: ck_T) (ck_R 11) (va_Pc [.ref (ad 6)] (ck_P sh_C cm_cl D cA ad st)) (va_Qv (fun u => u = st0) (ck_P sh_C cm_cl D cA ad) (ck_A ad sh_C.length)) 0 0 (ck_A ad sh_C.length) := by
  refine ck_met_v (own := R_G) (by decide +kernel) rfl (Nat.le_of_ble_eq_true rfl) (fun p e R s m args below meth c H0 Q ls C hret h hl => ?_)
  have C1 := C
  obtain ⟨hx, hb, hml, hown, hts, hK, hlv, hlo⟩ := C1
  have hl : lv_has ls 1 [(0, .ref (ad 6))] := hl
  unfold fG_readFromTree at hf
  refine lv_aload_n hx hb dG_readFromTree_0 rfl (lv_at hl 0 rfl) ?_
  refine lv_iconst (v := 0) hx hb dG_readFromTree_1 (by decide) ?_
  refine ck_pi C h GG_length rfl rfl dG_readFromTree_2 (fun H locs h => ?_)
  refine lv_aload_n hx hb dG_readFromTree_5 rfl (lv_at hl 0 rfl) ?_
  refine ck_gr C h FG_tree dG_readFromTree_6 ?_
  obtain ⟨v2, st1, hc, hf⟩ := ck_b_e hf
  refine ck_vi (As := []) (rest := []) (q := 5) C h hl CG_T_hasFailing sT_hasFailing q_T (cT_hasFailing l D cA ad hc) (Nat.le_of_ble_eq_true rfl) rfl rfl (Nat.le_of_ble_eq_true rfl) dG_readFromTree_9 (fun H locs h => ?_)
  refine lv_if_eq (tgt := 40) hx hb dG_readFromTree_12 rfl (fun hq => ?_) (fun hq => ?_)
  · have hf := ck_t hq hf
    exact ck_rv hf hret h dG_readFromTree_40
  · have hf := ck_f hq hf
    refine lv_aload_n hx hb dG_readFromTree_15 rfl (lv_at hl 0 rfl) ?_
    refine ck_gr C h FG_kindAt dG_readFromTree_16 ?_
    refine lv_iconst (v := 0) hx hb dG_readFromTree_19 (by decide) ?_
    obtain ⟨st3, hc, hf⟩ := ck_bv_e hf
    refine ck_tv (As := [.ref (ad 38), .int (0 : Int32)]) (rest := []) C h hl CG_A_fill sA_fill (cA_fill_38_C l D cA ad hc) (Nat.le_of_ble_eq_true rfl) rfl rfl (Nat.le_of_ble_eq_true rfl) dG_readFromTree_20 (fun H locs h => ?_)
    refine lv_aload_n hx hb dG_readFromTree_23 rfl (lv_at hl 0 rfl) ?_
    refine ck_gr C h FG_symbolAt dG_readFromTree_24 ?_
    refine lv_iconst (v := 0) hx hb dG_readFromTree_27 (by decide) ?_
    obtain ⟨st4, hc, hf⟩ := ck_bv_e hf
    refine ck_tv (As := [.ref (ad 39), .int (0 : Int32)]) (rest := []) C h hl CG_A_fill sA_fill (cA_fill_39_C l D cA ad hc) (Nat.le_of_ble_eq_true rfl) rfl rfl (Nat.le_of_ble_eq_true rfl) dG_readFromTree_28 (fun H locs h => ?_)
    refine lv_aload_n hx hb dG_readFromTree_31 rfl (lv_at hl 0 rfl) ?_
    obtain ⟨st5, hc, hf⟩ := ck_bv_e hf
    refine ck_vv (As := []) (rest := []) (q := 6) C h hl CG_G_followWayToFail sG_followWayToFail q_G (cG_followWayToFail l D cA ad hc) (Nat.le_of_ble_eq_true rfl) rfl rfl (Nat.le_of_ble_eq_true rfl) dG_readFromTree_32 (fun H locs h => ?_)
    refine lv_aload_n hx hb dG_readFromTree_35 rfl (lv_at hl 0 rfl) ?_
    refine lv_iconst (v := 1) hx hb dG_readFromTree_36 (by decide) ?_
    obtain ⟨st6, hc, hf⟩ := ck_bv_e hf
    refine ck_vv (As := [.int (1 : Int32)]) (rest := []) (q := 6) C h hl CG_G_write sG_write q_G (cG_write l D cA ad hc) (Nat.le_of_ble_eq_true rfl) rfl rfl (Nat.le_of_ble_eq_true rfl) dG_readFromTree_37 (fun H locs h => ?_)
    exact ck_rv hf hret h dG_readFromTree_40
end Switn
