theorem dD_reset_0 : decode bD_reset 0 = .ok (.aload_n 0, 1) := by decide +kernel
theorem dD_reset_1 : decode bD_reset 1 = .ok (.iconst 0, 1) := by decide +kernel
theorem dD_reset_2 : decode bD_reset 2 = .ok (.putfield 21, 3) := by decide +kernel
theorem dD_reset_5 : decode bD_reset 5 = .ok (.aload_n 0, 1) := by decide +kernel
theorem dD_reset_6 : decode bD_reset 6 = .ok (.iconst 0, 1) := by decide +kernel
theorem dD_reset_7 : decode bD_reset 7 = .ok (.putfield 25, 3) := by decide +kernel
theorem dD_reset_10 : decode bD_reset 10 = .ok (.return_, 1) := by decide +kernel
theorem dD_addType_0 : decode bD_addType 0 = .ok (.aload_n 0, 1) := by decide +kernel
theorem dD_addType_1 : decode bD_addType 1 = .ok (.getfield 21, 3) := by decide +kernel
theorem dD_addType_4 : decode bD_addType 4 = .ok (.iconst 5, 1) := by decide +kernel
theorem dD_addType_5 : decode bD_addType 5 = .ok (.if_icmp .lt 6, 3) := by decide +kernel
theorem dD_addType_8 : decode bD_addType 8 = .ok (.bipush (-8), 2) := by decide +kernel
theorem dD_addType_10 : decode bD_addType 10 = .ok (.ireturn, 1) := by decide +kernel
theorem dD_addType_11 : decode bD_addType 11 = .ok (.aload_n 0, 1) := by decide +kernel
theorem dD_addType_12 : decode bD_addType 12 = .ok (.dup, 1) := by decide +kernel
theorem dD_addType_13 : decode bD_addType 13 = .ok (.getfield 21, 3) := by decide +kernel
theorem dD_addType_16 : decode bD_addType 16 = .ok (.iconst 1, 1) := by decide +kernel
theorem dD_addType_17 : decode bD_addType 17 = .ok (.iadd, 1) := by decide +kernel
theorem dD_addType_18 : decode bD_addType 18 = .ok (.putfield 21, 3) := by decide +kernel
theorem dD_addType_21 : decode bD_addType 21 = .ok (.aload_n 0, 1) := by decide +kernel
theorem dD_addType_22 : decode bD_addType 22 = .ok (.getfield 21, 3) := by decide +kernel
theorem dD_addType_25 : decode bD_addType 25 = .ok (.ireturn, 1) := by decide +kernel
theorem dD_countOfType_0 : decode bD_countOfType 0 = .ok (.iconst 0, 1) := by decide +kernel
theorem dD_countOfType_1 : decode bD_countOfType 1 = .ok (.istore_n 2, 1) := by decide +kernel
theorem dD_countOfType_2 : decode bD_countOfType 2 = .ok (.iconst 0, 1) := by decide +kernel
theorem dD_countOfType_3 : decode bD_countOfType 3 = .ok (.istore_n 3, 1) := by decide +kernel
theorem dD_countOfType_4 : decode bD_countOfType 4 = .ok (.iload_n 3, 1) := by decide +kernel
theorem dD_countOfType_5 : decode bD_countOfType 5 = .ok (.aload_n 0, 1) := by decide +kernel
theorem dD_countOfType_6 : decode bD_countOfType 6 = .ok (.getfield 25, 3) := by decide +kernel
theorem dD_countOfType_9 : decode bD_countOfType 9 = .ok (.if_icmp .ge 22, 3) := by decide +kernel
theorem dD_countOfType_12 : decode bD_countOfType 12 = .ok (.aload_n 0, 1) := by decide +kernel
theorem dD_countOfType_13 : decode bD_countOfType 13 = .ok (.getfield 9, 3) := by decide +kernel
theorem dD_countOfType_16 : decode bD_countOfType 16 = .ok (.iload_n 3, 1) := by decide +kernel
theorem dD_countOfType_17 : decode bD_countOfType 17 = .ok (.iaload, 1) := by decide +kernel
theorem dD_countOfType_18 : decode bD_countOfType 18 = .ok (.iload_n 1, 1) := by decide +kernel
theorem dD_countOfType_19 : decode bD_countOfType 19 = .ok (.if_icmp .ne 6, 3) := by decide +kernel
theorem dD_countOfType_22 : decode bD_countOfType 22 = .ok (.iinc 2 1, 3) := by decide +kernel
theorem dD_countOfType_25 : decode bD_countOfType 25 = .ok (.iinc 3 1, 3) := by decide +kernel
theorem dD_countOfType_28 : decode bD_countOfType 28 = .ok (.goto (-24), 3) := by decide +kernel
theorem dD_countOfType_31 : decode bD_countOfType 31 = .ok (.iload_n 2, 1) := by decide +kernel
theorem dD_countOfType_32 : decode bD_countOfType 32 = .ok (.ireturn, 1) := by decide +kernel
theorem dD_addConstructor_0 : decode bD_addConstructor 0 = .ok (.aload_n 0, 1) := by decide +kernel
theorem dD_addConstructor_1 : decode bD_addConstructor 1 = .ok (.getfield 25, 3) := by decide +kernel
theorem dD_addConstructor_4 : decode bD_addConstructor 4 = .ok (.bipush 12, 2) := by decide +kernel
theorem dD_addConstructor_6 : decode bD_addConstructor 6 = .ok (.if_icmp .ge 12, 3) := by decide +kernel
theorem dD_addConstructor_9 : decode bD_addConstructor 9 = .ok (.aload_n 0, 1) := by decide +kernel
theorem dD_addConstructor_10 : decode bD_addConstructor 10 = .ok (.iload_n 1, 1) := by decide +kernel
theorem dD_addConstructor_11 : decode bD_addConstructor 11 = .ok (.invokevirtual 28, 3) := by decide +kernel
theorem dD_addConstructor_14 : decode bD_addConstructor 14 = .ok (.iconst 4, 1) := by decide +kernel
theorem dD_addConstructor_15 : decode bD_addConstructor 15 = .ok (.if_icmp .lt 6, 3) := by decide +kernel
theorem dD_addConstructor_18 : decode bD_addConstructor 18 = .ok (.bipush (-8), 2) := by decide +kernel
theorem dD_addConstructor_20 : decode bD_addConstructor 20 = .ok (.ireturn, 1) := by decide +kernel
theorem dD_addConstructor_21 : decode bD_addConstructor 21 = .ok (.aload_n 0, 1) := by decide +kernel
theorem dD_addConstructor_22 : decode bD_addConstructor 22 = .ok (.getfield 25, 3) := by decide +kernel
theorem dD_addConstructor_25 : decode bD_addConstructor 25 = .ok (.istore 4, 2) := by decide +kernel
theorem dD_addConstructor_27 : decode bD_addConstructor 27 = .ok (.aload_n 0, 1) := by decide +kernel
theorem dD_addConstructor_28 : decode bD_addConstructor 28 = .ok (.getfield 9, 3) := by decide +kernel
theorem dD_addConstructor_31 : decode bD_addConstructor 31 = .ok (.iload 4, 2) := by decide +kernel
theorem dD_addConstructor_33 : decode bD_addConstructor 33 = .ok (.iload_n 1, 1) := by decide +kernel
theorem dD_addConstructor_34 : decode bD_addConstructor 34 = .ok (.iastore, 1) := by decide +kernel
theorem dD_addConstructor_35 : decode bD_addConstructor 35 = .ok (.aload_n 0, 1) := by decide +kernel
theorem dD_addConstructor_36 : decode bD_addConstructor 36 = .ok (.getfield 15, 3) := by decide +kernel
theorem dD_addConstructor_39 : decode bD_addConstructor 39 = .ok (.iload 4, 2) := by decide +kernel
theorem dD_addConstructor_41 : decode bD_addConstructor 41 = .ok (.iload_n 2, 1) := by decide +kernel
theorem dD_addConstructor_42 : decode bD_addConstructor 42 = .ok (.iastore, 1) := by decide +kernel
theorem dD_addConstructor_43 : decode bD_addConstructor 43 = .ok (.aload_n 0, 1) := by decide +kernel
theorem dD_addConstructor_44 : decode bD_addConstructor 44 = .ok (.getfield 18, 3) := by decide +kernel
theorem dD_addConstructor_47 : decode bD_addConstructor 47 = .ok (.iload 4, 2) := by decide +kernel
theorem dD_addConstructor_49 : decode bD_addConstructor 49 = .ok (.iload_n 3, 1) := by decide +kernel
theorem dD_addConstructor_50 : decode bD_addConstructor 50 = .ok (.iastore, 1) := by decide +kernel
theorem dD_addConstructor_51 : decode bD_addConstructor 51 = .ok (.aload_n 0, 1) := by decide +kernel
theorem dD_addConstructor_52 : decode bD_addConstructor 52 = .ok (.dup, 1) := by decide +kernel
theorem dD_addConstructor_53 : decode bD_addConstructor 53 = .ok (.getfield 25, 3) := by decide +kernel
theorem dD_addConstructor_56 : decode bD_addConstructor 56 = .ok (.iconst 1, 1) := by decide +kernel
theorem dD_addConstructor_57 : decode bD_addConstructor 57 = .ok (.iadd, 1) := by decide +kernel
theorem dD_addConstructor_58 : decode bD_addConstructor 58 = .ok (.putfield 25, 3) := by decide +kernel
theorem dD_addConstructor_61 : decode bD_addConstructor 61 = .ok (.iload 4, 2) := by decide +kernel
theorem dD_addConstructor_63 : decode bD_addConstructor 63 = .ok (.ireturn, 1) := by decide +kernel
theorem dD_isType_0 : decode bD_isType 0 = .ok (.iload_n 1, 1) := by decide +kernel
theorem dD_isType_1 : decode bD_isType 1 = .ok (.ifCond .lt 15, 3) := by decide +kernel
theorem dD_isType_4 : decode bD_isType 4 = .ok (.iload_n 1, 1) := by decide +kernel
theorem dD_isType_5 : decode bD_isType 5 = .ok (.aload_n 0, 1) := by decide +kernel
theorem dD_isType_6 : decode bD_isType 6 = .ok (.getfield 21, 3) := by decide +kernel
theorem dD_isType_9 : decode bD_isType 9 = .ok (.if_icmp .gt 7, 3) := by decide +kernel
theorem dD_isType_12 : decode bD_isType 12 = .ok (.iconst 1, 1) := by decide +kernel
theorem dD_isType_13 : decode bD_isType 13 = .ok (.goto 4, 3) := by decide +kernel
theorem dD_isType_16 : decode bD_isType 16 = .ok (.iconst 0, 1) := by decide +kernel
theorem dD_isType_17 : decode bD_isType 17 = .ok (.ireturn, 1) := by decide +kernel
theorem dD_isOwnType_0 : decode bD_isOwnType 0 = .ok (.iload_n 1, 1) := by decide +kernel
theorem dD_isOwnType_1 : decode bD_isOwnType 1 = .ok (.ifCond .le 15, 3) := by decide +kernel
theorem dD_isOwnType_4 : decode bD_isOwnType 4 = .ok (.iload_n 1, 1) := by decide +kernel
theorem dD_isOwnType_5 : decode bD_isOwnType 5 = .ok (.aload_n 0, 1) := by decide +kernel
theorem dD_isOwnType_6 : decode bD_isOwnType 6 = .ok (.getfield 21, 3) := by decide +kernel
theorem dD_isOwnType_9 : decode bD_isOwnType 9 = .ok (.if_icmp .gt 7, 3) := by decide +kernel
theorem dD_isOwnType_12 : decode bD_isOwnType 12 = .ok (.iconst 1, 1) := by decide +kernel
theorem dD_isOwnType_13 : decode bD_isOwnType 13 = .ok (.goto 4, 3) := by decide +kernel
theorem dD_isOwnType_16 : decode bD_isOwnType 16 = .ok (.iconst 0, 1) := by decide +kernel
theorem dD_isOwnType_17 : decode bD_isOwnType 17 = .ok (.ireturn, 1) := by decide +kernel
theorem dD_canBeArguments_0 : decode bD_canBeArguments 0 = .ok (.iload_n 1, 1) := by decide +kernel
theorem dD_canBeArguments_1 : decode bD_canBeArguments 1 = .ok (.iconst (-1), 1) := by decide +kernel
theorem dD_canBeArguments_2 : decode bD_canBeArguments 2 = .ok (.if_icmp .ne 14, 3) := by decide +kernel
theorem dD_canBeArguments_5 : decode bD_canBeArguments 5 = .ok (.iload_n 2, 1) := by decide +kernel
theorem dD_canBeArguments_6 : decode bD_canBeArguments 6 = .ok (.iconst (-1), 1) := by decide +kernel
theorem dD_canBeArguments_7 : decode bD_canBeArguments 7 = .ok (.if_icmp .ne 7, 3) := by decide +kernel
theorem dD_canBeArguments_10 : decode bD_canBeArguments 10 = .ok (.iconst 1, 1) := by decide +kernel
theorem dD_canBeArguments_11 : decode bD_canBeArguments 11 = .ok (.goto 4, 3) := by decide +kernel
theorem dD_canBeArguments_14 : decode bD_canBeArguments 14 = .ok (.iconst 0, 1) := by decide +kernel
theorem dD_canBeArguments_15 : decode bD_canBeArguments 15 = .ok (.ireturn, 1) := by decide +kernel
theorem dD_canBeArguments_16 : decode bD_canBeArguments 16 = .ok (.aload_n 0, 1) := by decide +kernel
theorem dD_canBeArguments_17 : decode bD_canBeArguments 17 = .ok (.iload_n 1, 1) := by decide +kernel
theorem dD_canBeArguments_18 : decode bD_canBeArguments 18 = .ok (.invokevirtual 32, 3) := by decide +kernel
theorem dD_canBeArguments_21 : decode bD_canBeArguments 21 = .ok (.ifCond .eq 20, 3) := by decide +kernel
theorem dD_canBeArguments_24 : decode bD_canBeArguments 24 = .ok (.iload_n 2, 1) := by decide +kernel
theorem dD_canBeArguments_25 : decode bD_canBeArguments 25 = .ok (.iconst (-1), 1) := by decide +kernel
theorem dD_canBeArguments_26 : decode bD_canBeArguments 26 = .ok (.if_icmp .eq 11, 3) := by decide +kernel
theorem dD_canBeArguments_29 : decode bD_canBeArguments 29 = .ok (.aload_n 0, 1) := by decide +kernel
theorem dD_canBeArguments_30 : decode bD_canBeArguments 30 = .ok (.iload_n 2, 1) := by decide +kernel
theorem dD_canBeArguments_31 : decode bD_canBeArguments 31 = .ok (.invokevirtual 32, 3) := by decide +kernel
theorem dD_canBeArguments_34 : decode bD_canBeArguments 34 = .ok (.ifCond .eq 7, 3) := by decide +kernel
theorem dD_canBeArguments_37 : decode bD_canBeArguments 37 = .ok (.iconst 1, 1) := by decide +kernel
theorem dD_canBeArguments_38 : decode bD_canBeArguments 38 = .ok (.goto 4, 3) := by decide +kernel
theorem dD_canBeArguments_41 : decode bD_canBeArguments 41 = .ok (.iconst 0, 1) := by decide +kernel
theorem dD_canBeArguments_42 : decode bD_canBeArguments 42 = .ok (.ireturn, 1) := by decide +kernel
theorem dD_isConstructor_0 : decode bD_isConstructor 0 = .ok (.iload_n 1, 1) := by decide +kernel
theorem dD_isConstructor_1 : decode bD_isConstructor 1 = .ok (.ifCond .lt 15, 3) := by decide +kernel
theorem dD_isConstructor_4 : decode bD_isConstructor 4 = .ok (.iload_n 1, 1) := by decide +kernel
theorem dD_isConstructor_5 : decode bD_isConstructor 5 = .ok (.aload_n 0, 1) := by decide +kernel
theorem dD_isConstructor_6 : decode bD_isConstructor 6 = .ok (.getfield 25, 3) := by decide +kernel
theorem dD_isConstructor_9 : decode bD_isConstructor 9 = .ok (.if_icmp .ge 7, 3) := by decide +kernel
theorem dD_isConstructor_12 : decode bD_isConstructor 12 = .ok (.iconst 1, 1) := by decide +kernel
theorem dD_isConstructor_13 : decode bD_isConstructor 13 = .ok (.goto 4, 3) := by decide +kernel
theorem dD_isConstructor_16 : decode bD_isConstructor 16 = .ok (.iconst 0, 1) := by decide +kernel
theorem dD_isConstructor_17 : decode bD_isConstructor 17 = .ok (.ireturn, 1) := by decide +kernel
theorem dD_constructorCount_0 : decode bD_constructorCount 0 = .ok (.aload_n 0, 1) := by decide +kernel
theorem dD_constructorCount_1 : decode bD_constructorCount 1 = .ok (.getfield 25, 3) := by decide +kernel
theorem dD_constructorCount_4 : decode bD_constructorCount 4 = .ok (.ireturn, 1) := by decide +kernel
theorem dD_ownerOf_0 : decode bD_ownerOf 0 = .ok (.aload_n 0, 1) := by decide +kernel
theorem dD_ownerOf_1 : decode bD_ownerOf 1 = .ok (.iload_n 1, 1) := by decide +kernel
theorem dD_ownerOf_2 : decode bD_ownerOf 2 = .ok (.invokevirtual 36, 3) := by decide +kernel
theorem dD_ownerOf_5 : decode bD_ownerOf 5 = .ok (.ifCond .eq 12, 3) := by decide +kernel
theorem dD_ownerOf_8 : decode bD_ownerOf 8 = .ok (.aload_n 0, 1) := by decide +kernel
theorem dD_ownerOf_9 : decode bD_ownerOf 9 = .ok (.getfield 9, 3) := by decide +kernel
theorem dD_ownerOf_12 : decode bD_ownerOf 12 = .ok (.iload_n 1, 1) := by decide +kernel
theorem dD_ownerOf_13 : decode bD_ownerOf 13 = .ok (.iaload, 1) := by decide +kernel
theorem dD_ownerOf_14 : decode bD_ownerOf 14 = .ok (.goto 4, 3) := by decide +kernel
theorem dD_ownerOf_17 : decode bD_ownerOf 17 = .ok (.iconst (-1), 1) := by decide +kernel
theorem dD_ownerOf_18 : decode bD_ownerOf 18 = .ok (.ireturn, 1) := by decide +kernel
theorem dD_firstTypeOf_0 : decode bD_firstTypeOf 0 = .ok (.aload_n 0, 1) := by decide +kernel
theorem dD_firstTypeOf_1 : decode bD_firstTypeOf 1 = .ok (.iload_n 1, 1) := by decide +kernel
theorem dD_firstTypeOf_2 : decode bD_firstTypeOf 2 = .ok (.invokevirtual 36, 3) := by decide +kernel
theorem dD_firstTypeOf_5 : decode bD_firstTypeOf 5 = .ok (.ifCond .eq 12, 3) := by decide +kernel
theorem dD_firstTypeOf_8 : decode bD_firstTypeOf 8 = .ok (.aload_n 0, 1) := by decide +kernel
theorem dD_firstTypeOf_9 : decode bD_firstTypeOf 9 = .ok (.getfield 15, 3) := by decide +kernel
theorem dD_firstTypeOf_12 : decode bD_firstTypeOf 12 = .ok (.iload_n 1, 1) := by decide +kernel
theorem dD_firstTypeOf_13 : decode bD_firstTypeOf 13 = .ok (.iaload, 1) := by decide +kernel
theorem dD_firstTypeOf_14 : decode bD_firstTypeOf 14 = .ok (.goto 4, 3) := by decide +kernel
theorem dD_firstTypeOf_17 : decode bD_firstTypeOf 17 = .ok (.iconst (-1), 1) := by decide +kernel
theorem dD_firstTypeOf_18 : decode bD_firstTypeOf 18 = .ok (.ireturn, 1) := by decide +kernel
theorem dD_secondTypeOf_0 : decode bD_secondTypeOf 0 = .ok (.aload_n 0, 1) := by decide +kernel
theorem dD_secondTypeOf_1 : decode bD_secondTypeOf 1 = .ok (.iload_n 1, 1) := by decide +kernel
theorem dD_secondTypeOf_2 : decode bD_secondTypeOf 2 = .ok (.invokevirtual 36, 3) := by decide +kernel
theorem dD_secondTypeOf_5 : decode bD_secondTypeOf 5 = .ok (.ifCond .eq 12, 3) := by decide +kernel
theorem dD_secondTypeOf_8 : decode bD_secondTypeOf 8 = .ok (.aload_n 0, 1) := by decide +kernel
theorem dD_secondTypeOf_9 : decode bD_secondTypeOf 9 = .ok (.getfield 18, 3) := by decide +kernel
theorem dD_secondTypeOf_12 : decode bD_secondTypeOf 12 = .ok (.iload_n 1, 1) := by decide +kernel
theorem dD_secondTypeOf_13 : decode bD_secondTypeOf 13 = .ok (.iaload, 1) := by decide +kernel
theorem dD_secondTypeOf_14 : decode bD_secondTypeOf 14 = .ok (.goto 4, 3) := by decide +kernel
theorem dD_secondTypeOf_17 : decode bD_secondTypeOf 17 = .ok (.iconst (-1), 1) := by decide +kernel
theorem dD_secondTypeOf_18 : decode bD_secondTypeOf 18 = .ok (.ireturn, 1) := by decide +kernel
theorem dD_argumentPlaces_0 : decode bD_argumentPlaces 0 = .ok (.iconst 0, 1) := by decide +kernel
theorem dD_argumentPlaces_1 : decode bD_argumentPlaces 1 = .ok (.istore_n 3, 1) := by decide +kernel
theorem dD_argumentPlaces_2 : decode bD_argumentPlaces 2 = .ok (.aload_n 0, 1) := by decide +kernel
theorem dD_argumentPlaces_3 : decode bD_argumentPlaces 3 = .ok (.iload_n 1, 1) := by decide +kernel
theorem dD_argumentPlaces_4 : decode bD_argumentPlaces 4 = .ok (.invokevirtual 39, 3) := by decide +kernel
theorem dD_argumentPlaces_7 : decode bD_argumentPlaces 7 = .ok (.iconst (-1), 1) := by decide +kernel
theorem dD_argumentPlaces_8 : decode bD_argumentPlaces 8 = .ok (.if_icmp .eq 11, 3) := by decide +kernel
theorem dD_argumentPlaces_11 : decode bD_argumentPlaces 11 = .ok (.iload_n 3, 1) := by decide +kernel
theorem dD_argumentPlaces_12 : decode bD_argumentPlaces 12 = .ok (.iconst 1, 1) := by decide +kernel
theorem dD_argumentPlaces_13 : decode bD_argumentPlaces 13 = .ok (.iconst 2, 1) := by decide +kernel
theorem dD_argumentPlaces_14 : decode bD_argumentPlaces 14 = .ok (.iload_n 2, 1) := by decide +kernel
theorem dD_argumentPlaces_15 : decode bD_argumentPlaces 15 = .ok (.imul, 1) := by decide +kernel
theorem dD_argumentPlaces_16 : decode bD_argumentPlaces 16 = .ok (.ishl, 1) := by decide +kernel
theorem dD_argumentPlaces_17 : decode bD_argumentPlaces 17 = .ok (.ior, 1) := by decide +kernel
theorem dD_argumentPlaces_18 : decode bD_argumentPlaces 18 = .ok (.istore_n 3, 1) := by decide +kernel
theorem dD_argumentPlaces_19 : decode bD_argumentPlaces 19 = .ok (.aload_n 0, 1) := by decide +kernel
theorem dD_argumentPlaces_20 : decode bD_argumentPlaces 20 = .ok (.iload_n 1, 1) := by decide +kernel
theorem dD_argumentPlaces_21 : decode bD_argumentPlaces 21 = .ok (.invokevirtual 42, 3) := by decide +kernel
theorem dD_argumentPlaces_24 : decode bD_argumentPlaces 24 = .ok (.iconst (-1), 1) := by decide +kernel
theorem dD_argumentPlaces_25 : decode bD_argumentPlaces 25 = .ok (.if_icmp .eq 13, 3) := by decide +kernel
theorem dD_argumentPlaces_28 : decode bD_argumentPlaces 28 = .ok (.iload_n 3, 1) := by decide +kernel
theorem dD_argumentPlaces_29 : decode bD_argumentPlaces 29 = .ok (.iconst 1, 1) := by decide +kernel
theorem dD_argumentPlaces_30 : decode bD_argumentPlaces 30 = .ok (.iconst 2, 1) := by decide +kernel
theorem dD_argumentPlaces_31 : decode bD_argumentPlaces 31 = .ok (.iload_n 2, 1) := by decide +kernel
theorem dD_argumentPlaces_32 : decode bD_argumentPlaces 32 = .ok (.imul, 1) := by decide +kernel
theorem dD_argumentPlaces_33 : decode bD_argumentPlaces 33 = .ok (.iconst 1, 1) := by decide +kernel
theorem dD_argumentPlaces_34 : decode bD_argumentPlaces 34 = .ok (.iadd, 1) := by decide +kernel
theorem dD_argumentPlaces_35 : decode bD_argumentPlaces 35 = .ok (.ishl, 1) := by decide +kernel
theorem dD_argumentPlaces_36 : decode bD_argumentPlaces 36 = .ok (.ior, 1) := by decide +kernel
theorem dD_argumentPlaces_37 : decode bD_argumentPlaces 37 = .ok (.istore_n 3, 1) := by decide +kernel
theorem dD_argumentPlaces_38 : decode bD_argumentPlaces 38 = .ok (.iload_n 3, 1) := by decide +kernel
theorem dD_argumentPlaces_39 : decode bD_argumentPlaces 39 = .ok (.ireturn, 1) := by decide +kernel
theorem dD_canBeGiven_0 : decode bD_canBeGiven 0 = .ok (.iload_n 0, 1) := by decide +kernel
theorem dD_canBeGiven_1 : decode bD_canBeGiven 1 = .ok (.iconst (-1), 1) := by decide +kernel
theorem dD_canBeGiven_2 : decode bD_canBeGiven 2 = .ok (.if_icmp .eq 12, 3) := by decide +kernel
theorem dD_canBeGiven_5 : decode bD_canBeGiven 5 = .ok (.iload_n 1, 1) := by decide +kernel
theorem dD_canBeGiven_6 : decode bD_canBeGiven 6 = .ok (.iload_n 0, 1) := by decide +kernel
theorem dD_canBeGiven_7 : decode bD_canBeGiven 7 = .ok (.ishr, 1) := by decide +kernel
theorem dD_canBeGiven_8 : decode bD_canBeGiven 8 = .ok (.iconst 1, 1) := by decide +kernel
theorem dD_canBeGiven_9 : decode bD_canBeGiven 9 = .ok (.iand, 1) := by decide +kernel
theorem dD_canBeGiven_10 : decode bD_canBeGiven 10 = .ok (.iconst 1, 1) := by decide +kernel
theorem dD_canBeGiven_11 : decode bD_canBeGiven 11 = .ok (.if_icmp .ne 7, 3) := by decide +kernel
theorem dD_canBeGiven_14 : decode bD_canBeGiven 14 = .ok (.iconst 1, 1) := by decide +kernel
theorem dD_canBeGiven_15 : decode bD_canBeGiven 15 = .ok (.goto 4, 3) := by decide +kernel
theorem dD_canBeGiven_18 : decode bD_canBeGiven 18 = .ok (.iconst 0, 1) := by decide +kernel
theorem dD_canBeGiven_19 : decode bD_canBeGiven 19 = .ok (.ireturn, 1) := by decide +kernel
theorem dD_withTypesBuiltFrom_0 : decode bD_withTypesBuiltFrom 0 = .ok (.iload_n 1, 1) := by decide +kernel
theorem dD_withTypesBuiltFrom_1 : decode bD_withTypesBuiltFrom 1 = .ok (.istore_n 2, 1) := by decide +kernel
theorem dD_withTypesBuiltFrom_2 : decode bD_withTypesBuiltFrom 2 = .ok (.iconst 0, 1) := by decide +kernel
theorem dD_withTypesBuiltFrom_3 : decode bD_withTypesBuiltFrom 3 = .ok (.istore_n 3, 1) := by decide +kernel
theorem dD_withTypesBuiltFrom_4 : decode bD_withTypesBuiltFrom 4 = .ok (.iload_n 3, 1) := by decide +kernel
theorem dD_withTypesBuiltFrom_5 : decode bD_withTypesBuiltFrom 5 = .ok (.aload_n 0, 1) := by decide +kernel
theorem dD_withTypesBuiltFrom_6 : decode bD_withTypesBuiltFrom 6 = .ok (.getfield 25, 3) := by decide +kernel
theorem dD_withTypesBuiltFrom_9 : decode bD_withTypesBuiltFrom 9 = .ok (.if_icmp .ge 46, 3) := by decide +kernel
theorem dD_withTypesBuiltFrom_12 : decode bD_withTypesBuiltFrom 12 = .ok (.aload_n 0, 1) := by decide +kernel
theorem dD_withTypesBuiltFrom_13 : decode bD_withTypesBuiltFrom 13 = .ok (.getfield 15, 3) := by decide +kernel
theorem dD_withTypesBuiltFrom_16 : decode bD_withTypesBuiltFrom 16 = .ok (.iload_n 3, 1) := by decide +kernel
theorem dD_withTypesBuiltFrom_17 : decode bD_withTypesBuiltFrom 17 = .ok (.iaload, 1) := by decide +kernel
theorem dD_withTypesBuiltFrom_18 : decode bD_withTypesBuiltFrom 18 = .ok (.iload_n 2, 1) := by decide +kernel
theorem dD_withTypesBuiltFrom_19 : decode bD_withTypesBuiltFrom 19 = .ok (.invokestatic 48, 3) := by decide +kernel
theorem dD_withTypesBuiltFrom_22 : decode bD_withTypesBuiltFrom 22 = .ok (.ifCond .eq 27, 3) := by decide +kernel
theorem dD_withTypesBuiltFrom_25 : decode bD_withTypesBuiltFrom 25 = .ok (.aload_n 0, 1) := by decide +kernel
theorem dD_withTypesBuiltFrom_26 : decode bD_withTypesBuiltFrom 26 = .ok (.getfield 18, 3) := by decide +kernel
theorem dD_withTypesBuiltFrom_29 : decode bD_withTypesBuiltFrom 29 = .ok (.iload_n 3, 1) := by decide +kernel
theorem dD_withTypesBuiltFrom_30 : decode bD_withTypesBuiltFrom 30 = .ok (.iaload, 1) := by decide +kernel
theorem dD_withTypesBuiltFrom_31 : decode bD_withTypesBuiltFrom 31 = .ok (.iload_n 2, 1) := by decide +kernel
theorem dD_withTypesBuiltFrom_32 : decode bD_withTypesBuiltFrom 32 = .ok (.invokestatic 48, 3) := by decide +kernel
theorem dD_withTypesBuiltFrom_35 : decode bD_withTypesBuiltFrom 35 = .ok (.ifCond .eq 14, 3) := by decide +kernel
theorem dD_withTypesBuiltFrom_38 : decode bD_withTypesBuiltFrom 38 = .ok (.iload_n 2, 1) := by decide +kernel
theorem dD_withTypesBuiltFrom_39 : decode bD_withTypesBuiltFrom 39 = .ok (.iconst 1, 1) := by decide +kernel
theorem dD_withTypesBuiltFrom_40 : decode bD_withTypesBuiltFrom 40 = .ok (.aload_n 0, 1) := by decide +kernel
theorem dD_withTypesBuiltFrom_41 : decode bD_withTypesBuiltFrom 41 = .ok (.getfield 9, 3) := by decide +kernel
theorem dD_withTypesBuiltFrom_44 : decode bD_withTypesBuiltFrom 44 = .ok (.iload_n 3, 1) := by decide +kernel
theorem dD_withTypesBuiltFrom_45 : decode bD_withTypesBuiltFrom 45 = .ok (.iaload, 1) := by decide +kernel
theorem dD_withTypesBuiltFrom_46 : decode bD_withTypesBuiltFrom 46 = .ok (.ishl, 1) := by decide +kernel
theorem dD_withTypesBuiltFrom_47 : decode bD_withTypesBuiltFrom 47 = .ok (.ior, 1) := by decide +kernel
theorem dD_withTypesBuiltFrom_48 : decode bD_withTypesBuiltFrom 48 = .ok (.istore_n 2, 1) := by decide +kernel
theorem dD_withTypesBuiltFrom_49 : decode bD_withTypesBuiltFrom 49 = .ok (.iinc 3 1, 3) := by decide +kernel
theorem dD_withTypesBuiltFrom_52 : decode bD_withTypesBuiltFrom 52 = .ok (.goto (-48), 3) := by decide +kernel
theorem dD_withTypesBuiltFrom_55 : decode bD_withTypesBuiltFrom 55 = .ok (.iload_n 2, 1) := by decide +kernel
theorem dD_withTypesBuiltFrom_56 : decode bD_withTypesBuiltFrom 56 = .ok (.ireturn, 1) := by decide +kernel
theorem dD_everyTypeHasValues_0 : decode bD_everyTypeHasValues 0 = .ok (.iconst 1, 1) := by decide +kernel
theorem dD_everyTypeHasValues_1 : decode bD_everyTypeHasValues 1 = .ok (.istore_n 1, 1) := by decide +kernel
theorem dD_everyTypeHasValues_2 : decode bD_everyTypeHasValues 2 = .ok (.iconst 0, 1) := by decide +kernel
theorem dD_everyTypeHasValues_3 : decode bD_everyTypeHasValues 3 = .ok (.istore_n 2, 1) := by decide +kernel
theorem dD_everyTypeHasValues_4 : decode bD_everyTypeHasValues 4 = .ok (.iload_n 2, 1) := by decide +kernel
theorem dD_everyTypeHasValues_5 : decode bD_everyTypeHasValues 5 = .ok (.aload_n 0, 1) := by decide +kernel
theorem dD_everyTypeHasValues_6 : decode bD_everyTypeHasValues 6 = .ok (.getfield 21, 3) := by decide +kernel
theorem dD_everyTypeHasValues_9 : decode bD_everyTypeHasValues 9 = .ok (.if_icmp .ge 15, 3) := by decide +kernel
theorem dD_everyTypeHasValues_12 : decode bD_everyTypeHasValues 12 = .ok (.aload_n 0, 1) := by decide +kernel
theorem dD_everyTypeHasValues_13 : decode bD_everyTypeHasValues 13 = .ok (.iload_n 1, 1) := by decide +kernel
theorem dD_everyTypeHasValues_14 : decode bD_everyTypeHasValues 14 = .ok (.invokevirtual 45, 3) := by decide +kernel
theorem dD_everyTypeHasValues_17 : decode bD_everyTypeHasValues 17 = .ok (.istore_n 1, 1) := by decide +kernel
theorem dD_everyTypeHasValues_18 : decode bD_everyTypeHasValues 18 = .ok (.iinc 2 1, 3) := by decide +kernel
theorem dD_everyTypeHasValues_21 : decode bD_everyTypeHasValues 21 = .ok (.goto (-17), 3) := by decide +kernel
theorem dD_everyTypeHasValues_24 : decode bD_everyTypeHasValues 24 = .ok (.iload_n 1, 1) := by decide +kernel
theorem dD_everyTypeHasValues_25 : decode bD_everyTypeHasValues 25 = .ok (.iconst 1, 1) := by decide +kernel
theorem dD_everyTypeHasValues_26 : decode bD_everyTypeHasValues 26 = .ok (.aload_n 0, 1) := by decide +kernel
theorem dD_everyTypeHasValues_27 : decode bD_everyTypeHasValues 27 = .ok (.getfield 21, 3) := by decide +kernel
theorem dD_everyTypeHasValues_30 : decode bD_everyTypeHasValues 30 = .ok (.iconst 1, 1) := by decide +kernel
theorem dD_everyTypeHasValues_31 : decode bD_everyTypeHasValues 31 = .ok (.iadd, 1) := by decide +kernel
theorem dD_everyTypeHasValues_32 : decode bD_everyTypeHasValues 32 = .ok (.ishl, 1) := by decide +kernel
theorem dD_everyTypeHasValues_33 : decode bD_everyTypeHasValues 33 = .ok (.iconst 1, 1) := by decide +kernel
theorem dD_everyTypeHasValues_34 : decode bD_everyTypeHasValues 34 = .ok (.isub, 1) := by decide +kernel
theorem dD_everyTypeHasValues_35 : decode bD_everyTypeHasValues 35 = .ok (.if_icmp .ne 7, 3) := by decide +kernel
theorem dD_everyTypeHasValues_38 : decode bD_everyTypeHasValues 38 = .ok (.iconst 1, 1) := by decide +kernel
theorem dD_everyTypeHasValues_39 : decode bD_everyTypeHasValues 39 = .ok (.goto 4, 3) := by decide +kernel
theorem dD_everyTypeHasValues_42 : decode bD_everyTypeHasValues 42 = .ok (.iconst 0, 1) := by decide +kernel
theorem dD_everyTypeHasValues_43 : decode bD_everyTypeHasValues 43 = .ok (.ireturn, 1) := by decide +kernel
section Sdecl
variable {p : Program} {l : Launch} {e : Env} {R : Room} {s : State} {m : MethodId} {args : Array Value} {below : List Frame} {meth : Method} {c : Code} {Q : State → Prop} {D : va_G} {cA : Nat → ClassId} {ad : Nat → Nat} {H0 : Heap}
def fD_reset (st : ck_S) : Option ck_S := (some (ck_u (ck_u st 1 3 (0 : Int32)) 1 4 (0 : Int32)))
set_option maxRecDepth 100000 in
set_option maxHeartbeats 4000000 in
theorem cD_reset (l : Launch) (D : va_G) (cA : Nat → ClassId) (ad : Nat → Nat) {st : ck_S} {st0 : ck_S} (hf : fD_reset st = some st0) : Met l yD_reset (.code yD_reset bD_reset 1 none :: ck_T) (ck_R 0) (va_Pc [.ref (ad 1)] (ck_P sh_C cm_cl D cA ad st)) (va_Qv (fun u => u = st0) (ck_P sh_C cm_cl D cA ad) (ck_A ad sh_C.length)) 0 0 (ck_A ad sh_C.length) := by
  refine ck_met_v (own := R_D) (by decide +kernel) rfl (Nat.le_of_ble_eq_true rfl) (fun p e R s m args below meth c H0 Q ls C hret h hl => ?_)
  have C1 := C
  obtain ⟨hx, hb, hml, hown, hts, hK, hlv, hlo⟩ := C1
  have hl : lv_has ls 1 [(0, .ref (ad 1))] := hl
  unfold fD_reset at hf
  refine lv_aload_n hx hb dD_reset_0 rfl (lv_at hl 0 rfl) ?_
  refine lv_iconst (v := 0) hx hb dD_reset_1 (by decide) ?_
  refine ck_pi C h GD_ownTypes rfl rfl dD_reset_2 (fun H locs h => ?_)
  refine lv_aload_n hx hb dD_reset_5 rfl (lv_at hl 0 rfl) ?_
  refine lv_iconst (v := 0) hx hb dD_reset_6 (by decide) ?_
  refine ck_pi C h GD_constructors rfl rfl dD_reset_7 (fun H locs h => ?_)
  exact ck_rv hf hret h dD_reset_10
def fD_addType (st : ck_S) : Option (Int32 × ck_S) := (if (st 1 3) < (5 : Int32) then (some (((st 1 3) + (1 : Int32)), (ck_u st 1 3 ((st 1 3) + (1 : Int32))))) else (some ((-8 : Int32), st)))
set_option maxRecDepth 100000 in
set_option maxHeartbeats 4000000 in
theorem cD_addType (l : Launch) (D : va_G) (cA : Nat → ClassId) (ad : Nat → Nat) {st : ck_S} {r0 : Int32} {st0 : ck_S} (hf : fD_addType st = some (r0, st0)) : Met l yD_addType (.code yD_addType bD_addType 1 (some .int) :: ck_T) (ck_R 0) (va_Pc [.ref (ad 1)] (ck_P sh_C cm_cl D cA ad st)) (va_Qi (fun a u => a = r0 ∧ u = st0) (ck_P sh_C cm_cl D cA ad) (ck_A ad sh_C.length)) 0 0 (ck_A ad sh_C.length) := by
  refine ck_met_i (own := R_D) (by decide +kernel) rfl (Nat.le_of_ble_eq_true rfl) (fun p e R s m args below meth c H0 Q ls C hret h hl => ?_)
  have C1 := C
  obtain ⟨hx, hb, hml, hown, hts, hK, hlv, hlo⟩ := C1
  have hl : lv_has ls 1 [(0, .ref (ad 1))] := hl
  unfold fD_addType at hf
  refine lv_aload_n hx hb dD_addType_0 rfl (lv_at hl 0 rfl) ?_
  refine ck_gi (x := (st 1 3)) C h FD_ownTypes rfl dD_addType_1 ?_
  refine lv_iconst (v := 5) hx hb dD_addType_4 (by decide) ?_
  refine lv_icmp_lt (tgt := 11) hx hb dD_addType_5 rfl (fun hq => ?_) (fun hq => ?_)
  · have hf := ck_t hq hf
    refine lv_aload_n hx hb dD_addType_11 rfl (lv_at hl 0 rfl) ?_
    refine lv_dup hx hb dD_addType_12 rfl ?_
    refine ck_gi (x := (st 1 3)) C h FD_ownTypes rfl dD_addType_13 ?_
    refine lv_iconst (v := 1) hx hb dD_addType_16 (by decide) ?_
    refine lv_iadd hx hb dD_addType_17 ?_
    refine ck_pi C h GD_ownTypes rfl rfl dD_addType_18 (fun H locs h => ?_)
    refine lv_aload_n hx hb dD_addType_21 rfl (lv_at hl 0 rfl) ?_
    refine ck_gi (x := ((st 1 3) + (1 : Int32))) C h FD_ownTypes rfl dD_addType_22 ?_
    exact ck_ri hf hret h dD_addType_25
  · have hf := ck_f hq hf
    refine lv_bipush (v := (-8)) hx hb dD_addType_8 (by decide) ?_
    exact ck_ri hf hret h dD_addType_10
def fD_countOfType_l4 : Nat → Int32 → Int32 → Int32 → ck_S → Option (Int32 × ck_S)
  | 0, _, _, _, _ => none
  | n + 1, x1, x2, x3, st => (if (st 1 4) ≤ x3 then (some (x2, st)) else (ck_gd x3 12 (if (st 7 (x3).toNatClampNeg) = x1 then (fD_countOfType_l4 n x1 (x2 + 1) (x3 + 1) st) else (fD_countOfType_l4 n x1 x2 (x3 + 1) st))))
set_option maxRecDepth 100000 in
set_option maxHeartbeats 4000000 in
theorem BD_countOfType_4 (C : ck_X cm_cl D cA bD_countOfType 4 R_D 0 p R s m args c) {r0 : Int32} {st0 : ck_S} (hret : ∀ (pc : Nat) (H : Heap) (locs : List Loc) (ls : Array Slot), decode bD_countOfType pc = .ok (.ireturn, 1) → ck_AT sh_C cm_cl D cA ad H0 st0 H locs → W p l e R s m args below meth c H locs 0 0 Q (F0 m pc ls [.int r0])) : ∀ (n : Nat) (x1 : Int32) (x2 : Int32) (x3 : Int32) (st : ck_S) (H : Heap) (locs : List Loc) (ls : Array Slot), ck_AT sh_C cm_cl D cA ad H0 st H locs → lv_has ls 4 [(0, .ref (ad 1)), (1, .int x1), (2, .int x2), (3, .int x3)] → fD_countOfType_l4  n x1 x2 x3 st = some (r0, st0) → W p l e R s m args below meth c H locs 0 0 Q (F0 m 4 ls []) := by
  have C1 := C
  obtain ⟨hx, hb, hml, hown, hts, hK, hlv, hlo⟩ := C1
  intro n
  induction n with
  | zero => intro _ _ _ _ _ _ _ _ _ hf; cases hf
  | succ n ih =>
    intro x1 x2 x3 st H locs ls h hl hf
    rw [fD_countOfType_l4] at hf
    refine lv_iload_n hx hb dD_countOfType_4 rfl (lv_at hl 3 rfl) ?_
    refine lv_aload_n hx hb dD_countOfType_5 rfl (lv_at hl 0 rfl) ?_
    refine ck_gi (x := (st 1 4)) C h FD_constructors rfl dD_countOfType_6 ?_
    refine lv_icmp_ge (tgt := 31) hx hb dD_countOfType_9 rfl (fun hq => ?_) (fun hq => ?_)
    · have hf := ck_t hq hf
      refine lv_iload_n hx hb dD_countOfType_31 rfl (lv_at hl 2 rfl) ?_
      exact ck_ri hf hret h dD_countOfType_32
    · have hf := ck_f hq hf
      refine lv_aload_n hx hb dD_countOfType_12 rfl (lv_at hl 0 rfl) ?_
      refine ck_gr C h FD_owner dD_countOfType_13 ?_
      refine lv_iload_n hx hb dD_countOfType_16 rfl (lv_at hl 3 rfl) ?_
      obtain ⟨hg, hf⟩ := ck_gd_e hf
      refine ck_ai (x := (st 7 (x3).toNatClampNeg)) C h (show sh_C[7]? = some (.inr (0, 12)) from rfl) hg rfl dD_countOfType_17 ?_
      refine lv_iload_n hx hb dD_countOfType_18 rfl (lv_at hl 1 rfl) ?_
      refine lv_icmp_ne (tgt := 25) hx hb dD_countOfType_19 rfl (fun hq => ?_) (fun hq => ?_)
      · have hf := ck_f hq hf
        refine lv_iinc (k := 3) (v := (x3 + 1)) (lv' := [(3, .int (x3 + 1)), (0, .ref (ad 1)), (1, .int x1), (2, .int x2)]) hx hb dD_countOfType_25 hl rfl rfl (by decide) rfl (fun ls hl => ?_)
        refine lv_goto (tgt := 4) hx hb dD_countOfType_28 rfl ?_
        exact ih _ _ _ _ _ _ _ h (lv_sub hl [1, 2, 3, 0] rfl) hf
      · have hf := ck_t hq hf
        refine lv_iinc (k := 2) (v := (x2 + 1)) (lv' := [(2, .int (x2 + 1)), (0, .ref (ad 1)), (1, .int x1), (3, .int x3)]) hx hb dD_countOfType_22 hl rfl rfl (by decide) rfl (fun ls hl => ?_)
        refine lv_iinc (k := 3) (v := (x3 + 1)) (lv' := [(3, .int (x3 + 1)), (2, .int (x2 + 1)), (0, .ref (ad 1)), (1, .int x1)]) hx hb dD_countOfType_25 hl rfl rfl (by decide) rfl (fun ls hl => ?_)
        refine lv_goto (tgt := 4) hx hb dD_countOfType_28 rfl ?_
        exact ih _ _ _ _ _ _ _ h (lv_sub hl [2, 3, 1, 0] rfl) hf
def fD_countOfType (x1 : Int32) (st : ck_S) : Option (Int32 × ck_S) := (fD_countOfType_l4  4096 x1 (0 : Int32) (0 : Int32) st)
set_option maxRecDepth 100000 in
set_option maxHeartbeats 4000000 in
theorem cD_countOfType (l : Launch) (D : va_G) (cA : Nat → ClassId) (ad : Nat → Nat) {x1 : Int32} {st : ck_S} {r0 : Int32} {st0 : ck_S} (hf : fD_countOfType x1 st = some (r0, st0)) : Met l yD_countOfType (.code yD_countOfType bD_countOfType 4 (some .int) :: ck_T) (ck_R 0) (va_Pc [.ref (ad 1), .int x1] (ck_P sh_C cm_cl D cA ad st)) (va_Qi (fun a u => a = r0 ∧ u = st0) (ck_P sh_C cm_cl D cA ad) (ck_A ad sh_C.length)) 0 0 (ck_A ad sh_C.length) := by
  refine ck_met_i (own := R_D) (by decide +kernel) rfl (Nat.le_of_ble_eq_true rfl) (fun p e R s m args below meth c H0 Q ls C hret h hl => ?_)
  have C1 := C
  obtain ⟨hx, hb, hml, hown, hts, hK, hlv, hlo⟩ := C1
  have hl : lv_has ls 4 [(0, .ref (ad 1)), (1, .int x1)] := hl
  unfold fD_countOfType at hf
  refine lv_iconst (v := 0) hx hb dD_countOfType_0 (by decide) ?_
  refine lv_istore_n (lv' := [(2, .int (0 : Int32)), (0, .ref (ad 1)), (1, .int x1)]) hx hb dD_countOfType_1 rfl hl (by decide) rfl (fun ls hl => ?_)
  refine lv_iconst (v := 0) hx hb dD_countOfType_2 (by decide) ?_
  refine lv_istore_n (lv' := [(3, .int (0 : Int32)), (2, .int (0 : Int32)), (0, .ref (ad 1)), (1, .int x1)]) hx hb dD_countOfType_3 rfl hl (by decide) rfl (fun ls hl => ?_)
  exact BD_countOfType_4 C hret  4096 _ _ _ _ _ _ _ h (lv_sub hl [2, 3, 1, 0] rfl) hf
def fD_addConstructor (x1 : Int32) (x2 : Int32) (x3 : Int32) (st : ck_S) : Option (Int32 × ck_S) := (if (12 : Int32) ≤ (st 1 4) then (some ((-8 : Int32), st)) else (ck_b (fD_countOfType x1 st) fun v2 st1 => (if v2 < (4 : Int32) then (ck_gd (st1 1 4) 12 (ck_gd (st1 1 4) 12 (ck_gd (st1 1 4) 12 (some ((st1 1 4), (ck_u (ck_u (ck_u (ck_u st1 7 ((st1 1 4)).toNatClampNeg x1) 8 ((st1 1 4)).toNatClampNeg x2) 9 ((st1 1 4)).toNatClampNeg x3) 1 4 ((st1 1 4) + (1 : Int32)))))))) else (some ((-8 : Int32), st1)))))
set_option maxRecDepth 100000 in
set_option maxHeartbeats 4000000 in
theorem cD_addConstructor (l : Launch) (D : va_G) (cA : Nat → ClassId) (ad : Nat → Nat) {x1 : Int32} {x2 : Int32} {x3 : Int32} {st : ck_S} {r0 : Int32} {st0 : ck_S} (hf : fD_addConstructor x1 x2 x3 st = some (r0, st0)) : Met l yD_addConstructor (.code yD_addConstructor bD_addConstructor 5 (some .int) :: ck_T) (ck_R 1) (va_Pc [.ref (ad 1), .int x1, .int x2, .int x3] (ck_P sh_C cm_cl D cA ad st)) (va_Qi (fun a u => a = r0 ∧ u = st0) (ck_P sh_C cm_cl D cA ad) (ck_A ad sh_C.length)) 0 0 (ck_A ad sh_C.length) := by
  refine ck_met_i (own := R_D) (by decide +kernel) rfl (Nat.le_of_ble_eq_true rfl) (fun p e R s m args below meth c H0 Q ls C hret h hl => ?_)
  have C1 := C
  obtain ⟨hx, hb, hml, hown, hts, hK, hlv, hlo⟩ := C1
  have hl : lv_has ls 5 [(0, .ref (ad 1)), (1, .int x1), (2, .int x2), (3, .int x3)] := hl
  unfold fD_addConstructor at hf
  refine lv_aload_n hx hb dD_addConstructor_0 rfl (lv_at hl 0 rfl) ?_
  refine ck_gi (x := (st 1 4)) C h FD_constructors rfl dD_addConstructor_1 ?_
  refine lv_bipush (v := 12) hx hb dD_addConstructor_4 (by decide) ?_
  refine lv_icmp_ge (tgt := 18) hx hb dD_addConstructor_6 rfl (fun hq => ?_) (fun hq => ?_)
  · have hf := ck_t hq hf
    refine lv_bipush (v := (-8)) hx hb dD_addConstructor_18 (by decide) ?_
    exact ck_ri hf hret h dD_addConstructor_20
  · have hf := ck_f hq hf
    refine lv_aload_n hx hb dD_addConstructor_9 rfl (lv_at hl 0 rfl) ?_
    refine lv_iload_n hx hb dD_addConstructor_10 rfl (lv_at hl 1 rfl) ?_
    obtain ⟨v2, st1, hc, hf⟩ := ck_b_e hf
    refine ck_vi (As := [.int x1]) (rest := []) (q := 1) C h hl CD_D_countOfType sD_countOfType q_D (cD_countOfType l D cA ad hc) (Nat.le_of_ble_eq_true rfl) rfl rfl (Nat.le_of_ble_eq_true rfl) dD_addConstructor_11 (fun H locs h => ?_)
    refine lv_iconst (v := 4) hx hb dD_addConstructor_14 (by decide) ?_
    refine lv_icmp_lt (tgt := 21) hx hb dD_addConstructor_15 rfl (fun hq => ?_) (fun hq => ?_)
    · have hf := ck_t hq hf
      refine lv_aload_n hx hb dD_addConstructor_21 rfl (lv_at hl 0 rfl) ?_
      refine ck_gi (x := (st1 1 4)) C h FD_constructors rfl dD_addConstructor_22 ?_
      refine lv_istore (lv' := [(4, .int (st1 1 4)), (0, .ref (ad 1)), (1, .int x1), (2, .int x2), (3, .int x3)]) hx hb dD_addConstructor_25 hl (by decide) rfl (fun ls hl => ?_)
      refine lv_aload_n hx hb dD_addConstructor_27 rfl (lv_at hl 1 rfl) ?_
      refine ck_gr C h FD_owner dD_addConstructor_28 ?_
      refine lv_iload hx hb dD_addConstructor_31 (lv_at hl 0 rfl) ?_
      refine lv_iload_n hx hb dD_addConstructor_33 rfl (lv_at hl 2 rfl) ?_
      obtain ⟨hg, hf⟩ := ck_gd_e hf
      refine ck_si C h (show sh_C[7]? = some (.inr (0, 12)) from rfl) hg dD_addConstructor_34 (fun H locs h => ?_)
      refine lv_aload_n hx hb dD_addConstructor_35 rfl (lv_at hl 1 rfl) ?_
      refine ck_gr C h FD_firstType dD_addConstructor_36 ?_
      refine lv_iload hx hb dD_addConstructor_39 (lv_at hl 0 rfl) ?_
      refine lv_iload_n hx hb dD_addConstructor_41 rfl (lv_at hl 3 rfl) ?_
      obtain ⟨hg, hf⟩ := ck_gd_e hf
      refine ck_si C h (show sh_C[8]? = some (.inr (0, 12)) from rfl) hg dD_addConstructor_42 (fun H locs h => ?_)
      refine lv_aload_n hx hb dD_addConstructor_43 rfl (lv_at hl 1 rfl) ?_
      refine ck_gr C h FD_secondType dD_addConstructor_44 ?_
      refine lv_iload hx hb dD_addConstructor_47 (lv_at hl 0 rfl) ?_
      refine lv_iload_n hx hb dD_addConstructor_49 rfl (lv_at hl 4 rfl) ?_
      obtain ⟨hg, hf⟩ := ck_gd_e hf
      refine ck_si C h (show sh_C[9]? = some (.inr (0, 12)) from rfl) hg dD_addConstructor_50 (fun H locs h => ?_)
      refine lv_aload_n hx hb dD_addConstructor_51 rfl (lv_at hl 1 rfl) ?_
      refine lv_dup hx hb dD_addConstructor_52 rfl ?_
      refine ck_gi (x := (st1 1 4)) C h FD_constructors rfl dD_addConstructor_53 ?_
      refine lv_iconst (v := 1) hx hb dD_addConstructor_56 (by decide) ?_
      refine lv_iadd hx hb dD_addConstructor_57 ?_
      refine ck_pi C h GD_constructors rfl rfl dD_addConstructor_58 (fun H locs h => ?_)
      refine lv_iload hx hb dD_addConstructor_61 (lv_at hl 0 rfl) ?_
      exact ck_ri hf hret h dD_addConstructor_63
    · have hf := ck_f hq hf
      refine lv_bipush (v := (-8)) hx hb dD_addConstructor_18 (by decide) ?_
      exact ck_ri hf hret h dD_addConstructor_20
def fD_isType (x1 : Int32) (st : ck_S) : Option (Int32 × ck_S) := (if x1 < 0 then (some ((0 : Int32), st)) else (if (st 1 3) < x1 then (some ((0 : Int32), st)) else (some ((1 : Int32), st))))
set_option maxRecDepth 100000 in
set_option maxHeartbeats 4000000 in
theorem cD_isType (l : Launch) (D : va_G) (cA : Nat → ClassId) (ad : Nat → Nat) {x1 : Int32} {st : ck_S} {r0 : Int32} {st0 : ck_S} (hf : fD_isType x1 st = some (r0, st0)) : Met l yD_isType (.code yD_isType bD_isType 2 (some .boolean) :: ck_T) (ck_R 0) (va_Pc [.ref (ad 1), .int x1] (ck_P sh_C cm_cl D cA ad st)) (va_Qi (fun a u => a = r0 ∧ u = st0) (ck_P sh_C cm_cl D cA ad) (ck_A ad sh_C.length)) 0 0 (ck_A ad sh_C.length) := by
  refine ck_met_z (own := R_D) (by decide +kernel) rfl (Nat.le_of_ble_eq_true rfl) (fun p e R s m args below meth c H0 Q ls C hret h hl => ?_)
  have C1 := C
  obtain ⟨hx, hb, hml, hown, hts, hK, hlv, hlo⟩ := C1
  have hl : lv_has ls 2 [(0, .ref (ad 1)), (1, .int x1)] := hl
  unfold fD_isType at hf
  refine lv_iload_n hx hb dD_isType_0 rfl (lv_at hl 1 rfl) ?_
  refine lv_if_lt (tgt := 16) hx hb dD_isType_1 rfl (fun hq => ?_) (fun hq => ?_)
  · have hf := ck_t hq hf
    refine lv_iconst (v := 0) hx hb dD_isType_16 (by decide) ?_
    exact ck_rz hf hret ck_z0 h dD_isType_17
  · have hf := ck_f hq hf
    refine lv_iload_n hx hb dD_isType_4 rfl (lv_at hl 1 rfl) ?_
    refine lv_aload_n hx hb dD_isType_5 rfl (lv_at hl 0 rfl) ?_
    refine ck_gi (x := (st 1 3)) C h FD_ownTypes rfl dD_isType_6 ?_
    refine lv_icmp_gt (tgt := 16) hx hb dD_isType_9 rfl (fun hq => ?_) (fun hq => ?_)
    · have hf := ck_t hq hf
      refine lv_iconst (v := 0) hx hb dD_isType_16 (by decide) ?_
      exact ck_rz hf hret ck_z0 h dD_isType_17
    · have hf := ck_f hq hf
      refine lv_iconst (v := 1) hx hb dD_isType_12 (by decide) ?_
      refine lv_goto (tgt := 17) hx hb dD_isType_13 rfl ?_
      exact ck_rz hf hret ck_z1 h dD_isType_17
def fD_isOwnType (x1 : Int32) (st : ck_S) : Option (Int32 × ck_S) := (if x1 ≤ 0 then (some ((0 : Int32), st)) else (if (st 1 3) < x1 then (some ((0 : Int32), st)) else (some ((1 : Int32), st))))
set_option maxRecDepth 100000 in
set_option maxHeartbeats 4000000 in
theorem cD_isOwnType (l : Launch) (D : va_G) (cA : Nat → ClassId) (ad : Nat → Nat) {x1 : Int32} {st : ck_S} {r0 : Int32} {st0 : ck_S} (hf : fD_isOwnType x1 st = some (r0, st0)) : Met l yD_isOwnType (.code yD_isOwnType bD_isOwnType 2 (some .boolean) :: ck_T) (ck_R 0) (va_Pc [.ref (ad 1), .int x1] (ck_P sh_C cm_cl D cA ad st)) (va_Qi (fun a u => a = r0 ∧ u = st0) (ck_P sh_C cm_cl D cA ad) (ck_A ad sh_C.length)) 0 0 (ck_A ad sh_C.length) := by
  refine ck_met_z (own := R_D) (by decide +kernel) rfl (Nat.le_of_ble_eq_true rfl) (fun p e R s m args below meth c H0 Q ls C hret h hl => ?_)
  have C1 := C
  obtain ⟨hx, hb, hml, hown, hts, hK, hlv, hlo⟩ := C1
  have hl : lv_has ls 2 [(0, .ref (ad 1)), (1, .int x1)] := hl
  unfold fD_isOwnType at hf
  refine lv_iload_n hx hb dD_isOwnType_0 rfl (lv_at hl 1 rfl) ?_
  refine lv_if_le (tgt := 16) hx hb dD_isOwnType_1 rfl (fun hq => ?_) (fun hq => ?_)
  · have hf := ck_t hq hf
    refine lv_iconst (v := 0) hx hb dD_isOwnType_16 (by decide) ?_
    exact ck_rz hf hret ck_z0 h dD_isOwnType_17
  · have hf := ck_f hq hf
    refine lv_iload_n hx hb dD_isOwnType_4 rfl (lv_at hl 1 rfl) ?_
    refine lv_aload_n hx hb dD_isOwnType_5 rfl (lv_at hl 0 rfl) ?_
    refine ck_gi (x := (st 1 3)) C h FD_ownTypes rfl dD_isOwnType_6 ?_
    refine lv_icmp_gt (tgt := 16) hx hb dD_isOwnType_9 rfl (fun hq => ?_) (fun hq => ?_)
    · have hf := ck_t hq hf
      refine lv_iconst (v := 0) hx hb dD_isOwnType_16 (by decide) ?_
      exact ck_rz hf hret ck_z0 h dD_isOwnType_17
    · have hf := ck_f hq hf
      refine lv_iconst (v := 1) hx hb dD_isOwnType_12 (by decide) ?_
      refine lv_goto (tgt := 17) hx hb dD_isOwnType_13 rfl ?_
      exact ck_rz hf hret ck_z1 h dD_isOwnType_17
def fD_canBeArguments (x1 : Int32) (x2 : Int32) (st : ck_S) : Option (Int32 × ck_S) := (if x1 = (-1 : Int32) then (if x2 = (-1 : Int32) then (some ((1 : Int32), st)) else (some ((0 : Int32), st))) else (ck_b (fD_isType x1 st) fun v2 st1 => (if v2 = 0 then (some ((0 : Int32), st1)) else (if x2 = (-1 : Int32) then (some ((1 : Int32), st1)) else (ck_b (fD_isType x2 st1) fun v4 st3 => (if v4 = 0 then (some ((0 : Int32), st3)) else (some ((1 : Int32), st3))))))))
set_option maxRecDepth 100000 in
set_option maxHeartbeats 4000000 in
theorem cD_canBeArguments (l : Launch) (D : va_G) (cA : Nat → ClassId) (ad : Nat → Nat) {x1 : Int32} {x2 : Int32} {st : ck_S} {r0 : Int32} {st0 : ck_S} (hf : fD_canBeArguments x1 x2 st = some (r0, st0)) : Met l yD_canBeArguments (.code yD_canBeArguments bD_canBeArguments 3 (some .boolean) :: ck_T) (ck_R 1) (va_Pc [.ref (ad 1), .int x1, .int x2] (ck_P sh_C cm_cl D cA ad st)) (va_Qi (fun a u => a = r0 ∧ u = st0) (ck_P sh_C cm_cl D cA ad) (ck_A ad sh_C.length)) 0 0 (ck_A ad sh_C.length) := by
  refine ck_met_z (own := R_D) (by decide +kernel) rfl (Nat.le_of_ble_eq_true rfl) (fun p e R s m args below meth c H0 Q ls C hret h hl => ?_)
  have C1 := C
  obtain ⟨hx, hb, hml, hown, hts, hK, hlv, hlo⟩ := C1
  have hl : lv_has ls 3 [(0, .ref (ad 1)), (1, .int x1), (2, .int x2)] := hl
  unfold fD_canBeArguments at hf
  refine lv_iload_n hx hb dD_canBeArguments_0 rfl (lv_at hl 1 rfl) ?_
  refine lv_iconst (v := (-1)) hx hb dD_canBeArguments_1 (by decide) ?_
  refine lv_icmp_ne (tgt := 16) hx hb dD_canBeArguments_2 rfl (fun hq => ?_) (fun hq => ?_)
  · have hf := ck_f hq hf
    refine lv_aload_n hx hb dD_canBeArguments_16 rfl (lv_at hl 0 rfl) ?_
    refine lv_iload_n hx hb dD_canBeArguments_17 rfl (lv_at hl 1 rfl) ?_
    obtain ⟨v2, st1, hc, hf⟩ := ck_b_e hf
    refine ck_vi (As := [.int x1]) (rest := []) (q := 1) C h hl CD_D_isType sD_isType q_D (cD_isType l D cA ad hc) (Nat.le_of_ble_eq_true rfl) rfl rfl (Nat.le_of_ble_eq_true rfl) dD_canBeArguments_18 (fun H locs h => ?_)
    refine lv_if_eq (tgt := 41) hx hb dD_canBeArguments_21 rfl (fun hq => ?_) (fun hq => ?_)
    · have hf := ck_t hq hf
      refine lv_iconst (v := 0) hx hb dD_canBeArguments_41 (by decide) ?_
      exact ck_rz hf hret ck_z0 h dD_canBeArguments_42
    · have hf := ck_f hq hf
      refine lv_iload_n hx hb dD_canBeArguments_24 rfl (lv_at hl 2 rfl) ?_
      refine lv_iconst (v := (-1)) hx hb dD_canBeArguments_25 (by decide) ?_
      refine lv_icmp_eq (tgt := 37) hx hb dD_canBeArguments_26 rfl (fun hq => ?_) (fun hq => ?_)
      · have hf := ck_t hq hf
        refine lv_iconst (v := 1) hx hb dD_canBeArguments_37 (by decide) ?_
        refine lv_goto (tgt := 42) hx hb dD_canBeArguments_38 rfl ?_
        exact ck_rz hf hret ck_z1 h dD_canBeArguments_42
      · have hf := ck_f hq hf
        refine lv_aload_n hx hb dD_canBeArguments_29 rfl (lv_at hl 0 rfl) ?_
        refine lv_iload_n hx hb dD_canBeArguments_30 rfl (lv_at hl 2 rfl) ?_
        obtain ⟨v4, st3, hc, hf⟩ := ck_b_e hf
        refine ck_vi (As := [.int x2]) (rest := []) (q := 1) C h hl CD_D_isType sD_isType q_D (cD_isType l D cA ad hc) (Nat.le_of_ble_eq_true rfl) rfl rfl (Nat.le_of_ble_eq_true rfl) dD_canBeArguments_31 (fun H locs h => ?_)
        refine lv_if_eq (tgt := 41) hx hb dD_canBeArguments_34 rfl (fun hq => ?_) (fun hq => ?_)
        · have hf := ck_t hq hf
          refine lv_iconst (v := 0) hx hb dD_canBeArguments_41 (by decide) ?_
          exact ck_rz hf hret ck_z0 h dD_canBeArguments_42
        · have hf := ck_f hq hf
          refine lv_iconst (v := 1) hx hb dD_canBeArguments_37 (by decide) ?_
          refine lv_goto (tgt := 42) hx hb dD_canBeArguments_38 rfl ?_
          exact ck_rz hf hret ck_z1 h dD_canBeArguments_42
  · have hf := ck_t hq hf
    refine lv_iload_n hx hb dD_canBeArguments_5 rfl (lv_at hl 2 rfl) ?_
    refine lv_iconst (v := (-1)) hx hb dD_canBeArguments_6 (by decide) ?_
    refine lv_icmp_ne (tgt := 14) hx hb dD_canBeArguments_7 rfl (fun hq => ?_) (fun hq => ?_)
    · have hf := ck_f hq hf
      refine lv_iconst (v := 0) hx hb dD_canBeArguments_14 (by decide) ?_
      exact ck_rz hf hret ck_z0 h dD_canBeArguments_15
    · have hf := ck_t hq hf
      refine lv_iconst (v := 1) hx hb dD_canBeArguments_10 (by decide) ?_
      refine lv_goto (tgt := 15) hx hb dD_canBeArguments_11 rfl ?_
      exact ck_rz hf hret ck_z1 h dD_canBeArguments_15
def fD_isConstructor (x1 : Int32) (st : ck_S) : Option (Int32 × ck_S) := (if x1 < 0 then (some ((0 : Int32), st)) else (if (st 1 4) ≤ x1 then (some ((0 : Int32), st)) else (some ((1 : Int32), st))))
set_option maxRecDepth 100000 in
set_option maxHeartbeats 4000000 in
theorem cD_isConstructor (l : Launch) (D : va_G) (cA : Nat → ClassId) (ad : Nat → Nat) {x1 : Int32} {st : ck_S} {r0 : Int32} {st0 : ck_S} (hf : fD_isConstructor x1 st = some (r0, st0)) : Met l yD_isConstructor (.code yD_isConstructor bD_isConstructor 2 (some .boolean) :: ck_T) (ck_R 0) (va_Pc [.ref (ad 1), .int x1] (ck_P sh_C cm_cl D cA ad st)) (va_Qi (fun a u => a = r0 ∧ u = st0) (ck_P sh_C cm_cl D cA ad) (ck_A ad sh_C.length)) 0 0 (ck_A ad sh_C.length) := by
  refine ck_met_z (own := R_D) (by decide +kernel) rfl (Nat.le_of_ble_eq_true rfl) (fun p e R s m args below meth c H0 Q ls C hret h hl => ?_)
  have C1 := C
  obtain ⟨hx, hb, hml, hown, hts, hK, hlv, hlo⟩ := C1
  have hl : lv_has ls 2 [(0, .ref (ad 1)), (1, .int x1)] := hl
  unfold fD_isConstructor at hf
  refine lv_iload_n hx hb dD_isConstructor_0 rfl (lv_at hl 1 rfl) ?_
  refine lv_if_lt (tgt := 16) hx hb dD_isConstructor_1 rfl (fun hq => ?_) (fun hq => ?_)
  · have hf := ck_t hq hf
    refine lv_iconst (v := 0) hx hb dD_isConstructor_16 (by decide) ?_
    exact ck_rz hf hret ck_z0 h dD_isConstructor_17
  · have hf := ck_f hq hf
    refine lv_iload_n hx hb dD_isConstructor_4 rfl (lv_at hl 1 rfl) ?_
    refine lv_aload_n hx hb dD_isConstructor_5 rfl (lv_at hl 0 rfl) ?_
    refine ck_gi (x := (st 1 4)) C h FD_constructors rfl dD_isConstructor_6 ?_
    refine lv_icmp_ge (tgt := 16) hx hb dD_isConstructor_9 rfl (fun hq => ?_) (fun hq => ?_)
    · have hf := ck_t hq hf
      refine lv_iconst (v := 0) hx hb dD_isConstructor_16 (by decide) ?_
      exact ck_rz hf hret ck_z0 h dD_isConstructor_17
    · have hf := ck_f hq hf
      refine lv_iconst (v := 1) hx hb dD_isConstructor_12 (by decide) ?_
      refine lv_goto (tgt := 17) hx hb dD_isConstructor_13 rfl ?_
      exact ck_rz hf hret ck_z1 h dD_isConstructor_17
def fD_constructorCount (st : ck_S) : Option (Int32 × ck_S) := (some ((st 1 4), st))
set_option maxRecDepth 100000 in
set_option maxHeartbeats 4000000 in
theorem cD_constructorCount (l : Launch) (D : va_G) (cA : Nat → ClassId) (ad : Nat → Nat) {st : ck_S} {r0 : Int32} {st0 : ck_S} (hf : fD_constructorCount st = some (r0, st0)) : Met l yD_constructorCount (.code yD_constructorCount bD_constructorCount 1 (some .int) :: ck_T) (ck_R 0) (va_Pc [.ref (ad 1)] (ck_P sh_C cm_cl D cA ad st)) (va_Qi (fun a u => a = r0 ∧ u = st0) (ck_P sh_C cm_cl D cA ad) (ck_A ad sh_C.length)) 0 0 (ck_A ad sh_C.length) := by
  refine ck_met_i (own := R_D) (by decide +kernel) rfl (Nat.le_of_ble_eq_true rfl) (fun p e R s m args below meth c H0 Q ls C hret h hl => ?_)
  have C1 := C
  obtain ⟨hx, hb, hml, hown, hts, hK, hlv, hlo⟩ := C1
  have hl : lv_has ls 1 [(0, .ref (ad 1))] := hl
  unfold fD_constructorCount at hf
  refine lv_aload_n hx hb dD_constructorCount_0 rfl (lv_at hl 0 rfl) ?_
  refine ck_gi (x := (st 1 4)) C h FD_constructors rfl dD_constructorCount_1 ?_
  exact ck_ri hf hret h dD_constructorCount_4
def fD_ownerOf (x1 : Int32) (st : ck_S) : Option (Int32 × ck_S) := (ck_b (fD_isConstructor x1 st) fun v2 st1 => (if v2 = 0 then (some ((-1 : Int32), st1)) else (ck_gd x1 12 (some ((st1 7 (x1).toNatClampNeg), st1)))))
set_option maxRecDepth 100000 in
set_option maxHeartbeats 4000000 in
theorem cD_ownerOf (l : Launch) (D : va_G) (cA : Nat → ClassId) (ad : Nat → Nat) {x1 : Int32} {st : ck_S} {r0 : Int32} {st0 : ck_S} (hf : fD_ownerOf x1 st = some (r0, st0)) : Met l yD_ownerOf (.code yD_ownerOf bD_ownerOf 2 (some .int) :: ck_T) (ck_R 1) (va_Pc [.ref (ad 1), .int x1] (ck_P sh_C cm_cl D cA ad st)) (va_Qi (fun a u => a = r0 ∧ u = st0) (ck_P sh_C cm_cl D cA ad) (ck_A ad sh_C.length)) 0 0 (ck_A ad sh_C.length) := by
  refine ck_met_i (own := R_D) (by decide +kernel) rfl (Nat.le_of_ble_eq_true rfl) (fun p e R s m args below meth c H0 Q ls C hret h hl => ?_)
  have C1 := C
  obtain ⟨hx, hb, hml, hown, hts, hK, hlv, hlo⟩ := C1
  have hl : lv_has ls 2 [(0, .ref (ad 1)), (1, .int x1)] := hl
  unfold fD_ownerOf at hf
  refine lv_aload_n hx hb dD_ownerOf_0 rfl (lv_at hl 0 rfl) ?_
  refine lv_iload_n hx hb dD_ownerOf_1 rfl (lv_at hl 1 rfl) ?_
  obtain ⟨v2, st1, hc, hf⟩ := ck_b_e hf
  refine ck_vi (As := [.int x1]) (rest := []) (q := 1) C h hl CD_D_isConstructor sD_isConstructor q_D (cD_isConstructor l D cA ad hc) (Nat.le_of_ble_eq_true rfl) rfl rfl (Nat.le_of_ble_eq_true rfl) dD_ownerOf_2 (fun H locs h => ?_)
  refine lv_if_eq (tgt := 17) hx hb dD_ownerOf_5 rfl (fun hq => ?_) (fun hq => ?_)
  · have hf := ck_t hq hf
    refine lv_iconst (v := (-1)) hx hb dD_ownerOf_17 (by decide) ?_
    exact ck_ri hf hret h dD_ownerOf_18
  · have hf := ck_f hq hf
    refine lv_aload_n hx hb dD_ownerOf_8 rfl (lv_at hl 0 rfl) ?_
    refine ck_gr C h FD_owner dD_ownerOf_9 ?_
    refine lv_iload_n hx hb dD_ownerOf_12 rfl (lv_at hl 1 rfl) ?_
    obtain ⟨hg, hf⟩ := ck_gd_e hf
    refine ck_ai (x := (st1 7 (x1).toNatClampNeg)) C h (show sh_C[7]? = some (.inr (0, 12)) from rfl) hg rfl dD_ownerOf_13 ?_
    refine lv_goto (tgt := 18) hx hb dD_ownerOf_14 rfl ?_
    exact ck_ri hf hret h dD_ownerOf_18
def fD_firstTypeOf (x1 : Int32) (st : ck_S) : Option (Int32 × ck_S) := (ck_b (fD_isConstructor x1 st) fun v2 st1 => (if v2 = 0 then (some ((-1 : Int32), st1)) else (ck_gd x1 12 (some ((st1 8 (x1).toNatClampNeg), st1)))))
set_option maxRecDepth 100000 in
set_option maxHeartbeats 4000000 in
theorem cD_firstTypeOf (l : Launch) (D : va_G) (cA : Nat → ClassId) (ad : Nat → Nat) {x1 : Int32} {st : ck_S} {r0 : Int32} {st0 : ck_S} (hf : fD_firstTypeOf x1 st = some (r0, st0)) : Met l yD_firstTypeOf (.code yD_firstTypeOf bD_firstTypeOf 2 (some .int) :: ck_T) (ck_R 1) (va_Pc [.ref (ad 1), .int x1] (ck_P sh_C cm_cl D cA ad st)) (va_Qi (fun a u => a = r0 ∧ u = st0) (ck_P sh_C cm_cl D cA ad) (ck_A ad sh_C.length)) 0 0 (ck_A ad sh_C.length) := by
  refine ck_met_i (own := R_D) (by decide +kernel) rfl (Nat.le_of_ble_eq_true rfl) (fun p e R s m args below meth c H0 Q ls C hret h hl => ?_)
  have C1 := C
  obtain ⟨hx, hb, hml, hown, hts, hK, hlv, hlo⟩ := C1
  have hl : lv_has ls 2 [(0, .ref (ad 1)), (1, .int x1)] := hl
  unfold fD_firstTypeOf at hf
  refine lv_aload_n hx hb dD_firstTypeOf_0 rfl (lv_at hl 0 rfl) ?_
  refine lv_iload_n hx hb dD_firstTypeOf_1 rfl (lv_at hl 1 rfl) ?_
  obtain ⟨v2, st1, hc, hf⟩ := ck_b_e hf
  refine ck_vi (As := [.int x1]) (rest := []) (q := 1) C h hl CD_D_isConstructor sD_isConstructor q_D (cD_isConstructor l D cA ad hc) (Nat.le_of_ble_eq_true rfl) rfl rfl (Nat.le_of_ble_eq_true rfl) dD_firstTypeOf_2 (fun H locs h => ?_)
  refine lv_if_eq (tgt := 17) hx hb dD_firstTypeOf_5 rfl (fun hq => ?_) (fun hq => ?_)
  · have hf := ck_t hq hf
    refine lv_iconst (v := (-1)) hx hb dD_firstTypeOf_17 (by decide) ?_
    exact ck_ri hf hret h dD_firstTypeOf_18
  · have hf := ck_f hq hf
    refine lv_aload_n hx hb dD_firstTypeOf_8 rfl (lv_at hl 0 rfl) ?_
    refine ck_gr C h FD_firstType dD_firstTypeOf_9 ?_
    refine lv_iload_n hx hb dD_firstTypeOf_12 rfl (lv_at hl 1 rfl) ?_
    obtain ⟨hg, hf⟩ := ck_gd_e hf
    refine ck_ai (x := (st1 8 (x1).toNatClampNeg)) C h (show sh_C[8]? = some (.inr (0, 12)) from rfl) hg rfl dD_firstTypeOf_13 ?_
    refine lv_goto (tgt := 18) hx hb dD_firstTypeOf_14 rfl ?_
    exact ck_ri hf hret h dD_firstTypeOf_18
def fD_secondTypeOf (x1 : Int32) (st : ck_S) : Option (Int32 × ck_S) := (ck_b (fD_isConstructor x1 st) fun v2 st1 => (if v2 = 0 then (some ((-1 : Int32), st1)) else (ck_gd x1 12 (some ((st1 9 (x1).toNatClampNeg), st1)))))
set_option maxRecDepth 100000 in
set_option maxHeartbeats 4000000 in
theorem cD_secondTypeOf (l : Launch) (D : va_G) (cA : Nat → ClassId) (ad : Nat → Nat) {x1 : Int32} {st : ck_S} {r0 : Int32} {st0 : ck_S} (hf : fD_secondTypeOf x1 st = some (r0, st0)) : Met l yD_secondTypeOf (.code yD_secondTypeOf bD_secondTypeOf 2 (some .int) :: ck_T) (ck_R 1) (va_Pc [.ref (ad 1), .int x1] (ck_P sh_C cm_cl D cA ad st)) (va_Qi (fun a u => a = r0 ∧ u = st0) (ck_P sh_C cm_cl D cA ad) (ck_A ad sh_C.length)) 0 0 (ck_A ad sh_C.length) := by
  refine ck_met_i (own := R_D) (by decide +kernel) rfl (Nat.le_of_ble_eq_true rfl) (fun p e R s m args below meth c H0 Q ls C hret h hl => ?_)
  have C1 := C
  obtain ⟨hx, hb, hml, hown, hts, hK, hlv, hlo⟩ := C1
  have hl : lv_has ls 2 [(0, .ref (ad 1)), (1, .int x1)] := hl
  unfold fD_secondTypeOf at hf
  refine lv_aload_n hx hb dD_secondTypeOf_0 rfl (lv_at hl 0 rfl) ?_
  refine lv_iload_n hx hb dD_secondTypeOf_1 rfl (lv_at hl 1 rfl) ?_
  obtain ⟨v2, st1, hc, hf⟩ := ck_b_e hf
  refine ck_vi (As := [.int x1]) (rest := []) (q := 1) C h hl CD_D_isConstructor sD_isConstructor q_D (cD_isConstructor l D cA ad hc) (Nat.le_of_ble_eq_true rfl) rfl rfl (Nat.le_of_ble_eq_true rfl) dD_secondTypeOf_2 (fun H locs h => ?_)
  refine lv_if_eq (tgt := 17) hx hb dD_secondTypeOf_5 rfl (fun hq => ?_) (fun hq => ?_)
  · have hf := ck_t hq hf
    refine lv_iconst (v := (-1)) hx hb dD_secondTypeOf_17 (by decide) ?_
    exact ck_ri hf hret h dD_secondTypeOf_18
  · have hf := ck_f hq hf
    refine lv_aload_n hx hb dD_secondTypeOf_8 rfl (lv_at hl 0 rfl) ?_
    refine ck_gr C h FD_secondType dD_secondTypeOf_9 ?_
    refine lv_iload_n hx hb dD_secondTypeOf_12 rfl (lv_at hl 1 rfl) ?_
    obtain ⟨hg, hf⟩ := ck_gd_e hf
    refine ck_ai (x := (st1 9 (x1).toNatClampNeg)) C h (show sh_C[9]? = some (.inr (0, 12)) from rfl) hg rfl dD_secondTypeOf_13 ?_
    refine lv_goto (tgt := 18) hx hb dD_secondTypeOf_14 rfl ?_
    exact ck_ri hf hret h dD_secondTypeOf_18
def fD_argumentPlaces_b19 (x1 : Int32) (x2 : Int32) (x3 : Int32) (st : ck_S) : Option (Int32 × ck_S) := (ck_b (fD_secondTypeOf x1 st) fun v2 st1 => (if v2 = (-1 : Int32) then (some (x3, st1)) else (some ((x3 ||| ((1 : Int32) <<< ((((2 : Int32) * x2) + (1 : Int32)) &&& 31))), st1))))
set_option maxRecDepth 100000 in
set_option maxHeartbeats 4000000 in
theorem BD_argumentPlaces_19 (C : ck_X cm_cl D cA bD_argumentPlaces 4 R_D 2 p R s m args c) {r0 : Int32} {st0 : ck_S} (hret : ∀ (pc : Nat) (H : Heap) (locs : List Loc) (ls : Array Slot), decode bD_argumentPlaces pc = .ok (.ireturn, 1) → ck_AT sh_C cm_cl D cA ad H0 st0 H locs → W p l e R s m args below meth c H locs 0 0 Q (F0 m pc ls [.int r0])) (x1 : Int32) (x2 : Int32) (x3 : Int32) (st : ck_S) (H : Heap) (locs : List Loc) (ls : Array Slot) (h : ck_AT sh_C cm_cl D cA ad H0 st H locs) (hl : lv_has ls 4 [(0, .ref (ad 1)), (1, .int x1), (2, .int x2), (3, .int x3)]) (hf : fD_argumentPlaces_b19 x1 x2 x3 st = some (r0, st0)) : W p l e R s m args below meth c H locs 0 0 Q (F0 m 19 ls []) := by
  have C1 := C
  obtain ⟨hx, hb, hml, hown, hts, hK, hlv, hlo⟩ := C1
  unfold fD_argumentPlaces_b19 at hf
  refine lv_aload_n hx hb dD_argumentPlaces_19 rfl (lv_at hl 0 rfl) ?_
  refine lv_iload_n hx hb dD_argumentPlaces_20 rfl (lv_at hl 1 rfl) ?_
  obtain ⟨v2, st1, hc, hf⟩ := ck_b_e hf
  refine ck_vi (As := [.int x1]) (rest := []) (q := 1) C h hl CD_D_secondTypeOf sD_secondTypeOf q_D (cD_secondTypeOf l D cA ad hc) (Nat.le_of_ble_eq_true rfl) rfl rfl (Nat.le_of_ble_eq_true rfl) dD_argumentPlaces_21 (fun H locs h => ?_)
  refine lv_iconst (v := (-1)) hx hb dD_argumentPlaces_24 (by decide) ?_
  refine lv_icmp_eq (tgt := 38) hx hb dD_argumentPlaces_25 rfl (fun hq => ?_) (fun hq => ?_)
  · have hf := ck_t hq hf
    refine lv_iload_n hx hb dD_argumentPlaces_38 rfl (lv_at hl 3 rfl) ?_
    exact ck_ri hf hret h dD_argumentPlaces_39
  · have hf := ck_f hq hf
    refine lv_iload_n hx hb dD_argumentPlaces_28 rfl (lv_at hl 3 rfl) ?_
    refine lv_iconst (v := 1) hx hb dD_argumentPlaces_29 (by decide) ?_
    refine lv_iconst (v := 2) hx hb dD_argumentPlaces_30 (by decide) ?_
    refine lv_iload_n hx hb dD_argumentPlaces_31 rfl (lv_at hl 2 rfl) ?_
    refine lv_imul hx hb dD_argumentPlaces_32 ?_
    refine lv_iconst (v := 1) hx hb dD_argumentPlaces_33 (by decide) ?_
    refine lv_iadd hx hb dD_argumentPlaces_34 ?_
    refine lv_ishl hx hb dD_argumentPlaces_35 ?_
    refine lv_ior hx hb dD_argumentPlaces_36 ?_
    refine lv_istore_n (lv' := [(3, .int (x3 ||| ((1 : Int32) <<< ((((2 : Int32) * x2) + (1 : Int32)) &&& 31)))), (0, .ref (ad 1)), (1, .int x1), (2, .int x2)]) hx hb dD_argumentPlaces_37 rfl hl (by decide) rfl (fun ls hl => ?_)
    refine lv_iload_n hx hb dD_argumentPlaces_38 rfl (lv_at hl 0 rfl) ?_
    exact ck_ri hf hret h dD_argumentPlaces_39
def fD_argumentPlaces (x1 : Int32) (x2 : Int32) (st : ck_S) : Option (Int32 × ck_S) := (ck_b (fD_firstTypeOf x1 st) fun v2 st1 => (if v2 = (-1 : Int32) then (fD_argumentPlaces_b19 x1 x2 (0 : Int32) st1) else (fD_argumentPlaces_b19 x1 x2 ((0 : Int32) ||| ((1 : Int32) <<< (((2 : Int32) * x2) &&& 31))) st1)))
set_option maxRecDepth 100000 in
set_option maxHeartbeats 4000000 in
theorem cD_argumentPlaces (l : Launch) (D : va_G) (cA : Nat → ClassId) (ad : Nat → Nat) {x1 : Int32} {x2 : Int32} {st : ck_S} {r0 : Int32} {st0 : ck_S} (hf : fD_argumentPlaces x1 x2 st = some (r0, st0)) : Met l yD_argumentPlaces (.code yD_argumentPlaces bD_argumentPlaces 4 (some .int) :: ck_T) (ck_R 2) (va_Pc [.ref (ad 1), .int x1, .int x2] (ck_P sh_C cm_cl D cA ad st)) (va_Qi (fun a u => a = r0 ∧ u = st0) (ck_P sh_C cm_cl D cA ad) (ck_A ad sh_C.length)) 0 0 (ck_A ad sh_C.length) := by
  refine ck_met_i (own := R_D) (by decide +kernel) rfl (Nat.le_of_ble_eq_true rfl) (fun p e R s m args below meth c H0 Q ls C hret h hl => ?_)
  have C1 := C
  obtain ⟨hx, hb, hml, hown, hts, hK, hlv, hlo⟩ := C1
  have hl : lv_has ls 4 [(0, .ref (ad 1)), (1, .int x1), (2, .int x2)] := hl
  unfold fD_argumentPlaces at hf
  refine lv_iconst (v := 0) hx hb dD_argumentPlaces_0 (by decide) ?_
  refine lv_istore_n (lv' := [(3, .int (0 : Int32)), (0, .ref (ad 1)), (1, .int x1), (2, .int x2)]) hx hb dD_argumentPlaces_1 rfl hl (by decide) rfl (fun ls hl => ?_)
  refine lv_aload_n hx hb dD_argumentPlaces_2 rfl (lv_at hl 1 rfl) ?_
  refine lv_iload_n hx hb dD_argumentPlaces_3 rfl (lv_at hl 2 rfl) ?_
  obtain ⟨v2, st1, hc, hf⟩ := ck_b_e hf
  refine ck_vi (As := [.int x1]) (rest := []) (q := 1) C h hl CD_D_firstTypeOf sD_firstTypeOf q_D (cD_firstTypeOf l D cA ad hc) (Nat.le_of_ble_eq_true rfl) rfl rfl (Nat.le_of_ble_eq_true rfl) dD_argumentPlaces_4 (fun H locs h => ?_)
  refine lv_iconst (v := (-1)) hx hb dD_argumentPlaces_7 (by decide) ?_
  refine lv_icmp_eq (tgt := 19) hx hb dD_argumentPlaces_8 rfl (fun hq => ?_) (fun hq => ?_)
  · have hf := ck_t hq hf
    exact BD_argumentPlaces_19 C hret _ _ _ _ _ _ _ h (lv_sub hl [1, 2, 3, 0] rfl) hf
  · have hf := ck_f hq hf
    refine lv_iload_n hx hb dD_argumentPlaces_11 rfl (lv_at hl 0 rfl) ?_
    refine lv_iconst (v := 1) hx hb dD_argumentPlaces_12 (by decide) ?_
    refine lv_iconst (v := 2) hx hb dD_argumentPlaces_13 (by decide) ?_
    refine lv_iload_n hx hb dD_argumentPlaces_14 rfl (lv_at hl 3 rfl) ?_
    refine lv_imul hx hb dD_argumentPlaces_15 ?_
    refine lv_ishl hx hb dD_argumentPlaces_16 ?_
    refine lv_ior hx hb dD_argumentPlaces_17 ?_
    refine lv_istore_n (lv' := [(3, .int ((0 : Int32) ||| ((1 : Int32) <<< (((2 : Int32) * x2) &&& 31)))), (0, .ref (ad 1)), (1, .int x1), (2, .int x2)]) hx hb dD_argumentPlaces_18 rfl hl (by decide) rfl (fun ls hl => ?_)
    exact BD_argumentPlaces_19 C hret _ _ _ _ _ _ _ h (lv_sub hl [1, 2, 3, 0] rfl) hf
def fD_canBeGiven (x0 : Int32) (x1 : Int32) (st : ck_S) : Option (Int32 × ck_S) := (if x0 = (-1 : Int32) then (some ((1 : Int32), st)) else (if ((x1 >>> (x0 &&& 31)) &&& (1 : Int32)) = (1 : Int32) then (some ((1 : Int32), st)) else (some ((0 : Int32), st))))
set_option maxRecDepth 100000 in
set_option maxHeartbeats 4000000 in
theorem cD_canBeGiven (l : Launch) (D : va_G) (cA : Nat → ClassId) (ad : Nat → Nat) {x0 : Int32} {x1 : Int32} {st : ck_S} {r0 : Int32} {st0 : ck_S} (hf : fD_canBeGiven x0 x1 st = some (r0, st0)) : Met l yD_canBeGiven (.code yD_canBeGiven bD_canBeGiven 2 (some .boolean) :: ck_T) (ck_R 0) (va_Pc [.int x0, .int x1] (ck_P sh_C cm_cl D cA ad st)) (va_Qi (fun a u => a = r0 ∧ u = st0) (ck_P sh_C cm_cl D cA ad) (ck_A ad sh_C.length)) 0 0 (ck_A ad sh_C.length) := by
  refine ck_met_z (own := R_D) (by decide +kernel) rfl (Nat.le_of_ble_eq_true rfl) (fun p e R s m args below meth c H0 Q ls C hret h hl => ?_)
  have C1 := C
  obtain ⟨hx, hb, hml, hown, hts, hK, hlv, hlo⟩ := C1
  have hl : lv_has ls 2 [(0, .int x0), (1, .int x1)] := hl
  unfold fD_canBeGiven at hf
  refine lv_iload_n hx hb dD_canBeGiven_0 rfl (lv_at hl 0 rfl) ?_
  refine lv_iconst (v := (-1)) hx hb dD_canBeGiven_1 (by decide) ?_
  refine lv_icmp_eq (tgt := 14) hx hb dD_canBeGiven_2 rfl (fun hq => ?_) (fun hq => ?_)
  · have hf := ck_t hq hf
    refine lv_iconst (v := 1) hx hb dD_canBeGiven_14 (by decide) ?_
    refine lv_goto (tgt := 19) hx hb dD_canBeGiven_15 rfl ?_
    exact ck_rz hf hret ck_z1 h dD_canBeGiven_19
  · have hf := ck_f hq hf
    refine lv_iload_n hx hb dD_canBeGiven_5 rfl (lv_at hl 1 rfl) ?_
    refine lv_iload_n hx hb dD_canBeGiven_6 rfl (lv_at hl 0 rfl) ?_
    refine lv_ishr hx hb dD_canBeGiven_7 ?_
    refine lv_iconst (v := 1) hx hb dD_canBeGiven_8 (by decide) ?_
    refine lv_iand hx hb dD_canBeGiven_9 ?_
    refine lv_iconst (v := 1) hx hb dD_canBeGiven_10 (by decide) ?_
    refine lv_icmp_ne (tgt := 18) hx hb dD_canBeGiven_11 rfl (fun hq => ?_) (fun hq => ?_)
    · have hf := ck_f hq hf
      refine lv_iconst (v := 0) hx hb dD_canBeGiven_18 (by decide) ?_
      exact ck_rz hf hret ck_z0 h dD_canBeGiven_19
    · have hf := ck_t hq hf
      refine lv_iconst (v := 1) hx hb dD_canBeGiven_14 (by decide) ?_
      refine lv_goto (tgt := 19) hx hb dD_canBeGiven_15 rfl ?_
      exact ck_rz hf hret ck_z1 h dD_canBeGiven_19
def fD_withTypesBuiltFrom_l4 : Nat → Int32 → Int32 → ck_S → Option (Int32 × ck_S)
  | 0, _, _, _ => none
  | n + 1, x2, x3, st => (if (st 1 4) ≤ x3 then (some (x2, st)) else (ck_gd x3 12 (ck_b (fD_canBeGiven (st 8 (x3).toNatClampNeg) x2 st) fun v2 st1 => (if v2 = 0 then (fD_withTypesBuiltFrom_l4 n x2 (x3 + 1) st1) else (ck_gd x3 12 (ck_b (fD_canBeGiven (st1 9 (x3).toNatClampNeg) x2 st1) fun v4 st3 => (if v4 = 0 then (fD_withTypesBuiltFrom_l4 n x2 (x3 + 1) st3) else (ck_gd x3 12 (fD_withTypesBuiltFrom_l4 n (x2 ||| ((1 : Int32) <<< ((st3 7 (x3).toNatClampNeg) &&& 31))) (x3 + 1) st3)))))))))
set_option maxRecDepth 100000 in
set_option maxHeartbeats 4000000 in
theorem BD_withTypesBuiltFrom_4 (C : ck_X cm_cl D cA bD_withTypesBuiltFrom 4 R_D 1 p R s m args c) {r0 : Int32} {st0 : ck_S} (hret : ∀ (pc : Nat) (H : Heap) (locs : List Loc) (ls : Array Slot), decode bD_withTypesBuiltFrom pc = .ok (.ireturn, 1) → ck_AT sh_C cm_cl D cA ad H0 st0 H locs → W p l e R s m args below meth c H locs 0 0 Q (F0 m pc ls [.int r0])) : ∀ (n : Nat) (x2 : Int32) (x3 : Int32) (st : ck_S) (H : Heap) (locs : List Loc) (ls : Array Slot), ck_AT sh_C cm_cl D cA ad H0 st H locs → lv_has ls 4 [(0, .ref (ad 1)), (2, .int x2), (3, .int x3)] → fD_withTypesBuiltFrom_l4  n x2 x3 st = some (r0, st0) → W p l e R s m args below meth c H locs 0 0 Q (F0 m 4 ls []) := by
  have C1 := C
  obtain ⟨hx, hb, hml, hown, hts, hK, hlv, hlo⟩ := C1
  intro n
  induction n with
  | zero => intro _ _ _ _ _ _ _ _ hf; cases hf
  | succ n ih =>
    intro x2 x3 st H locs ls h hl hf
    rw [fD_withTypesBuiltFrom_l4] at hf
    refine lv_iload_n hx hb dD_withTypesBuiltFrom_4 rfl (lv_at hl 2 rfl) ?_
    refine lv_aload_n hx hb dD_withTypesBuiltFrom_5 rfl (lv_at hl 0 rfl) ?_
    refine ck_gi (x := (st 1 4)) C h FD_constructors rfl dD_withTypesBuiltFrom_6 ?_
    refine lv_icmp_ge (tgt := 55) hx hb dD_withTypesBuiltFrom_9 rfl (fun hq => ?_) (fun hq => ?_)
    · have hf := ck_t hq hf
      refine lv_iload_n hx hb dD_withTypesBuiltFrom_55 rfl (lv_at hl 1 rfl) ?_
      exact ck_ri hf hret h dD_withTypesBuiltFrom_56
    · have hf := ck_f hq hf
      refine lv_aload_n hx hb dD_withTypesBuiltFrom_12 rfl (lv_at hl 0 rfl) ?_
      refine ck_gr C h FD_firstType dD_withTypesBuiltFrom_13 ?_
      refine lv_iload_n hx hb dD_withTypesBuiltFrom_16 rfl (lv_at hl 2 rfl) ?_
      obtain ⟨hg, hf⟩ := ck_gd_e hf
      refine ck_ai (x := (st 8 (x3).toNatClampNeg)) C h (show sh_C[8]? = some (.inr (0, 12)) from rfl) hg rfl dD_withTypesBuiltFrom_17 ?_
      refine lv_iload_n hx hb dD_withTypesBuiltFrom_18 rfl (lv_at hl 1 rfl) ?_
      obtain ⟨v2, st1, hc, hf⟩ := ck_b_e hf
      refine ck_ti (As := [.int (st 8 (x3).toNatClampNeg), .int x2]) (rest := []) C h hl CD_D_canBeGiven sD_canBeGiven (cD_canBeGiven l D cA ad hc) (Nat.le_of_ble_eq_true rfl) rfl rfl (Nat.le_of_ble_eq_true rfl) dD_withTypesBuiltFrom_19 (fun H locs h => ?_)
      refine lv_if_eq (tgt := 49) hx hb dD_withTypesBuiltFrom_22 rfl (fun hq => ?_) (fun hq => ?_)
      · have hf := ck_t hq hf
        refine lv_iinc (k := 2) (v := (x3 + 1)) (lv' := [(3, .int (x3 + 1)), (0, .ref (ad 1)), (2, .int x2)]) hx hb dD_withTypesBuiltFrom_49 hl rfl rfl (by decide) rfl (fun ls hl => ?_)
        refine lv_goto (tgt := 4) hx hb dD_withTypesBuiltFrom_52 rfl ?_
        exact ih _ _ _ _ _ _ h (lv_sub hl [1, 2, 0] rfl) hf
      · have hf := ck_f hq hf
        refine lv_aload_n hx hb dD_withTypesBuiltFrom_25 rfl (lv_at hl 0 rfl) ?_
        refine ck_gr C h FD_secondType dD_withTypesBuiltFrom_26 ?_
        refine lv_iload_n hx hb dD_withTypesBuiltFrom_29 rfl (lv_at hl 2 rfl) ?_
        obtain ⟨hg, hf⟩ := ck_gd_e hf
        refine ck_ai (x := (st1 9 (x3).toNatClampNeg)) C h (show sh_C[9]? = some (.inr (0, 12)) from rfl) hg rfl dD_withTypesBuiltFrom_30 ?_
        refine lv_iload_n hx hb dD_withTypesBuiltFrom_31 rfl (lv_at hl 1 rfl) ?_
        obtain ⟨v4, st3, hc, hf⟩ := ck_b_e hf
        refine ck_ti (As := [.int (st1 9 (x3).toNatClampNeg), .int x2]) (rest := []) C h hl CD_D_canBeGiven sD_canBeGiven (cD_canBeGiven l D cA ad hc) (Nat.le_of_ble_eq_true rfl) rfl rfl (Nat.le_of_ble_eq_true rfl) dD_withTypesBuiltFrom_32 (fun H locs h => ?_)
        refine lv_if_eq (tgt := 49) hx hb dD_withTypesBuiltFrom_35 rfl (fun hq => ?_) (fun hq => ?_)
        · have hf := ck_t hq hf
          refine lv_iinc (k := 2) (v := (x3 + 1)) (lv' := [(3, .int (x3 + 1)), (0, .ref (ad 1)), (2, .int x2)]) hx hb dD_withTypesBuiltFrom_49 hl rfl rfl (by decide) rfl (fun ls hl => ?_)
          refine lv_goto (tgt := 4) hx hb dD_withTypesBuiltFrom_52 rfl ?_
          exact ih _ _ _ _ _ _ h (lv_sub hl [1, 2, 0] rfl) hf
        · have hf := ck_f hq hf
          refine lv_iload_n hx hb dD_withTypesBuiltFrom_38 rfl (lv_at hl 1 rfl) ?_
          refine lv_iconst (v := 1) hx hb dD_withTypesBuiltFrom_39 (by decide) ?_
          refine lv_aload_n hx hb dD_withTypesBuiltFrom_40 rfl (lv_at hl 0 rfl) ?_
          refine ck_gr C h FD_owner dD_withTypesBuiltFrom_41 ?_
          refine lv_iload_n hx hb dD_withTypesBuiltFrom_44 rfl (lv_at hl 2 rfl) ?_
          obtain ⟨hg, hf⟩ := ck_gd_e hf
          refine ck_ai (x := (st3 7 (x3).toNatClampNeg)) C h (show sh_C[7]? = some (.inr (0, 12)) from rfl) hg rfl dD_withTypesBuiltFrom_45 ?_
          refine lv_ishl hx hb dD_withTypesBuiltFrom_46 ?_
          refine lv_ior hx hb dD_withTypesBuiltFrom_47 ?_
          refine lv_istore_n (lv' := [(2, .int (x2 ||| ((1 : Int32) <<< ((st3 7 (x3).toNatClampNeg) &&& 31)))), (0, .ref (ad 1)), (3, .int x3)]) hx hb dD_withTypesBuiltFrom_48 rfl hl (by decide) rfl (fun ls hl => ?_)
          refine lv_iinc (k := 2) (v := (x3 + 1)) (lv' := [(3, .int (x3 + 1)), (2, .int (x2 ||| ((1 : Int32) <<< ((st3 7 (x3).toNatClampNeg) &&& 31)))), (0, .ref (ad 1))]) hx hb dD_withTypesBuiltFrom_49 hl rfl rfl (by decide) rfl (fun ls hl => ?_)
          refine lv_goto (tgt := 4) hx hb dD_withTypesBuiltFrom_52 rfl ?_
          exact ih _ _ _ _ _ _ h (lv_sub hl [2, 1, 0] rfl) hf
def fD_withTypesBuiltFrom (x1 : Int32) (st : ck_S) : Option (Int32 × ck_S) := (fD_withTypesBuiltFrom_l4  4096 x1 (0 : Int32) st)
set_option maxRecDepth 100000 in
set_option maxHeartbeats 4000000 in
theorem cD_withTypesBuiltFrom (l : Launch) (D : va_G) (cA : Nat → ClassId) (ad : Nat → Nat) {x1 : Int32} {st : ck_S} {r0 : Int32} {st0 : ck_S} (hf : fD_withTypesBuiltFrom x1 st = some (r0, st0)) : Met l yD_withTypesBuiltFrom (.code yD_withTypesBuiltFrom bD_withTypesBuiltFrom 4 (some .int) :: ck_T) (ck_R 1) (va_Pc [.ref (ad 1), .int x1] (ck_P sh_C cm_cl D cA ad st)) (va_Qi (fun a u => a = r0 ∧ u = st0) (ck_P sh_C cm_cl D cA ad) (ck_A ad sh_C.length)) 0 0 (ck_A ad sh_C.length) := by
  refine ck_met_i (own := R_D) (by decide +kernel) rfl (Nat.le_of_ble_eq_true rfl) (fun p e R s m args below meth c H0 Q ls C hret h hl => ?_)
  have C1 := C
  obtain ⟨hx, hb, hml, hown, hts, hK, hlv, hlo⟩ := C1
  have hl : lv_has ls 4 [(0, .ref (ad 1)), (1, .int x1)] := hl
  unfold fD_withTypesBuiltFrom at hf
  refine lv_iload_n hx hb dD_withTypesBuiltFrom_0 rfl (lv_at hl 1 rfl) ?_
  refine lv_istore_n (lv' := [(2, .int x1), (0, .ref (ad 1)), (1, .int x1)]) hx hb dD_withTypesBuiltFrom_1 rfl hl (by decide) rfl (fun ls hl => ?_)
  refine lv_iconst (v := 0) hx hb dD_withTypesBuiltFrom_2 (by decide) ?_
  refine lv_istore_n (lv' := [(3, .int (0 : Int32)), (2, .int x1), (0, .ref (ad 1)), (1, .int x1)]) hx hb dD_withTypesBuiltFrom_3 rfl hl (by decide) rfl (fun ls hl => ?_)
  exact BD_withTypesBuiltFrom_4 C hret  4096 _ _ _ _ _ _ h (lv_sub hl [2, 1, 0] rfl) hf
def fD_everyTypeHasValues_l4 (k24 : Int32 → ck_S → Option (Int32 × ck_S)) : Nat → Int32 → Int32 → ck_S → Option (Int32 × ck_S)
  | 0, _, _, _ => none
  | n + 1, x1, x2, st => (if (st 1 3) ≤ x2 then (k24 x1 st) else (ck_b (fD_withTypesBuiltFrom x1 st) fun v2 st1 => (fD_everyTypeHasValues_l4 k24 n v2 (x2 + 1) st1)))
set_option maxRecDepth 100000 in
set_option maxHeartbeats 4000000 in
theorem BD_everyTypeHasValues_4 (C : ck_X cm_cl D cA bD_everyTypeHasValues 3 R_D 2 p R s m args c) {r0 : Int32} {st0 : ck_S} (hret : ∀ (pc : Nat) (H : Heap) (locs : List Loc) (ls : Array Slot), decode bD_everyTypeHasValues pc = .ok (.ireturn, 1) → (r0 = 0 ∨ r0 = 1) → ck_AT sh_C cm_cl D cA ad H0 st0 H locs → W p l e R s m args below meth c H locs 0 0 Q (F0 m pc ls [.int r0])) {k24 : Int32 → ck_S → Option (Int32 × ck_S)} (hk24 : ∀ (x1 : Int32) (st : ck_S) (H : Heap) (locs : List Loc) (ls : Array Slot), ck_AT sh_C cm_cl D cA ad H0 st H locs → lv_has ls 3 [(0, .ref (ad 1)), (1, .int x1)] → k24 x1 st = some (r0, st0) → W p l e R s m args below meth c H locs 0 0 Q (F0 m 24 ls [])) : ∀ (n : Nat) (x1 : Int32) (x2 : Int32) (st : ck_S) (H : Heap) (locs : List Loc) (ls : Array Slot), ck_AT sh_C cm_cl D cA ad H0 st H locs → lv_has ls 3 [(0, .ref (ad 1)), (1, .int x1), (2, .int x2)] → fD_everyTypeHasValues_l4 k24 n x1 x2 st = some (r0, st0) → W p l e R s m args below meth c H locs 0 0 Q (F0 m 4 ls []) := by
  have C1 := C
  obtain ⟨hx, hb, hml, hown, hts, hK, hlv, hlo⟩ := C1
  intro n
  induction n with
  | zero => intro _ _ _ _ _ _ _ _ hf; cases hf
  | succ n ih =>
    intro x1 x2 st H locs ls h hl hf
    rw [fD_everyTypeHasValues_l4] at hf
    refine lv_iload_n hx hb dD_everyTypeHasValues_4 rfl (lv_at hl 2 rfl) ?_
    refine lv_aload_n hx hb dD_everyTypeHasValues_5 rfl (lv_at hl 0 rfl) ?_
    refine ck_gi (x := (st 1 3)) C h FD_ownTypes rfl dD_everyTypeHasValues_6 ?_
    refine lv_icmp_ge (tgt := 24) hx hb dD_everyTypeHasValues_9 rfl (fun hq => ?_) (fun hq => ?_)
    · have hf := ck_t hq hf
      exact hk24 _ _ _ _ _ h (lv_sub hl [0, 1] rfl) hf
    · have hf := ck_f hq hf
      refine lv_aload_n hx hb dD_everyTypeHasValues_12 rfl (lv_at hl 0 rfl) ?_
      refine lv_iload_n hx hb dD_everyTypeHasValues_13 rfl (lv_at hl 1 rfl) ?_
      obtain ⟨v2, st1, hc, hf⟩ := ck_b_e hf
      refine ck_vi (As := [.int x1]) (rest := []) (q := 1) C h hl CD_D_withTypesBuiltFrom sD_withTypesBuiltFrom q_D (cD_withTypesBuiltFrom l D cA ad hc) (Nat.le_of_ble_eq_true rfl) rfl rfl (Nat.le_of_ble_eq_true rfl) dD_everyTypeHasValues_14 (fun H locs h => ?_)
      refine lv_istore_n (lv' := [(1, .int v2), (0, .ref (ad 1)), (2, .int x2)]) hx hb dD_everyTypeHasValues_17 rfl hl (by decide) rfl (fun ls hl => ?_)
      refine lv_iinc (k := 2) (v := (x2 + 1)) (lv' := [(2, .int (x2 + 1)), (1, .int v2), (0, .ref (ad 1))]) hx hb dD_everyTypeHasValues_18 hl rfl rfl (by decide) rfl (fun ls hl => ?_)
      refine lv_goto (tgt := 4) hx hb dD_everyTypeHasValues_21 rfl ?_
      exact ih _ _ _ _ _ _ h (lv_sub hl [2, 1, 0] rfl) hf
def fD_everyTypeHasValues_b24 (x1 : Int32) (st : ck_S) : Option (Int32 × ck_S) := (if x1 = (((1 : Int32) <<< (((st 1 3) + (1 : Int32)) &&& 31)) - (1 : Int32)) then (some ((1 : Int32), st)) else (some ((0 : Int32), st)))
set_option maxRecDepth 100000 in
set_option maxHeartbeats 4000000 in
theorem BD_everyTypeHasValues_24 (C : ck_X cm_cl D cA bD_everyTypeHasValues 3 R_D 2 p R s m args c) {r0 : Int32} {st0 : ck_S} (hret : ∀ (pc : Nat) (H : Heap) (locs : List Loc) (ls : Array Slot), decode bD_everyTypeHasValues pc = .ok (.ireturn, 1) → (r0 = 0 ∨ r0 = 1) → ck_AT sh_C cm_cl D cA ad H0 st0 H locs → W p l e R s m args below meth c H locs 0 0 Q (F0 m pc ls [.int r0])) (x1 : Int32) (st : ck_S) (H : Heap) (locs : List Loc) (ls : Array Slot) (h : ck_AT sh_C cm_cl D cA ad H0 st H locs) (hl : lv_has ls 3 [(0, .ref (ad 1)), (1, .int x1)]) (hf : fD_everyTypeHasValues_b24 x1 st = some (r0, st0)) : W p l e R s m args below meth c H locs 0 0 Q (F0 m 24 ls []) := by
  have C1 := C
  obtain ⟨hx, hb, hml, hown, hts, hK, hlv, hlo⟩ := C1
  unfold fD_everyTypeHasValues_b24 at hf
  refine lv_iload_n hx hb dD_everyTypeHasValues_24 rfl (lv_at hl 1 rfl) ?_
  refine lv_iconst (v := 1) hx hb dD_everyTypeHasValues_25 (by decide) ?_
  refine lv_aload_n hx hb dD_everyTypeHasValues_26 rfl (lv_at hl 0 rfl) ?_
  refine ck_gi (x := (st 1 3)) C h FD_ownTypes rfl dD_everyTypeHasValues_27 ?_
  refine lv_iconst (v := 1) hx hb dD_everyTypeHasValues_30 (by decide) ?_
  refine lv_iadd hx hb dD_everyTypeHasValues_31 ?_
  refine lv_ishl hx hb dD_everyTypeHasValues_32 ?_
  refine lv_iconst (v := 1) hx hb dD_everyTypeHasValues_33 (by decide) ?_
  refine lv_isub hx hb dD_everyTypeHasValues_34 ?_
  refine lv_icmp_ne (tgt := 42) hx hb dD_everyTypeHasValues_35 rfl (fun hq => ?_) (fun hq => ?_)
  · have hf := ck_f hq hf
    refine lv_iconst (v := 0) hx hb dD_everyTypeHasValues_42 (by decide) ?_
    exact ck_rz hf hret ck_z0 h dD_everyTypeHasValues_43
  · have hf := ck_t hq hf
    refine lv_iconst (v := 1) hx hb dD_everyTypeHasValues_38 (by decide) ?_
    refine lv_goto (tgt := 43) hx hb dD_everyTypeHasValues_39 rfl ?_
    exact ck_rz hf hret ck_z1 h dD_everyTypeHasValues_43
def fD_everyTypeHasValues (st : ck_S) : Option (Int32 × ck_S) := (fD_everyTypeHasValues_l4 (fun x1 st => (fD_everyTypeHasValues_b24 x1 st)) 4096 (1 : Int32) (0 : Int32) st)
set_option maxRecDepth 100000 in
set_option maxHeartbeats 4000000 in
theorem cD_everyTypeHasValues (l : Launch) (D : va_G) (cA : Nat → ClassId) (ad : Nat → Nat) {st : ck_S} {r0 : Int32} {st0 : ck_S} (hf : fD_everyTypeHasValues st = some (r0, st0)) : Met l yD_everyTypeHasValues (.code yD_everyTypeHasValues bD_everyTypeHasValues 3 (some .boolean) :: ck_T) (ck_R 2) (va_Pc [.ref (ad 1)] (ck_P sh_C cm_cl D cA ad st)) (va_Qi (fun a u => a = r0 ∧ u = st0) (ck_P sh_C cm_cl D cA ad) (ck_A ad sh_C.length)) 0 0 (ck_A ad sh_C.length) := by
  refine ck_met_z (own := R_D) (by decide +kernel) rfl (Nat.le_of_ble_eq_true rfl) (fun p e R s m args below meth c H0 Q ls C hret h hl => ?_)
  have C1 := C
  obtain ⟨hx, hb, hml, hown, hts, hK, hlv, hlo⟩ := C1
  have hl : lv_has ls 3 [(0, .ref (ad 1))] := hl
  unfold fD_everyTypeHasValues at hf
  refine lv_iconst (v := 1) hx hb dD_everyTypeHasValues_0 (by decide) ?_
  refine lv_istore_n (lv' := [(1, .int (1 : Int32)), (0, .ref (ad 1))]) hx hb dD_everyTypeHasValues_1 rfl hl (by decide) rfl (fun ls hl => ?_)
  refine lv_iconst (v := 0) hx hb dD_everyTypeHasValues_2 (by decide) ?_
  refine lv_istore_n (lv' := [(2, .int (0 : Int32)), (1, .int (1 : Int32)), (0, .ref (ad 1))]) hx hb dD_everyTypeHasValues_3 rfl hl (by decide) rfl (fun ls hl => ?_)
  exact BD_everyTypeHasValues_4 C hret (fun x1 st H locs ls h hl hf => by
      exact BD_everyTypeHasValues_24 C hret _ _ _ _ _ h (lv_sub hl [0, 1] rfl) hf) 4096 _ _ _ _ _ _ h (lv_sub hl [2, 1, 0] rfl) hf
end Sdecl
