section
-- ===== PART A: goes FIRST, ahead of the names: the tables' words, and 'selects' of the private methods out of them =====
/-- a private method of a class that the tables say can be made, by its rows of tables_1 -/
def lw_okq (q : MethodName × Nat) : Prop := (q.1.cls ≠ "java/lang/invoke/MethodHandle" ∧ q.1.cls ≠ "java/lang/invoke/VarHandle") ∧ Cond.instantiable q.1.cls q.2 ∈ tables_1 ∧ Cond.privateMethod q.1 ∈ tables_1 ∧ Cond.instanceMethod q.1 ∈ tables_1
theorem lw_p0 : lw_okq (⟨"ClauseMatrix$Declarations", "countOfType", "(I)I"⟩, 5) := ⟨⟨by decide +kernel, by decide +kernel⟩, List.mem_of_getElem? (i := 21) (by decide +kernel), List.mem_of_getElem? (i := 299) (by decide +kernel), List.mem_of_getElem? (i := 300) (by decide +kernel)⟩
theorem lw_p1 : lw_okq (⟨"ClauseMatrix$Declarations", "withTypesBuiltFrom", "(I)I"⟩, 5) := ⟨⟨by decide +kernel, by decide +kernel⟩, List.mem_of_getElem? (i := 21) (by decide +kernel), List.mem_of_getElem? (i := 312) (by decide +kernel), List.mem_of_getElem? (i := 313) (by decide +kernel)⟩
theorem lw_p2 : lw_okq (⟨"ClauseMatrix$Patterns", "add", "(ZII)I"⟩, 8) := ⟨⟨by decide +kernel, by decide +kernel⟩, List.mem_of_getElem? (i := 44) (by decide +kernel), List.mem_of_getElem? (i := 331) (by decide +kernel), List.mem_of_getElem? (i := 332) (by decide +kernel)⟩
theorem lw_p3 : lw_okq (⟨"ClauseMatrix$Patterns", "withParts", "(IIIII)I"⟩, 8) := ⟨⟨by decide +kernel, by decide +kernel⟩, List.mem_of_getElem? (i := 44) (by decide +kernel), List.mem_of_getElem? (i := 335) (by decide +kernel), List.mem_of_getElem? (i := 336) (by decide +kernel)⟩
theorem lw_p4 : lw_okq (⟨"ClauseMatrix$Patterns", "depthOf", "(I)I"⟩, 8) := ⟨⟨by decide +kernel, by decide +kernel⟩, List.mem_of_getElem? (i := 44) (by decide +kernel), List.mem_of_getElem? (i := 388) (by decide +kernel), List.mem_of_getElem? (i := 389) (by decide +kernel)⟩
theorem lw_p5 : lw_okq (⟨"ClauseMatrix$Match", "layOut", "(IIII)V"⟩, 9) := ⟨⟨by decide +kernel, by decide +kernel⟩, List.mem_of_getElem? (i := 98) (by decide +kernel), List.mem_of_getElem? (i := 425) (by decide +kernel), List.mem_of_getElem? (i := 426) (by decide +kernel)⟩
theorem lw_p6 : lw_okq (⟨"ClauseMatrix$Tree", "addNode", "(IIII)Z"⟩, 17) := ⟨⟨by decide +kernel, by decide +kernel⟩, List.mem_of_getElem? (i := 132) (by decide +kernel), List.mem_of_getElem? (i := 463) (by decide +kernel), List.mem_of_getElem? (i := 464) (by decide +kernel)⟩
theorem lw_p7 : lw_okq (⟨"ClauseMatrix$Tree", "expand", "(I)Z"⟩, 17) := ⟨⟨by decide +kernel, by decide +kernel⟩, List.mem_of_getElem? (i := 132) (by decide +kernel), List.mem_of_getElem? (i := 467) (by decide +kernel), List.mem_of_getElem? (i := 468) (by decide +kernel)⟩
theorem lw_p8 : lw_okq (⟨"ClauseMatrix$Tree", "makeLeaf", "(I)V"⟩, 17) := ⟨⟨by decide +kernel, by decide +kernel⟩, List.mem_of_getElem? (i := 132) (by decide +kernel), List.mem_of_getElem? (i := 481) (by decide +kernel), List.mem_of_getElem? (i := 482) (by decide +kernel)⟩
theorem lw_p9 : lw_okq (⟨"ClauseMatrix$Tree", "addNumbers", "(I)Z"⟩, 17) := ⟨⟨by decide +kernel, by decide +kernel⟩, List.mem_of_getElem? (i := 132) (by decide +kernel), List.mem_of_getElem? (i := 494) (by decide +kernel), List.mem_of_getElem? (i := 495) (by decide +kernel)⟩
theorem lw_p10 : lw_okq (⟨"ClauseMatrix$Tree", "addConstructors", "(I)Z"⟩, 17) := ⟨⟨by decide +kernel, by decide +kernel⟩, List.mem_of_getElem? (i := 132) (by decide +kernel), List.mem_of_getElem? (i := 514) (by decide +kernel), List.mem_of_getElem? (i := 515) (by decide +kernel)⟩
theorem lw_p11 : lw_okq (⟨"ClauseMatrix$Tree", "markFailing", "()V"⟩, 17) := ⟨⟨by decide +kernel, by decide +kernel⟩, List.mem_of_getElem? (i := 132) (by decide +kernel), List.mem_of_getElem? (i := 529) (by decide +kernel), List.mem_of_getElem? (i := 530) (by decide +kernel)⟩
theorem lw_p12 : lw_okq (⟨"ClauseMatrix$Tree", "has", "(I)Z"⟩, 17) := ⟨⟨by decide +kernel, by decide +kernel⟩, List.mem_of_getElem? (i := 132) (by decide +kernel), List.mem_of_getElem? (i := 537) (by decide +kernel), List.mem_of_getElem? (i := 538) (by decide +kernel)⟩
theorem lw_p13 : lw_okq (⟨"ClauseMatrix$Witness", "followWayToFail", "()V"⟩, 7) := ⟨⟨by decide +kernel, by decide +kernel⟩, List.mem_of_getElem? (i := 190) (by decide +kernel), List.mem_of_getElem? (i := 550) (by decide +kernel), List.mem_of_getElem? (i := 551) (by decide +kernel)⟩
theorem lw_p14 : lw_okq (⟨"ClauseMatrix$Witness", "noteBranch", "(II)V"⟩, 7) := ⟨⟨by decide +kernel, by decide +kernel⟩, List.mem_of_getElem? (i := 190) (by decide +kernel), List.mem_of_getElem? (i := 559) (by decide +kernel), List.mem_of_getElem? (i := 560) (by decide +kernel)⟩
theorem lw_p15 : lw_okq (⟨"ClauseMatrix$Tree", "branchFor", "(II)I"⟩, 17) := ⟨⟨by decide +kernel, by decide +kernel⟩, List.mem_of_getElem? (i := 132) (by decide +kernel), List.mem_of_getElem? (i := 576) (by decide +kernel), List.mem_of_getElem? (i := 577) (by decide +kernel)⟩
def lw_privs_1 : List (MethodName × Nat) := [(⟨"ClauseMatrix$Declarations", "countOfType", "(I)I"⟩, 5), (⟨"ClauseMatrix$Declarations", "withTypesBuiltFrom", "(I)I"⟩, 5), (⟨"ClauseMatrix$Patterns", "add", "(ZII)I"⟩, 8), (⟨"ClauseMatrix$Patterns", "withParts", "(IIIII)I"⟩, 8), (⟨"ClauseMatrix$Patterns", "depthOf", "(I)I"⟩, 8), (⟨"ClauseMatrix$Match", "layOut", "(IIII)V"⟩, 9), (⟨"ClauseMatrix$Tree", "addNode", "(IIII)Z"⟩, 17), (⟨"ClauseMatrix$Tree", "expand", "(I)Z"⟩, 17), (⟨"ClauseMatrix$Tree", "makeLeaf", "(I)V"⟩, 17), (⟨"ClauseMatrix$Tree", "addNumbers", "(I)Z"⟩, 17), (⟨"ClauseMatrix$Tree", "addConstructors", "(I)Z"⟩, 17), (⟨"ClauseMatrix$Tree", "markFailing", "()V"⟩, 17), (⟨"ClauseMatrix$Tree", "has", "(I)Z"⟩, 17), (⟨"ClauseMatrix$Witness", "followWayToFail", "()V"⟩, 7), (⟨"ClauseMatrix$Witness", "noteBranch", "(II)V"⟩, 7), (⟨"ClauseMatrix$Tree", "branchFor", "(II)I"⟩, 17)]
theorem lw_r1 : ∀ q ∈ lw_privs_1, lw_okq q := List.forall_mem_cons.mpr ⟨lw_p0, List.forall_mem_cons.mpr ⟨lw_p1, List.forall_mem_cons.mpr ⟨lw_p2, List.forall_mem_cons.mpr ⟨lw_p3, List.forall_mem_cons.mpr ⟨lw_p4, List.forall_mem_cons.mpr ⟨lw_p5, List.forall_mem_cons.mpr ⟨lw_p6, List.forall_mem_cons.mpr ⟨lw_p7, List.forall_mem_cons.mpr ⟨lw_p8, List.forall_mem_cons.mpr ⟨lw_p9, List.forall_mem_cons.mpr ⟨lw_p10, List.forall_mem_cons.mpr ⟨lw_p11, List.forall_mem_cons.mpr ⟨lw_p12, List.forall_mem_cons.mpr ⟨lw_p13, List.forall_mem_cons.mpr ⟨lw_p14, List.forall_mem_cons.mpr ⟨lw_p15, fun _ h => absurd h List.not_mem_nil⟩⟩⟩⟩⟩⟩⟩⟩⟩⟩⟩⟩⟩⟩⟩⟩
theorem lw_p16 : lw_okq (⟨"ClauseMatrix$Witness", "write", "(I)V"⟩, 7) := ⟨⟨by decide +kernel, by decide +kernel⟩, List.mem_of_getElem? (i := 190) (by decide +kernel), List.mem_of_getElem? (i := 584) (by decide +kernel), List.mem_of_getElem? (i := 585) (by decide +kernel)⟩
theorem lw_p17 : lw_okq (⟨"ClauseMatrix$Tree", "alike", "(II)Z"⟩, 17) := ⟨⟨by decide +kernel, by decide +kernel⟩, List.mem_of_getElem? (i := 132) (by decide +kernel), List.mem_of_getElem? (i := 606) (by decide +kernel), List.mem_of_getElem? (i := 607) (by decide +kernel)⟩
theorem lw_p18 : lw_okq (⟨"ClauseMatrixModel", "isType", "(I)Z"⟩, 47) := ⟨⟨by decide +kernel, by decide +kernel⟩, List.mem_of_getElem? (i := 728) (by decide +kernel), List.mem_of_getElem? (i := 888) (by decide +kernel), List.mem_of_getElem? (i := 889) (by decide +kernel)⟩
theorem lw_p19 : lw_okq (⟨"ClauseMatrixModel", "constructorsOf", "(I)I"⟩, 47) := ⟨⟨by decide +kernel, by decide +kernel⟩, List.mem_of_getElem? (i := 728) (by decide +kernel), List.mem_of_getElem? (i := 892) (by decide +kernel), List.mem_of_getElem? (i := 893) (by decide +kernel)⟩
theorem lw_p20 : lw_okq (⟨"ClauseMatrixModel", "inhabited", "()Z"⟩, 47) := ⟨⟨by decide +kernel, by decide +kernel⟩, List.mem_of_getElem? (i := 728) (by decide +kernel), List.mem_of_getElem? (i := 900) (by decide +kernel), List.mem_of_getElem? (i := 901) (by decide +kernel)⟩
theorem lw_p21 : lw_okq (⟨"ClauseMatrixModel", "pattern", "(IIIIIII)I"⟩, 47) := ⟨⟨by decide +kernel, by decide +kernel⟩, List.mem_of_getElem? (i := 728) (by decide +kernel), List.mem_of_getElem? (i := 908) (by decide +kernel), List.mem_of_getElem? (i := 909) (by decide +kernel)⟩
theorem lw_p22 : lw_okq (⟨"ClauseMatrixModel", "isPattern", "(I)Z"⟩, 47) := ⟨⟨by decide +kernel, by decide +kernel⟩, List.mem_of_getElem? (i := 728) (by decide +kernel), List.mem_of_getElem? (i := 920) (by decide +kernel), List.mem_of_getElem? (i := 921) (by decide +kernel)⟩
theorem lw_p23 : lw_okq (⟨"ClauseMatrixModel", "fitsType", "(II)Z"⟩, 47) := ⟨⟨by decide +kernel, by decide +kernel⟩, List.mem_of_getElem? (i := 728) (by decide +kernel), List.mem_of_getElem? (i := 924) (by decide +kernel), List.mem_of_getElem? (i := 925) (by decide +kernel)⟩
theorem lw_p24 : lw_okq (⟨"ClauseMatrixModel", "writeOut", "(III)V"⟩, 47) := ⟨⟨by decide +kernel, by decide +kernel⟩, List.mem_of_getElem? (i := 728) (by decide +kernel), List.mem_of_getElem? (i := 936) (by decide +kernel), List.mem_of_getElem? (i := 937) (by decide +kernel)⟩
theorem lw_p25 : lw_okq (⟨"ClauseMatrixModel", "writeOne", "(II)I"⟩, 47) := ⟨⟨by decide +kernel, by decide +kernel⟩, List.mem_of_getElem? (i := 728) (by decide +kernel), List.mem_of_getElem? (i := 940) (by decide +kernel), List.mem_of_getElem? (i := 941) (by decide +kernel)⟩
theorem lw_p26 : lw_okq (⟨"ClauseMatrixModel", "grow", "(I)V"⟩, 47) := ⟨⟨by decide +kernel, by decide +kernel⟩, List.mem_of_getElem? (i := 728) (by decide +kernel), List.mem_of_getElem? (i := 948) (by decide +kernel), List.mem_of_getElem? (i := 949) (by decide +kernel)⟩
theorem lw_p27 : lw_okq (⟨"ClauseMatrixModel", "choose", "(II)I"⟩, 47) := ⟨⟨by decide +kernel, by decide +kernel⟩, List.mem_of_getElem? (i := 728) (by decide +kernel), List.mem_of_getElem? (i := 952) (by decide +kernel), List.mem_of_getElem? (i := 953) (by decide +kernel)⟩
theorem lw_p28 : lw_okq (⟨"ClauseMatrixModel", "askers", "(II)I"⟩, 47) := ⟨⟨by decide +kernel, by decide +kernel⟩, List.mem_of_getElem? (i := 728) (by decide +kernel), List.mem_of_getElem? (i := 959) (by decide +kernel), List.mem_of_getElem? (i := 960) (by decide +kernel)⟩
theorem lw_p29 : lw_okq (⟨"ClauseMatrixModel", "growNumbers", "(III)V"⟩, 47) := ⟨⟨by decide +kernel, by decide +kernel⟩, List.mem_of_getElem? (i := 728) (by decide +kernel), List.mem_of_getElem? (i := 963) (by decide +kernel), List.mem_of_getElem? (i := 964) (by decide +kernel)⟩
theorem lw_p30 : lw_okq (⟨"ClauseMatrixModel", "branch", "(IIZI)V"⟩, 47) := ⟨⟨by decide +kernel, by decide +kernel⟩, List.mem_of_getElem? (i := 728) (by decide +kernel), List.mem_of_getElem? (i := 969) (by decide +kernel), List.mem_of_getElem? (i := 970) (by decide +kernel)⟩
theorem lw_p31 : lw_okq (⟨"ClauseMatrixModel", "keep", "(IIIZ)I"⟩, 47) := ⟨⟨by decide +kernel, by decide +kernel⟩, List.mem_of_getElem? (i := 728) (by decide +kernel), List.mem_of_getElem? (i := 973) (by decide +kernel), List.mem_of_getElem? (i := 974) (by decide +kernel)⟩
def lw_privs_2 : List (MethodName × Nat) := [(⟨"ClauseMatrix$Witness", "write", "(I)V"⟩, 7), (⟨"ClauseMatrix$Tree", "alike", "(II)Z"⟩, 17), (⟨"ClauseMatrixModel", "isType", "(I)Z"⟩, 47), (⟨"ClauseMatrixModel", "constructorsOf", "(I)I"⟩, 47), (⟨"ClauseMatrixModel", "inhabited", "()Z"⟩, 47), (⟨"ClauseMatrixModel", "pattern", "(IIIIIII)I"⟩, 47), (⟨"ClauseMatrixModel", "isPattern", "(I)Z"⟩, 47), (⟨"ClauseMatrixModel", "fitsType", "(II)Z"⟩, 47), (⟨"ClauseMatrixModel", "writeOut", "(III)V"⟩, 47), (⟨"ClauseMatrixModel", "writeOne", "(II)I"⟩, 47), (⟨"ClauseMatrixModel", "grow", "(I)V"⟩, 47), (⟨"ClauseMatrixModel", "choose", "(II)I"⟩, 47), (⟨"ClauseMatrixModel", "askers", "(II)I"⟩, 47), (⟨"ClauseMatrixModel", "growNumbers", "(III)V"⟩, 47), (⟨"ClauseMatrixModel", "branch", "(IIZI)V"⟩, 47), (⟨"ClauseMatrixModel", "keep", "(IIIZ)I"⟩, 47)]
theorem lw_r2 : ∀ q ∈ lw_privs_2, lw_okq q := List.forall_mem_cons.mpr ⟨lw_p16, List.forall_mem_cons.mpr ⟨lw_p17, List.forall_mem_cons.mpr ⟨lw_p18, List.forall_mem_cons.mpr ⟨lw_p19, List.forall_mem_cons.mpr ⟨lw_p20, List.forall_mem_cons.mpr ⟨lw_p21, List.forall_mem_cons.mpr ⟨lw_p22, List.forall_mem_cons.mpr ⟨lw_p23, List.forall_mem_cons.mpr ⟨lw_p24, List.forall_mem_cons.mpr ⟨lw_p25, List.forall_mem_cons.mpr ⟨lw_p26, List.forall_mem_cons.mpr ⟨lw_p27, List.forall_mem_cons.mpr ⟨lw_p28, List.forall_mem_cons.mpr ⟨lw_p29, List.forall_mem_cons.mpr ⟨lw_p30, List.forall_mem_cons.mpr ⟨lw_p31, fun _ h => absurd h List.not_mem_nil⟩⟩⟩⟩⟩⟩⟩⟩⟩⟩⟩⟩⟩⟩⟩⟩
theorem lw_p32 : lw_okq (⟨"ClauseMatrixModel", "findWitness", "()V"⟩, 47) := ⟨⟨by decide +kernel, by decide +kernel⟩, List.mem_of_getElem? (i := 728) (by decide +kernel), List.mem_of_getElem? (i := 977) (by decide +kernel), List.mem_of_getElem? (i := 978) (by decide +kernel)⟩
theorem lw_p33 : lw_okq (⟨"ClauseMatrixModel", "hasBranch", "(II)Z"⟩, 47) := ⟨⟨by decide +kernel, by decide +kernel⟩, List.mem_of_getElem? (i := 728) (by decide +kernel), List.mem_of_getElem? (i := 981) (by decide +kernel), List.mem_of_getElem? (i := 982) (by decide +kernel)⟩
theorem lw_p34 : lw_okq (⟨"ClauseMatrixModel", "writeWitness", "()V"⟩, 47) := ⟨⟨by decide +kernel, by decide +kernel⟩, List.mem_of_getElem? (i := 728) (by decide +kernel), List.mem_of_getElem? (i := 985) (by decide +kernel), List.mem_of_getElem? (i := 986) (by decide +kernel)⟩
theorem lw_p35 : lw_okq (⟨"ClauseMatrixModel", "alike", "(II)Z"⟩, 47) := ⟨⟨by decide +kernel, by decide +kernel⟩, List.mem_of_getElem? (i := 728) (by decide +kernel), List.mem_of_getElem? (i := 993) (by decide +kernel), List.mem_of_getElem? (i := 994) (by decide +kernel)⟩
theorem lw_p36 : lw_okq (⟨"ClauseMatrixModel", "value", "(IIII)I"⟩, 47) := ⟨⟨by decide +kernel, by decide +kernel⟩, List.mem_of_getElem? (i := 728) (by decide +kernel), List.mem_of_getElem? (i := 1021) (by decide +kernel), List.mem_of_getElem? (i := 1022) (by decide +kernel)⟩
theorem lw_p37 : lw_okq (⟨"ClauseMatrixModel", "isValue", "(I)Z"⟩, 47) := ⟨⟨by decide +kernel, by decide +kernel⟩, List.mem_of_getElem? (i := 728) (by decide +kernel), List.mem_of_getElem? (i := 1029) (by decide +kernel), List.mem_of_getElem? (i := 1030) (by decide +kernel)⟩
theorem lw_p38 : lw_okq (⟨"ClauseMatrixModel", "typeOf", "(I)I"⟩, 47) := ⟨⟨by decide +kernel, by decide +kernel⟩, List.mem_of_getElem? (i := 728) (by decide +kernel), List.mem_of_getElem? (i := 1033) (by decide +kernel), List.mem_of_getElem? (i := 1034) (by decide +kernel)⟩
theorem lw_p39 : lw_okq (⟨"ClauseMatrixModel", "walk", "(I)I"⟩, 47) := ⟨⟨by decide +kernel, by decide +kernel⟩, List.mem_of_getElem? (i := 728) (by decide +kernel), List.mem_of_getElem? (i := 1041) (by decide +kernel), List.mem_of_getElem? (i := 1042) (by decide +kernel)⟩
theorem lw_p40 : lw_okq (⟨"ClauseMatrixModel", "part", "(II)I"⟩, 47) := ⟨⟨by decide +kernel, by decide +kernel⟩, List.mem_of_getElem? (i := 728) (by decide +kernel), List.mem_of_getElem? (i := 1045) (by decide +kernel), List.mem_of_getElem? (i := 1046) (by decide +kernel)⟩
theorem lw_p41 : lw_okq (⟨"ClauseMatrixModel", "fits", "(II)Z"⟩, 47) := ⟨⟨by decide +kernel, by decide +kernel⟩, List.mem_of_getElem? (i := 728) (by decide +kernel), List.mem_of_getElem? (i := 1049) (by decide +kernel), List.mem_of_getElem? (i := 1050) (by decide +kernel)⟩
def lw_privs_3 : List (MethodName × Nat) := [(⟨"ClauseMatrixModel", "findWitness", "()V"⟩, 47), (⟨"ClauseMatrixModel", "hasBranch", "(II)Z"⟩, 47), (⟨"ClauseMatrixModel", "writeWitness", "()V"⟩, 47), (⟨"ClauseMatrixModel", "alike", "(II)Z"⟩, 47), (⟨"ClauseMatrixModel", "value", "(IIII)I"⟩, 47), (⟨"ClauseMatrixModel", "isValue", "(I)Z"⟩, 47), (⟨"ClauseMatrixModel", "typeOf", "(I)I"⟩, 47), (⟨"ClauseMatrixModel", "walk", "(I)I"⟩, 47), (⟨"ClauseMatrixModel", "part", "(II)I"⟩, 47), (⟨"ClauseMatrixModel", "fits", "(II)Z"⟩, 47)]
theorem lw_r3 : ∀ q ∈ lw_privs_3, lw_okq q := List.forall_mem_cons.mpr ⟨lw_p32, List.forall_mem_cons.mpr ⟨lw_p33, List.forall_mem_cons.mpr ⟨lw_p34, List.forall_mem_cons.mpr ⟨lw_p35, List.forall_mem_cons.mpr ⟨lw_p36, List.forall_mem_cons.mpr ⟨lw_p37, List.forall_mem_cons.mpr ⟨lw_p38, List.forall_mem_cons.mpr ⟨lw_p39, List.forall_mem_cons.mpr ⟨lw_p40, List.forall_mem_cons.mpr ⟨lw_p41, fun _ h => absurd h List.not_mem_nil⟩⟩⟩⟩⟩⟩⟩⟩⟩⟩
def lw_privs : List (MethodName × Nat) := lw_privs_1 ++ (lw_privs_2 ++ (lw_privs_3))
def lw_tbl : List Cond := k2_sels lw_privs ++ tables_1
theorem lw_privs_ok : ∀ q ∈ lw_privs, lw_okq q := by
  show ∀ q ∈ lw_privs_1 ++ (lw_privs_2 ++ (lw_privs_3)), lw_okq q
  exact List.forall_mem_append.mpr ⟨lw_r1, List.forall_mem_append.mpr ⟨lw_r2, lw_r3⟩⟩
end
section
/-! My own words for a state: cells by number, an object's slots and an array's elements by place. -/
abbrev ck_S : Type := Nat → Nat → Int32
def ck_u (st : ck_S) (q i : Nat) (x : Int32) : ck_S := fun a => if a = q then upd (st q) i x else st a
abbrev ck_Sh : Type := (Nat × List (Option Nat)) ⊕ (Nat × Nat)
def ck_fv (ad : Nat → Nat) (r : Nat → Int32) (j : Nat) (d : Option Nat) : Value := match d with
  | none => .int (r j)
  | some t => .ref (ad t)
def ck_ce (cA : Nat → ClassId) (ad : Nat → Nat) (r : Nat → Int32) (x : ck_Sh) : va_E := match x with
  | .inl o => .inr (o.1, o.2.mapIdx (ck_fv ad r))
  | .inr a => .inl (cA a.1, a.2, .inl r)
def ck_w (sh : List ck_Sh) (cA : Nat → ClassId) (ad : Nat → Nat) (st : ck_S) : va_W := sh.mapIdx (fun q x => (ad q, ck_ce cA ad (st q) x))
theorem ck_w_at {sh : List ck_Sh} {cA : Nat → ClassId} {ad : Nat → Nat} {st : ck_S} {q : Nat} {x : ck_Sh} (h : sh[q]? = some x) : (ck_w sh cA ad st)[q]? = some (ad q, ck_ce cA ad (st q) x) := by
  unfold ck_w
  rw [List.getElem?_mapIdx, h]
  rfl
theorem ck_w_set {sh : List ck_Sh} {cA : Nat → ClassId} {ad : Nat → Nat} {st : ck_S} {q : Nat} {x : ck_Sh} {r : Nat → Int32} (h : sh[q]? = some x) : (ck_w sh cA ad st).set q (ad q, ck_ce cA ad r x) = ck_w sh cA ad (fun a => if a = q then r else st a) := by
  have hq : q < sh.length := (List.getElem?_eq_some_iff.mp h).1
  apply List.ext_getElem?
  intro j
  unfold ck_w
  rw [List.getElem?_set, List.getElem?_mapIdx, List.getElem?_mapIdx, List.length_mapIdx]
  by_cases hj : q = j
  · subst hj
    rw [if_pos rfl, if_pos hq, h]
    simp
  · have hj' : ¬ j = q := fun e => hj e.symm
    simp [hj, hj']
theorem ck_fs_set {ad : Nat → Nat} {r : Nat → Int32} {fs : List (Option Nat)} {k : Nat} {x : Int32} (h : fs[k]? = some none) : (fs.mapIdx (ck_fv ad r)).set k (.int x) = fs.mapIdx (ck_fv ad (upd r k x)) := by
  have hq : k < fs.length := (List.getElem?_eq_some_iff.mp h).1
  apply List.ext_getElem?
  intro j
  rw [List.getElem?_set, List.getElem?_mapIdx, List.getElem?_mapIdx, List.length_mapIdx]
  by_cases hj : k = j
  · subst hj
    rw [if_pos rfl, if_pos hq, h]
    simp [ck_fv, upd]
  · have hj' : ¬ j = k := fun e => hj e.symm
    rw [if_neg hj]
    congr 1
    funext d
    cases d <;> simp [ck_fv, upd, hj']
def ck_A (ad : Nat → Nat) (n : Nat) : Nat → Prop := fun a => ∃ k : Nat, k < n ∧ a = ad k
def ck_T : List Cond := lw_tbl.filter goodWord
theorem ck_T_in {w : Cond} (h : w ∈ ck_T) : w ∈ lw_tbl := (List.mem_filter.mp h).1
theorem ck_T_good {w : Cond} (h : w ∈ ck_T) : goodWord w = true := (List.mem_filter.mp h).2
theorem ck_T_mk {w : Cond} (h : w ∈ lw_tbl) (g : goodWord w = true) : w ∈ ck_T := List.mem_filter.mpr ⟨h, g⟩
theorem ck_good {w : Cond} (h : w ∈ ck_T) : GoodIn ck_T (w :: ck_T) := fun x hx => by
  rcases List.mem_cons.mp hx with rfl | hx
  · exact ⟨h, good_of_word (ck_T_good h)⟩
  · exact ⟨hx, good_of_word (ck_T_good hx)⟩
def ck_ty (cA : Nat → ClassId) : List (ClassId × FieldType) := [(cA 0, .int), (cA 1, .boolean)]
/-- what stays through a method: machine, code, words, classes, room for v frames -/
def ck_X (cl : List vw_C) (D : va_G) (cA : Nat → ClassId) (cc : ByteArray) (nL : Nat) (own : String) (v : Nat) (p : Program) (R : Room) (s : State) (m : MethodId) (args : Array Value) (c : Code) : Prop :=
  p.tables.exec = Jvm.exec ∧ c.code = cc ∧ c.maxLocals = nL ∧ s.vm.findClass own = some m.cls ∧ (∀ w ∈ ck_T, w.before args s = true) ∧ va_K D cl (ck_ty cA) s ∧ v ≤ R.frames ∧ 40 * v ≤ R.locals
/-- the heap holds the state -/
def ck_AT (sh : List ck_Sh) (cl : List vw_C) (D : va_G) (cA : Nat → ClassId) (ad : Nat → Nat) (H0 : Heap) (st : ck_S) (H : Heap) (locs : List Loc) : Prop :=
  va_P D cl (ck_w sh cA ad st) H ∧ va_D (ck_A ad sh.length) (ck_w sh cA ad st) ∧ va_S (ck_A ad sh.length) H0 H locs
def ck_P (sh : List ck_Sh) (cl : List vw_C) (D : va_G) (cA : Nat → ClassId) (ad : Nat → Nat) (st : ck_S) (U : State) : Prop :=
  va_P D cl (ck_w sh cA ad st) U.heap ∧ va_K D cl (ck_ty cA) U ∧ va_D (ck_A ad sh.length) (ck_w sh cA ad st)
def ck_R (v : Nat) : Room := { frames := v, cells := 0, slots := 0, locals := 40 * v }
/-- a field: its place in the shape, its class, its words -/
def ck_F (sh : List ck_Sh) (cl : List vw_C) (own : String) (idx q k : Nat) (d : Option Nat) : Prop :=
  ∃ (ci N : Nat) (T0 : u_T) (fs : List (Option Nat)), sh[q]? = some (.inl (ci, fs)) ∧ fs[k]? = some d ∧ cl[ci]? = some (own, T0, N) ∧ k < N ∧ (∀ w ∈ u_ws own T0 N, w ∈ ck_T) ∧ Cond.fieldLink own idx own (T0 k).2.1 (T0 k).2.2.1 ∈ ck_T ∧ (T0 k).1 = own
/-- a field that may be written -/
def ck_G (sh : List ck_Sh) (cl : List vw_C) (own : String) (idx q k : Nat) (ty : FieldType) : Prop :=
  ∃ (ci N : Nat) (T0 : u_T) (fs : List (Option Nat)) (ty0 : Nat → FieldType), sh[q]? = some (.inl (ci, fs)) ∧ fs[k]? = some none ∧ cl[ci]? = some (own, T0, N) ∧ k < N ∧ (∀ w ∈ u_ws own T0 N, w ∈ ck_T) ∧ Cond.fieldLink own idx own (T0 k).2.1 (T0 k).2.2.1 ∈ ck_T ∧ (T0 k).1 = own ∧
    (∀ k, k < N → parseFieldDescriptor (T0 k).2.2.1 = some (ty0 k)) ∧ (∀ a, a < N → ∀ b, b < N → a ≠ b → (T0 a).2.1 ≠ (T0 b).2.1) ∧ (T0 k).2.2.2 = false ∧ parseFieldDescriptor (T0 k).2.2.1 = some ty
/-- a call's words -/
def ck_C (own : String) (idx : Nat) (y : MethodName) (cc : ByteArray) (nL : Nat) (ret : Option FieldType) (n : Nat) : Prop :=
  Cond.code y cc nL ret ∈ ck_T ∧ Cond.methodLink own idx y ∈ ck_T ∧ Cond.initialized y.cls ∈ ck_T ∧ (y.cls ≠ "java/lang/invoke/MethodHandle" ∧ y.cls ≠ "java/lang/invoke/VarHandle" ∧ (parseMethodDescriptor y.desc).map (fun d => d.parameters.length) = some n) ∧ nL ≤ 21
theorem ck_nz {x : Int32} (h : x = 0 ∨ x = 1) : narrow .boolean (.int x) = .int x := by
  rcases h with rfl | rfl <;> decide
section CKW
variable {p : Program} {l : Launch} {e : Env} {R : Room} {s : State} {m : MethodId} {args : Array Value} {below : List Frame} {meth : Method} {c : Code} {H : Heap} {locs : List Loc} {Q : State → Prop}
variable {cc : ByteArray} {pc nL v : Nat} {ls : Array Slot} {rest : List Value} {D : va_G} {cl : List vw_C} {cA : Nat → ClassId} {own : String} {sh : List ck_Sh} {ad : Nat → Nat} {H0 : Heap} {st : ck_S}
theorem ck_gi {q k idx : Nat} {x : Int32} (C : ck_X cl D cA cc nL own v p R s m args c) (h : ck_AT sh cl D cA ad H0 st H locs) (F : ck_F sh cl own idx q k none) (hx : st q k = x) (hd : decode cc pc = .ok (.getfield idx, 3))
    (kk : W p l e R s m args below meth c H locs 0 0 Q (F0 m (pc + 3) ls (.int x :: rest))) : W p l e R s m args below meth c H locs 0 0 Q (F0 m pc ls (.ref (ad q) :: rest)) := by
  obtain ⟨ci, N, T0, fs, h1, h2, h3, h4, h5, h6, h7⟩ := F
  refine va_get C.1 C.2.1 C.2.2.2.2.1 h5 C.2.2.2.1 C.2.2.2.2.2.1 h.1 q (ck_w_at h1) h3 k h4 (C.2.2.2.2.1 _ h6) (fun x hx => by rw [h7] at hx; exact hx) (v := .int x) ?_ hd kk
  rw [List.getElem?_mapIdx, h2, ← hx]
  rfl
theorem ck_gr {q k idx t : Nat} (C : ck_X cl D cA cc nL own v p R s m args c) (h : ck_AT sh cl D cA ad H0 st H locs) (F : ck_F sh cl own idx q k (some t)) (hd : decode cc pc = .ok (.getfield idx, 3))
    (kk : W p l e R s m args below meth c H locs 0 0 Q (F0 m (pc + 3) ls (.ref (ad t) :: rest))) : W p l e R s m args below meth c H locs 0 0 Q (F0 m pc ls (.ref (ad q) :: rest)) := by
  obtain ⟨ci, N, T0, fs, h1, h2, h3, h4, h5, h6, h7⟩ := F
  refine va_get C.1 C.2.1 C.2.2.2.2.1 h5 C.2.2.2.1 C.2.2.2.2.2.1 h.1 q (ck_w_at h1) h3 k h4 (C.2.2.2.2.1 _ h6) (fun x hx => by rw [h7] at hx; exact hx) (v := .ref (ad t)) ?_ hd kk
  rw [List.getElem?_mapIdx, h2]
  rfl
theorem ck_pi {q k idx : Nat} {x : Int32} {ty : FieldType} (C : ck_X cl D cA cc nL own v p R s m args c) (h : ck_AT sh cl D cA ad H0 st H locs) (F : ck_G sh cl own idx q k ty) (hn : narrow ty (.int x) = .int x) (hf : fits ty (.int x) = true) (hd : decode cc pc = .ok (.putfield idx, 3))
    (kk : ∀ (H : Heap) (locs : List Loc), ck_AT sh cl D cA ad H0 (ck_u st q k x) H locs → W p l e R s m args below meth c H locs 0 0 Q (F0 m (pc + 3) ls rest)) : W p l e R s m args below meth c H locs 0 0 Q (F0 m pc ls (.int x :: .ref (ad q) :: rest)) := by
  obtain ⟨ci, N, T0, fs, ty0, h1, h2, h3, h4, h5, h6, h7, h8, h9, h10, h11⟩ := F
  have hkl : k < fs.length := (List.getElem?_eq_some_iff.mp h2).1
  refine va_put C.1 C.2.1 C.2.2.2.2.1 h5 ty0 h8 h9 C.2.2.2.1 C.2.2.2.2.2.1 h.1 h.2.1 h.2.2 q (ck_w_at h1) h3 k h4 (C.2.2.2.2.1 _ h6) (fun x hx => by rw [h7] at hx; exact hx) h10 h11 hn hf (by rw [List.length_mapIdx]; exact hkl) hd (fun H1 locs1 a1 a2 a3 => ?_)
  have he : (ck_w sh cA ad st).set q (ad q, .inr (ci, (fs.mapIdx (ck_fv ad (st q))).set k (.int x))) = ck_w sh cA ad (ck_u st q k x) := by
    rw [ck_fs_set h2]
    exact ck_w_set h1
  have a1' := a1
  have a2' := a2
  change va_P D cl ((ck_w sh cA ad st).set q (ad q, .inr (ci, (fs.mapIdx (ck_fv ad (st q))).set k (.int x)))) H1 at a1'
  change va_D _ ((ck_w sh cA ad st).set q (ad q, .inr (ci, (fs.mapIdx (ck_fv ad (st q))).set k (.int x)))) at a2'
  rw [he] at a1' a2'
  exact kk H1 locs1 ⟨a1', a2', a3⟩
theorem ck_ai {q n : Nat} {i x : Int32} (C : ck_X cl D cA cc nL own v p R s m args c) (h : ck_AT sh cl D cA ad H0 st H locs) (F : sh[q]? = some (.inr (0, n))) (hi : vp_in i n) (hx : st q i.toNatClampNeg = x) (hd : decode cc pc = .ok (.iaload, 1))
    (kk : W p l e R s m args below meth c H locs 0 0 Q (F0 m (pc + 1) ls (.int x :: rest))) : W p l e R s m args below meth c H locs 0 0 Q (F0 m pc ls (.int i :: .ref (ad q) :: rest)) := by
  subst hx
  exact va_iald C.1 C.2.1 C.2.2.2.2.2.1 h.1 q 0 (ck_w_at F) rfl hi hd kk
theorem ck_az {q n : Nat} {i x : Int32} (C : ck_X cl D cA cc nL own v p R s m args c) (h : ck_AT sh cl D cA ad H0 st H locs) (F : sh[q]? = some (.inr (1, n))) (hi : vp_in i n) (hx : st q i.toNatClampNeg = x) (hd : decode cc pc = .ok (.baload, 1))
    (kk : W p l e R s m args below meth c H locs 0 0 Q (F0 m (pc + 1) ls (.int x :: rest))) : W p l e R s m args below meth c H locs 0 0 Q (F0 m pc ls (.int i :: .ref (ad q) :: rest)) := by
  subst hx
  exact va_zald C.1 C.2.1 C.2.2.2.2.2.1 h.1 q 1 (ck_w_at F) rfl hi hd kk
theorem ck_si {q n : Nat} {i x : Int32} (C : ck_X cl D cA cc nL own v p R s m args c) (h : ck_AT sh cl D cA ad H0 st H locs) (F : sh[q]? = some (.inr (0, n))) (hi : vp_in i n) (hd : decode cc pc = .ok (.iastore, 1))
    (kk : ∀ (H : Heap) (locs : List Loc), ck_AT sh cl D cA ad H0 (ck_u st q i.toNatClampNeg x) H locs → W p l e R s m args below meth c H locs 0 0 Q (F0 m (pc + 1) ls rest)) : W p l e R s m args below meth c H locs 0 0 Q (F0 m pc ls (.int x :: .int i :: .ref (ad q) :: rest)) := by
  refine va_iast C.1 C.2.1 C.2.2.2.2.2.1 h.1 h.2.1 h.2.2 q 0 (ck_w_at F) rfl hi hd (fun H1 locs1 a1 a2 a3 => ?_)
  have he : (ck_w sh cA ad st).set q (ad q, .inl (cA 0, n, .inl (upd (st q) i.toNatClampNeg x))) = ck_w sh cA ad (ck_u st q i.toNatClampNeg x) := ck_w_set F
  rw [he] at a1 a2
  exact kk H1 locs1 ⟨a1, a2, a3⟩
theorem ck_sz {q n : Nat} {i x : Int32} (C : ck_X cl D cA cc nL own v p R s m args c) (h : ck_AT sh cl D cA ad H0 st H locs) (F : sh[q]? = some (.inr (1, n))) (hi : vp_in i n) (hd : decode cc pc = .ok (.bastore, 1))
    (kk : ∀ (H : Heap) (locs : List Loc), ck_AT sh cl D cA ad H0 (ck_u st q i.toNatClampNeg (vp_nar .boolean x)) H locs → W p l e R s m args below meth c H locs 0 0 Q (F0 m (pc + 1) ls rest)) : W p l e R s m args below meth c H locs 0 0 Q (F0 m pc ls (.int x :: .int i :: .ref (ad q) :: rest)) := by
  refine va_zast C.1 C.2.1 C.2.2.2.2.2.1 h.1 h.2.1 h.2.2 q 1 (ck_w_at F) rfl hi hd (fun H1 locs1 a1 a2 a3 => ?_)
  have he : (ck_w sh cA ad st).set q (ad q, .inl (cA 1, n, .inl (upd (st q) i.toNatClampNeg (vp_nar .boolean x)))) = ck_w sh cA ad (ck_u st q i.toNatClampNeg (vp_nar .boolean x)) := ck_w_set F
  rw [he] at a1 a2
  exact kk H1 locs1 ⟨a1, a2, a3⟩
theorem ck_an {q n : Nat} {x : Int32} (C : ck_X cl D cA cc nL own v p R s m args c) (h : ck_AT sh cl D cA ad H0 st H locs) (F : sh[q]? = some (.inr (0, n))) (hx : Int32.ofNat n = x) (hd : decode cc pc = .ok (.arraylength, 1))
    (kk : W p l e R s m args below meth c H locs 0 0 Q (F0 m (pc + 1) ls (.int x :: rest))) : W p l e R s m args below meth c H locs 0 0 Q (F0 m pc ls (.ref (ad q) :: rest)) := by
  subst hx
  exact va_alen C.1 C.2.1 C.2.2.2.2.2.1 h.1 q 0 (ck_w_at F) rfl rfl hd kk
theorem ck_blind {av : List Value} : FrameBlind (va_Pc av (ck_P sh cl D cA ad st)) := fun a U g mk q => ⟨q.1, q.2.1, va_K.moved (u := U) (U := U.calling g mk a) (Vm.Alike.refl U.vm) q.2.2.1, q.2.2.2⟩
theorem ck_cb {idx nL2 v2 n : Nat} {y : MethodName} {cc2 : ByteArray} {ret : Option FieldType} (C : ck_X cl D cA cc nL own v p R s m args c) (F : ck_C own idx y cc2 nL2 ret n) (hv : v2 + 1 ≤ v) : CallB R s args own idx y cc2 nL2 ret (.code y cc2 nL2 ret :: ck_T) (ck_R v2) 0 0 n := by
  obtain ⟨hx, hb, hml, hown, hts, hK, hf, hlo⟩ := C
  obtain ⟨f1, f2, f3, f4, f5⟩ := F
  refine callB_of n hts (ck_good f1) rfl rfl rfl (hts _ f3) (hts _ f2) f4 ⟨?_, ?_⟩
  · show v2 + 1 ≤ R.frames
    omega
  · show 8 + (nL2 + 11) + 40 * v2 ≤ R.locals
    omega
/-- what comes back from a call: the new state, in the caller's words -/
theorem ck_back {st2 u : ck_S} {t : State} {H1 : Heap} {locs1 : List Loc} (ht : t.heap = H1) (hu : u = st2) (hB : ck_P sh cl D cA ad u t) (hS : va_S (ck_A ad sh.length) H0 H1 locs1) : ck_AT sh cl D cA ad H0 st2 H1 locs1 := by
  subst hu; subst ht
  exact ⟨hB.1, hB.2.2, hS⟩
theorem ck_vi {idx nL2 v2 n q : Nat} {y : MethodName} {cc2 : ByteArray} {ret : Option FieldType} {As S : List Value} {L : List (Nat × Value)} {r : Int32} {st2 : ck_S}
    (C : ck_X cl D cA cc nL own v p R s m args c) (h : ck_AT sh cl D cA ad H0 st H locs) (hl : lv_has ls nL L) (F : ck_C own idx y cc2 nL2 ret n) (F2 : Cond.instanceMethod y ∈ ck_T ∧ Cond.selects y.cls y y ∈ ck_T) (F3 : ∃ (ci N : Nat) (T0 : u_T) (fs : List (Option Nat)), sh[q]? = some (.inl (ci, fs)) ∧ cl[ci]? = some (y.cls, T0, N))
    (hM : Met l y (.code y cc2 nL2 ret :: ck_T) (ck_R v2) (va_Pc (.ref (ad q) :: As) (ck_P sh cl D cA ad st)) (va_Qi (fun a u => a = r ∧ u = st2) (ck_P sh cl D cA ad) (ck_A ad sh.length)) 0 0 (ck_A ad sh.length)) (hv : v2 + 1 ≤ v)
    (hn : As.length = n) (hS : S = As.reverse ++ .ref (ad q) :: rest) (hr : (rest.map fun v => v.category).sum ≤ 8) (hd : decode cc pc = .ok (.invokevirtual idx, 3))
    (kk : ∀ (H : Heap) (locs : List Loc), ck_AT sh cl D cA ad H0 st2 H locs → W p l e R s m args below meth c H locs 0 0 Q (F0 m (pc + 3) ls (.int r :: rest))) : W p l e R s m args below meth c H locs 0 0 Q (F0 m pc ls S) := by
  obtain ⟨ci, N, T0, fs, g1, g2⟩ := F3
  have hcb := ck_cb (v2 := v2) C F hv
  obtain ⟨hx, hb, hml, hown, hts, hK, hfr, hlo⟩ := C
  refine va_calli (va_runV (C := y.cls) (b := ad q) (As := As) (rest := rest) ⟨hx, hb, hml, hown, hts⟩ hM ⟨hcb, hts _ F2.1, hts _ F2.2⟩ ⟨ck_blind, va_recv hK h.1 g2 (ck_w_at g1), fun U hU hW => ⟨rfl, by rw [hU]; exact h.1, va_K.moved hW.alike hK, h.2.1⟩⟩ rfl hn hl.1 hS (lv_room hr) hd ⟨Nat.zero_le _, Nat.zero_le _⟩) h.2.2 (fun _ _ a => a) (fun _ a => a) (fun r1 u t H1 locs1 ht hvm hp hB hz hk hS1 => ?_)
  obtain ⟨rfl, hu⟩ := hp
  exact kk H1 locs1 (ck_back ht hu hB hS1)
theorem ck_vl {idx nL2 v2 n q : Nat} {y : MethodName} {cc2 : ByteArray} {ret : Option FieldType} {As S : List Value} {L : List (Nat × Value)} {r : Int64} {st2 : ck_S}
    (C : ck_X cl D cA cc nL own v p R s m args c) (h : ck_AT sh cl D cA ad H0 st H locs) (hl : lv_has ls nL L) (F : ck_C own idx y cc2 nL2 ret n) (F2 : Cond.instanceMethod y ∈ ck_T ∧ Cond.selects y.cls y y ∈ ck_T) (F3 : ∃ (ci N : Nat) (T0 : u_T) (fs : List (Option Nat)), sh[q]? = some (.inl (ci, fs)) ∧ cl[ci]? = some (y.cls, T0, N))
    (hM : Met l y (.code y cc2 nL2 ret :: ck_T) (ck_R v2) (va_Pc (.ref (ad q) :: As) (ck_P sh cl D cA ad st)) (va_Ql (fun a u => a = r ∧ u = st2) (ck_P sh cl D cA ad) (ck_A ad sh.length)) 0 0 (ck_A ad sh.length)) (hv : v2 + 1 ≤ v)
    (hn : As.length = n) (hS : S = As.reverse ++ .ref (ad q) :: rest) (hr : (rest.map fun v => v.category).sum ≤ 8) (hd : decode cc pc = .ok (.invokevirtual idx, 3))
    (kk : ∀ (H : Heap) (locs : List Loc), ck_AT sh cl D cA ad H0 st2 H locs → W p l e R s m args below meth c H locs 0 0 Q (F0 m (pc + 3) ls (.long r :: rest))) : W p l e R s m args below meth c H locs 0 0 Q (F0 m pc ls S) := by
  obtain ⟨ci, N, T0, fs, g1, g2⟩ := F3
  have hcb := ck_cb (v2 := v2) C F hv
  obtain ⟨hx, hb, hml, hown, hts, hK, hfr, hlo⟩ := C
  refine va_calll (va_runV (C := y.cls) (b := ad q) (As := As) (rest := rest) ⟨hx, hb, hml, hown, hts⟩ hM ⟨hcb, hts _ F2.1, hts _ F2.2⟩ ⟨ck_blind, va_recv hK h.1 g2 (ck_w_at g1), fun U hU hW => ⟨rfl, by rw [hU]; exact h.1, va_K.moved hW.alike hK, h.2.1⟩⟩ rfl hn hl.1 hS (lv_room hr) hd ⟨Nat.zero_le _, Nat.zero_le _⟩) h.2.2 (fun _ _ a => a) (fun _ a => a) (fun r1 u t H1 locs1 ht hvm hp hB hz hk hS1 => ?_)
  obtain ⟨rfl, hu⟩ := hp
  exact kk H1 locs1 (ck_back ht hu hB hS1)
theorem ck_vv {idx nL2 v2 n q : Nat} {y : MethodName} {cc2 : ByteArray} {ret : Option FieldType} {As S : List Value} {L : List (Nat × Value)} {st2 : ck_S}
    (C : ck_X cl D cA cc nL own v p R s m args c) (h : ck_AT sh cl D cA ad H0 st H locs) (hl : lv_has ls nL L) (F : ck_C own idx y cc2 nL2 ret n) (F2 : Cond.instanceMethod y ∈ ck_T ∧ Cond.selects y.cls y y ∈ ck_T) (F3 : ∃ (ci N : Nat) (T0 : u_T) (fs : List (Option Nat)), sh[q]? = some (.inl (ci, fs)) ∧ cl[ci]? = some (y.cls, T0, N))
    (hM : Met l y (.code y cc2 nL2 ret :: ck_T) (ck_R v2) (va_Pc (.ref (ad q) :: As) (ck_P sh cl D cA ad st)) (va_Qv (fun u => u = st2) (ck_P sh cl D cA ad) (ck_A ad sh.length)) 0 0 (ck_A ad sh.length)) (hv : v2 + 1 ≤ v)
    (hn : As.length = n) (hS : S = As.reverse ++ .ref (ad q) :: rest) (hr : (rest.map fun v => v.category).sum ≤ 8) (hd : decode cc pc = .ok (.invokevirtual idx, 3))
    (kk : ∀ (H : Heap) (locs : List Loc), ck_AT sh cl D cA ad H0 st2 H locs → W p l e R s m args below meth c H locs 0 0 Q (F0 m (pc + 3) ls rest)) : W p l e R s m args below meth c H locs 0 0 Q (F0 m pc ls S) := by
  obtain ⟨ci, N, T0, fs, g1, g2⟩ := F3
  have hcb := ck_cb (v2 := v2) C F hv
  obtain ⟨hx, hb, hml, hown, hts, hK, hfr, hlo⟩ := C
  refine va_callv (va_runV (C := y.cls) (b := ad q) (As := As) (rest := rest) ⟨hx, hb, hml, hown, hts⟩ hM ⟨hcb, hts _ F2.1, hts _ F2.2⟩ ⟨ck_blind, va_recv hK h.1 g2 (ck_w_at g1), fun U hU hW => ⟨rfl, by rw [hU]; exact h.1, va_K.moved hW.alike hK, h.2.1⟩⟩ rfl hn hl.1 hS (lv_room hr) hd ⟨Nat.zero_le _, Nat.zero_le _⟩) h.2.2 (fun _ _ a => a) (fun _ a => a) (fun u t H1 locs1 ht hvm hp hB hz hk hS1 => ?_)
  exact kk H1 locs1 (ck_back ht hp hB hS1)
theorem ck_ti {idx nL2 v2 n : Nat} {y : MethodName} {cc2 : ByteArray} {ret : Option FieldType} {As S : List Value} {L : List (Nat × Value)} {r : Int32} {st2 : ck_S}
    (C : ck_X cl D cA cc nL own v p R s m args c) (h : ck_AT sh cl D cA ad H0 st H locs) (hl : lv_has ls nL L) (F : ck_C own idx y cc2 nL2 ret n) (F2 : Cond.static y ∈ ck_T)
    (hM : Met l y (.code y cc2 nL2 ret :: ck_T) (ck_R v2) (va_Pc As (ck_P sh cl D cA ad st)) (va_Qi (fun a u => a = r ∧ u = st2) (ck_P sh cl D cA ad) (ck_A ad sh.length)) 0 0 (ck_A ad sh.length)) (hv : v2 + 1 ≤ v)
    (hn : As.length = n) (hS : S = As.reverse ++ rest) (hr : (rest.map fun v => v.category).sum ≤ 8) (hd : decode cc pc = .ok (.invokestatic idx, 3))
    (kk : ∀ (H : Heap) (locs : List Loc), ck_AT sh cl D cA ad H0 st2 H locs → W p l e R s m args below meth c H locs 0 0 Q (F0 m (pc + 3) ls (.int r :: rest))) : W p l e R s m args below meth c H locs 0 0 Q (F0 m pc ls S) := by
  have hcb := ck_cb (v2 := v2) C F hv
  obtain ⟨hx, hb, hml, hown, hts, hK, hfr, hlo⟩ := C
  refine va_calli (va_runS (As := As) (rest := rest) ⟨hx, hb, hml, hown, hts⟩ hM ⟨hcb, hts _ F2⟩ ⟨ck_blind, fun U hU hW => ⟨rfl, by rw [hU]; exact h.1, va_K.moved hW.alike hK, h.2.1⟩⟩ rfl hn hl.1 hS (lv_room hr) hd ⟨Nat.zero_le _, Nat.zero_le _⟩) h.2.2 (fun _ _ a => a) (fun _ a => a) (fun r1 u t H1 locs1 ht hvm hp hB hz hk hS1 => ?_)
  obtain ⟨rfl, hu⟩ := hp
  exact kk H1 locs1 (ck_back ht hu hB hS1)
theorem ck_tv {idx nL2 v2 n : Nat} {y : MethodName} {cc2 : ByteArray} {ret : Option FieldType} {As S : List Value} {L : List (Nat × Value)} {st2 : ck_S}
    (C : ck_X cl D cA cc nL own v p R s m args c) (h : ck_AT sh cl D cA ad H0 st H locs) (hl : lv_has ls nL L) (F : ck_C own idx y cc2 nL2 ret n) (F2 : Cond.static y ∈ ck_T)
    (hM : Met l y (.code y cc2 nL2 ret :: ck_T) (ck_R v2) (va_Pc As (ck_P sh cl D cA ad st)) (va_Qv (fun u => u = st2) (ck_P sh cl D cA ad) (ck_A ad sh.length)) 0 0 (ck_A ad sh.length)) (hv : v2 + 1 ≤ v)
    (hn : As.length = n) (hS : S = As.reverse ++ rest) (hr : (rest.map fun v => v.category).sum ≤ 8) (hd : decode cc pc = .ok (.invokestatic idx, 3))
    (kk : ∀ (H : Heap) (locs : List Loc), ck_AT sh cl D cA ad H0 st2 H locs → W p l e R s m args below meth c H locs 0 0 Q (F0 m (pc + 3) ls rest)) : W p l e R s m args below meth c H locs 0 0 Q (F0 m pc ls S) := by
  have hcb := ck_cb (v2 := v2) C F hv
  obtain ⟨hx, hb, hml, hown, hts, hK, hfr, hlo⟩ := C
  refine va_callv (va_runS (As := As) (rest := rest) ⟨hx, hb, hml, hown, hts⟩ hM ⟨hcb, hts _ F2⟩ ⟨ck_blind, fun U hU hW => ⟨rfl, by rw [hU]; exact h.1, va_K.moved hW.alike hK, h.2.1⟩⟩ rfl hn hl.1 hS (lv_room hr) hd ⟨Nat.zero_le _, Nat.zero_le _⟩) h.2.2 (fun _ _ a => a) (fun _ a => a) (fun u t H1 locs1 ht hvm hp hB hz hk hS1 => ?_)
  exact kk H1 locs1 (ck_back ht hp hB hS1)
end CKW
section CKM
variable {l : Launch} {y : MethodName} {cc : ByteArray} {nL v : Nat} {own : String} {D : va_G} {cl : List vw_C} {cA : Nat → ClassId} {sh : List ck_Sh} {ad : Nat → Nat} {st st2 : ck_S} {av : List Value}
theorem ck_met_i {r : Int32} (hy : plainName y.cls = true) (ho : y.cls = own) (hlen : (lg_sl av).length ≤ nL)
    (body : ∀ (p : Program) (e : Env) (R : Room) (s : State) (m : MethodId) (args : Array Value) (below : List Frame) (meth : Method) (c : Code) (H0 : Heap) (Q : State → Prop) (ls : Array Slot), ck_X cl D cA cc nL own v p R s m args c →
      (∀ (pc : Nat) (H : Heap) (locs : List Loc) (ls : Array Slot), decode cc pc = .ok (.ireturn, 1) → ck_AT sh cl D cA ad H0 st2 H locs → W p l e R s m args below meth c H locs 0 0 Q (F0 m pc ls [.int r])) →
      ck_AT sh cl D cA ad H0 st H0 [] → lv_has ls nL (lv_args 0 av) → W p l e R s m args below meth c H0 [] 0 0 Q (F0 m 0 ls [])) :
    Met l y (.code y cc nL (some .int) :: ck_T) (ck_R v) (va_Pc av (ck_P sh cl D cA ad st)) (va_Qi (fun a u => a = r ∧ u = st2) (ck_P sh cl D cA ad) (ck_A ad sh.length)) 0 0 (ck_A ad sh.length) := by
  refine Met.ofW (cc := cc) (maxL := nL) (ret := some .int) hy rfl ?_
  intro p e s m args below meth c s₁ B hml hv
  obtain ⟨rfl, hP, hK, hD⟩ := hv
  have hts := atoms_spec B.pre
  have hown : s.vm.findClass y.cls = some m.cls := findClass_of_methodNamed B.named
  have hlocks := B.notSynchronized
  have hx := B.exec
  have hb := B.bytes
  have hr := B.returns
  rw [lg_entry_eq]
  exact body p e _ s m _ below meth c s.heap _ _ ⟨hx, hb, hml, by rw [← ho]; exact hown, fun w hw => hts w (List.mem_cons_of_mem _ hw), hK, Nat.le_refl _, Nat.le_refl _⟩
    (fun pc H locs ls hd h => W.iret hx hb hr (fun t ht hW => ⟨⟨r, st2, rfl, ⟨rfl, rfl⟩, by rw [ht]; exact h.1, va_K.moved hW.alike hK, h.2.1⟩, h.2.2.F ht⟩) h.2.2.2.2 hd) ⟨hP, hD, va_S.rf⟩ (lv_entry av hlen)
theorem ck_met_z {r : Int32} (hy : plainName y.cls = true) (ho : y.cls = own) (hlen : (lg_sl av).length ≤ nL)
    (body : ∀ (p : Program) (e : Env) (R : Room) (s : State) (m : MethodId) (args : Array Value) (below : List Frame) (meth : Method) (c : Code) (H0 : Heap) (Q : State → Prop) (ls : Array Slot), ck_X cl D cA cc nL own v p R s m args c →
      (∀ (pc : Nat) (H : Heap) (locs : List Loc) (ls : Array Slot), decode cc pc = .ok (.ireturn, 1) → (r = 0 ∨ r = 1) → ck_AT sh cl D cA ad H0 st2 H locs → W p l e R s m args below meth c H locs 0 0 Q (F0 m pc ls [.int r])) →
      ck_AT sh cl D cA ad H0 st H0 [] → lv_has ls nL (lv_args 0 av) → W p l e R s m args below meth c H0 [] 0 0 Q (F0 m 0 ls [])) :
    Met l y (.code y cc nL (some .boolean) :: ck_T) (ck_R v) (va_Pc av (ck_P sh cl D cA ad st)) (va_Qi (fun a u => a = r ∧ u = st2) (ck_P sh cl D cA ad) (ck_A ad sh.length)) 0 0 (ck_A ad sh.length) := by
  refine Met.ofW (cc := cc) (maxL := nL) (ret := some .boolean) hy rfl ?_
  intro p e s m args below meth c s₁ B hml hv
  obtain ⟨rfl, hP, hK, hD⟩ := hv
  have hts := atoms_spec B.pre
  have hown : s.vm.findClass y.cls = some m.cls := findClass_of_methodNamed B.named
  have hlocks := B.notSynchronized
  have hx := B.exec
  have hb := B.bytes
  have hr := B.returns
  rw [lg_entry_eq]
  exact body p e _ s m _ below meth c s.heap _ _ ⟨hx, hb, hml, by rw [← ho]; exact hown, fun w hw => hts w (List.mem_cons_of_mem _ hw), hK, Nat.le_refl _, Nat.le_refl _⟩
    (fun pc H locs ls hd hz h => W.zret hx hb hr (ck_nz hz) (fun t ht hW => ⟨⟨r, st2, rfl, ⟨rfl, rfl⟩, by rw [ht]; exact h.1, va_K.moved hW.alike hK, h.2.1⟩, h.2.2.F ht⟩) h.2.2.2.2 hd) ⟨hP, hD, va_S.rf⟩ (lv_entry av hlen)
theorem ck_met_l {r : Int64} (hy : plainName y.cls = true) (ho : y.cls = own) (hlen : (lg_sl av).length ≤ nL)
    (body : ∀ (p : Program) (e : Env) (R : Room) (s : State) (m : MethodId) (args : Array Value) (below : List Frame) (meth : Method) (c : Code) (H0 : Heap) (Q : State → Prop) (ls : Array Slot), ck_X cl D cA cc nL own v p R s m args c →
      (∀ (pc : Nat) (H : Heap) (locs : List Loc) (ls : Array Slot), decode cc pc = .ok (.lreturn, 1) → ck_AT sh cl D cA ad H0 st2 H locs → W p l e R s m args below meth c H locs 0 0 Q (F0 m pc ls [.long r])) →
      ck_AT sh cl D cA ad H0 st H0 [] → lv_has ls nL (lv_args 0 av) → W p l e R s m args below meth c H0 [] 0 0 Q (F0 m 0 ls [])) :
    Met l y (.code y cc nL (some .long) :: ck_T) (ck_R v) (va_Pc av (ck_P sh cl D cA ad st)) (va_Ql (fun a u => a = r ∧ u = st2) (ck_P sh cl D cA ad) (ck_A ad sh.length)) 0 0 (ck_A ad sh.length) := by
  refine Met.ofW (cc := cc) (maxL := nL) (ret := some .long) hy rfl ?_
  intro p e s m args below meth c s₁ B hml hv
  obtain ⟨rfl, hP, hK, hD⟩ := hv
  have hts := atoms_spec B.pre
  have hown : s.vm.findClass y.cls = some m.cls := findClass_of_methodNamed B.named
  have hlocks := B.notSynchronized
  have hx := B.exec
  have hb := B.bytes
  have hr := B.returns
  rw [lg_entry_eq]
  exact body p e _ s m _ below meth c s.heap _ _ ⟨hx, hb, hml, by rw [← ho]; exact hown, fun w hw => hts w (List.mem_cons_of_mem _ hw), hK, Nat.le_refl _, Nat.le_refl _⟩
    (fun pc H locs ls hd h => W.lret hx hb hr (fun t ht hW => ⟨⟨r, st2, rfl, ⟨rfl, rfl⟩, by rw [ht]; exact h.1, va_K.moved hW.alike hK, h.2.1⟩, h.2.2.F ht⟩) h.2.2.2.2 hd) ⟨hP, hD, va_S.rf⟩ (lv_entry av hlen)
theorem ck_met_v (hy : plainName y.cls = true) (ho : y.cls = own) (hlen : (lg_sl av).length ≤ nL)
    (body : ∀ (p : Program) (e : Env) (R : Room) (s : State) (m : MethodId) (args : Array Value) (below : List Frame) (meth : Method) (c : Code) (H0 : Heap) (Q : State → Prop) (ls : Array Slot), ck_X cl D cA cc nL own v p R s m args c →
      (∀ (pc : Nat) (H : Heap) (locs : List Loc) (ls : Array Slot), decode cc pc = .ok (.return_, 1) → ck_AT sh cl D cA ad H0 st2 H locs → W p l e R s m args below meth c H locs 0 0 Q (F0 m pc ls [])) →
      ck_AT sh cl D cA ad H0 st H0 [] → lv_has ls nL (lv_args 0 av) → W p l e R s m args below meth c H0 [] 0 0 Q (F0 m 0 ls [])) :
    Met l y (.code y cc nL none :: ck_T) (ck_R v) (va_Pc av (ck_P sh cl D cA ad st)) (va_Qv (fun u => u = st2) (ck_P sh cl D cA ad) (ck_A ad sh.length)) 0 0 (ck_A ad sh.length) := by
  refine Met.ofW (cc := cc) (maxL := nL) (ret := none) hy rfl ?_
  intro p e s m args below meth c s₁ B hml hv
  obtain ⟨rfl, hP, hK, hD⟩ := hv
  have hts := atoms_spec B.pre
  have hown : s.vm.findClass y.cls = some m.cls := findClass_of_methodNamed B.named
  have hlocks := B.notSynchronized
  have hx := B.exec
  have hb := B.bytes
  have hr := B.returns
  rw [lg_entry_eq]
  exact body p e _ s m _ below meth c s.heap _ _ ⟨hx, hb, hml, by rw [← ho]; exact hown, fun w hw => hts w (List.mem_cons_of_mem _ hw), hK, Nat.le_refl _, Nat.le_refl _⟩
    (fun pc H locs ls hd h => W.vret hx hb hr (fun t ht hW => ⟨⟨st2, rfl, rfl, by rw [ht]; exact h.1, va_K.moved hW.alike hK, h.2.1⟩, h.2.2.F ht⟩) h.2.2.2.2 hd) ⟨hP, hD, va_S.rf⟩ (lv_entry av hlen)
end CKM
/-! the words that the laid functions are made of -/
def ck_gd {γ : Type} (i : Int32) (n : Nat) (o : Option γ) : Option γ := if i < 0 ∨ n ≤ i.toNatClampNeg then none else o
def ck_us (x y : Int32) : Int32 := (x.toUInt32 >>> (y.toUInt32 &&& Int32.toUInt32 31)).toInt32
def ck_dz {γ : Type} (y : Int32) (o : Option γ) : Option γ := if y = 0 then none else o
def ck_gz {γ : Type} (x : Int32) (o : Option γ) : Option γ := if x = 0 ∨ x = 1 then o else none
def ck_b {α γ : Type} (o : Option (α × ck_S)) (f : α → ck_S → Option γ) : Option γ := match o with
  | none => none
  | some q => f q.1 q.2
def ck_bv {γ : Type} (o : Option ck_S) (f : ck_S → Option γ) : Option γ := match o with
  | none => none
  | some q => f q
theorem ck_gd_e {γ : Type} {i : Int32} {n : Nat} {o : Option γ} {x : γ} (h : ck_gd i n o = some x) : vp_in i n ∧ o = some x := by
  unfold ck_gd at h
  by_cases hc : i < 0 ∨ n ≤ i.toNatClampNeg
  · rw [if_pos hc] at h; cases h
  · rw [if_neg hc] at h; exact ⟨hc, h⟩
theorem ck_dz_e {γ : Type} {y : Int32} {o : Option γ} {x : γ} (h : ck_dz y o = some x) : ¬ y = 0 ∧ o = some x := by
  unfold ck_dz at h
  by_cases hc : y = 0
  · rw [if_pos hc] at h; cases h
  · rw [if_neg hc] at h; exact ⟨hc, h⟩
theorem ck_gz_e {γ : Type} {y : Int32} {o : Option γ} {x : γ} (h : ck_gz y o = some x) : (y = 0 ∨ y = 1) ∧ o = some x := by
  unfold ck_gz at h
  by_cases hc : y = 0 ∨ y = 1
  · rw [if_pos hc] at h; exact ⟨hc, h⟩
  · rw [if_neg hc] at h; cases h
theorem ck_b_e {α γ : Type} {o : Option (α × ck_S)} {f : α → ck_S → Option γ} {x : γ} (h : ck_b o f = some x) : ∃ (a : α) (st : ck_S), o = some (a, st) ∧ f a st = some x := by
  unfold ck_b at h
  cases o with
  | none => cases h
  | some q => exact ⟨q.1, q.2, rfl, h⟩
theorem ck_bv_e {γ : Type} {o : Option ck_S} {f : ck_S → Option γ} {x : γ} (h : ck_bv o f = some x) : ∃ st : ck_S, o = some st ∧ f st = some x := by
  unfold ck_bv at h
  cases o with
  | none => cases h
  | some q => exact ⟨q, rfl, h⟩
theorem ck_t {c : Prop} {hd : Decidable c} {α : Type} {a b x : α} (h : c) (e : (if c then a else b) = x) : a = x := by rw [if_pos h] at e; exact e
theorem ck_f {c : Prop} {hd : Decidable c} {α : Type} {a b x : α} (h : ¬ c) (e : (if c then a else b) = x) : b = x := by rw [if_neg h] at e; exact e
theorem ck_z0 : (0 : Int32) = 0 ∨ (0 : Int32) = 1 := Or.inl rfl
theorem ck_z1 : (1 : Int32) = 0 ∨ (1 : Int32) = 1 := Or.inr rfl
section CKR
variable {p : Program} {l : Launch} {e : Env} {R : Room} {s : State} {m : MethodId} {args : Array Value} {below : List Frame} {meth : Method} {c : Code} {H : Heap} {locs : List Loc} {Q : State → Prop}
variable {cc : ByteArray} {pc : Nat} {ls : Array Slot} {D : va_G} {cl : List vw_C} {cA : Nat → ClassId} {sh : List ck_Sh} {ad : Nat → Nat} {H0 : Heap} {st st0 : ck_S}
theorem ck_ri {x r : Int32} (hf : some (x, st) = some (r, st0)) (hret : ∀ (pc : Nat) (H : Heap) (locs : List Loc) (ls : Array Slot), decode cc pc = .ok (.ireturn, 1) → ck_AT sh cl D cA ad H0 st0 H locs → W p l e R s m args below meth c H locs 0 0 Q (F0 m pc ls [.int r])) (h : ck_AT sh cl D cA ad H0 st H locs) (hd : decode cc pc = .ok (.ireturn, 1)) : W p l e R s m args below meth c H locs 0 0 Q (F0 m pc ls [.int x]) := by
  cases hf
  exact hret pc H locs ls hd h
theorem ck_rz {x r : Int32} (hf : some (x, st) = some (r, st0)) (hret : ∀ (pc : Nat) (H : Heap) (locs : List Loc) (ls : Array Slot), decode cc pc = .ok (.ireturn, 1) → (r = 0 ∨ r = 1) → ck_AT sh cl D cA ad H0 st0 H locs → W p l e R s m args below meth c H locs 0 0 Q (F0 m pc ls [.int r])) (hz : x = 0 ∨ x = 1) (h : ck_AT sh cl D cA ad H0 st H locs) (hd : decode cc pc = .ok (.ireturn, 1)) : W p l e R s m args below meth c H locs 0 0 Q (F0 m pc ls [.int x]) := by
  cases hf
  exact hret pc H locs ls hd hz h
theorem ck_rl {x r : Int64} (hf : some (x, st) = some (r, st0)) (hret : ∀ (pc : Nat) (H : Heap) (locs : List Loc) (ls : Array Slot), decode cc pc = .ok (.lreturn, 1) → ck_AT sh cl D cA ad H0 st0 H locs → W p l e R s m args below meth c H locs 0 0 Q (F0 m pc ls [.long r])) (h : ck_AT sh cl D cA ad H0 st H locs) (hd : decode cc pc = .ok (.lreturn, 1)) : W p l e R s m args below meth c H locs 0 0 Q (F0 m pc ls [.long x]) := by
  cases hf
  exact hret pc H locs ls hd h
theorem ck_rv (hf : some st = some st0) (hret : ∀ (pc : Nat) (H : Heap) (locs : List Loc) (ls : Array Slot), decode cc pc = .ok (.return_, 1) → ck_AT sh cl D cA ad H0 st0 H locs → W p l e R s m args below meth c H locs 0 0 Q (F0 m pc ls [])) (h : ck_AT sh cl D cA ad H0 st H locs) (hd : decode cc pc = .ok (.return_, 1)) : W p l e R s m args below meth c H locs 0 0 Q (F0 m pc ls []) := by
  cases hf
  exact hret pc H locs ls hd h
end CKR
end
section
/-! names of classes, fields, methods; shapes of the two worlds -/
def R_C : String := "ClauseMatrix"
def T_C : u_T := fun k => match k with
  | 0 => ("ClauseMatrix", "declared", "LClauseMatrix$Declarations;", true)
  | 1 => ("ClauseMatrix", "patterns", "LClauseMatrix$Patterns;", true)
  | 2 => ("ClauseMatrix", "values", "LClauseMatrix$Values;", true)
  | 3 => ("ClauseMatrix", "match", "LClauseMatrix$Match;", true)
  | 4 => ("ClauseMatrix", "tree", "LClauseMatrix$Tree;", true)
  | 5 => ("ClauseMatrix", "gap", "LClauseMatrix$Witness;", true)
  | _ => ("ClauseMatrix", "latestTests", "I", false)
def ct_C : Nat → FieldType := fun k => match k with
  | 0 => .object "ClauseMatrix$Declarations"
  | 1 => .object "ClauseMatrix$Patterns"
  | 2 => .object "ClauseMatrix$Values"
  | 3 => .object "ClauseMatrix$Match"
  | 4 => .object "ClauseMatrix$Tree"
  | 5 => .object "ClauseMatrix$Witness"
  | _ => .int
theorem cn_C : ∀ a, a < 7 → ∀ b, b < 7 → a ≠ b → (T_C a).2.1 ≠ (T_C b).2.1 := by decide +kernel
theorem co_C : ∀ k, k < 7 → parseFieldDescriptor (T_C k).2.2.1 = some (ct_C k) := by decide +kernel
theorem cuu_C : ∀ w ∈ u_ws R_C T_C 7, w ∈ lw_tbl ∧ goodWord w = true := by decide +kernel
theorem cu_C : ∀ w ∈ u_ws R_C T_C 7, w ∈ ck_T := fun w h => ck_T_mk (cuu_C w h).1 (cuu_C w h).2
def R_D : String := "ClauseMatrix$Declarations"
def T_D : u_T := fun k => match k with
  | 0 => ("ClauseMatrix$Declarations", "owner", "[I", true)
  | 1 => ("ClauseMatrix$Declarations", "firstType", "[I", true)
  | 2 => ("ClauseMatrix$Declarations", "secondType", "[I", true)
  | 3 => ("ClauseMatrix$Declarations", "ownTypes", "I", false)
  | _ => ("ClauseMatrix$Declarations", "constructors", "I", false)
def ct_D : Nat → FieldType := fun k => match k with
  | 0 => .array .int
  | 1 => .array .int
  | 2 => .array .int
  | 3 => .int
  | _ => .int
theorem cn_D : ∀ a, a < 5 → ∀ b, b < 5 → a ≠ b → (T_D a).2.1 ≠ (T_D b).2.1 := by decide +kernel
theorem co_D : ∀ k, k < 5 → parseFieldDescriptor (T_D k).2.2.1 = some (ct_D k) := by decide +kernel
theorem cuu_D : ∀ w ∈ u_ws R_D T_D 5, w ∈ lw_tbl ∧ goodWord w = true := by decide +kernel
theorem cu_D : ∀ w ∈ u_ws R_D T_D 5, w ∈ ck_T := fun w h => ck_T_mk (cuu_D w h).1 (cuu_D w h).2
def R_P : String := "ClauseMatrix$Patterns"
def T_P : u_T := fun k => match k with
  | 0 => ("ClauseMatrix$Patterns", "twofold", "[Z", true)
  | 1 => ("ClauseMatrix$Patterns", "typeOf", "[I", true)
  | 2 => ("ClauseMatrix$Patterns", "symbol", "[I", true)
  | 3 => ("ClauseMatrix$Patterns", "first", "[I", true)
  | 4 => ("ClauseMatrix$Patterns", "second", "[I", true)
  | 5 => ("ClauseMatrix$Patterns", "depth", "[I", true)
  | 6 => ("ClauseMatrix$Patterns", "alternatives", "[I", true)
  | _ => ("ClauseMatrix$Patterns", "count", "I", false)
def ct_P : Nat → FieldType := fun k => match k with
  | 0 => .array .boolean
  | 1 => .array .int
  | 2 => .array .int
  | 3 => .array .int
  | 4 => .array .int
  | 5 => .array .int
  | 6 => .array .int
  | _ => .int
theorem cn_P : ∀ a, a < 8 → ∀ b, b < 8 → a ≠ b → (T_P a).2.1 ≠ (T_P b).2.1 := by decide +kernel
theorem co_P : ∀ k, k < 8 → parseFieldDescriptor (T_P k).2.2.1 = some (ct_P k) := by decide +kernel
theorem cuu_P : ∀ w ∈ u_ws R_P T_P 8, w ∈ lw_tbl ∧ goodWord w = true := by decide +kernel
theorem cu_P : ∀ w ∈ u_ws R_P T_P 8, w ∈ ck_T := fun w h => ck_T_mk (cuu_P w h).1 (cuu_P w h).2
def R_V : String := "ClauseMatrix$Values"
def T_V : u_T := fun k => match k with
  | 0 => ("ClauseMatrix$Values", "typeOf", "[I", true)
  | 1 => ("ClauseMatrix$Values", "symbol", "[I", true)
  | 2 => ("ClauseMatrix$Values", "first", "[I", true)
  | 3 => ("ClauseMatrix$Values", "second", "[I", true)
  | _ => ("ClauseMatrix$Values", "count", "I", false)
def ct_V : Nat → FieldType := fun k => match k with
  | 0 => .array .int
  | 1 => .array .int
  | 2 => .array .int
  | 3 => .array .int
  | _ => .int
theorem cn_V : ∀ a, a < 5 → ∀ b, b < 5 → a ≠ b → (T_V a).2.1 ≠ (T_V b).2.1 := by decide +kernel
theorem co_V : ∀ k, k < 5 → parseFieldDescriptor (T_V k).2.2.1 = some (ct_V k) := by decide +kernel
theorem cuu_V : ∀ w ∈ u_ws R_V T_V 5, w ∈ lw_tbl ∧ goodWord w = true := by decide +kernel
theorem cu_V : ∀ w ∈ u_ws R_V T_V 5, w ∈ ck_T := fun w h => ck_T_mk (cuu_V w h).1 (cuu_V w h).2
def R_M : String := "ClauseMatrix$Match"
def T_M : u_T := fun k => match k with
  | 0 => ("ClauseMatrix$Match", "patterns", "LClauseMatrix$Patterns;", true)
  | 1 => ("ClauseMatrix$Match", "firstClause", "[I", true)
  | 2 => ("ClauseMatrix$Match", "rowOfClause", "[I", true)
  | 3 => ("ClauseMatrix$Match", "askers", "[I", true)
  | 4 => ("ClauseMatrix$Match", "askedSymbol", "[I", true)
  | 5 => ("ClauseMatrix$Match", "askedType", "[I", true)
  | 6 => ("ClauseMatrix$Match", "over", "I", false)
  | 7 => ("ClauseMatrix$Match", "rows", "I", false)
  | _ => ("ClauseMatrix$Match", "clauses", "I", false)
def ct_M : Nat → FieldType := fun k => match k with
  | 0 => .object "ClauseMatrix$Patterns"
  | 1 => .array .int
  | 2 => .array .int
  | 3 => .array .int
  | 4 => .array .int
  | 5 => .array .int
  | 6 => .int
  | 7 => .int
  | _ => .int
theorem cn_M : ∀ a, a < 9 → ∀ b, b < 9 → a ≠ b → (T_M a).2.1 ≠ (T_M b).2.1 := by decide +kernel
theorem co_M : ∀ k, k < 9 → parseFieldDescriptor (T_M k).2.2.1 = some (ct_M k) := by decide +kernel
theorem cuu_M : ∀ w ∈ u_ws R_M T_M 9, w ∈ lw_tbl ∧ goodWord w = true := by decide +kernel
theorem cu_M : ∀ w ∈ u_ws R_M T_M 9, w ∈ ck_T := fun w h => ck_T_mk (cuu_M w h).1 (cuu_M w h).2
def R_T : String := "ClauseMatrix$Tree"
def T_T : u_T := fun k => match k with
  | 0 => ("ClauseMatrix$Tree", "declared", "LClauseMatrix$Declarations;", true)
  | 1 => ("ClauseMatrix$Tree", "match", "LClauseMatrix$Match;", true)
  | 2 => ("ClauseMatrix$Tree", "left", "[I", true)
  | 3 => ("ClauseMatrix$Tree", "open", "[I", true)
  | 4 => ("ClauseMatrix$Tree", "label", "[I", true)
  | 5 => ("ClauseMatrix$Tree", "above", "[I", true)
  | 6 => ("ClauseMatrix$Tree", "place", "[I", true)
  | 7 => ("ClauseMatrix$Tree", "testType", "[I", true)
  | 8 => ("ClauseMatrix$Tree", "clause", "[I", true)
  | 9 => ("ClauseMatrix$Tree", "firstBranch", "[I", true)
  | 10 => ("ClauseMatrix$Tree", "branchCount", "[I", true)
  | 11 => ("ClauseMatrix$Tree", "kind", "[I", true)
  | 12 => ("ClauseMatrix$Tree", "failing", "[Z", true)
  | 13 => ("ClauseMatrix$Tree", "valueAt", "[I", true)
  | 14 => ("ClauseMatrix$Tree", "size", "I", false)
  | 15 => ("ClauseMatrix$Tree", "caught", "I", false)
  | _ => ("ClauseMatrix$Tree", "there", "Z", false)
def ct_T : Nat → FieldType := fun k => match k with
  | 0 => .object "ClauseMatrix$Declarations"
  | 1 => .object "ClauseMatrix$Match"
  | 2 => .array .int
  | 3 => .array .int
  | 4 => .array .int
  | 5 => .array .int
  | 6 => .array .int
  | 7 => .array .int
  | 8 => .array .int
  | 9 => .array .int
  | 10 => .array .int
  | 11 => .array .int
  | 12 => .array .boolean
  | 13 => .array .int
  | 14 => .int
  | 15 => .int
  | _ => .boolean
theorem cn_T : ∀ a, a < 17 → ∀ b, b < 17 → a ≠ b → (T_T a).2.1 ≠ (T_T b).2.1 := by decide +kernel
theorem co_T : ∀ k, k < 17 → parseFieldDescriptor (T_T k).2.2.1 = some (ct_T k) := by decide +kernel
theorem cuu_T : ∀ w ∈ u_ws R_T T_T 17, w ∈ lw_tbl ∧ goodWord w = true := by decide +kernel
theorem cu_T : ∀ w ∈ u_ws R_T T_T 17, w ∈ ck_T := fun w h => ck_T_mk (cuu_T w h).1 (cuu_T w h).2
def R_G : String := "ClauseMatrix$Witness"
def T_G : u_T := fun k => match k with
  | 0 => ("ClauseMatrix$Witness", "declared", "LClauseMatrix$Declarations;", true)
  | 1 => ("ClauseMatrix$Witness", "tree", "LClauseMatrix$Tree;", true)
  | 2 => ("ClauseMatrix$Witness", "kindAt", "[I", true)
  | 3 => ("ClauseMatrix$Witness", "symbolAt", "[I", true)
  | 4 => ("ClauseMatrix$Witness", "kind", "[I", true)
  | 5 => ("ClauseMatrix$Witness", "symbol", "[I", true)
  | _ => ("ClauseMatrix$Witness", "length", "I", false)
def ct_G : Nat → FieldType := fun k => match k with
  | 0 => .object "ClauseMatrix$Declarations"
  | 1 => .object "ClauseMatrix$Tree"
  | 2 => .array .int
  | 3 => .array .int
  | 4 => .array .int
  | 5 => .array .int
  | _ => .int
theorem cn_G : ∀ a, a < 7 → ∀ b, b < 7 → a ≠ b → (T_G a).2.1 ≠ (T_G b).2.1 := by decide +kernel
theorem co_G : ∀ k, k < 7 → parseFieldDescriptor (T_G k).2.2.1 = some (ct_G k) := by decide +kernel
theorem cuu_G : ∀ w ∈ u_ws R_G T_G 7, w ∈ lw_tbl ∧ goodWord w = true := by decide +kernel
theorem cu_G : ∀ w ∈ u_ws R_G T_G 7, w ∈ ck_T := fun w h => ck_T_mk (cuu_G w h).1 (cuu_G w h).2
def R_R : String := "ClauseMatrixModel"
def T_R : u_T := fun k => match k with
  | 0 => ("ClauseMatrixModel", "types", "I", false)
  | 1 => ("ClauseMatrixModel", "constructors", "I", false)
  | 2 => ("ClauseMatrixModel", "owner", "[I", false)
  | 3 => ("ClauseMatrixModel", "first", "[I", false)
  | 4 => ("ClauseMatrixModel", "second", "[I", false)
  | 5 => ("ClauseMatrixModel", "patterns", "I", false)
  | 6 => ("ClauseMatrixModel", "kind", "[I", false)
  | 7 => ("ClauseMatrixModel", "what", "[I", false)
  | 8 => ("ClauseMatrixModel", "left", "[I", false)
  | 9 => ("ClauseMatrixModel", "right", "[I", false)
  | 10 => ("ClauseMatrixModel", "kindOfType", "[I", false)
  | 11 => ("ClauseMatrixModel", "depth", "[I", false)
  | 12 => ("ClauseMatrixModel", "choices", "[I", false)
  | 13 => ("ClauseMatrixModel", "values", "I", false)
  | 14 => ("ClauseMatrixModel", "valueKind", "[I", false)
  | 15 => ("ClauseMatrixModel", "valueWhat", "[I", false)
  | 16 => ("ClauseMatrixModel", "valueLeft", "[I", false)
  | 17 => ("ClauseMatrixModel", "valueRight", "[I", false)
  | 18 => ("ClauseMatrixModel", "over", "I", false)
  | 19 => ("ClauseMatrixModel", "rows", "I", false)
  | 20 => ("ClauseMatrixModel", "clauses", "I", false)
  | 21 => ("ClauseMatrixModel", "rowOf", "[I", false)
  | 22 => ("ClauseMatrixModel", "numberOf", "[I", false)
  | 23 => ("ClauseMatrixModel", "asks", "[I", false)
  | 24 => ("ClauseMatrixModel", "asked", "[I", false)
  | 25 => ("ClauseMatrixModel", "waits", "[I", false)
  | 26 => ("ClauseMatrixModel", "choice", "[I", false)
  | 27 => ("ClauseMatrixModel", "spot", "[I", false)
  | 28 => ("ClauseMatrixModel", "grown", "Z", false)
  | 29 => ("ClauseMatrixModel", "nodes", "I", false)
  | 30 => ("ClauseMatrixModel", "tooBig", "Z", false)
  | 31 => ("ClauseMatrixModel", "remain", "[I", false)
  | 32 => ("ClauseMatrixModel", "open", "[I", false)
  | 33 => ("ClauseMatrixModel", "place", "[I", false)
  | 34 => ("ClauseMatrixModel", "test", "[I", false)
  | 35 => ("ClauseMatrixModel", "leaf", "[I", false)
  | 36 => ("ClauseMatrixModel", "from", "[I", false)
  | 37 => ("ClauseMatrixModel", "many", "[I", false)
  | 38 => ("ClauseMatrixModel", "label", "[I", false)
  | 39 => ("ClauseMatrixModel", "others", "[Z", false)
  | 40 => ("ClauseMatrixModel", "work", "[I", false)
  | 41 => ("ClauseMatrixModel", "symbols", "I", false)
  | 42 => ("ClauseMatrixModel", "symbolKind", "[I", false)
  | 43 => ("ClauseMatrixModel", "symbol", "[I", false)
  | 44 => ("ClauseMatrixModel", "wayKind", "[I", false)
  | 45 => ("ClauseMatrixModel", "way", "[I", false)
  | _ => ("ClauseMatrixModel", "tested", "I", false)
def ct_R : Nat → FieldType := fun k => match k with
  | 0 => .int
  | 1 => .int
  | 2 => .array .int
  | 3 => .array .int
  | 4 => .array .int
  | 5 => .int
  | 6 => .array .int
  | 7 => .array .int
  | 8 => .array .int
  | 9 => .array .int
  | 10 => .array .int
  | 11 => .array .int
  | 12 => .array .int
  | 13 => .int
  | 14 => .array .int
  | 15 => .array .int
  | 16 => .array .int
  | 17 => .array .int
  | 18 => .int
  | 19 => .int
  | 20 => .int
  | 21 => .array .int
  | 22 => .array .int
  | 23 => .array .int
  | 24 => .array .int
  | 25 => .array .int
  | 26 => .array .int
  | 27 => .array .int
  | 28 => .boolean
  | 29 => .int
  | 30 => .boolean
  | 31 => .array .int
  | 32 => .array .int
  | 33 => .array .int
  | 34 => .array .int
  | 35 => .array .int
  | 36 => .array .int
  | 37 => .array .int
  | 38 => .array .int
  | 39 => .array .boolean
  | 40 => .array .int
  | 41 => .int
  | 42 => .array .int
  | 43 => .array .int
  | 44 => .array .int
  | 45 => .array .int
  | _ => .int
theorem cn_R : ∀ a, a < 47 → ∀ b, b < 47 → a ≠ b → (T_R a).2.1 ≠ (T_R b).2.1 := by decide +kernel
theorem co_R : ∀ k, k < 47 → parseFieldDescriptor (T_R k).2.2.1 = some (ct_R k) := by decide +kernel
theorem cuu_R : ∀ w ∈ u_ws R_R T_R 47, w ∈ lw_tbl ∧ goodWord w = true := by decide +kernel
theorem cu_R : ∀ w ∈ u_ws R_R T_R 47, w ∈ ck_T := fun w h => ck_T_mk (cuu_R w h).1 (cuu_R w h).2
def R_I : String := "java/lang/Integer"
def R_J : String := "java/lang/Math"
def R_A : String := "java/util/Arrays"
def cm_cl : List vw_C := [(R_C, T_C, 7), (R_D, T_D, 5), (R_P, T_P, 8), (R_V, T_V, 5), (R_M, T_M, 9), (R_T, T_T, 17), (R_G, T_G, 7), (R_R, T_R, 47)]
def sh_C : List ck_Sh := [.inl (0, [some 1, some 2, some 3, some 4, some 5, some 6, none]), .inl (1, [some 7, some 8, some 9, none, none]), .inl (2, [some 10, some 11, some 12, some 13, some 14, some 15, some 16, none]), .inl (3, [some 17, some 18, some 19, some 20, none]), .inl (4, [some 2, some 21, some 22, some 23, some 24, some 25, none, none, none]), .inl (5, [some 1, some 4, some 26, some 27, some 28, some 29, some 30, some 31, some 32, some 33, some 34, some 35, some 36, some 37, none, none, none]), .inl (6, [some 1, some 5, some 38, some 39, some 40, some 41, none]), .inr (0, 12), .inr (0, 12), .inr (0, 12), .inr (1, 60), .inr (0, 60), .inr (0, 60), .inr (0, 60), .inr (0, 60), .inr (0, 60), .inr (0, 60), .inr (0, 60), .inr (0, 60), .inr (0, 60), .inr (0, 60), .inr (0, 9), .inr (0, 16), .inr (0, 16), .inr (0, 256), .inr (0, 256), .inr (0, 60), .inr (0, 60), .inr (0, 60), .inr (0, 60), .inr (0, 60), .inr (0, 60), .inr (0, 60), .inr (0, 60), .inr (0, 60), .inr (0, 60), .inr (1, 60), .inr (0, 32), .inr (0, 32), .inr (0, 32), .inr (0, 32), .inr (0, 32)]
def sh_R : List ck_Sh := [.inl (7, [none, none, some 1, some 2, some 3, none, some 4, some 5, some 6, some 7, some 8, some 9, some 10, none, some 11, some 12, some 13, some 14, none, none, none, some 15, some 16, some 17, some 18, some 19, some 20, some 21, none, none, none, some 22, some 23, some 24, some 25, some 26, some 27, some 28, some 29, some 30, some 31, none, some 32, some 33, some 34, some 35, none]), .inr (0, 12), .inr (0, 12), .inr (0, 12), .inr (0, 60), .inr (0, 60), .inr (0, 60), .inr (0, 60), .inr (0, 60), .inr (0, 60), .inr (0, 60), .inr (0, 60), .inr (0, 60), .inr (0, 60), .inr (0, 60), .inr (0, 16), .inr (0, 16), .inr (0, 256), .inr (0, 256), .inr (0, 20), .inr (0, 20), .inr (0, 20), .inr (0, 60), .inr (0, 60), .inr (0, 60), .inr (0, 60), .inr (0, 60), .inr (0, 60), .inr (0, 60), .inr (0, 60), .inr (1, 60), .inr (0, 60), .inr (0, 32), .inr (0, 32), .inr (0, 16), .inr (0, 16)]
abbrev bC_init : ByteArray := prog_1_method_1_code
def yC_init : MethodName := ⟨R_C, "<init>", "()V"⟩
abbrev bC_clear : ByteArray := prog_1_method_2_code
def yC_clear : MethodName := ⟨R_C, "clear", "()V"⟩
abbrev bC_type : ByteArray := prog_1_method_3_code
def yC_type : MethodName := ⟨R_C, "type", "()I"⟩
abbrev bC_constructor : ByteArray := prog_1_method_4_code
def yC_constructor : MethodName := ⟨R_C, "constructor", "(III)I"⟩
abbrev bC_begin : ByteArray := prog_1_method_5_code
def yC_begin : MethodName := ⟨R_C, "begin", "(I)I"⟩
abbrev bC_any : ByteArray := prog_1_method_6_code
def yC_any : MethodName := ⟨R_C, "any", "()I"⟩
abbrev bC_number : ByteArray := prog_1_method_7_code
def yC_number : MethodName := ⟨R_C, "number", "(I)I"⟩
abbrev bC_build : ByteArray := prog_1_method_8_code
def yC_build : MethodName := ⟨R_C, "build", "(III)I"⟩
abbrev bC_either : ByteArray := prog_1_method_9_code
def yC_either : MethodName := ⟨R_C, "either", "(II)I"⟩
abbrev bC_row : ByteArray := prog_1_method_10_code
def yC_row : MethodName := ⟨R_C, "row", "(I)I"⟩
abbrev bC_compile : ByteArray := prog_1_method_11_code
def yC_compile : MethodName := ⟨R_C, "compile", "()I"⟩
abbrev bC_kinds : ByteArray := prog_1_method_12_code
def yC_kinds : MethodName := ⟨R_C, "kinds", "()I"⟩
abbrev bC_longest : ByteArray := prog_1_method_13_code
def yC_longest : MethodName := ⟨R_C, "longest", "()I"⟩
abbrev bC_useless : ByteArray := prog_1_method_14_code
def yC_useless : MethodName := ⟨R_C, "useless", "(I)I"⟩
abbrev bC_witnessLength : ByteArray := prog_1_method_15_code
def yC_witnessLength : MethodName := ⟨R_C, "witnessLength", "()I"⟩
abbrev bC_witnessKind : ByteArray := prog_1_method_16_code
def yC_witnessKind : MethodName := ⟨R_C, "witnessKind", "(I)I"⟩
abbrev bC_witness : ByteArray := prog_1_method_17_code
def yC_witness : MethodName := ⟨R_C, "witness", "(I)I"⟩
abbrev bC_valueNumber : ByteArray := prog_1_method_18_code
def yC_valueNumber : MethodName := ⟨R_C, "valueNumber", "(I)I"⟩
abbrev bC_valueOf : ByteArray := prog_1_method_19_code
def yC_valueOf : MethodName := ⟨R_C, "valueOf", "(III)I"⟩
abbrev bC_run : ByteArray := prog_1_method_20_code
def yC_run : MethodName := ⟨R_C, "run", "(I)I"⟩
abbrev bC_tests : ByteArray := prog_1_method_21_code
def yC_tests : MethodName := ⟨R_C, "tests", "()I"⟩
abbrev bC_standsFor : ByteArray := prog_1_method_22_code
def yC_standsFor : MethodName := ⟨R_C, "standsFor", "(IZI)Z"⟩
abbrev bR_init : ByteArray := prog_9_method_1_code
def yR_init : MethodName := ⟨R_R, "<init>", "()V"⟩
abbrev bR_clear : ByteArray := prog_9_method_2_code
def yR_clear : MethodName := ⟨R_R, "clear", "()V"⟩
abbrev bR_type : ByteArray := prog_9_method_3_code
def yR_type : MethodName := ⟨R_R, "type", "()I"⟩
abbrev bR_isType : ByteArray := prog_9_method_4_code
def yR_isType : MethodName := ⟨R_R, "isType", "(I)Z"⟩
abbrev bR_constructorsOf : ByteArray := prog_9_method_5_code
def yR_constructorsOf : MethodName := ⟨R_R, "constructorsOf", "(I)I"⟩
abbrev bR_constructor : ByteArray := prog_9_method_6_code
def yR_constructor : MethodName := ⟨R_R, "constructor", "(III)I"⟩
abbrev bR_inhabited : ByteArray := prog_9_method_7_code
def yR_inhabited : MethodName := ⟨R_R, "inhabited", "()Z"⟩
abbrev bR_begin : ByteArray := prog_9_method_8_code
def yR_begin : MethodName := ⟨R_R, "begin", "(I)I"⟩
abbrev bR_isPattern : ByteArray := prog_9_method_9_code
def yR_isPattern : MethodName := ⟨R_R, "isPattern", "(I)Z"⟩
abbrev bR_fitsType : ByteArray := prog_9_method_10_code
def yR_fitsType : MethodName := ⟨R_R, "fitsType", "(II)Z"⟩
abbrev bR_pattern : ByteArray := prog_9_method_11_code
def yR_pattern : MethodName := ⟨R_R, "pattern", "(IIIIIII)I"⟩
abbrev bR_any : ByteArray := prog_9_method_12_code
def yR_any : MethodName := ⟨R_R, "any", "()I"⟩
abbrev bR_number : ByteArray := prog_9_method_13_code
def yR_number : MethodName := ⟨R_R, "number", "(I)I"⟩
abbrev bR_build : ByteArray := prog_9_method_14_code
def yR_build : MethodName := ⟨R_R, "build", "(III)I"⟩
abbrev bR_either : ByteArray := prog_9_method_15_code
def yR_either : MethodName := ⟨R_R, "either", "(II)I"⟩
abbrev bR_row : ByteArray := prog_9_method_16_code
def yR_row : MethodName := ⟨R_R, "row", "(I)I"⟩
abbrev bR_writeOut : ByteArray := prog_9_method_17_code
def yR_writeOut : MethodName := ⟨R_R, "writeOut", "(III)V"⟩
abbrev bR_writeOne : ByteArray := prog_9_method_18_code
def yR_writeOne : MethodName := ⟨R_R, "writeOne", "(II)I"⟩
abbrev bR_lowest : ByteArray := prog_9_method_19_code
def yR_lowest : MethodName := ⟨R_R, "lowest", "(I)I"⟩
abbrev bR_askers : ByteArray := prog_9_method_20_code
def yR_askers : MethodName := ⟨R_R, "askers", "(II)I"⟩
abbrev bR_choose : ByteArray := prog_9_method_21_code
def yR_choose : MethodName := ⟨R_R, "choose", "(II)I"⟩
abbrev bR_keep : ByteArray := prog_9_method_22_code
def yR_keep : MethodName := ⟨R_R, "keep", "(IIIZ)I"⟩
abbrev bR_branch : ByteArray := prog_9_method_23_code
def yR_branch : MethodName := ⟨R_R, "branch", "(IIZI)V"⟩
abbrev bR_grow : ByteArray := prog_9_method_24_code
def yR_grow : MethodName := ⟨R_R, "grow", "(I)V"⟩
abbrev bR_growNumbers : ByteArray := prog_9_method_25_code
def yR_growNumbers : MethodName := ⟨R_R, "growNumbers", "(III)V"⟩
abbrev bR_compile : ByteArray := prog_9_method_26_code
def yR_compile : MethodName := ⟨R_R, "compile", "()I"⟩
abbrev bR_alike : ByteArray := prog_9_method_27_code
def yR_alike : MethodName := ⟨R_R, "alike", "(II)Z"⟩
abbrev bR_kinds : ByteArray := prog_9_method_28_code
def yR_kinds : MethodName := ⟨R_R, "kinds", "()I"⟩
abbrev bR_longest : ByteArray := prog_9_method_29_code
def yR_longest : MethodName := ⟨R_R, "longest", "()I"⟩
abbrev bR_useless : ByteArray := prog_9_method_30_code
def yR_useless : MethodName := ⟨R_R, "useless", "(I)I"⟩
abbrev bR_hasBranch : ByteArray := prog_9_method_31_code
def yR_hasBranch : MethodName := ⟨R_R, "hasBranch", "(II)Z"⟩
abbrev bR_findWitness : ByteArray := prog_9_method_32_code
def yR_findWitness : MethodName := ⟨R_R, "findWitness", "()V"⟩
abbrev bR_writeWitness : ByteArray := prog_9_method_33_code
def yR_writeWitness : MethodName := ⟨R_R, "writeWitness", "()V"⟩
abbrev bR_witnessLength : ByteArray := prog_9_method_34_code
def yR_witnessLength : MethodName := ⟨R_R, "witnessLength", "()I"⟩
abbrev bR_witnessKind : ByteArray := prog_9_method_35_code
def yR_witnessKind : MethodName := ⟨R_R, "witnessKind", "(I)I"⟩
abbrev bR_witness : ByteArray := prog_9_method_36_code
def yR_witness : MethodName := ⟨R_R, "witness", "(I)I"⟩
abbrev bR_isValue : ByteArray := prog_9_method_37_code
def yR_isValue : MethodName := ⟨R_R, "isValue", "(I)Z"⟩
abbrev bR_typeOf : ByteArray := prog_9_method_38_code
def yR_typeOf : MethodName := ⟨R_R, "typeOf", "(I)I"⟩
abbrev bR_value : ByteArray := prog_9_method_39_code
def yR_value : MethodName := ⟨R_R, "value", "(IIII)I"⟩
abbrev bR_valueNumber : ByteArray := prog_9_method_40_code
def yR_valueNumber : MethodName := ⟨R_R, "valueNumber", "(I)I"⟩
abbrev bR_valueOf : ByteArray := prog_9_method_41_code
def yR_valueOf : MethodName := ⟨R_R, "valueOf", "(III)I"⟩
abbrev bR_part : ByteArray := prog_9_method_42_code
def yR_part : MethodName := ⟨R_R, "part", "(II)I"⟩
abbrev bR_fits : ByteArray := prog_9_method_43_code
def yR_fits : MethodName := ⟨R_R, "fits", "(II)Z"⟩
abbrev bR_walk : ByteArray := prog_9_method_44_code
def yR_walk : MethodName := ⟨R_R, "walk", "(I)I"⟩
abbrev bR_run : ByteArray := prog_9_method_45_code
def yR_run : MethodName := ⟨R_R, "run", "(I)I"⟩
abbrev bR_tests : ByteArray := prog_9_method_46_code
def yR_tests : MethodName := ⟨R_R, "tests", "()I"⟩
abbrev bD_init : ByteArray := prog_2_method_1_code
def yD_init : MethodName := ⟨R_D, "<init>", "()V"⟩
abbrev bD_reset : ByteArray := prog_2_method_2_code
def yD_reset : MethodName := ⟨R_D, "reset", "()V"⟩
abbrev bD_addType : ByteArray := prog_2_method_3_code
def yD_addType : MethodName := ⟨R_D, "addType", "()I"⟩
abbrev bD_addConstructor : ByteArray := prog_2_method_4_code
def yD_addConstructor : MethodName := ⟨R_D, "addConstructor", "(III)I"⟩
abbrev bD_countOfType : ByteArray := prog_2_method_5_code
def yD_countOfType : MethodName := ⟨R_D, "countOfType", "(I)I"⟩
abbrev bD_isType : ByteArray := prog_2_method_6_code
def yD_isType : MethodName := ⟨R_D, "isType", "(I)Z"⟩
abbrev bD_isOwnType : ByteArray := prog_2_method_7_code
def yD_isOwnType : MethodName := ⟨R_D, "isOwnType", "(I)Z"⟩
abbrev bD_canBeArguments : ByteArray := prog_2_method_8_code
def yD_canBeArguments : MethodName := ⟨R_D, "canBeArguments", "(II)Z"⟩
abbrev bD_isConstructor : ByteArray := prog_2_method_9_code
def yD_isConstructor : MethodName := ⟨R_D, "isConstructor", "(I)Z"⟩
abbrev bD_constructorCount : ByteArray := prog_2_method_10_code
def yD_constructorCount : MethodName := ⟨R_D, "constructorCount", "()I"⟩
abbrev bD_ownerOf : ByteArray := prog_2_method_11_code
def yD_ownerOf : MethodName := ⟨R_D, "ownerOf", "(I)I"⟩
abbrev bD_firstTypeOf : ByteArray := prog_2_method_12_code
def yD_firstTypeOf : MethodName := ⟨R_D, "firstTypeOf", "(I)I"⟩
abbrev bD_secondTypeOf : ByteArray := prog_2_method_13_code
def yD_secondTypeOf : MethodName := ⟨R_D, "secondTypeOf", "(I)I"⟩
abbrev bD_argumentPlaces : ByteArray := prog_2_method_14_code
def yD_argumentPlaces : MethodName := ⟨R_D, "argumentPlaces", "(II)I"⟩
abbrev bD_everyTypeHasValues : ByteArray := prog_2_method_15_code
def yD_everyTypeHasValues : MethodName := ⟨R_D, "everyTypeHasValues", "()Z"⟩
abbrev bD_withTypesBuiltFrom : ByteArray := prog_2_method_16_code
def yD_withTypesBuiltFrom : MethodName := ⟨R_D, "withTypesBuiltFrom", "(I)I"⟩
abbrev bD_canBeGiven : ByteArray := prog_2_method_17_code
def yD_canBeGiven : MethodName := ⟨R_D, "canBeGiven", "(II)Z"⟩
abbrev bM_init : ByteArray := prog_3_method_1_code
def yM_init : MethodName := ⟨R_M, "<init>", "(LClauseMatrix$Patterns;)V"⟩
abbrev bM_reset : ByteArray := prog_3_method_2_code
def yM_reset : MethodName := ⟨R_M, "reset", "()V"⟩
abbrev bM_isBegun : ByteArray := prog_3_method_3_code
def yM_isBegun : MethodName := ⟨R_M, "isBegun", "()Z"⟩
abbrev bM_beginOver : ByteArray := prog_3_method_4_code
def yM_beginOver : MethodName := ⟨R_M, "beginOver", "(I)V"⟩
abbrev bM_typeOver : ByteArray := prog_3_method_5_code
def yM_typeOver : MethodName := ⟨R_M, "typeOver", "()I"⟩
abbrev bM_hasRow : ByteArray := prog_3_method_6_code
def yM_hasRow : MethodName := ⟨R_M, "hasRow", "(I)Z"⟩
abbrev bM_addRow : ByteArray := prog_3_method_7_code
def yM_addRow : MethodName := ⟨R_M, "addRow", "(I)I"⟩
abbrev bM_layOut : ByteArray := prog_3_method_8_code
def yM_layOut : MethodName := ⟨R_M, "layOut", "(IIII)V"⟩
abbrev bM_allClauses : ByteArray := prog_3_method_9_code
def yM_allClauses : MethodName := ⟨R_M, "allClauses", "()I"⟩
abbrev bM_firstOf : ByteArray := prog_3_method_10_code
def yM_firstOf : MethodName := ⟨R_M, "firstOf", "(I)I"⟩
abbrev bM_rowOf : ByteArray := prog_3_method_11_code
def yM_rowOf : MethodName := ⟨R_M, "rowOf", "(I)I"⟩
abbrev bM_placeToTest : ByteArray := prog_3_method_12_code
def yM_placeToTest : MethodName := ⟨R_M, "placeToTest", "(II)I"⟩
abbrev bM_typeAskedAt : ByteArray := prog_3_method_13_code
def yM_typeAskedAt : MethodName := ⟨R_M, "typeAskedAt", "(II)I"⟩
abbrev bM_notAsking : ByteArray := prog_3_method_14_code
def yM_notAsking : MethodName := ⟨R_M, "notAsking", "(II)I"⟩
abbrev bM_notAskingElse : ByteArray := prog_3_method_15_code
def yM_notAskingElse : MethodName := ⟨R_M, "notAskingElse", "(III)I"⟩
abbrev bM_leastAbove : ByteArray := prog_3_method_16_code
def yM_leastAbove : MethodName := ⟨R_M, "leastAbove", "(JII)J"⟩
abbrev bM_alternativesOutside : ByteArray := prog_3_method_17_code
def yM_alternativesOutside : MethodName := ⟨R_M, "alternativesOutside", "(II)I"⟩
abbrev bP_init : ByteArray := prog_4_method_1_code
def yP_init : MethodName := ⟨R_P, "<init>", "()V"⟩
abbrev bP_reset : ByteArray := prog_4_method_2_code
def yP_reset : MethodName := ⟨R_P, "reset", "()V"⟩
abbrev bP_has : ByteArray := prog_4_method_3_code
def yP_has : MethodName := ⟨R_P, "has", "(I)Z"⟩
abbrev bP_addAny : ByteArray := prog_4_method_4_code
def yP_addAny : MethodName := ⟨R_P, "addAny", "()I"⟩
abbrev bP_addNumber : ByteArray := prog_4_method_5_code
def yP_addNumber : MethodName := ⟨R_P, "addNumber", "(I)I"⟩
abbrev bP_addBuild : ByteArray := prog_4_method_6_code
def yP_addBuild : MethodName := ⟨R_P, "addBuild", "(IIII)I"⟩
abbrev bP_addEither : ByteArray := prog_4_method_7_code
def yP_addEither : MethodName := ⟨R_P, "addEither", "(II)I"⟩
abbrev bP_add : ByteArray := prog_4_method_8_code
def yP_add : MethodName := ⟨R_P, "add", "(ZII)I"⟩
abbrev bP_withParts : ByteArray := prog_4_method_9_code
def yP_withParts : MethodName := ⟨R_P, "withParts", "(IIIII)I"⟩
abbrev bP_isOpen : ByteArray := prog_4_method_10_code
def yP_isOpen : MethodName := ⟨R_P, "isOpen", "(I)Z"⟩
abbrev bP_fits : ByteArray := prog_4_method_11_code
def yP_fits : MethodName := ⟨R_P, "fits", "(II)Z"⟩
abbrev bP_agree : ByteArray := prog_4_method_12_code
def yP_agree : MethodName := ⟨R_P, "agree", "(II)Z"⟩
abbrev bP_isEither : ByteArray := prog_4_method_13_code
def yP_isEither : MethodName := ⟨R_P, "isEither", "(I)Z"⟩
abbrev bP_itsType : ByteArray := prog_4_method_14_code
def yP_itsType : MethodName := ⟨R_P, "itsType", "(I)I"⟩
abbrev bP_symbolOf : ByteArray := prog_4_method_15_code
def yP_symbolOf : MethodName := ⟨R_P, "symbolOf", "(I)I"⟩
abbrev bP_firstOf : ByteArray := prog_4_method_16_code
def yP_firstOf : MethodName := ⟨R_P, "firstOf", "(I)I"⟩
abbrev bP_secondOf : ByteArray := prog_4_method_17_code
def yP_secondOf : MethodName := ⟨R_P, "secondOf", "(I)I"⟩
abbrev bP_depthOf : ByteArray := prog_4_method_18_code
def yP_depthOf : MethodName := ⟨R_P, "depthOf", "(I)I"⟩
abbrev bP_choicesOf : ByteArray := prog_4_method_19_code
def yP_choicesOf : MethodName := ⟨R_P, "choicesOf", "(I)I"⟩
abbrev bT_init : ByteArray := prog_5_method_1_code
def yT_init : MethodName := ⟨R_T, "<init>", "(LClauseMatrix$Declarations;LClauseMatrix$Match;)V"⟩
abbrev bT_drop : ByteArray := prog_5_method_2_code
def yT_drop : MethodName := ⟨R_T, "drop", "()V"⟩
abbrev bT_isThere : ByteArray := prog_5_method_3_code
def yT_isThere : MethodName := ⟨R_T, "isThere", "()Z"⟩
abbrev bT_size : ByteArray := prog_5_method_4_code
def yT_size : MethodName := ⟨R_T, "size", "()I"⟩
abbrev bT_caught : ByteArray := prog_5_method_5_code
def yT_caught : MethodName := ⟨R_T, "caught", "()I"⟩
abbrev bT_testsAbove : ByteArray := prog_5_method_6_code
def yT_testsAbove : MethodName := ⟨R_T, "testsAbove", "(I)I"⟩
abbrev bT_clauseAt : ByteArray := prog_5_method_7_code
def yT_clauseAt : MethodName := ⟨R_T, "clauseAt", "(I)I"⟩
abbrev bT_placeOf : ByteArray := prog_5_method_8_code
def yT_placeOf : MethodName := ⟨R_T, "placeOf", "(I)I"⟩
abbrev bT_typeOfTest : ByteArray := prog_5_method_9_code
def yT_typeOfTest : MethodName := ⟨R_T, "typeOfTest", "(I)I"⟩
abbrev bT_labelOf : ByteArray := prog_5_method_10_code
def yT_labelOf : MethodName := ⟨R_T, "labelOf", "(I)I"⟩
abbrev bT_has : ByteArray := prog_5_method_11_code
def yT_has : MethodName := ⟨R_T, "has", "(I)Z"⟩
abbrev bT_grow : ByteArray := prog_5_method_12_code
def yT_grow : MethodName := ⟨R_T, "grow", "()Z"⟩
abbrev bT_addNode : ByteArray := prog_5_method_13_code
def yT_addNode : MethodName := ⟨R_T, "addNode", "(IIII)Z"⟩
abbrev bT_expand : ByteArray := prog_5_method_14_code
def yT_expand : MethodName := ⟨R_T, "expand", "(I)Z"⟩
abbrev bT_makeLeaf : ByteArray := prog_5_method_15_code
def yT_makeLeaf : MethodName := ⟨R_T, "makeLeaf", "(I)V"⟩
abbrev bT_addNumbers : ByteArray := prog_5_method_16_code
def yT_addNumbers : MethodName := ⟨R_T, "addNumbers", "(I)Z"⟩
abbrev bT_addConstructors : ByteArray := prog_5_method_17_code
def yT_addConstructors : MethodName := ⟨R_T, "addConstructors", "(I)Z"⟩
abbrev bT_markFailing : ByteArray := prog_5_method_18_code
def yT_markFailing : MethodName := ⟨R_T, "markFailing", "()V"⟩
abbrev bT_failingBranch : ByteArray := prog_5_method_19_code
def yT_failingBranch : MethodName := ⟨R_T, "failingBranch", "(I)I"⟩
abbrev bT_hasFailing : ByteArray := prog_5_method_20_code
def yT_hasFailing : MethodName := ⟨R_T, "hasFailing", "()Z"⟩
abbrev bT_mostTests : ByteArray := prog_5_method_21_code
def yT_mostTests : MethodName := ⟨R_T, "mostTests", "()I"⟩
abbrev bT_countKinds : ByteArray := prog_5_method_22_code
def yT_countKinds : MethodName := ⟨R_T, "countKinds", "()I"⟩
abbrev bT_alike : ByteArray := prog_5_method_23_code
def yT_alike : MethodName := ⟨R_T, "alike", "(II)Z"⟩
abbrev bT_leafFor : ByteArray := prog_5_method_24_code
def yT_leafFor : MethodName := ⟨R_T, "leafFor", "(LClauseMatrix$Values;I)I"⟩
abbrev bT_branchFor : ByteArray := prog_5_method_25_code
def yT_branchFor : MethodName := ⟨R_T, "branchFor", "(II)I"⟩
abbrev bT_lastBranch : ByteArray := prog_5_method_26_code
def yT_lastBranch : MethodName := ⟨R_T, "lastBranch", "(I)I"⟩
abbrev bT_leastWithoutBranch : ByteArray := prog_5_method_27_code
def yT_leastWithoutBranch : MethodName := ⟨R_T, "leastWithoutBranch", "(I)I"⟩
abbrev bV_init : ByteArray := prog_6_method_1_code
def yV_init : MethodName := ⟨R_V, "<init>", "()V"⟩
abbrev bV_reset : ByteArray := prog_6_method_2_code
def yV_reset : MethodName := ⟨R_V, "reset", "()V"⟩
abbrev bV_has : ByteArray := prog_6_method_3_code
def yV_has : MethodName := ⟨R_V, "has", "(I)Z"⟩
abbrev bV_addInt : ByteArray := prog_6_method_4_code
def yV_addInt : MethodName := ⟨R_V, "addInt", "(I)I"⟩
abbrev bV_addBuilt : ByteArray := prog_6_method_5_code
def yV_addBuilt : MethodName := ⟨R_V, "addBuilt", "(IIII)I"⟩
abbrev bV_isOf : ByteArray := prog_6_method_6_code
def yV_isOf : MethodName := ⟨R_V, "isOf", "(II)Z"⟩
abbrev bV_symbolOf : ByteArray := prog_6_method_7_code
def yV_symbolOf : MethodName := ⟨R_V, "symbolOf", "(I)I"⟩
abbrev bV_firstOf : ByteArray := prog_6_method_8_code
def yV_firstOf : MethodName := ⟨R_V, "firstOf", "(I)I"⟩
abbrev bV_secondOf : ByteArray := prog_6_method_9_code
def yV_secondOf : MethodName := ⟨R_V, "secondOf", "(I)I"⟩
abbrev bG_init : ByteArray := prog_7_method_1_code
def yG_init : MethodName := ⟨R_G, "<init>", "(LClauseMatrix$Declarations;LClauseMatrix$Tree;)V"⟩
abbrev bG_length : ByteArray := prog_7_method_2_code
def yG_length : MethodName := ⟨R_G, "length", "()I"⟩
abbrev bG_has : ByteArray := prog_7_method_3_code
def yG_has : MethodName := ⟨R_G, "has", "(I)Z"⟩
abbrev bG_kindOf : ByteArray := prog_7_method_4_code
def yG_kindOf : MethodName := ⟨R_G, "kindOf", "(I)I"⟩
abbrev bG_symbolOf : ByteArray := prog_7_method_5_code
def yG_symbolOf : MethodName := ⟨R_G, "symbolOf", "(I)I"⟩
abbrev bG_readFromTree : ByteArray := prog_7_method_6_code
def yG_readFromTree : MethodName := ⟨R_G, "readFromTree", "()V"⟩
abbrev bG_followWayToFail : ByteArray := prog_7_method_7_code
def yG_followWayToFail : MethodName := ⟨R_G, "followWayToFail", "()V"⟩
abbrev bG_noteBranch : ByteArray := prog_7_method_8_code
def yG_noteBranch : MethodName := ⟨R_G, "noteBranch", "(II)V"⟩
abbrev bG_write : ByteArray := prog_7_method_9_code
def yG_write : MethodName := ⟨R_G, "write", "(I)V"⟩
abbrev bI_bitCount : ByteArray := prog_10_method_49_code
def yI_bitCount : MethodName := ⟨R_I, "bitCount", "(I)I"⟩
abbrev bJ_max : ByteArray := prog_11_method_65_code
def yJ_max : MethodName := ⟨R_J, "max", "(II)I"⟩
abbrev bA_fill : ByteArray := prog_12_method_103_code
def yA_fill : MethodName := ⟨R_A, "fill", "([II)V"⟩
end
section
/-! fields and calls: their words among the tables' -/
theorem FC_declared : ck_F sh_C cm_cl R_C 10 0 0 (some 1) := ⟨_, _, _, _, rfl, rfl, rfl, by decide, cu_C, ck_T_mk (List.mem_of_getElem? (i := 259) (by decide +kernel)) (by decide +kernel), rfl⟩
theorem FC_patterns : ck_F sh_C cm_cl R_C 19 0 1 (some 2) := ⟨_, _, _, _, rfl, rfl, rfl, by decide, cu_C, ck_T_mk (List.mem_of_getElem? (i := 260) (by decide +kernel)) (by decide +kernel), rfl⟩
theorem FC_values : ck_F sh_C cm_cl R_C 26 0 2 (some 3) := ⟨_, _, _, _, rfl, rfl, rfl, by decide, cu_C, ck_T_mk (List.mem_of_getElem? (i := 261) (by decide +kernel)) (by decide +kernel), rfl⟩
theorem FC_match : ck_F sh_C cm_cl R_C 35 0 3 (some 4) := ⟨_, _, _, _, rfl, rfl, rfl, by decide, cu_C, ck_T_mk (List.mem_of_getElem? (i := 262) (by decide +kernel)) (by decide +kernel), rfl⟩
theorem FC_tree : ck_F sh_C cm_cl R_C 44 0 4 (some 5) := ⟨_, _, _, _, rfl, rfl, rfl, by decide, cu_C, ck_T_mk (List.mem_of_getElem? (i := 263) (by decide +kernel)) (by decide +kernel), rfl⟩
theorem FC_gap : ck_F sh_C cm_cl R_C 53 0 5 (some 6) := ⟨_, _, _, _, rfl, rfl, rfl, by decide, cu_C, ck_T_mk (List.mem_of_getElem? (i := 264) (by decide +kernel)) (by decide +kernel), rfl⟩
theorem FC_latestTests : ck_F sh_C cm_cl R_C 57 0 6 none := ⟨_, _, _, _, rfl, rfl, rfl, by decide, cu_C, ck_T_mk (List.mem_of_getElem? (i := 265) (by decide +kernel)) (by decide +kernel), rfl⟩
theorem GC_latestTests : ck_G sh_C cm_cl R_C 57 0 6 .int := ⟨_, _, _, _, _, rfl, rfl, rfl, by decide, cu_C, ck_T_mk (List.mem_of_getElem? (i := 265) (by decide +kernel)) (by decide +kernel), rfl, co_C, cn_C, rfl, by decide +kernel⟩
theorem FD_owner : ck_F sh_C cm_cl R_D 9 1 0 (some 7) := ⟨_, _, _, _, rfl, rfl, rfl, by decide, cu_D, ck_T_mk (List.mem_of_getElem? (i := 68) (by decide +kernel)) (by decide +kernel), rfl⟩
theorem FD_firstType : ck_F sh_C cm_cl R_D 15 1 1 (some 8) := ⟨_, _, _, _, rfl, rfl, rfl, by decide, cu_D, ck_T_mk (List.mem_of_getElem? (i := 69) (by decide +kernel)) (by decide +kernel), rfl⟩
theorem FD_secondType : ck_F sh_C cm_cl R_D 18 1 2 (some 9) := ⟨_, _, _, _, rfl, rfl, rfl, by decide, cu_D, ck_T_mk (List.mem_of_getElem? (i := 70) (by decide +kernel)) (by decide +kernel), rfl⟩
theorem FD_ownTypes : ck_F sh_C cm_cl R_D 21 1 3 none := ⟨_, _, _, _, rfl, rfl, rfl, by decide, cu_D, ck_T_mk (List.mem_of_getElem? (i := 71) (by decide +kernel)) (by decide +kernel), rfl⟩
theorem GD_ownTypes : ck_G sh_C cm_cl R_D 21 1 3 .int := ⟨_, _, _, _, _, rfl, rfl, rfl, by decide, cu_D, ck_T_mk (List.mem_of_getElem? (i := 71) (by decide +kernel)) (by decide +kernel), rfl, co_D, cn_D, rfl, by decide +kernel⟩
theorem FD_constructors : ck_F sh_C cm_cl R_D 25 1 4 none := ⟨_, _, _, _, rfl, rfl, rfl, by decide, cu_D, ck_T_mk (List.mem_of_getElem? (i := 72) (by decide +kernel)) (by decide +kernel), rfl⟩
theorem GD_constructors : ck_G sh_C cm_cl R_D 25 1 4 .int := ⟨_, _, _, _, _, rfl, rfl, rfl, by decide, cu_D, ck_T_mk (List.mem_of_getElem? (i := 72) (by decide +kernel)) (by decide +kernel), rfl, co_D, cn_D, rfl, by decide +kernel⟩
theorem FP_twofold : ck_F sh_C cm_cl R_P 9 2 0 (some 10) := ⟨_, _, _, _, rfl, rfl, rfl, by decide, cu_P, ck_T_mk (List.mem_of_getElem? (i := 91) (by decide +kernel)) (by decide +kernel), rfl⟩
theorem FP_typeOf : ck_F sh_C cm_cl R_P 15 2 1 (some 11) := ⟨_, _, _, _, rfl, rfl, rfl, by decide, cu_P, ck_T_mk (List.mem_of_getElem? (i := 92) (by decide +kernel)) (by decide +kernel), rfl⟩
theorem FP_symbol : ck_F sh_C cm_cl R_P 19 2 2 (some 12) := ⟨_, _, _, _, rfl, rfl, rfl, by decide, cu_P, ck_T_mk (List.mem_of_getElem? (i := 93) (by decide +kernel)) (by decide +kernel), rfl⟩
theorem FP_first : ck_F sh_C cm_cl R_P 22 2 3 (some 13) := ⟨_, _, _, _, rfl, rfl, rfl, by decide, cu_P, ck_T_mk (List.mem_of_getElem? (i := 94) (by decide +kernel)) (by decide +kernel), rfl⟩
theorem FP_second : ck_F sh_C cm_cl R_P 25 2 4 (some 14) := ⟨_, _, _, _, rfl, rfl, rfl, by decide, cu_P, ck_T_mk (List.mem_of_getElem? (i := 95) (by decide +kernel)) (by decide +kernel), rfl⟩
theorem FP_depth : ck_F sh_C cm_cl R_P 28 2 5 (some 15) := ⟨_, _, _, _, rfl, rfl, rfl, by decide, cu_P, ck_T_mk (List.mem_of_getElem? (i := 96) (by decide +kernel)) (by decide +kernel), rfl⟩
theorem FP_alternatives : ck_F sh_C cm_cl R_P 31 2 6 (some 16) := ⟨_, _, _, _, rfl, rfl, rfl, by decide, cu_P, ck_T_mk (List.mem_of_getElem? (i := 97) (by decide +kernel)) (by decide +kernel), rfl⟩
theorem FP_count : ck_F sh_C cm_cl R_P 34 2 7 none := ⟨_, _, _, _, rfl, rfl, rfl, by decide, cu_P, ck_T_mk (List.mem_of_getElem? (i := 98) (by decide +kernel)) (by decide +kernel), rfl⟩
theorem GP_count : ck_G sh_C cm_cl R_P 34 2 7 .int := ⟨_, _, _, _, _, rfl, rfl, rfl, by decide, cu_P, ck_T_mk (List.mem_of_getElem? (i := 98) (by decide +kernel)) (by decide +kernel), rfl, co_P, cn_P, rfl, by decide +kernel⟩
theorem FV_typeOf : ck_F sh_C cm_cl R_V 9 3 0 (some 17) := ⟨_, _, _, _, rfl, rfl, rfl, by decide, cu_V, ck_T_mk (List.mem_of_getElem? (i := 123) (by decide +kernel)) (by decide +kernel), rfl⟩
theorem FV_symbol : ck_F sh_C cm_cl R_V 15 3 1 (some 18) := ⟨_, _, _, _, rfl, rfl, rfl, by decide, cu_V, ck_T_mk (List.mem_of_getElem? (i := 124) (by decide +kernel)) (by decide +kernel), rfl⟩
theorem FV_first : ck_F sh_C cm_cl R_V 18 3 2 (some 19) := ⟨_, _, _, _, rfl, rfl, rfl, by decide, cu_V, ck_T_mk (List.mem_of_getElem? (i := 125) (by decide +kernel)) (by decide +kernel), rfl⟩
theorem FV_second : ck_F sh_C cm_cl R_V 21 3 3 (some 20) := ⟨_, _, _, _, rfl, rfl, rfl, by decide, cu_V, ck_T_mk (List.mem_of_getElem? (i := 126) (by decide +kernel)) (by decide +kernel), rfl⟩
theorem FV_count : ck_F sh_C cm_cl R_V 24 3 4 none := ⟨_, _, _, _, rfl, rfl, rfl, by decide, cu_V, ck_T_mk (List.mem_of_getElem? (i := 127) (by decide +kernel)) (by decide +kernel), rfl⟩
theorem GV_count : ck_G sh_C cm_cl R_V 24 3 4 .int := ⟨_, _, _, _, _, rfl, rfl, rfl, by decide, cu_V, ck_T_mk (List.mem_of_getElem? (i := 127) (by decide +kernel)) (by decide +kernel), rfl, co_V, cn_V, rfl, by decide +kernel⟩
theorem FM_patterns : ck_F sh_C cm_cl R_M 37 4 0 (some 2) := ⟨_, _, _, _, rfl, rfl, rfl, by decide, cu_M, ck_T_mk (List.mem_of_getElem? (i := 145) (by decide +kernel)) (by decide +kernel), rfl⟩
theorem FM_firstClause : ck_F sh_C cm_cl R_M 9 4 1 (some 21) := ⟨_, _, _, _, rfl, rfl, rfl, by decide, cu_M, ck_T_mk (List.mem_of_getElem? (i := 146) (by decide +kernel)) (by decide +kernel), rfl⟩
theorem FM_rowOfClause : ck_F sh_C cm_cl R_M 15 4 2 (some 22) := ⟨_, _, _, _, rfl, rfl, rfl, by decide, cu_M, ck_T_mk (List.mem_of_getElem? (i := 147) (by decide +kernel)) (by decide +kernel), rfl⟩
theorem FM_askers : ck_F sh_C cm_cl R_M 18 4 3 (some 23) := ⟨_, _, _, _, rfl, rfl, rfl, by decide, cu_M, ck_T_mk (List.mem_of_getElem? (i := 148) (by decide +kernel)) (by decide +kernel), rfl⟩
theorem FM_askedSymbol : ck_F sh_C cm_cl R_M 21 4 4 (some 24) := ⟨_, _, _, _, rfl, rfl, rfl, by decide, cu_M, ck_T_mk (List.mem_of_getElem? (i := 149) (by decide +kernel)) (by decide +kernel), rfl⟩
theorem FM_askedType : ck_F sh_C cm_cl R_M 24 4 5 (some 25) := ⟨_, _, _, _, rfl, rfl, rfl, by decide, cu_M, ck_T_mk (List.mem_of_getElem? (i := 150) (by decide +kernel)) (by decide +kernel), rfl⟩
theorem FM_over : ck_F sh_C cm_cl R_M 27 4 6 none := ⟨_, _, _, _, rfl, rfl, rfl, by decide, cu_M, ck_T_mk (List.mem_of_getElem? (i := 151) (by decide +kernel)) (by decide +kernel), rfl⟩
theorem GM_over : ck_G sh_C cm_cl R_M 27 4 6 .int := ⟨_, _, _, _, _, rfl, rfl, rfl, by decide, cu_M, ck_T_mk (List.mem_of_getElem? (i := 151) (by decide +kernel)) (by decide +kernel), rfl, co_M, cn_M, rfl, by decide +kernel⟩
theorem FM_rows : ck_F sh_C cm_cl R_M 31 4 7 none := ⟨_, _, _, _, rfl, rfl, rfl, by decide, cu_M, ck_T_mk (List.mem_of_getElem? (i := 152) (by decide +kernel)) (by decide +kernel), rfl⟩
theorem GM_rows : ck_G sh_C cm_cl R_M 31 4 7 .int := ⟨_, _, _, _, _, rfl, rfl, rfl, by decide, cu_M, ck_T_mk (List.mem_of_getElem? (i := 152) (by decide +kernel)) (by decide +kernel), rfl, co_M, cn_M, rfl, by decide +kernel⟩
theorem FM_clauses : ck_F sh_C cm_cl R_M 34 4 8 none := ⟨_, _, _, _, rfl, rfl, rfl, by decide, cu_M, ck_T_mk (List.mem_of_getElem? (i := 153) (by decide +kernel)) (by decide +kernel), rfl⟩
theorem GM_clauses : ck_G sh_C cm_cl R_M 34 4 8 .int := ⟨_, _, _, _, _, rfl, rfl, rfl, by decide, cu_M, ck_T_mk (List.mem_of_getElem? (i := 153) (by decide +kernel)) (by decide +kernel), rfl, co_M, cn_M, rfl, by decide +kernel⟩
theorem FT_declared : ck_F sh_C cm_cl R_T 60 5 0 (some 1) := ⟨_, _, _, _, rfl, rfl, rfl, by decide, cu_T, ck_T_mk (List.mem_of_getElem? (i := 179) (by decide +kernel)) (by decide +kernel), rfl⟩
theorem FT_match : ck_F sh_C cm_cl R_T 64 5 1 (some 4) := ⟨_, _, _, _, rfl, rfl, rfl, by decide, cu_T, ck_T_mk (List.mem_of_getElem? (i := 180) (by decide +kernel)) (by decide +kernel), rfl⟩
theorem FT_left : ck_F sh_C cm_cl R_T 9 5 2 (some 26) := ⟨_, _, _, _, rfl, rfl, rfl, by decide, cu_T, ck_T_mk (List.mem_of_getElem? (i := 181) (by decide +kernel)) (by decide +kernel), rfl⟩
theorem FT_open : ck_F sh_C cm_cl R_T 15 5 3 (some 27) := ⟨_, _, _, _, rfl, rfl, rfl, by decide, cu_T, ck_T_mk (List.mem_of_getElem? (i := 182) (by decide +kernel)) (by decide +kernel), rfl⟩
theorem FT_label : ck_F sh_C cm_cl R_T 18 5 4 (some 28) := ⟨_, _, _, _, rfl, rfl, rfl, by decide, cu_T, ck_T_mk (List.mem_of_getElem? (i := 183) (by decide +kernel)) (by decide +kernel), rfl⟩
theorem FT_above : ck_F sh_C cm_cl R_T 21 5 5 (some 29) := ⟨_, _, _, _, rfl, rfl, rfl, by decide, cu_T, ck_T_mk (List.mem_of_getElem? (i := 184) (by decide +kernel)) (by decide +kernel), rfl⟩
theorem FT_place : ck_F sh_C cm_cl R_T 24 5 6 (some 30) := ⟨_, _, _, _, rfl, rfl, rfl, by decide, cu_T, ck_T_mk (List.mem_of_getElem? (i := 185) (by decide +kernel)) (by decide +kernel), rfl⟩
theorem FT_testType : ck_F sh_C cm_cl R_T 27 5 7 (some 31) := ⟨_, _, _, _, rfl, rfl, rfl, by decide, cu_T, ck_T_mk (List.mem_of_getElem? (i := 186) (by decide +kernel)) (by decide +kernel), rfl⟩
theorem FT_clause : ck_F sh_C cm_cl R_T 30 5 8 (some 32) := ⟨_, _, _, _, rfl, rfl, rfl, by decide, cu_T, ck_T_mk (List.mem_of_getElem? (i := 187) (by decide +kernel)) (by decide +kernel), rfl⟩
theorem FT_firstBranch : ck_F sh_C cm_cl R_T 33 5 9 (some 33) := ⟨_, _, _, _, rfl, rfl, rfl, by decide, cu_T, ck_T_mk (List.mem_of_getElem? (i := 188) (by decide +kernel)) (by decide +kernel), rfl⟩
theorem FT_branchCount : ck_F sh_C cm_cl R_T 36 5 10 (some 34) := ⟨_, _, _, _, rfl, rfl, rfl, by decide, cu_T, ck_T_mk (List.mem_of_getElem? (i := 189) (by decide +kernel)) (by decide +kernel), rfl⟩
theorem FT_kind : ck_F sh_C cm_cl R_T 39 5 11 (some 35) := ⟨_, _, _, _, rfl, rfl, rfl, by decide, cu_T, ck_T_mk (List.mem_of_getElem? (i := 190) (by decide +kernel)) (by decide +kernel), rfl⟩
theorem FT_failing : ck_F sh_C cm_cl R_T 42 5 12 (some 36) := ⟨_, _, _, _, rfl, rfl, rfl, by decide, cu_T, ck_T_mk (List.mem_of_getElem? (i := 191) (by decide +kernel)) (by decide +kernel), rfl⟩
theorem FT_valueAt : ck_F sh_C cm_cl R_T 46 5 13 (some 37) := ⟨_, _, _, _, rfl, rfl, rfl, by decide, cu_T, ck_T_mk (List.mem_of_getElem? (i := 192) (by decide +kernel)) (by decide +kernel), rfl⟩
theorem FT_size : ck_F sh_C cm_cl R_T 49 5 14 none := ⟨_, _, _, _, rfl, rfl, rfl, by decide, cu_T, ck_T_mk (List.mem_of_getElem? (i := 193) (by decide +kernel)) (by decide +kernel), rfl⟩
theorem GT_size : ck_G sh_C cm_cl R_T 49 5 14 .int := ⟨_, _, _, _, _, rfl, rfl, rfl, by decide, cu_T, ck_T_mk (List.mem_of_getElem? (i := 193) (by decide +kernel)) (by decide +kernel), rfl, co_T, cn_T, rfl, by decide +kernel⟩
theorem FT_caught : ck_F sh_C cm_cl R_T 53 5 15 none := ⟨_, _, _, _, rfl, rfl, rfl, by decide, cu_T, ck_T_mk (List.mem_of_getElem? (i := 194) (by decide +kernel)) (by decide +kernel), rfl⟩
theorem GT_caught : ck_G sh_C cm_cl R_T 53 5 15 .int := ⟨_, _, _, _, _, rfl, rfl, rfl, by decide, cu_T, ck_T_mk (List.mem_of_getElem? (i := 194) (by decide +kernel)) (by decide +kernel), rfl, co_T, cn_T, rfl, by decide +kernel⟩
theorem FT_there : ck_F sh_C cm_cl R_T 56 5 16 none := ⟨_, _, _, _, rfl, rfl, rfl, by decide, cu_T, ck_T_mk (List.mem_of_getElem? (i := 195) (by decide +kernel)) (by decide +kernel), rfl⟩
theorem GT_there : ck_G sh_C cm_cl R_T 56 5 16 .boolean := ⟨_, _, _, _, _, rfl, rfl, rfl, by decide, cu_T, ck_T_mk (List.mem_of_getElem? (i := 195) (by decide +kernel)) (by decide +kernel), rfl, co_T, cn_T, rfl, by decide +kernel⟩
theorem FG_declared : ck_F sh_C cm_cl R_G 28 6 0 (some 1) := ⟨_, _, _, _, rfl, rfl, rfl, by decide, cu_G, ck_T_mk (List.mem_of_getElem? (i := 237) (by decide +kernel)) (by decide +kernel), rfl⟩
theorem FG_tree : ck_F sh_C cm_cl R_G 32 6 1 (some 5) := ⟨_, _, _, _, rfl, rfl, rfl, by decide, cu_G, ck_T_mk (List.mem_of_getElem? (i := 238) (by decide +kernel)) (by decide +kernel), rfl⟩
theorem FG_kindAt : ck_F sh_C cm_cl R_G 9 6 2 (some 38) := ⟨_, _, _, _, rfl, rfl, rfl, by decide, cu_G, ck_T_mk (List.mem_of_getElem? (i := 239) (by decide +kernel)) (by decide +kernel), rfl⟩
theorem FG_symbolAt : ck_F sh_C cm_cl R_G 15 6 3 (some 39) := ⟨_, _, _, _, rfl, rfl, rfl, by decide, cu_G, ck_T_mk (List.mem_of_getElem? (i := 240) (by decide +kernel)) (by decide +kernel), rfl⟩
theorem FG_kind : ck_F sh_C cm_cl R_G 18 6 4 (some 40) := ⟨_, _, _, _, rfl, rfl, rfl, by decide, cu_G, ck_T_mk (List.mem_of_getElem? (i := 241) (by decide +kernel)) (by decide +kernel), rfl⟩
theorem FG_symbol : ck_F sh_C cm_cl R_G 21 6 5 (some 41) := ⟨_, _, _, _, rfl, rfl, rfl, by decide, cu_G, ck_T_mk (List.mem_of_getElem? (i := 242) (by decide +kernel)) (by decide +kernel), rfl⟩
theorem FG_length : ck_F sh_C cm_cl R_G 24 6 6 none := ⟨_, _, _, _, rfl, rfl, rfl, by decide, cu_G, ck_T_mk (List.mem_of_getElem? (i := 243) (by decide +kernel)) (by decide +kernel), rfl⟩
theorem GG_length : ck_G sh_C cm_cl R_G 24 6 6 .int := ⟨_, _, _, _, _, rfl, rfl, rfl, by decide, cu_G, ck_T_mk (List.mem_of_getElem? (i := 243) (by decide +kernel)) (by decide +kernel), rfl, co_G, cn_G, rfl, by decide +kernel⟩
theorem FR_types : ck_F sh_R cm_cl R_R 120 0 0 none := ⟨_, _, _, _, rfl, rfl, rfl, by decide, cu_R, ck_T_mk (List.mem_of_getElem? (i := 775) (by decide +kernel)) (by decide +kernel), rfl⟩
theorem GR_types : ck_G sh_R cm_cl R_R 120 0 0 .int := ⟨_, _, _, _, _, rfl, rfl, rfl, by decide, cu_R, ck_T_mk (List.mem_of_getElem? (i := 775) (by decide +kernel)) (by decide +kernel), rfl, co_R, cn_R, rfl, by decide +kernel⟩
theorem FR_constructors : ck_F sh_R cm_cl R_R 123 0 1 none := ⟨_, _, _, _, rfl, rfl, rfl, by decide, cu_R, ck_T_mk (List.mem_of_getElem? (i := 776) (by decide +kernel)) (by decide +kernel), rfl⟩
theorem GR_constructors : ck_G sh_R cm_cl R_R 123 0 1 .int := ⟨_, _, _, _, _, rfl, rfl, rfl, by decide, cu_R, ck_T_mk (List.mem_of_getElem? (i := 776) (by decide +kernel)) (by decide +kernel), rfl, co_R, cn_R, rfl, by decide +kernel⟩
theorem FR_owner : ck_F sh_R cm_cl R_R 7 0 2 (some 1) := ⟨_, _, _, _, rfl, rfl, rfl, by decide, cu_R, ck_T_mk (List.mem_of_getElem? (i := 777) (by decide +kernel)) (by decide +kernel), rfl⟩
theorem FR_first : ck_F sh_R cm_cl R_R 13 0 3 (some 2) := ⟨_, _, _, _, rfl, rfl, rfl, by decide, cu_R, ck_T_mk (List.mem_of_getElem? (i := 778) (by decide +kernel)) (by decide +kernel), rfl⟩
theorem FR_second : ck_F sh_R cm_cl R_R 16 0 4 (some 3) := ⟨_, _, _, _, rfl, rfl, rfl, by decide, cu_R, ck_T_mk (List.mem_of_getElem? (i := 779) (by decide +kernel)) (by decide +kernel), rfl⟩
theorem FR_patterns : ck_F sh_R cm_cl R_R 126 0 5 none := ⟨_, _, _, _, rfl, rfl, rfl, by decide, cu_R, ck_T_mk (List.mem_of_getElem? (i := 780) (by decide +kernel)) (by decide +kernel), rfl⟩
theorem GR_patterns : ck_G sh_R cm_cl R_R 126 0 5 .int := ⟨_, _, _, _, _, rfl, rfl, rfl, by decide, cu_R, ck_T_mk (List.mem_of_getElem? (i := 780) (by decide +kernel)) (by decide +kernel), rfl, co_R, cn_R, rfl, by decide +kernel⟩
theorem FR_kind : ck_F sh_R cm_cl R_R 19 0 6 (some 4) := ⟨_, _, _, _, rfl, rfl, rfl, by decide, cu_R, ck_T_mk (List.mem_of_getElem? (i := 781) (by decide +kernel)) (by decide +kernel), rfl⟩
theorem FR_what : ck_F sh_R cm_cl R_R 22 0 7 (some 5) := ⟨_, _, _, _, rfl, rfl, rfl, by decide, cu_R, ck_T_mk (List.mem_of_getElem? (i := 782) (by decide +kernel)) (by decide +kernel), rfl⟩
theorem FR_left : ck_F sh_R cm_cl R_R 25 0 8 (some 6) := ⟨_, _, _, _, rfl, rfl, rfl, by decide, cu_R, ck_T_mk (List.mem_of_getElem? (i := 783) (by decide +kernel)) (by decide +kernel), rfl⟩
theorem FR_right : ck_F sh_R cm_cl R_R 28 0 9 (some 7) := ⟨_, _, _, _, rfl, rfl, rfl, by decide, cu_R, ck_T_mk (List.mem_of_getElem? (i := 784) (by decide +kernel)) (by decide +kernel), rfl⟩
theorem FR_kindOfType : ck_F sh_R cm_cl R_R 31 0 10 (some 8) := ⟨_, _, _, _, rfl, rfl, rfl, by decide, cu_R, ck_T_mk (List.mem_of_getElem? (i := 785) (by decide +kernel)) (by decide +kernel), rfl⟩
theorem FR_depth : ck_F sh_R cm_cl R_R 34 0 11 (some 9) := ⟨_, _, _, _, rfl, rfl, rfl, by decide, cu_R, ck_T_mk (List.mem_of_getElem? (i := 786) (by decide +kernel)) (by decide +kernel), rfl⟩
theorem FR_choices : ck_F sh_R cm_cl R_R 37 0 12 (some 10) := ⟨_, _, _, _, rfl, rfl, rfl, by decide, cu_R, ck_T_mk (List.mem_of_getElem? (i := 787) (by decide +kernel)) (by decide +kernel), rfl⟩
theorem FR_values : ck_F sh_R cm_cl R_R 129 0 13 none := ⟨_, _, _, _, rfl, rfl, rfl, by decide, cu_R, ck_T_mk (List.mem_of_getElem? (i := 788) (by decide +kernel)) (by decide +kernel), rfl⟩
theorem GR_values : ck_G sh_R cm_cl R_R 129 0 13 .int := ⟨_, _, _, _, _, rfl, rfl, rfl, by decide, cu_R, ck_T_mk (List.mem_of_getElem? (i := 788) (by decide +kernel)) (by decide +kernel), rfl, co_R, cn_R, rfl, by decide +kernel⟩
theorem FR_valueKind : ck_F sh_R cm_cl R_R 40 0 14 (some 11) := ⟨_, _, _, _, rfl, rfl, rfl, by decide, cu_R, ck_T_mk (List.mem_of_getElem? (i := 789) (by decide +kernel)) (by decide +kernel), rfl⟩
theorem FR_valueWhat : ck_F sh_R cm_cl R_R 43 0 15 (some 12) := ⟨_, _, _, _, rfl, rfl, rfl, by decide, cu_R, ck_T_mk (List.mem_of_getElem? (i := 790) (by decide +kernel)) (by decide +kernel), rfl⟩
theorem FR_valueLeft : ck_F sh_R cm_cl R_R 46 0 16 (some 13) := ⟨_, _, _, _, rfl, rfl, rfl, by decide, cu_R, ck_T_mk (List.mem_of_getElem? (i := 791) (by decide +kernel)) (by decide +kernel), rfl⟩
theorem FR_valueRight : ck_F sh_R cm_cl R_R 49 0 17 (some 14) := ⟨_, _, _, _, rfl, rfl, rfl, by decide, cu_R, ck_T_mk (List.mem_of_getElem? (i := 792) (by decide +kernel)) (by decide +kernel), rfl⟩
theorem FR_over : ck_F sh_R cm_cl R_R 52 0 18 none := ⟨_, _, _, _, rfl, rfl, rfl, by decide, cu_R, ck_T_mk (List.mem_of_getElem? (i := 793) (by decide +kernel)) (by decide +kernel), rfl⟩
theorem GR_over : ck_G sh_R cm_cl R_R 52 0 18 .int := ⟨_, _, _, _, _, rfl, rfl, rfl, by decide, cu_R, ck_T_mk (List.mem_of_getElem? (i := 793) (by decide +kernel)) (by decide +kernel), rfl, co_R, cn_R, rfl, by decide +kernel⟩
theorem FR_rows : ck_F sh_R cm_cl R_R 132 0 19 none := ⟨_, _, _, _, rfl, rfl, rfl, by decide, cu_R, ck_T_mk (List.mem_of_getElem? (i := 794) (by decide +kernel)) (by decide +kernel), rfl⟩
theorem GR_rows : ck_G sh_R cm_cl R_R 132 0 19 .int := ⟨_, _, _, _, _, rfl, rfl, rfl, by decide, cu_R, ck_T_mk (List.mem_of_getElem? (i := 794) (by decide +kernel)) (by decide +kernel), rfl, co_R, cn_R, rfl, by decide +kernel⟩
theorem FR_clauses : ck_F sh_R cm_cl R_R 135 0 20 none := ⟨_, _, _, _, rfl, rfl, rfl, by decide, cu_R, ck_T_mk (List.mem_of_getElem? (i := 795) (by decide +kernel)) (by decide +kernel), rfl⟩
theorem GR_clauses : ck_G sh_R cm_cl R_R 135 0 20 .int := ⟨_, _, _, _, _, rfl, rfl, rfl, by decide, cu_R, ck_T_mk (List.mem_of_getElem? (i := 795) (by decide +kernel)) (by decide +kernel), rfl, co_R, cn_R, rfl, by decide +kernel⟩
theorem FR_rowOf : ck_F sh_R cm_cl R_R 56 0 21 (some 15) := ⟨_, _, _, _, rfl, rfl, rfl, by decide, cu_R, ck_T_mk (List.mem_of_getElem? (i := 796) (by decide +kernel)) (by decide +kernel), rfl⟩
theorem FR_numberOf : ck_F sh_R cm_cl R_R 59 0 22 (some 16) := ⟨_, _, _, _, rfl, rfl, rfl, by decide, cu_R, ck_T_mk (List.mem_of_getElem? (i := 797) (by decide +kernel)) (by decide +kernel), rfl⟩
theorem FR_asks : ck_F sh_R cm_cl R_R 62 0 23 (some 17) := ⟨_, _, _, _, rfl, rfl, rfl, by decide, cu_R, ck_T_mk (List.mem_of_getElem? (i := 798) (by decide +kernel)) (by decide +kernel), rfl⟩
theorem FR_asked : ck_F sh_R cm_cl R_R 65 0 24 (some 18) := ⟨_, _, _, _, rfl, rfl, rfl, by decide, cu_R, ck_T_mk (List.mem_of_getElem? (i := 799) (by decide +kernel)) (by decide +kernel), rfl⟩
theorem FR_waits : ck_F sh_R cm_cl R_R 68 0 25 (some 19) := ⟨_, _, _, _, rfl, rfl, rfl, by decide, cu_R, ck_T_mk (List.mem_of_getElem? (i := 800) (by decide +kernel)) (by decide +kernel), rfl⟩
theorem FR_choice : ck_F sh_R cm_cl R_R 71 0 26 (some 20) := ⟨_, _, _, _, rfl, rfl, rfl, by decide, cu_R, ck_T_mk (List.mem_of_getElem? (i := 801) (by decide +kernel)) (by decide +kernel), rfl⟩
theorem FR_spot : ck_F sh_R cm_cl R_R 74 0 27 (some 21) := ⟨_, _, _, _, rfl, rfl, rfl, by decide, cu_R, ck_T_mk (List.mem_of_getElem? (i := 802) (by decide +kernel)) (by decide +kernel), rfl⟩
theorem FR_grown : ck_F sh_R cm_cl R_R 138 0 28 none := ⟨_, _, _, _, rfl, rfl, rfl, by decide, cu_R, ck_T_mk (List.mem_of_getElem? (i := 803) (by decide +kernel)) (by decide +kernel), rfl⟩
theorem GR_grown : ck_G sh_R cm_cl R_R 138 0 28 .boolean := ⟨_, _, _, _, _, rfl, rfl, rfl, by decide, cu_R, ck_T_mk (List.mem_of_getElem? (i := 803) (by decide +kernel)) (by decide +kernel), rfl, co_R, cn_R, rfl, by decide +kernel⟩
theorem FR_nodes : ck_F sh_R cm_cl R_R 182 0 29 none := ⟨_, _, _, _, rfl, rfl, rfl, by decide, cu_R, ck_T_mk (List.mem_of_getElem? (i := 804) (by decide +kernel)) (by decide +kernel), rfl⟩
theorem GR_nodes : ck_G sh_R cm_cl R_R 182 0 29 .int := ⟨_, _, _, _, _, rfl, rfl, rfl, by decide, cu_R, ck_T_mk (List.mem_of_getElem? (i := 804) (by decide +kernel)) (by decide +kernel), rfl, co_R, cn_R, rfl, by decide +kernel⟩
theorem FR_tooBig : ck_F sh_R cm_cl R_R 185 0 30 none := ⟨_, _, _, _, rfl, rfl, rfl, by decide, cu_R, ck_T_mk (List.mem_of_getElem? (i := 805) (by decide +kernel)) (by decide +kernel), rfl⟩
theorem GR_tooBig : ck_G sh_R cm_cl R_R 185 0 30 .boolean := ⟨_, _, _, _, _, rfl, rfl, rfl, by decide, cu_R, ck_T_mk (List.mem_of_getElem? (i := 805) (by decide +kernel)) (by decide +kernel), rfl, co_R, cn_R, rfl, by decide +kernel⟩
theorem FR_remain : ck_F sh_R cm_cl R_R 77 0 31 (some 22) := ⟨_, _, _, _, rfl, rfl, rfl, by decide, cu_R, ck_T_mk (List.mem_of_getElem? (i := 806) (by decide +kernel)) (by decide +kernel), rfl⟩
theorem FR_open : ck_F sh_R cm_cl R_R 80 0 32 (some 23) := ⟨_, _, _, _, rfl, rfl, rfl, by decide, cu_R, ck_T_mk (List.mem_of_getElem? (i := 807) (by decide +kernel)) (by decide +kernel), rfl⟩
theorem FR_place : ck_F sh_R cm_cl R_R 83 0 33 (some 24) := ⟨_, _, _, _, rfl, rfl, rfl, by decide, cu_R, ck_T_mk (List.mem_of_getElem? (i := 808) (by decide +kernel)) (by decide +kernel), rfl⟩
theorem FR_test : ck_F sh_R cm_cl R_R 86 0 34 (some 25) := ⟨_, _, _, _, rfl, rfl, rfl, by decide, cu_R, ck_T_mk (List.mem_of_getElem? (i := 809) (by decide +kernel)) (by decide +kernel), rfl⟩
theorem FR_leaf : ck_F sh_R cm_cl R_R 89 0 35 (some 26) := ⟨_, _, _, _, rfl, rfl, rfl, by decide, cu_R, ck_T_mk (List.mem_of_getElem? (i := 810) (by decide +kernel)) (by decide +kernel), rfl⟩
theorem FR_from : ck_F sh_R cm_cl R_R 92 0 36 (some 27) := ⟨_, _, _, _, rfl, rfl, rfl, by decide, cu_R, ck_T_mk (List.mem_of_getElem? (i := 811) (by decide +kernel)) (by decide +kernel), rfl⟩
theorem FR_many : ck_F sh_R cm_cl R_R 95 0 37 (some 28) := ⟨_, _, _, _, rfl, rfl, rfl, by decide, cu_R, ck_T_mk (List.mem_of_getElem? (i := 812) (by decide +kernel)) (by decide +kernel), rfl⟩
theorem FR_label : ck_F sh_R cm_cl R_R 98 0 38 (some 29) := ⟨_, _, _, _, rfl, rfl, rfl, by decide, cu_R, ck_T_mk (List.mem_of_getElem? (i := 813) (by decide +kernel)) (by decide +kernel), rfl⟩
theorem FR_others : ck_F sh_R cm_cl R_R 101 0 39 (some 30) := ⟨_, _, _, _, rfl, rfl, rfl, by decide, cu_R, ck_T_mk (List.mem_of_getElem? (i := 814) (by decide +kernel)) (by decide +kernel), rfl⟩
theorem FR_work : ck_F sh_R cm_cl R_R 105 0 40 (some 31) := ⟨_, _, _, _, rfl, rfl, rfl, by decide, cu_R, ck_T_mk (List.mem_of_getElem? (i := 815) (by decide +kernel)) (by decide +kernel), rfl⟩
theorem FR_symbols : ck_F sh_R cm_cl R_R 216 0 41 none := ⟨_, _, _, _, rfl, rfl, rfl, by decide, cu_R, ck_T_mk (List.mem_of_getElem? (i := 816) (by decide +kernel)) (by decide +kernel), rfl⟩
theorem GR_symbols : ck_G sh_R cm_cl R_R 216 0 41 .int := ⟨_, _, _, _, _, rfl, rfl, rfl, by decide, cu_R, ck_T_mk (List.mem_of_getElem? (i := 816) (by decide +kernel)) (by decide +kernel), rfl, co_R, cn_R, rfl, by decide +kernel⟩
theorem FR_symbolKind : ck_F sh_R cm_cl R_R 108 0 42 (some 32) := ⟨_, _, _, _, rfl, rfl, rfl, by decide, cu_R, ck_T_mk (List.mem_of_getElem? (i := 817) (by decide +kernel)) (by decide +kernel), rfl⟩
theorem FR_symbol : ck_F sh_R cm_cl R_R 111 0 43 (some 33) := ⟨_, _, _, _, rfl, rfl, rfl, by decide, cu_R, ck_T_mk (List.mem_of_getElem? (i := 818) (by decide +kernel)) (by decide +kernel), rfl⟩
theorem FR_wayKind : ck_F sh_R cm_cl R_R 114 0 44 (some 34) := ⟨_, _, _, _, rfl, rfl, rfl, by decide, cu_R, ck_T_mk (List.mem_of_getElem? (i := 819) (by decide +kernel)) (by decide +kernel), rfl⟩
theorem FR_way : ck_F sh_R cm_cl R_R 117 0 45 (some 35) := ⟨_, _, _, _, rfl, rfl, rfl, by decide, cu_R, ck_T_mk (List.mem_of_getElem? (i := 820) (by decide +kernel)) (by decide +kernel), rfl⟩
theorem FR_tested : ck_F sh_R cm_cl R_R 142 0 46 none := ⟨_, _, _, _, rfl, rfl, rfl, by decide, cu_R, ck_T_mk (List.mem_of_getElem? (i := 821) (by decide +kernel)) (by decide +kernel), rfl⟩
theorem GR_tested : ck_G sh_R cm_cl R_R 142 0 46 .int := ⟨_, _, _, _, _, rfl, rfl, rfl, by decide, cu_R, ck_T_mk (List.mem_of_getElem? (i := 821) (by decide +kernel)) (by decide +kernel), rfl, co_R, cn_R, rfl, by decide +kernel⟩
theorem kC_clear : Cond.code yC_clear bC_clear 1 none ∈ ck_T := ck_T_mk (List.mem_of_getElem? (i := 284) (by decide +kernel)) (by decide +kernel)
theorem sC_clear : Cond.instanceMethod yC_clear ∈ ck_T ∧ Cond.selects yC_clear.cls yC_clear yC_clear ∈ ck_T := ⟨ck_T_mk (List.mem_of_getElem? (i := 282) (by decide +kernel)) (by decide +kernel), ck_T_mk (List.mem_of_getElem? (i := 283) (by decide +kernel)) (by decide +kernel)⟩
theorem kC_type : Cond.code yC_type bC_type 1 (some .int) ∈ ck_T := ck_T_mk (List.mem_of_getElem? (i := 311) (by decide +kernel)) (by decide +kernel)
theorem sC_type : Cond.instanceMethod yC_type ∈ ck_T ∧ Cond.selects yC_type.cls yC_type yC_type ∈ ck_T := ⟨ck_T_mk (List.mem_of_getElem? (i := 309) (by decide +kernel)) (by decide +kernel), ck_T_mk (List.mem_of_getElem? (i := 310) (by decide +kernel)) (by decide +kernel)⟩
theorem kC_constructor : Cond.code yC_constructor bC_constructor 4 (some .int) ∈ ck_T := ck_T_mk (List.mem_of_getElem? (i := 323) (by decide +kernel)) (by decide +kernel)
theorem sC_constructor : Cond.instanceMethod yC_constructor ∈ ck_T ∧ Cond.selects yC_constructor.cls yC_constructor yC_constructor ∈ ck_T := ⟨ck_T_mk (List.mem_of_getElem? (i := 321) (by decide +kernel)) (by decide +kernel), ck_T_mk (List.mem_of_getElem? (i := 322) (by decide +kernel)) (by decide +kernel)⟩
theorem kC_begin : Cond.code yC_begin bC_begin 2 (some .int) ∈ ck_T := ck_T_mk (List.mem_of_getElem? (i := 347) (by decide +kernel)) (by decide +kernel)
theorem sC_begin : Cond.instanceMethod yC_begin ∈ ck_T ∧ Cond.selects yC_begin.cls yC_begin yC_begin ∈ ck_T := ⟨ck_T_mk (List.mem_of_getElem? (i := 345) (by decide +kernel)) (by decide +kernel), ck_T_mk (List.mem_of_getElem? (i := 346) (by decide +kernel)) (by decide +kernel)⟩
theorem kC_any : Cond.code yC_any bC_any 1 (some .int) ∈ ck_T := ck_T_mk (List.mem_of_getElem? (i := 367) (by decide +kernel)) (by decide +kernel)
theorem sC_any : Cond.instanceMethod yC_any ∈ ck_T ∧ Cond.selects yC_any.cls yC_any yC_any ∈ ck_T := ⟨ck_T_mk (List.mem_of_getElem? (i := 365) (by decide +kernel)) (by decide +kernel), ck_T_mk (List.mem_of_getElem? (i := 366) (by decide +kernel)) (by decide +kernel)⟩
theorem kC_number : Cond.code yC_number bC_number 2 (some .int) ∈ ck_T := ck_T_mk (List.mem_of_getElem? (i := 387) (by decide +kernel)) (by decide +kernel)
theorem sC_number : Cond.instanceMethod yC_number ∈ ck_T ∧ Cond.selects yC_number.cls yC_number yC_number ∈ ck_T := ⟨ck_T_mk (List.mem_of_getElem? (i := 385) (by decide +kernel)) (by decide +kernel), ck_T_mk (List.mem_of_getElem? (i := 386) (by decide +kernel)) (by decide +kernel)⟩
theorem kC_build : Cond.code yC_build bC_build 6 (some .int) ∈ ck_T := ck_T_mk (List.mem_of_getElem? (i := 395) (by decide +kernel)) (by decide +kernel)
theorem sC_build : Cond.instanceMethod yC_build ∈ ck_T ∧ Cond.selects yC_build.cls yC_build yC_build ∈ ck_T := ⟨ck_T_mk (List.mem_of_getElem? (i := 393) (by decide +kernel)) (by decide +kernel), ck_T_mk (List.mem_of_getElem? (i := 394) (by decide +kernel)) (by decide +kernel)⟩
theorem kC_either : Cond.code yC_either bC_either 3 (some .int) ∈ ck_T := ck_T_mk (List.mem_of_getElem? (i := 443) (by decide +kernel)) (by decide +kernel)
theorem sC_either : Cond.instanceMethod yC_either ∈ ck_T ∧ Cond.selects yC_either.cls yC_either yC_either ∈ ck_T := ⟨ck_T_mk (List.mem_of_getElem? (i := 441) (by decide +kernel)) (by decide +kernel), ck_T_mk (List.mem_of_getElem? (i := 442) (by decide +kernel)) (by decide +kernel)⟩
theorem kC_row : Cond.code yC_row bC_row 3 (some .int) ∈ ck_T := ck_T_mk (List.mem_of_getElem? (i := 456) (by decide +kernel)) (by decide +kernel)
theorem sC_row : Cond.instanceMethod yC_row ∈ ck_T ∧ Cond.selects yC_row.cls yC_row yC_row ∈ ck_T := ⟨ck_T_mk (List.mem_of_getElem? (i := 454) (by decide +kernel)) (by decide +kernel), ck_T_mk (List.mem_of_getElem? (i := 455) (by decide +kernel)) (by decide +kernel)⟩
theorem kC_compile : Cond.code yC_compile bC_compile 1 (some .int) ∈ ck_T := ck_T_mk (List.mem_of_getElem? (i := 495) (by decide +kernel)) (by decide +kernel)
theorem sC_compile : Cond.instanceMethod yC_compile ∈ ck_T ∧ Cond.selects yC_compile.cls yC_compile yC_compile ∈ ck_T := ⟨ck_T_mk (List.mem_of_getElem? (i := 493) (by decide +kernel)) (by decide +kernel), ck_T_mk (List.mem_of_getElem? (i := 494) (by decide +kernel)) (by decide +kernel)⟩
theorem kC_kinds : Cond.code yC_kinds bC_kinds 1 (some .int) ∈ ck_T := ck_T_mk (List.mem_of_getElem? (i := 638) (by decide +kernel)) (by decide +kernel)
theorem sC_kinds : Cond.instanceMethod yC_kinds ∈ ck_T ∧ Cond.selects yC_kinds.cls yC_kinds yC_kinds ∈ ck_T := ⟨ck_T_mk (List.mem_of_getElem? (i := 636) (by decide +kernel)) (by decide +kernel), ck_T_mk (List.mem_of_getElem? (i := 637) (by decide +kernel)) (by decide +kernel)⟩
theorem kC_longest : Cond.code yC_longest bC_longest 1 (some .int) ∈ ck_T := ck_T_mk (List.mem_of_getElem? (i := 654) (by decide +kernel)) (by decide +kernel)
theorem sC_longest : Cond.instanceMethod yC_longest ∈ ck_T ∧ Cond.selects yC_longest.cls yC_longest yC_longest ∈ ck_T := ⟨ck_T_mk (List.mem_of_getElem? (i := 652) (by decide +kernel)) (by decide +kernel), ck_T_mk (List.mem_of_getElem? (i := 653) (by decide +kernel)) (by decide +kernel)⟩
theorem kC_useless : Cond.code yC_useless bC_useless 2 (some .int) ∈ ck_T := ck_T_mk (List.mem_of_getElem? (i := 663) (by decide +kernel)) (by decide +kernel)
theorem sC_useless : Cond.instanceMethod yC_useless ∈ ck_T ∧ Cond.selects yC_useless.cls yC_useless yC_useless ∈ ck_T := ⟨ck_T_mk (List.mem_of_getElem? (i := 661) (by decide +kernel)) (by decide +kernel), ck_T_mk (List.mem_of_getElem? (i := 662) (by decide +kernel)) (by decide +kernel)⟩
theorem kC_witnessLength : Cond.code yC_witnessLength bC_witnessLength 1 (some .int) ∈ ck_T := ck_T_mk (List.mem_of_getElem? (i := 680) (by decide +kernel)) (by decide +kernel)
theorem sC_witnessLength : Cond.instanceMethod yC_witnessLength ∈ ck_T ∧ Cond.selects yC_witnessLength.cls yC_witnessLength yC_witnessLength ∈ ck_T := ⟨ck_T_mk (List.mem_of_getElem? (i := 678) (by decide +kernel)) (by decide +kernel), ck_T_mk (List.mem_of_getElem? (i := 679) (by decide +kernel)) (by decide +kernel)⟩
theorem kC_witnessKind : Cond.code yC_witnessKind bC_witnessKind 2 (some .int) ∈ ck_T := ck_T_mk (List.mem_of_getElem? (i := 688) (by decide +kernel)) (by decide +kernel)
theorem sC_witnessKind : Cond.instanceMethod yC_witnessKind ∈ ck_T ∧ Cond.selects yC_witnessKind.cls yC_witnessKind yC_witnessKind ∈ ck_T := ⟨ck_T_mk (List.mem_of_getElem? (i := 686) (by decide +kernel)) (by decide +kernel), ck_T_mk (List.mem_of_getElem? (i := 687) (by decide +kernel)) (by decide +kernel)⟩
theorem kC_witness : Cond.code yC_witness bC_witness 2 (some .int) ∈ ck_T := ck_T_mk (List.mem_of_getElem? (i := 701) (by decide +kernel)) (by decide +kernel)
theorem sC_witness : Cond.instanceMethod yC_witness ∈ ck_T ∧ Cond.selects yC_witness.cls yC_witness yC_witness ∈ ck_T := ⟨ck_T_mk (List.mem_of_getElem? (i := 699) (by decide +kernel)) (by decide +kernel), ck_T_mk (List.mem_of_getElem? (i := 700) (by decide +kernel)) (by decide +kernel)⟩
theorem kC_valueNumber : Cond.code yC_valueNumber bC_valueNumber 2 (some .int) ∈ ck_T := ck_T_mk (List.mem_of_getElem? (i := 709) (by decide +kernel)) (by decide +kernel)
theorem sC_valueNumber : Cond.instanceMethod yC_valueNumber ∈ ck_T ∧ Cond.selects yC_valueNumber.cls yC_valueNumber yC_valueNumber ∈ ck_T := ⟨ck_T_mk (List.mem_of_getElem? (i := 707) (by decide +kernel)) (by decide +kernel), ck_T_mk (List.mem_of_getElem? (i := 708) (by decide +kernel)) (by decide +kernel)⟩
theorem kC_valueOf : Cond.code yC_valueOf bC_valueOf 6 (some .int) ∈ ck_T := ck_T_mk (List.mem_of_getElem? (i := 721) (by decide +kernel)) (by decide +kernel)
theorem sC_valueOf : Cond.instanceMethod yC_valueOf ∈ ck_T ∧ Cond.selects yC_valueOf.cls yC_valueOf yC_valueOf ∈ ck_T := ⟨ck_T_mk (List.mem_of_getElem? (i := 719) (by decide +kernel)) (by decide +kernel), ck_T_mk (List.mem_of_getElem? (i := 720) (by decide +kernel)) (by decide +kernel)⟩
theorem kC_run : Cond.code yC_run bC_run 3 (some .int) ∈ ck_T := ck_T_mk (List.mem_of_getElem? (i := 735) (by decide +kernel)) (by decide +kernel)
theorem sC_run : Cond.instanceMethod yC_run ∈ ck_T ∧ Cond.selects yC_run.cls yC_run yC_run ∈ ck_T := ⟨ck_T_mk (List.mem_of_getElem? (i := 733) (by decide +kernel)) (by decide +kernel), ck_T_mk (List.mem_of_getElem? (i := 734) (by decide +kernel)) (by decide +kernel)⟩
theorem kC_tests : Cond.code yC_tests bC_tests 1 (some .int) ∈ ck_T := ck_T_mk (List.mem_of_getElem? (i := 768) (by decide +kernel)) (by decide +kernel)
theorem sC_tests : Cond.instanceMethod yC_tests ∈ ck_T ∧ Cond.selects yC_tests.cls yC_tests yC_tests ∈ ck_T := ⟨ck_T_mk (List.mem_of_getElem? (i := 766) (by decide +kernel)) (by decide +kernel), ck_T_mk (List.mem_of_getElem? (i := 767) (by decide +kernel)) (by decide +kernel)⟩
theorem kC_standsFor : Cond.code yC_standsFor bC_standsFor 3 (some .boolean) ∈ ck_T := ck_T_mk (List.mem_of_getElem? (i := 412) (by decide +kernel)) (by decide +kernel)
theorem sC_standsFor : Cond.static yC_standsFor ∈ ck_T := ck_T_mk (List.mem_of_getElem? (i := 411) (by decide +kernel)) (by decide +kernel)
theorem kR_clear : Cond.code yR_clear bR_clear 1 none ∈ ck_T := ck_T_mk (List.mem_of_getElem? (i := 920) (by decide +kernel)) (by decide +kernel)
theorem sR_clear : Cond.instanceMethod yR_clear ∈ ck_T ∧ Cond.selects yR_clear.cls yR_clear yR_clear ∈ ck_T := ⟨ck_T_mk (List.mem_of_getElem? (i := 918) (by decide +kernel)) (by decide +kernel), ck_T_mk (List.mem_of_getElem? (i := 919) (by decide +kernel)) (by decide +kernel)⟩
theorem kR_type : Cond.code yR_type bR_type 1 (some .int) ∈ ck_T := ck_T_mk (List.mem_of_getElem? (i := 924) (by decide +kernel)) (by decide +kernel)
theorem sR_type : Cond.instanceMethod yR_type ∈ ck_T ∧ Cond.selects yR_type.cls yR_type yR_type ∈ ck_T := ⟨ck_T_mk (List.mem_of_getElem? (i := 922) (by decide +kernel)) (by decide +kernel), ck_T_mk (List.mem_of_getElem? (i := 923) (by decide +kernel)) (by decide +kernel)⟩
theorem kR_isType : Cond.code yR_isType bR_isType 2 (some .boolean) ∈ ck_T := ck_T_mk (List.mem_of_getElem? (i := 932) (by decide +kernel)) (by decide +kernel)
theorem sR_isType : Cond.instanceMethod yR_isType ∈ ck_T ∧ Cond.selects yR_isType.cls yR_isType yR_isType ∈ ck_T := ⟨ck_T_mk (List.mem_of_getElem? (i := 931) (by decide +kernel)) (by decide +kernel), ck_T_mk (List.mem_of_getElem? (i := 18) (by decide +kernel)) (by decide +kernel)⟩
theorem kR_constructorsOf : Cond.code yR_constructorsOf bR_constructorsOf 4 (some .int) ∈ ck_T := ck_T_mk (List.mem_of_getElem? (i := 936) (by decide +kernel)) (by decide +kernel)
theorem sR_constructorsOf : Cond.instanceMethod yR_constructorsOf ∈ ck_T ∧ Cond.selects yR_constructorsOf.cls yR_constructorsOf yR_constructorsOf ∈ ck_T := ⟨ck_T_mk (List.mem_of_getElem? (i := 935) (by decide +kernel)) (by decide +kernel), ck_T_mk (List.mem_of_getElem? (i := 19) (by decide +kernel)) (by decide +kernel)⟩
theorem kR_constructor : Cond.code yR_constructor bR_constructor 4 (some .int) ∈ ck_T := ck_T_mk (List.mem_of_getElem? (i := 928) (by decide +kernel)) (by decide +kernel)
theorem sR_constructor : Cond.instanceMethod yR_constructor ∈ ck_T ∧ Cond.selects yR_constructor.cls yR_constructor yR_constructor ∈ ck_T := ⟨ck_T_mk (List.mem_of_getElem? (i := 926) (by decide +kernel)) (by decide +kernel), ck_T_mk (List.mem_of_getElem? (i := 927) (by decide +kernel)) (by decide +kernel)⟩
theorem kR_inhabited : Cond.code yR_inhabited bR_inhabited 6 (some .boolean) ∈ ck_T := ck_T_mk (List.mem_of_getElem? (i := 944) (by decide +kernel)) (by decide +kernel)
theorem sR_inhabited : Cond.instanceMethod yR_inhabited ∈ ck_T ∧ Cond.selects yR_inhabited.cls yR_inhabited yR_inhabited ∈ ck_T := ⟨ck_T_mk (List.mem_of_getElem? (i := 943) (by decide +kernel)) (by decide +kernel), ck_T_mk (List.mem_of_getElem? (i := 20) (by decide +kernel)) (by decide +kernel)⟩
theorem kR_begin : Cond.code yR_begin bR_begin 2 (some .int) ∈ ck_T := ck_T_mk (List.mem_of_getElem? (i := 940) (by decide +kernel)) (by decide +kernel)
theorem sR_begin : Cond.instanceMethod yR_begin ∈ ck_T ∧ Cond.selects yR_begin.cls yR_begin yR_begin ∈ ck_T := ⟨ck_T_mk (List.mem_of_getElem? (i := 938) (by decide +kernel)) (by decide +kernel), ck_T_mk (List.mem_of_getElem? (i := 939) (by decide +kernel)) (by decide +kernel)⟩
theorem kR_isPattern : Cond.code yR_isPattern bR_isPattern 2 (some .boolean) ∈ ck_T := ck_T_mk (List.mem_of_getElem? (i := 964) (by decide +kernel)) (by decide +kernel)
theorem sR_isPattern : Cond.instanceMethod yR_isPattern ∈ ck_T ∧ Cond.selects yR_isPattern.cls yR_isPattern yR_isPattern ∈ ck_T := ⟨ck_T_mk (List.mem_of_getElem? (i := 963) (by decide +kernel)) (by decide +kernel), ck_T_mk (List.mem_of_getElem? (i := 22) (by decide +kernel)) (by decide +kernel)⟩
theorem kR_fitsType : Cond.code yR_fitsType bR_fitsType 3 (some .boolean) ∈ ck_T := ck_T_mk (List.mem_of_getElem? (i := 968) (by decide +kernel)) (by decide +kernel)
theorem sR_fitsType : Cond.instanceMethod yR_fitsType ∈ ck_T ∧ Cond.selects yR_fitsType.cls yR_fitsType yR_fitsType ∈ ck_T := ⟨ck_T_mk (List.mem_of_getElem? (i := 967) (by decide +kernel)) (by decide +kernel), ck_T_mk (List.mem_of_getElem? (i := 23) (by decide +kernel)) (by decide +kernel)⟩
theorem kR_pattern : Cond.code yR_pattern bR_pattern 8 (some .int) ∈ ck_T := ck_T_mk (List.mem_of_getElem? (i := 952) (by decide +kernel)) (by decide +kernel)
theorem sR_pattern : Cond.instanceMethod yR_pattern ∈ ck_T ∧ Cond.selects yR_pattern.cls yR_pattern yR_pattern ∈ ck_T := ⟨ck_T_mk (List.mem_of_getElem? (i := 951) (by decide +kernel)) (by decide +kernel), ck_T_mk (List.mem_of_getElem? (i := 21) (by decide +kernel)) (by decide +kernel)⟩
theorem kR_any : Cond.code yR_any bR_any 1 (some .int) ∈ ck_T := ck_T_mk (List.mem_of_getElem? (i := 948) (by decide +kernel)) (by decide +kernel)
theorem sR_any : Cond.instanceMethod yR_any ∈ ck_T ∧ Cond.selects yR_any.cls yR_any yR_any ∈ ck_T := ⟨ck_T_mk (List.mem_of_getElem? (i := 946) (by decide +kernel)) (by decide +kernel), ck_T_mk (List.mem_of_getElem? (i := 947) (by decide +kernel)) (by decide +kernel)⟩
theorem kR_number : Cond.code yR_number bR_number 2 (some .int) ∈ ck_T := ck_T_mk (List.mem_of_getElem? (i := 956) (by decide +kernel)) (by decide +kernel)
theorem sR_number : Cond.instanceMethod yR_number ∈ ck_T ∧ Cond.selects yR_number.cls yR_number yR_number ∈ ck_T := ⟨ck_T_mk (List.mem_of_getElem? (i := 954) (by decide +kernel)) (by decide +kernel), ck_T_mk (List.mem_of_getElem? (i := 955) (by decide +kernel)) (by decide +kernel)⟩
theorem kR_build : Cond.code yR_build bR_build 8 (some .int) ∈ ck_T := ck_T_mk (List.mem_of_getElem? (i := 960) (by decide +kernel)) (by decide +kernel)
theorem sR_build : Cond.instanceMethod yR_build ∈ ck_T ∧ Cond.selects yR_build.cls yR_build yR_build ∈ ck_T := ⟨ck_T_mk (List.mem_of_getElem? (i := 958) (by decide +kernel)) (by decide +kernel), ck_T_mk (List.mem_of_getElem? (i := 959) (by decide +kernel)) (by decide +kernel)⟩
theorem kR_either : Cond.code yR_either bR_either 6 (some .int) ∈ ck_T := ck_T_mk (List.mem_of_getElem? (i := 972) (by decide +kernel)) (by decide +kernel)
theorem sR_either : Cond.instanceMethod yR_either ∈ ck_T ∧ Cond.selects yR_either.cls yR_either yR_either ∈ ck_T := ⟨ck_T_mk (List.mem_of_getElem? (i := 970) (by decide +kernel)) (by decide +kernel), ck_T_mk (List.mem_of_getElem? (i := 971) (by decide +kernel)) (by decide +kernel)⟩
theorem kR_row : Cond.code yR_row bR_row 3 (some .int) ∈ ck_T := ck_T_mk (List.mem_of_getElem? (i := 976) (by decide +kernel)) (by decide +kernel)
theorem sR_row : Cond.instanceMethod yR_row ∈ ck_T ∧ Cond.selects yR_row.cls yR_row yR_row ∈ ck_T := ⟨ck_T_mk (List.mem_of_getElem? (i := 974) (by decide +kernel)) (by decide +kernel), ck_T_mk (List.mem_of_getElem? (i := 975) (by decide +kernel)) (by decide +kernel)⟩
theorem kR_writeOut : Cond.code yR_writeOut bR_writeOut 5 none ∈ ck_T := ck_T_mk (List.mem_of_getElem? (i := 980) (by decide +kernel)) (by decide +kernel)
theorem sR_writeOut : Cond.instanceMethod yR_writeOut ∈ ck_T ∧ Cond.selects yR_writeOut.cls yR_writeOut yR_writeOut ∈ ck_T := ⟨ck_T_mk (List.mem_of_getElem? (i := 979) (by decide +kernel)) (by decide +kernel), ck_T_mk (List.mem_of_getElem? (i := 24) (by decide +kernel)) (by decide +kernel)⟩
theorem kR_writeOne : Cond.code yR_writeOne bR_writeOne 7 (some .int) ∈ ck_T := ck_T_mk (List.mem_of_getElem? (i := 984) (by decide +kernel)) (by decide +kernel)
theorem sR_writeOne : Cond.instanceMethod yR_writeOne ∈ ck_T ∧ Cond.selects yR_writeOne.cls yR_writeOne yR_writeOne ∈ ck_T := ⟨ck_T_mk (List.mem_of_getElem? (i := 983) (by decide +kernel)) (by decide +kernel), ck_T_mk (List.mem_of_getElem? (i := 25) (by decide +kernel)) (by decide +kernel)⟩
theorem kR_lowest : Cond.code yR_lowest bR_lowest 2 (some .int) ∈ ck_T := ck_T_mk (List.mem_of_getElem? (i := 999) (by decide +kernel)) (by decide +kernel)
theorem sR_lowest : Cond.static yR_lowest ∈ ck_T := ck_T_mk (List.mem_of_getElem? (i := 998) (by decide +kernel)) (by decide +kernel)
theorem kR_askers : Cond.code yR_askers bR_askers 5 (some .int) ∈ ck_T := ck_T_mk (List.mem_of_getElem? (i := 1003) (by decide +kernel)) (by decide +kernel)
theorem sR_askers : Cond.instanceMethod yR_askers ∈ ck_T ∧ Cond.selects yR_askers.cls yR_askers yR_askers ∈ ck_T := ⟨ck_T_mk (List.mem_of_getElem? (i := 1002) (by decide +kernel)) (by decide +kernel), ck_T_mk (List.mem_of_getElem? (i := 28) (by decide +kernel)) (by decide +kernel)⟩
theorem kR_choose : Cond.code yR_choose bR_choose 7 (some .int) ∈ ck_T := ck_T_mk (List.mem_of_getElem? (i := 996) (by decide +kernel)) (by decide +kernel)
theorem sR_choose : Cond.instanceMethod yR_choose ∈ ck_T ∧ Cond.selects yR_choose.cls yR_choose yR_choose ∈ ck_T := ⟨ck_T_mk (List.mem_of_getElem? (i := 995) (by decide +kernel)) (by decide +kernel), ck_T_mk (List.mem_of_getElem? (i := 27) (by decide +kernel)) (by decide +kernel)⟩
theorem kR_keep : Cond.code yR_keep bR_keep 8 (some .int) ∈ ck_T := ck_T_mk (List.mem_of_getElem? (i := 1017) (by decide +kernel)) (by decide +kernel)
theorem sR_keep : Cond.instanceMethod yR_keep ∈ ck_T ∧ Cond.selects yR_keep.cls yR_keep yR_keep ∈ ck_T := ⟨ck_T_mk (List.mem_of_getElem? (i := 1016) (by decide +kernel)) (by decide +kernel), ck_T_mk (List.mem_of_getElem? (i := 31) (by decide +kernel)) (by decide +kernel)⟩
theorem kR_branch : Cond.code yR_branch bR_branch 5 none ∈ ck_T := ck_T_mk (List.mem_of_getElem? (i := 1013) (by decide +kernel)) (by decide +kernel)
theorem sR_branch : Cond.instanceMethod yR_branch ∈ ck_T ∧ Cond.selects yR_branch.cls yR_branch yR_branch ∈ ck_T := ⟨ck_T_mk (List.mem_of_getElem? (i := 1012) (by decide +kernel)) (by decide +kernel), ck_T_mk (List.mem_of_getElem? (i := 30) (by decide +kernel)) (by decide +kernel)⟩
theorem kR_grow : Cond.code yR_grow bR_grow 7 none ∈ ck_T := ck_T_mk (List.mem_of_getElem? (i := 992) (by decide +kernel)) (by decide +kernel)
theorem sR_grow : Cond.instanceMethod yR_grow ∈ ck_T ∧ Cond.selects yR_grow.cls yR_grow yR_grow ∈ ck_T := ⟨ck_T_mk (List.mem_of_getElem? (i := 991) (by decide +kernel)) (by decide +kernel), ck_T_mk (List.mem_of_getElem? (i := 26) (by decide +kernel)) (by decide +kernel)⟩
theorem kR_growNumbers : Cond.code yR_growNumbers bR_growNumbers 11 none ∈ ck_T := ck_T_mk (List.mem_of_getElem? (i := 1007) (by decide +kernel)) (by decide +kernel)
theorem sR_growNumbers : Cond.instanceMethod yR_growNumbers ∈ ck_T ∧ Cond.selects yR_growNumbers.cls yR_growNumbers yR_growNumbers ∈ ck_T := ⟨ck_T_mk (List.mem_of_getElem? (i := 1006) (by decide +kernel)) (by decide +kernel), ck_T_mk (List.mem_of_getElem? (i := 29) (by decide +kernel)) (by decide +kernel)⟩
theorem kR_compile : Cond.code yR_compile bR_compile 2 (some .int) ∈ ck_T := ck_T_mk (List.mem_of_getElem? (i := 988) (by decide +kernel)) (by decide +kernel)
theorem sR_compile : Cond.instanceMethod yR_compile ∈ ck_T ∧ Cond.selects yR_compile.cls yR_compile yR_compile ∈ ck_T := ⟨ck_T_mk (List.mem_of_getElem? (i := 986) (by decide +kernel)) (by decide +kernel), ck_T_mk (List.mem_of_getElem? (i := 987) (by decide +kernel)) (by decide +kernel)⟩
theorem kR_alike : Cond.code yR_alike bR_alike 6 (some .boolean) ∈ ck_T := ck_T_mk (List.mem_of_getElem? (i := 1037) (by decide +kernel)) (by decide +kernel)
theorem sR_alike : Cond.instanceMethod yR_alike ∈ ck_T ∧ Cond.selects yR_alike.cls yR_alike yR_alike ∈ ck_T := ⟨ck_T_mk (List.mem_of_getElem? (i := 1036) (by decide +kernel)) (by decide +kernel), ck_T_mk (List.mem_of_getElem? (i := 35) (by decide +kernel)) (by decide +kernel)⟩
theorem kR_kinds : Cond.code yR_kinds bR_kinds 4 (some .int) ∈ ck_T := ck_T_mk (List.mem_of_getElem? (i := 1033) (by decide +kernel)) (by decide +kernel)
theorem sR_kinds : Cond.instanceMethod yR_kinds ∈ ck_T ∧ Cond.selects yR_kinds.cls yR_kinds yR_kinds ∈ ck_T := ⟨ck_T_mk (List.mem_of_getElem? (i := 1031) (by decide +kernel)) (by decide +kernel), ck_T_mk (List.mem_of_getElem? (i := 1032) (by decide +kernel)) (by decide +kernel)⟩
theorem kR_longest : Cond.code yR_longest bR_longest 4 (some .int) ∈ ck_T := ck_T_mk (List.mem_of_getElem? (i := 1041) (by decide +kernel)) (by decide +kernel)
theorem sR_longest : Cond.instanceMethod yR_longest ∈ ck_T ∧ Cond.selects yR_longest.cls yR_longest yR_longest ∈ ck_T := ⟨ck_T_mk (List.mem_of_getElem? (i := 1039) (by decide +kernel)) (by decide +kernel), ck_T_mk (List.mem_of_getElem? (i := 1040) (by decide +kernel)) (by decide +kernel)⟩
theorem kR_useless : Cond.code yR_useless bR_useless 6 (some .int) ∈ ck_T := ck_T_mk (List.mem_of_getElem? (i := 1045) (by decide +kernel)) (by decide +kernel)
theorem sR_useless : Cond.instanceMethod yR_useless ∈ ck_T ∧ Cond.selects yR_useless.cls yR_useless yR_useless ∈ ck_T := ⟨ck_T_mk (List.mem_of_getElem? (i := 1043) (by decide +kernel)) (by decide +kernel), ck_T_mk (List.mem_of_getElem? (i := 1044) (by decide +kernel)) (by decide +kernel)⟩
theorem kR_hasBranch : Cond.code yR_hasBranch bR_hasBranch 5 (some .boolean) ∈ ck_T := ck_T_mk (List.mem_of_getElem? (i := 1025) (by decide +kernel)) (by decide +kernel)
theorem sR_hasBranch : Cond.instanceMethod yR_hasBranch ∈ ck_T ∧ Cond.selects yR_hasBranch.cls yR_hasBranch yR_hasBranch ∈ ck_T := ⟨ck_T_mk (List.mem_of_getElem? (i := 1024) (by decide +kernel)) (by decide +kernel), ck_T_mk (List.mem_of_getElem? (i := 33) (by decide +kernel)) (by decide +kernel)⟩
theorem kR_findWitness : Cond.code yR_findWitness bR_findWitness 4 none ∈ ck_T := ck_T_mk (List.mem_of_getElem? (i := 1021) (by decide +kernel)) (by decide +kernel)
theorem sR_findWitness : Cond.instanceMethod yR_findWitness ∈ ck_T ∧ Cond.selects yR_findWitness.cls yR_findWitness yR_findWitness ∈ ck_T := ⟨ck_T_mk (List.mem_of_getElem? (i := 1020) (by decide +kernel)) (by decide +kernel), ck_T_mk (List.mem_of_getElem? (i := 32) (by decide +kernel)) (by decide +kernel)⟩
theorem kR_writeWitness : Cond.code yR_writeWitness bR_writeWitness 5 none ∈ ck_T := ck_T_mk (List.mem_of_getElem? (i := 1029) (by decide +kernel)) (by decide +kernel)
theorem sR_writeWitness : Cond.instanceMethod yR_writeWitness ∈ ck_T ∧ Cond.selects yR_writeWitness.cls yR_writeWitness yR_writeWitness ∈ ck_T := ⟨ck_T_mk (List.mem_of_getElem? (i := 1028) (by decide +kernel)) (by decide +kernel), ck_T_mk (List.mem_of_getElem? (i := 34) (by decide +kernel)) (by decide +kernel)⟩
theorem kR_witnessLength : Cond.code yR_witnessLength bR_witnessLength 1 (some .int) ∈ ck_T := ck_T_mk (List.mem_of_getElem? (i := 1049) (by decide +kernel)) (by decide +kernel)
theorem sR_witnessLength : Cond.instanceMethod yR_witnessLength ∈ ck_T ∧ Cond.selects yR_witnessLength.cls yR_witnessLength yR_witnessLength ∈ ck_T := ⟨ck_T_mk (List.mem_of_getElem? (i := 1047) (by decide +kernel)) (by decide +kernel), ck_T_mk (List.mem_of_getElem? (i := 1048) (by decide +kernel)) (by decide +kernel)⟩
theorem kR_witnessKind : Cond.code yR_witnessKind bR_witnessKind 2 (some .int) ∈ ck_T := ck_T_mk (List.mem_of_getElem? (i := 1053) (by decide +kernel)) (by decide +kernel)
theorem sR_witnessKind : Cond.instanceMethod yR_witnessKind ∈ ck_T ∧ Cond.selects yR_witnessKind.cls yR_witnessKind yR_witnessKind ∈ ck_T := ⟨ck_T_mk (List.mem_of_getElem? (i := 1051) (by decide +kernel)) (by decide +kernel), ck_T_mk (List.mem_of_getElem? (i := 1052) (by decide +kernel)) (by decide +kernel)⟩
theorem kR_witness : Cond.code yR_witness bR_witness 2 (some .int) ∈ ck_T := ck_T_mk (List.mem_of_getElem? (i := 1057) (by decide +kernel)) (by decide +kernel)
theorem sR_witness : Cond.instanceMethod yR_witness ∈ ck_T ∧ Cond.selects yR_witness.cls yR_witness yR_witness ∈ ck_T := ⟨ck_T_mk (List.mem_of_getElem? (i := 1055) (by decide +kernel)) (by decide +kernel), ck_T_mk (List.mem_of_getElem? (i := 1056) (by decide +kernel)) (by decide +kernel)⟩
theorem kR_isValue : Cond.code yR_isValue bR_isValue 2 (some .boolean) ∈ ck_T := ck_T_mk (List.mem_of_getElem? (i := 1073) (by decide +kernel)) (by decide +kernel)
theorem sR_isValue : Cond.instanceMethod yR_isValue ∈ ck_T ∧ Cond.selects yR_isValue.cls yR_isValue yR_isValue ∈ ck_T := ⟨ck_T_mk (List.mem_of_getElem? (i := 1072) (by decide +kernel)) (by decide +kernel), ck_T_mk (List.mem_of_getElem? (i := 37) (by decide +kernel)) (by decide +kernel)⟩
theorem kR_typeOf : Cond.code yR_typeOf bR_typeOf 2 (some .int) ∈ ck_T := ck_T_mk (List.mem_of_getElem? (i := 1077) (by decide +kernel)) (by decide +kernel)
theorem sR_typeOf : Cond.instanceMethod yR_typeOf ∈ ck_T ∧ Cond.selects yR_typeOf.cls yR_typeOf yR_typeOf ∈ ck_T := ⟨ck_T_mk (List.mem_of_getElem? (i := 1076) (by decide +kernel)) (by decide +kernel), ck_T_mk (List.mem_of_getElem? (i := 38) (by decide +kernel)) (by decide +kernel)⟩
theorem kR_value : Cond.code yR_value bR_value 5 (some .int) ∈ ck_T := ck_T_mk (List.mem_of_getElem? (i := 1065) (by decide +kernel)) (by decide +kernel)
theorem sR_value : Cond.instanceMethod yR_value ∈ ck_T ∧ Cond.selects yR_value.cls yR_value yR_value ∈ ck_T := ⟨ck_T_mk (List.mem_of_getElem? (i := 1064) (by decide +kernel)) (by decide +kernel), ck_T_mk (List.mem_of_getElem? (i := 36) (by decide +kernel)) (by decide +kernel)⟩
theorem kR_valueNumber : Cond.code yR_valueNumber bR_valueNumber 2 (some .int) ∈ ck_T := ck_T_mk (List.mem_of_getElem? (i := 1061) (by decide +kernel)) (by decide +kernel)
theorem sR_valueNumber : Cond.instanceMethod yR_valueNumber ∈ ck_T ∧ Cond.selects yR_valueNumber.cls yR_valueNumber yR_valueNumber ∈ ck_T := ⟨ck_T_mk (List.mem_of_getElem? (i := 1059) (by decide +kernel)) (by decide +kernel), ck_T_mk (List.mem_of_getElem? (i := 1060) (by decide +kernel)) (by decide +kernel)⟩
theorem kR_valueOf : Cond.code yR_valueOf bR_valueOf 6 (some .int) ∈ ck_T := ck_T_mk (List.mem_of_getElem? (i := 1069) (by decide +kernel)) (by decide +kernel)
theorem sR_valueOf : Cond.instanceMethod yR_valueOf ∈ ck_T ∧ Cond.selects yR_valueOf.cls yR_valueOf yR_valueOf ∈ ck_T := ⟨ck_T_mk (List.mem_of_getElem? (i := 1067) (by decide +kernel)) (by decide +kernel), ck_T_mk (List.mem_of_getElem? (i := 1068) (by decide +kernel)) (by decide +kernel)⟩
theorem kR_part : Cond.code yR_part bR_part 6 (some .int) ∈ ck_T := ck_T_mk (List.mem_of_getElem? (i := 1089) (by decide +kernel)) (by decide +kernel)
theorem sR_part : Cond.instanceMethod yR_part ∈ ck_T ∧ Cond.selects yR_part.cls yR_part yR_part ∈ ck_T := ⟨ck_T_mk (List.mem_of_getElem? (i := 1088) (by decide +kernel)) (by decide +kernel), ck_T_mk (List.mem_of_getElem? (i := 40) (by decide +kernel)) (by decide +kernel)⟩
theorem kR_fits : Cond.code yR_fits bR_fits 5 (some .boolean) ∈ ck_T := ck_T_mk (List.mem_of_getElem? (i := 1093) (by decide +kernel)) (by decide +kernel)
theorem sR_fits : Cond.instanceMethod yR_fits ∈ ck_T ∧ Cond.selects yR_fits.cls yR_fits yR_fits ∈ ck_T := ⟨ck_T_mk (List.mem_of_getElem? (i := 1092) (by decide +kernel)) (by decide +kernel), ck_T_mk (List.mem_of_getElem? (i := 41) (by decide +kernel)) (by decide +kernel)⟩
theorem kR_walk : Cond.code yR_walk bR_walk 6 (some .int) ∈ ck_T := ck_T_mk (List.mem_of_getElem? (i := 1085) (by decide +kernel)) (by decide +kernel)
theorem sR_walk : Cond.instanceMethod yR_walk ∈ ck_T ∧ Cond.selects yR_walk.cls yR_walk yR_walk ∈ ck_T := ⟨ck_T_mk (List.mem_of_getElem? (i := 1084) (by decide +kernel)) (by decide +kernel), ck_T_mk (List.mem_of_getElem? (i := 39) (by decide +kernel)) (by decide +kernel)⟩
theorem kR_run : Cond.code yR_run bR_run 3 (some .int) ∈ ck_T := ck_T_mk (List.mem_of_getElem? (i := 1081) (by decide +kernel)) (by decide +kernel)
theorem sR_run : Cond.instanceMethod yR_run ∈ ck_T ∧ Cond.selects yR_run.cls yR_run yR_run ∈ ck_T := ⟨ck_T_mk (List.mem_of_getElem? (i := 1079) (by decide +kernel)) (by decide +kernel), ck_T_mk (List.mem_of_getElem? (i := 1080) (by decide +kernel)) (by decide +kernel)⟩
theorem kR_tests : Cond.code yR_tests bR_tests 1 (some .int) ∈ ck_T := ck_T_mk (List.mem_of_getElem? (i := 1097) (by decide +kernel)) (by decide +kernel)
theorem sR_tests : Cond.instanceMethod yR_tests ∈ ck_T ∧ Cond.selects yR_tests.cls yR_tests yR_tests ∈ ck_T := ⟨ck_T_mk (List.mem_of_getElem? (i := 1095) (by decide +kernel)) (by decide +kernel), ck_T_mk (List.mem_of_getElem? (i := 1096) (by decide +kernel)) (by decide +kernel)⟩
theorem kD_reset : Cond.code yD_reset bD_reset 1 none ∈ ck_T := ck_T_mk (List.mem_of_getElem? (i := 288) (by decide +kernel)) (by decide +kernel)
theorem sD_reset : Cond.instanceMethod yD_reset ∈ ck_T ∧ Cond.selects yD_reset.cls yD_reset yD_reset ∈ ck_T := ⟨ck_T_mk (List.mem_of_getElem? (i := 286) (by decide +kernel)) (by decide +kernel), ck_T_mk (List.mem_of_getElem? (i := 287) (by decide +kernel)) (by decide +kernel)⟩
theorem kD_addType : Cond.code yD_addType bD_addType 1 (some .int) ∈ ck_T := ck_T_mk (List.mem_of_getElem? (i := 319) (by decide +kernel)) (by decide +kernel)
theorem sD_addType : Cond.instanceMethod yD_addType ∈ ck_T ∧ Cond.selects yD_addType.cls yD_addType yD_addType ∈ ck_T := ⟨ck_T_mk (List.mem_of_getElem? (i := 317) (by decide +kernel)) (by decide +kernel), ck_T_mk (List.mem_of_getElem? (i := 318) (by decide +kernel)) (by decide +kernel)⟩
theorem kD_addConstructor : Cond.code yD_addConstructor bD_addConstructor 5 (some .int) ∈ ck_T := ck_T_mk (List.mem_of_getElem? (i := 339) (by decide +kernel)) (by decide +kernel)
theorem sD_addConstructor : Cond.instanceMethod yD_addConstructor ∈ ck_T ∧ Cond.selects yD_addConstructor.cls yD_addConstructor yD_addConstructor ∈ ck_T := ⟨ck_T_mk (List.mem_of_getElem? (i := 337) (by decide +kernel)) (by decide +kernel), ck_T_mk (List.mem_of_getElem? (i := 338) (by decide +kernel)) (by decide +kernel)⟩
theorem kD_countOfType : Cond.code yD_countOfType bD_countOfType 4 (some .int) ∈ ck_T := ck_T_mk (List.mem_of_getElem? (i := 343) (by decide +kernel)) (by decide +kernel)
theorem sD_countOfType : Cond.instanceMethod yD_countOfType ∈ ck_T ∧ Cond.selects yD_countOfType.cls yD_countOfType yD_countOfType ∈ ck_T := ⟨ck_T_mk (List.mem_of_getElem? (i := 342) (by decide +kernel)) (by decide +kernel), ck_T_mk (List.mem_of_getElem? (i := 0) (by decide +kernel)) (by decide +kernel)⟩
theorem kD_isType : Cond.code yD_isType bD_isType 2 (some .boolean) ∈ ck_T := ck_T_mk (List.mem_of_getElem? (i := 335) (by decide +kernel)) (by decide +kernel)
theorem sD_isType : Cond.instanceMethod yD_isType ∈ ck_T ∧ Cond.selects yD_isType.cls yD_isType yD_isType ∈ ck_T := ⟨ck_T_mk (List.mem_of_getElem? (i := 333) (by decide +kernel)) (by decide +kernel), ck_T_mk (List.mem_of_getElem? (i := 334) (by decide +kernel)) (by decide +kernel)⟩
theorem kD_isOwnType : Cond.code yD_isOwnType bD_isOwnType 2 (some .boolean) ∈ ck_T := ck_T_mk (List.mem_of_getElem? (i := 327) (by decide +kernel)) (by decide +kernel)
theorem sD_isOwnType : Cond.instanceMethod yD_isOwnType ∈ ck_T ∧ Cond.selects yD_isOwnType.cls yD_isOwnType yD_isOwnType ∈ ck_T := ⟨ck_T_mk (List.mem_of_getElem? (i := 325) (by decide +kernel)) (by decide +kernel), ck_T_mk (List.mem_of_getElem? (i := 326) (by decide +kernel)) (by decide +kernel)⟩
theorem kD_canBeArguments : Cond.code yD_canBeArguments bD_canBeArguments 3 (some .boolean) ∈ ck_T := ck_T_mk (List.mem_of_getElem? (i := 331) (by decide +kernel)) (by decide +kernel)
theorem sD_canBeArguments : Cond.instanceMethod yD_canBeArguments ∈ ck_T ∧ Cond.selects yD_canBeArguments.cls yD_canBeArguments yD_canBeArguments ∈ ck_T := ⟨ck_T_mk (List.mem_of_getElem? (i := 329) (by decide +kernel)) (by decide +kernel), ck_T_mk (List.mem_of_getElem? (i := 330) (by decide +kernel)) (by decide +kernel)⟩
theorem kD_isConstructor : Cond.code yD_isConstructor bD_isConstructor 2 (some .boolean) ∈ ck_T := ck_T_mk (List.mem_of_getElem? (i := 399) (by decide +kernel)) (by decide +kernel)
theorem sD_isConstructor : Cond.instanceMethod yD_isConstructor ∈ ck_T ∧ Cond.selects yD_isConstructor.cls yD_isConstructor yD_isConstructor ∈ ck_T := ⟨ck_T_mk (List.mem_of_getElem? (i := 397) (by decide +kernel)) (by decide +kernel), ck_T_mk (List.mem_of_getElem? (i := 398) (by decide +kernel)) (by decide +kernel)⟩
theorem kD_constructorCount : Cond.code yD_constructorCount bD_constructorCount 1 (some .int) ∈ ck_T := ck_T_mk (List.mem_of_getElem? (i := 562) (by decide +kernel)) (by decide +kernel)
theorem sD_constructorCount : Cond.instanceMethod yD_constructorCount ∈ ck_T ∧ Cond.selects yD_constructorCount.cls yD_constructorCount yD_constructorCount ∈ ck_T := ⟨ck_T_mk (List.mem_of_getElem? (i := 560) (by decide +kernel)) (by decide +kernel), ck_T_mk (List.mem_of_getElem? (i := 561) (by decide +kernel)) (by decide +kernel)⟩
theorem kD_ownerOf : Cond.code yD_ownerOf bD_ownerOf 2 (some .int) ∈ ck_T := ck_T_mk (List.mem_of_getElem? (i := 424) (by decide +kernel)) (by decide +kernel)
theorem sD_ownerOf : Cond.instanceMethod yD_ownerOf ∈ ck_T ∧ Cond.selects yD_ownerOf.cls yD_ownerOf yD_ownerOf ∈ ck_T := ⟨ck_T_mk (List.mem_of_getElem? (i := 422) (by decide +kernel)) (by decide +kernel), ck_T_mk (List.mem_of_getElem? (i := 423) (by decide +kernel)) (by decide +kernel)⟩
theorem kD_firstTypeOf : Cond.code yD_firstTypeOf bD_firstTypeOf 2 (some .int) ∈ ck_T := ck_T_mk (List.mem_of_getElem? (i := 403) (by decide +kernel)) (by decide +kernel)
theorem sD_firstTypeOf : Cond.instanceMethod yD_firstTypeOf ∈ ck_T ∧ Cond.selects yD_firstTypeOf.cls yD_firstTypeOf yD_firstTypeOf ∈ ck_T := ⟨ck_T_mk (List.mem_of_getElem? (i := 401) (by decide +kernel)) (by decide +kernel), ck_T_mk (List.mem_of_getElem? (i := 402) (by decide +kernel)) (by decide +kernel)⟩
theorem kD_secondTypeOf : Cond.code yD_secondTypeOf bD_secondTypeOf 2 (some .int) ∈ ck_T := ck_T_mk (List.mem_of_getElem? (i := 408) (by decide +kernel)) (by decide +kernel)
theorem sD_secondTypeOf : Cond.instanceMethod yD_secondTypeOf ∈ ck_T ∧ Cond.selects yD_secondTypeOf.cls yD_secondTypeOf yD_secondTypeOf ∈ ck_T := ⟨ck_T_mk (List.mem_of_getElem? (i := 406) (by decide +kernel)) (by decide +kernel), ck_T_mk (List.mem_of_getElem? (i := 407) (by decide +kernel)) (by decide +kernel)⟩
theorem kD_argumentPlaces : Cond.code yD_argumentPlaces bD_argumentPlaces 4 (some .int) ∈ ck_T := ck_T_mk (List.mem_of_getElem? (i := 567) (by decide +kernel)) (by decide +kernel)
theorem sD_argumentPlaces : Cond.instanceMethod yD_argumentPlaces ∈ ck_T ∧ Cond.selects yD_argumentPlaces.cls yD_argumentPlaces yD_argumentPlaces ∈ ck_T := ⟨ck_T_mk (List.mem_of_getElem? (i := 565) (by decide +kernel)) (by decide +kernel), ck_T_mk (List.mem_of_getElem? (i := 566) (by decide +kernel)) (by decide +kernel)⟩
theorem kD_everyTypeHasValues : Cond.code yD_everyTypeHasValues bD_everyTypeHasValues 3 (some .boolean) ∈ ck_T := ck_T_mk (List.mem_of_getElem? (i := 352) (by decide +kernel)) (by decide +kernel)
theorem sD_everyTypeHasValues : Cond.instanceMethod yD_everyTypeHasValues ∈ ck_T ∧ Cond.selects yD_everyTypeHasValues.cls yD_everyTypeHasValues yD_everyTypeHasValues ∈ ck_T := ⟨ck_T_mk (List.mem_of_getElem? (i := 350) (by decide +kernel)) (by decide +kernel), ck_T_mk (List.mem_of_getElem? (i := 351) (by decide +kernel)) (by decide +kernel)⟩
theorem kD_withTypesBuiltFrom : Cond.code yD_withTypesBuiltFrom bD_withTypesBuiltFrom 4 (some .int) ∈ ck_T := ck_T_mk (List.mem_of_getElem? (i := 356) (by decide +kernel)) (by decide +kernel)
theorem sD_withTypesBuiltFrom : Cond.instanceMethod yD_withTypesBuiltFrom ∈ ck_T ∧ Cond.selects yD_withTypesBuiltFrom.cls yD_withTypesBuiltFrom yD_withTypesBuiltFrom ∈ ck_T := ⟨ck_T_mk (List.mem_of_getElem? (i := 355) (by decide +kernel)) (by decide +kernel), ck_T_mk (List.mem_of_getElem? (i := 1) (by decide +kernel)) (by decide +kernel)⟩
theorem kD_canBeGiven : Cond.code yD_canBeGiven bD_canBeGiven 2 (some .boolean) ∈ ck_T := ck_T_mk (List.mem_of_getElem? (i := 359) (by decide +kernel)) (by decide +kernel)
theorem sD_canBeGiven : Cond.static yD_canBeGiven ∈ ck_T := ck_T_mk (List.mem_of_getElem? (i := 358) (by decide +kernel)) (by decide +kernel)
theorem kM_reset : Cond.code yM_reset bM_reset 1 none ∈ ck_T := ck_T_mk (List.mem_of_getElem? (i := 300) (by decide +kernel)) (by decide +kernel)
theorem sM_reset : Cond.instanceMethod yM_reset ∈ ck_T ∧ Cond.selects yM_reset.cls yM_reset yM_reset ∈ ck_T := ⟨ck_T_mk (List.mem_of_getElem? (i := 298) (by decide +kernel)) (by decide +kernel), ck_T_mk (List.mem_of_getElem? (i := 299) (by decide +kernel)) (by decide +kernel)⟩
theorem kM_isBegun : Cond.code yM_isBegun bM_isBegun 1 (some .boolean) ∈ ck_T := ck_T_mk (List.mem_of_getElem? (i := 315) (by decide +kernel)) (by decide +kernel)
theorem sM_isBegun : Cond.instanceMethod yM_isBegun ∈ ck_T ∧ Cond.selects yM_isBegun.cls yM_isBegun yM_isBegun ∈ ck_T := ⟨ck_T_mk (List.mem_of_getElem? (i := 313) (by decide +kernel)) (by decide +kernel), ck_T_mk (List.mem_of_getElem? (i := 314) (by decide +kernel)) (by decide +kernel)⟩
theorem kM_beginOver : Cond.code yM_beginOver bM_beginOver 2 none ∈ ck_T := ck_T_mk (List.mem_of_getElem? (i := 363) (by decide +kernel)) (by decide +kernel)
theorem sM_beginOver : Cond.instanceMethod yM_beginOver ∈ ck_T ∧ Cond.selects yM_beginOver.cls yM_beginOver yM_beginOver ∈ ck_T := ⟨ck_T_mk (List.mem_of_getElem? (i := 361) (by decide +kernel)) (by decide +kernel), ck_T_mk (List.mem_of_getElem? (i := 362) (by decide +kernel)) (by decide +kernel)⟩
theorem kM_typeOver : Cond.code yM_typeOver bM_typeOver 1 (some .int) ∈ ck_T := ck_T_mk (List.mem_of_getElem? (i := 460) (by decide +kernel)) (by decide +kernel)
theorem sM_typeOver : Cond.instanceMethod yM_typeOver ∈ ck_T ∧ Cond.selects yM_typeOver.cls yM_typeOver yM_typeOver ∈ ck_T := ⟨ck_T_mk (List.mem_of_getElem? (i := 458) (by decide +kernel)) (by decide +kernel), ck_T_mk (List.mem_of_getElem? (i := 459) (by decide +kernel)) (by decide +kernel)⟩
theorem kM_hasRow : Cond.code yM_hasRow bM_hasRow 2 (some .boolean) ∈ ck_T := ck_T_mk (List.mem_of_getElem? (i := 667) (by decide +kernel)) (by decide +kernel)
theorem sM_hasRow : Cond.instanceMethod yM_hasRow ∈ ck_T ∧ Cond.selects yM_hasRow.cls yM_hasRow yM_hasRow ∈ ck_T := ⟨ck_T_mk (List.mem_of_getElem? (i := 665) (by decide +kernel)) (by decide +kernel), ck_T_mk (List.mem_of_getElem? (i := 666) (by decide +kernel)) (by decide +kernel)⟩
theorem kM_addRow : Cond.code yM_addRow bM_addRow 5 (some .int) ∈ ck_T := ck_T_mk (List.mem_of_getElem? (i := 464) (by decide +kernel)) (by decide +kernel)
theorem sM_addRow : Cond.instanceMethod yM_addRow ∈ ck_T ∧ Cond.selects yM_addRow.cls yM_addRow yM_addRow ∈ ck_T := ⟨ck_T_mk (List.mem_of_getElem? (i := 462) (by decide +kernel)) (by decide +kernel), ck_T_mk (List.mem_of_getElem? (i := 463) (by decide +kernel)) (by decide +kernel)⟩
theorem kM_layOut : Cond.code yM_layOut bM_layOut 10 none ∈ ck_T := ck_T_mk (List.mem_of_getElem? (i := 469) (by decide +kernel)) (by decide +kernel)
theorem sM_layOut : Cond.instanceMethod yM_layOut ∈ ck_T ∧ Cond.selects yM_layOut.cls yM_layOut yM_layOut ∈ ck_T := ⟨ck_T_mk (List.mem_of_getElem? (i := 468) (by decide +kernel)) (by decide +kernel), ck_T_mk (List.mem_of_getElem? (i := 5) (by decide +kernel)) (by decide +kernel)⟩
theorem kM_allClauses : Cond.code yM_allClauses bM_allClauses 1 (some .int) ∈ ck_T := ck_T_mk (List.mem_of_getElem? (i := 503) (by decide +kernel)) (by decide +kernel)
theorem sM_allClauses : Cond.instanceMethod yM_allClauses ∈ ck_T ∧ Cond.selects yM_allClauses.cls yM_allClauses yM_allClauses ∈ ck_T := ⟨ck_T_mk (List.mem_of_getElem? (i := 501) (by decide +kernel)) (by decide +kernel), ck_T_mk (List.mem_of_getElem? (i := 502) (by decide +kernel)) (by decide +kernel)⟩
theorem kM_firstOf : Cond.code yM_firstOf bM_firstOf 3 (some .int) ∈ ck_T := ck_T_mk (List.mem_of_getElem? (i := 529) (by decide +kernel)) (by decide +kernel)
theorem sM_firstOf : Cond.instanceMethod yM_firstOf ∈ ck_T ∧ Cond.selects yM_firstOf.cls yM_firstOf yM_firstOf ∈ ck_T := ⟨ck_T_mk (List.mem_of_getElem? (i := 527) (by decide +kernel)) (by decide +kernel), ck_T_mk (List.mem_of_getElem? (i := 528) (by decide +kernel)) (by decide +kernel)⟩
theorem kM_rowOf : Cond.code yM_rowOf bM_rowOf 2 (some .int) ∈ ck_T := ck_T_mk (List.mem_of_getElem? (i := 764) (by decide +kernel)) (by decide +kernel)
theorem sM_rowOf : Cond.instanceMethod yM_rowOf ∈ ck_T ∧ Cond.selects yM_rowOf.cls yM_rowOf yM_rowOf ∈ ck_T := ⟨ck_T_mk (List.mem_of_getElem? (i := 762) (by decide +kernel)) (by decide +kernel), ck_T_mk (List.mem_of_getElem? (i := 763) (by decide +kernel)) (by decide +kernel)⟩
theorem kM_placeToTest : Cond.code yM_placeToTest bM_placeToTest 9 (some .int) ∈ ck_T := ck_T_mk (List.mem_of_getElem? (i := 515) (by decide +kernel)) (by decide +kernel)
theorem sM_placeToTest : Cond.instanceMethod yM_placeToTest ∈ ck_T ∧ Cond.selects yM_placeToTest.cls yM_placeToTest yM_placeToTest ∈ ck_T := ⟨ck_T_mk (List.mem_of_getElem? (i := 513) (by decide +kernel)) (by decide +kernel), ck_T_mk (List.mem_of_getElem? (i := 514) (by decide +kernel)) (by decide +kernel)⟩
theorem kM_typeAskedAt : Cond.code yM_typeAskedAt bM_typeAskedAt 4 (some .int) ∈ ck_T := ck_T_mk (List.mem_of_getElem? (i := 533) (by decide +kernel)) (by decide +kernel)
theorem sM_typeAskedAt : Cond.instanceMethod yM_typeAskedAt ∈ ck_T ∧ Cond.selects yM_typeAskedAt.cls yM_typeAskedAt yM_typeAskedAt ∈ ck_T := ⟨ck_T_mk (List.mem_of_getElem? (i := 531) (by decide +kernel)) (by decide +kernel), ck_T_mk (List.mem_of_getElem? (i := 532) (by decide +kernel)) (by decide +kernel)⟩
theorem kM_notAsking : Cond.code yM_notAsking bM_notAsking 3 (some .int) ∈ ck_T := ck_T_mk (List.mem_of_getElem? (i := 553) (by decide +kernel)) (by decide +kernel)
theorem sM_notAsking : Cond.instanceMethod yM_notAsking ∈ ck_T ∧ Cond.selects yM_notAsking.cls yM_notAsking yM_notAsking ∈ ck_T := ⟨ck_T_mk (List.mem_of_getElem? (i := 551) (by decide +kernel)) (by decide +kernel), ck_T_mk (List.mem_of_getElem? (i := 552) (by decide +kernel)) (by decide +kernel)⟩
theorem kM_notAskingElse : Cond.code yM_notAskingElse bM_notAskingElse 6 (some .int) ∈ ck_T := ck_T_mk (List.mem_of_getElem? (i := 549) (by decide +kernel)) (by decide +kernel)
theorem sM_notAskingElse : Cond.instanceMethod yM_notAskingElse ∈ ck_T ∧ Cond.selects yM_notAskingElse.cls yM_notAskingElse yM_notAskingElse ∈ ck_T := ⟨ck_T_mk (List.mem_of_getElem? (i := 547) (by decide +kernel)) (by decide +kernel), ck_T_mk (List.mem_of_getElem? (i := 548) (by decide +kernel)) (by decide +kernel)⟩
theorem kM_leastAbove : Cond.code yM_leastAbove bM_leastAbove 11 (some .long) ∈ ck_T := ck_T_mk (List.mem_of_getElem? (i := 543) (by decide +kernel)) (by decide +kernel)
theorem sM_leastAbove : Cond.instanceMethod yM_leastAbove ∈ ck_T ∧ Cond.selects yM_leastAbove.cls yM_leastAbove yM_leastAbove ∈ ck_T := ⟨ck_T_mk (List.mem_of_getElem? (i := 541) (by decide +kernel)) (by decide +kernel), ck_T_mk (List.mem_of_getElem? (i := 542) (by decide +kernel)) (by decide +kernel)⟩
theorem kM_alternativesOutside : Cond.code yM_alternativesOutside bM_alternativesOutside 4 (some .int) ∈ ck_T := ck_T_mk (List.mem_of_getElem? (i := 675) (by decide +kernel)) (by decide +kernel)
theorem sM_alternativesOutside : Cond.instanceMethod yM_alternativesOutside ∈ ck_T ∧ Cond.selects yM_alternativesOutside.cls yM_alternativesOutside yM_alternativesOutside ∈ ck_T := ⟨ck_T_mk (List.mem_of_getElem? (i := 673) (by decide +kernel)) (by decide +kernel), ck_T_mk (List.mem_of_getElem? (i := 674) (by decide +kernel)) (by decide +kernel)⟩
theorem kP_reset : Cond.code yP_reset bP_reset 1 none ∈ ck_T := ck_T_mk (List.mem_of_getElem? (i := 292) (by decide +kernel)) (by decide +kernel)
theorem sP_reset : Cond.instanceMethod yP_reset ∈ ck_T ∧ Cond.selects yP_reset.cls yP_reset yP_reset ∈ ck_T := ⟨ck_T_mk (List.mem_of_getElem? (i := 290) (by decide +kernel)) (by decide +kernel), ck_T_mk (List.mem_of_getElem? (i := 291) (by decide +kernel)) (by decide +kernel)⟩
theorem kP_has : Cond.code yP_has bP_has 2 (some .boolean) ∈ ck_T := ck_T_mk (List.mem_of_getElem? (i := 383) (by decide +kernel)) (by decide +kernel)
theorem sP_has : Cond.instanceMethod yP_has ∈ ck_T ∧ Cond.selects yP_has.cls yP_has yP_has ∈ ck_T := ⟨ck_T_mk (List.mem_of_getElem? (i := 381) (by decide +kernel)) (by decide +kernel), ck_T_mk (List.mem_of_getElem? (i := 382) (by decide +kernel)) (by decide +kernel)⟩
theorem kP_addAny : Cond.code yP_addAny bP_addAny 1 (some .int) ∈ ck_T := ck_T_mk (List.mem_of_getElem? (i := 371) (by decide +kernel)) (by decide +kernel)
theorem sP_addAny : Cond.instanceMethod yP_addAny ∈ ck_T ∧ Cond.selects yP_addAny.cls yP_addAny yP_addAny ∈ ck_T := ⟨ck_T_mk (List.mem_of_getElem? (i := 369) (by decide +kernel)) (by decide +kernel), ck_T_mk (List.mem_of_getElem? (i := 370) (by decide +kernel)) (by decide +kernel)⟩
theorem kP_addNumber : Cond.code yP_addNumber bP_addNumber 2 (some .int) ∈ ck_T := ck_T_mk (List.mem_of_getElem? (i := 391) (by decide +kernel)) (by decide +kernel)
theorem sP_addNumber : Cond.instanceMethod yP_addNumber ∈ ck_T ∧ Cond.selects yP_addNumber.cls yP_addNumber yP_addNumber ∈ ck_T := ⟨ck_T_mk (List.mem_of_getElem? (i := 389) (by decide +kernel)) (by decide +kernel), ck_T_mk (List.mem_of_getElem? (i := 390) (by decide +kernel)) (by decide +kernel)⟩
theorem kP_addBuild : Cond.code yP_addBuild bP_addBuild 7 (some .int) ∈ ck_T := ck_T_mk (List.mem_of_getElem? (i := 428) (by decide +kernel)) (by decide +kernel)
theorem sP_addBuild : Cond.instanceMethod yP_addBuild ∈ ck_T ∧ Cond.selects yP_addBuild.cls yP_addBuild yP_addBuild ∈ ck_T := ⟨ck_T_mk (List.mem_of_getElem? (i := 426) (by decide +kernel)) (by decide +kernel), ck_T_mk (List.mem_of_getElem? (i := 427) (by decide +kernel)) (by decide +kernel)⟩
theorem kP_addEither : Cond.code yP_addEither bP_addEither 6 (some .int) ∈ ck_T := ck_T_mk (List.mem_of_getElem? (i := 452) (by decide +kernel)) (by decide +kernel)
theorem sP_addEither : Cond.instanceMethod yP_addEither ∈ ck_T ∧ Cond.selects yP_addEither.cls yP_addEither yP_addEither ∈ ck_T := ⟨ck_T_mk (List.mem_of_getElem? (i := 450) (by decide +kernel)) (by decide +kernel), ck_T_mk (List.mem_of_getElem? (i := 451) (by decide +kernel)) (by decide +kernel)⟩
theorem kP_add : Cond.code yP_add bP_add 5 (some .int) ∈ ck_T := ck_T_mk (List.mem_of_getElem? (i := 375) (by decide +kernel)) (by decide +kernel)
theorem sP_add : Cond.instanceMethod yP_add ∈ ck_T ∧ Cond.selects yP_add.cls yP_add yP_add ∈ ck_T := ⟨ck_T_mk (List.mem_of_getElem? (i := 374) (by decide +kernel)) (by decide +kernel), ck_T_mk (List.mem_of_getElem? (i := 2) (by decide +kernel)) (by decide +kernel)⟩
theorem kP_withParts : Cond.code yP_withParts bP_withParts 6 (some .int) ∈ ck_T := ck_T_mk (List.mem_of_getElem? (i := 379) (by decide +kernel)) (by decide +kernel)
theorem sP_withParts : Cond.instanceMethod yP_withParts ∈ ck_T ∧ Cond.selects yP_withParts.cls yP_withParts yP_withParts ∈ ck_T := ⟨ck_T_mk (List.mem_of_getElem? (i := 378) (by decide +kernel)) (by decide +kernel), ck_T_mk (List.mem_of_getElem? (i := 3) (by decide +kernel)) (by decide +kernel)⟩
theorem kP_isOpen : Cond.code yP_isOpen bP_isOpen 2 (some .boolean) ∈ ck_T := ck_T_mk (List.mem_of_getElem? (i := 420) (by decide +kernel)) (by decide +kernel)
theorem sP_isOpen : Cond.instanceMethod yP_isOpen ∈ ck_T ∧ Cond.selects yP_isOpen.cls yP_isOpen yP_isOpen ∈ ck_T := ⟨ck_T_mk (List.mem_of_getElem? (i := 418) (by decide +kernel)) (by decide +kernel), ck_T_mk (List.mem_of_getElem? (i := 419) (by decide +kernel)) (by decide +kernel)⟩
theorem kP_fits : Cond.code yP_fits bP_fits 3 (some .boolean) ∈ ck_T := ck_T_mk (List.mem_of_getElem? (i := 416) (by decide +kernel)) (by decide +kernel)
theorem sP_fits : Cond.instanceMethod yP_fits ∈ ck_T ∧ Cond.selects yP_fits.cls yP_fits yP_fits ∈ ck_T := ⟨ck_T_mk (List.mem_of_getElem? (i := 414) (by decide +kernel)) (by decide +kernel), ck_T_mk (List.mem_of_getElem? (i := 415) (by decide +kernel)) (by decide +kernel)⟩
theorem kP_agree : Cond.code yP_agree bP_agree 3 (some .boolean) ∈ ck_T := ck_T_mk (List.mem_of_getElem? (i := 447) (by decide +kernel)) (by decide +kernel)
theorem sP_agree : Cond.instanceMethod yP_agree ∈ ck_T ∧ Cond.selects yP_agree.cls yP_agree yP_agree ∈ ck_T := ⟨ck_T_mk (List.mem_of_getElem? (i := 445) (by decide +kernel)) (by decide +kernel), ck_T_mk (List.mem_of_getElem? (i := 446) (by decide +kernel)) (by decide +kernel)⟩
theorem kP_isEither : Cond.code yP_isEither bP_isEither 2 (some .boolean) ∈ ck_T := ck_T_mk (List.mem_of_getElem? (i := 473) (by decide +kernel)) (by decide +kernel)
theorem sP_isEither : Cond.instanceMethod yP_isEither ∈ ck_T ∧ Cond.selects yP_isEither.cls yP_isEither yP_isEither ∈ ck_T := ⟨ck_T_mk (List.mem_of_getElem? (i := 471) (by decide +kernel)) (by decide +kernel), ck_T_mk (List.mem_of_getElem? (i := 472) (by decide +kernel)) (by decide +kernel)⟩
theorem kP_itsType : Cond.code yP_itsType bP_itsType 2 (some .int) ∈ ck_T := ck_T_mk (List.mem_of_getElem? (i := 491) (by decide +kernel)) (by decide +kernel)
theorem sP_itsType : Cond.instanceMethod yP_itsType ∈ ck_T ∧ Cond.selects yP_itsType.cls yP_itsType yP_itsType ∈ ck_T := ⟨ck_T_mk (List.mem_of_getElem? (i := 489) (by decide +kernel)) (by decide +kernel), ck_T_mk (List.mem_of_getElem? (i := 490) (by decide +kernel)) (by decide +kernel)⟩
theorem kP_symbolOf : Cond.code yP_symbolOf bP_symbolOf 2 (some .int) ∈ ck_T := ck_T_mk (List.mem_of_getElem? (i := 487) (by decide +kernel)) (by decide +kernel)
theorem sP_symbolOf : Cond.instanceMethod yP_symbolOf ∈ ck_T ∧ Cond.selects yP_symbolOf.cls yP_symbolOf yP_symbolOf ∈ ck_T := ⟨ck_T_mk (List.mem_of_getElem? (i := 485) (by decide +kernel)) (by decide +kernel), ck_T_mk (List.mem_of_getElem? (i := 486) (by decide +kernel)) (by decide +kernel)⟩
theorem kP_firstOf : Cond.code yP_firstOf bP_firstOf 2 (some .int) ∈ ck_T := ck_T_mk (List.mem_of_getElem? (i := 477) (by decide +kernel)) (by decide +kernel)
theorem sP_firstOf : Cond.instanceMethod yP_firstOf ∈ ck_T ∧ Cond.selects yP_firstOf.cls yP_firstOf yP_firstOf ∈ ck_T := ⟨ck_T_mk (List.mem_of_getElem? (i := 475) (by decide +kernel)) (by decide +kernel), ck_T_mk (List.mem_of_getElem? (i := 476) (by decide +kernel)) (by decide +kernel)⟩
theorem kP_secondOf : Cond.code yP_secondOf bP_secondOf 2 (some .int) ∈ ck_T := ck_T_mk (List.mem_of_getElem? (i := 481) (by decide +kernel)) (by decide +kernel)
theorem sP_secondOf : Cond.instanceMethod yP_secondOf ∈ ck_T ∧ Cond.selects yP_secondOf.cls yP_secondOf yP_secondOf ∈ ck_T := ⟨ck_T_mk (List.mem_of_getElem? (i := 479) (by decide +kernel)) (by decide +kernel), ck_T_mk (List.mem_of_getElem? (i := 480) (by decide +kernel)) (by decide +kernel)⟩
theorem kP_depthOf : Cond.code yP_depthOf bP_depthOf 2 (some .int) ∈ ck_T := ck_T_mk (List.mem_of_getElem? (i := 432) (by decide +kernel)) (by decide +kernel)
theorem sP_depthOf : Cond.instanceMethod yP_depthOf ∈ ck_T ∧ Cond.selects yP_depthOf.cls yP_depthOf yP_depthOf ∈ ck_T := ⟨ck_T_mk (List.mem_of_getElem? (i := 431) (by decide +kernel)) (by decide +kernel), ck_T_mk (List.mem_of_getElem? (i := 4) (by decide +kernel)) (by decide +kernel)⟩
theorem kP_choicesOf : Cond.code yP_choicesOf bP_choicesOf 2 (some .int) ∈ ck_T := ck_T_mk (List.mem_of_getElem? (i := 439) (by decide +kernel)) (by decide +kernel)
theorem sP_choicesOf : Cond.instanceMethod yP_choicesOf ∈ ck_T ∧ Cond.selects yP_choicesOf.cls yP_choicesOf yP_choicesOf ∈ ck_T := ⟨ck_T_mk (List.mem_of_getElem? (i := 437) (by decide +kernel)) (by decide +kernel), ck_T_mk (List.mem_of_getElem? (i := 438) (by decide +kernel)) (by decide +kernel)⟩
theorem kT_drop : Cond.code yT_drop bT_drop 1 none ∈ ck_T := ck_T_mk (List.mem_of_getElem? (i := 307) (by decide +kernel)) (by decide +kernel)
theorem sT_drop : Cond.instanceMethod yT_drop ∈ ck_T ∧ Cond.selects yT_drop.cls yT_drop yT_drop ∈ ck_T := ⟨ck_T_mk (List.mem_of_getElem? (i := 305) (by decide +kernel)) (by decide +kernel), ck_T_mk (List.mem_of_getElem? (i := 306) (by decide +kernel)) (by decide +kernel)⟩
theorem kT_isThere : Cond.code yT_isThere bT_isThere 1 (some .boolean) ∈ ck_T := ck_T_mk (List.mem_of_getElem? (i := 642) (by decide +kernel)) (by decide +kernel)
theorem sT_isThere : Cond.instanceMethod yT_isThere ∈ ck_T ∧ Cond.selects yT_isThere.cls yT_isThere yT_isThere ∈ ck_T := ⟨ck_T_mk (List.mem_of_getElem? (i := 640) (by decide +kernel)) (by decide +kernel), ck_T_mk (List.mem_of_getElem? (i := 641) (by decide +kernel)) (by decide +kernel)⟩
theorem kT_size : Cond.code yT_size bT_size 1 (some .int) ∈ ck_T := ck_T_mk (List.mem_of_getElem? (i := 634) (by decide +kernel)) (by decide +kernel)
theorem sT_size : Cond.instanceMethod yT_size ∈ ck_T ∧ Cond.selects yT_size.cls yT_size yT_size ∈ ck_T := ⟨ck_T_mk (List.mem_of_getElem? (i := 632) (by decide +kernel)) (by decide +kernel), ck_T_mk (List.mem_of_getElem? (i := 633) (by decide +kernel)) (by decide +kernel)⟩
theorem kT_caught : Cond.code yT_caught bT_caught 1 (some .int) ∈ ck_T := ck_T_mk (List.mem_of_getElem? (i := 671) (by decide +kernel)) (by decide +kernel)
theorem sT_caught : Cond.instanceMethod yT_caught ∈ ck_T ∧ Cond.selects yT_caught.cls yT_caught yT_caught ∈ ck_T := ⟨ck_T_mk (List.mem_of_getElem? (i := 669) (by decide +kernel)) (by decide +kernel), ck_T_mk (List.mem_of_getElem? (i := 670) (by decide +kernel)) (by decide +kernel)⟩
theorem kT_testsAbove : Cond.code yT_testsAbove bT_testsAbove 2 (some .int) ∈ ck_T := ck_T_mk (List.mem_of_getElem? (i := 756) (by decide +kernel)) (by decide +kernel)
theorem sT_testsAbove : Cond.instanceMethod yT_testsAbove ∈ ck_T ∧ Cond.selects yT_testsAbove.cls yT_testsAbove yT_testsAbove ∈ ck_T := ⟨ck_T_mk (List.mem_of_getElem? (i := 754) (by decide +kernel)) (by decide +kernel), ck_T_mk (List.mem_of_getElem? (i := 755) (by decide +kernel)) (by decide +kernel)⟩
theorem kT_clauseAt : Cond.code yT_clauseAt bT_clauseAt 2 (some .int) ∈ ck_T := ck_T_mk (List.mem_of_getElem? (i := 760) (by decide +kernel)) (by decide +kernel)
theorem sT_clauseAt : Cond.instanceMethod yT_clauseAt ∈ ck_T ∧ Cond.selects yT_clauseAt.cls yT_clauseAt yT_clauseAt ∈ ck_T := ⟨ck_T_mk (List.mem_of_getElem? (i := 758) (by decide +kernel)) (by decide +kernel), ck_T_mk (List.mem_of_getElem? (i := 759) (by decide +kernel)) (by decide +kernel)⟩
theorem kT_placeOf : Cond.code yT_placeOf bT_placeOf 2 (some .int) ∈ ck_T := ck_T_mk (List.mem_of_getElem? (i := 598) (by decide +kernel)) (by decide +kernel)
theorem sT_placeOf : Cond.instanceMethod yT_placeOf ∈ ck_T ∧ Cond.selects yT_placeOf.cls yT_placeOf yT_placeOf ∈ ck_T := ⟨ck_T_mk (List.mem_of_getElem? (i := 596) (by decide +kernel)) (by decide +kernel), ck_T_mk (List.mem_of_getElem? (i := 597) (by decide +kernel)) (by decide +kernel)⟩
theorem kT_typeOfTest : Cond.code yT_typeOfTest bT_typeOfTest 2 (some .int) ∈ ck_T := ck_T_mk (List.mem_of_getElem? (i := 607) (by decide +kernel)) (by decide +kernel)
theorem sT_typeOfTest : Cond.instanceMethod yT_typeOfTest ∈ ck_T ∧ Cond.selects yT_typeOfTest.cls yT_typeOfTest yT_typeOfTest ∈ ck_T := ⟨ck_T_mk (List.mem_of_getElem? (i := 605) (by decide +kernel)) (by decide +kernel), ck_T_mk (List.mem_of_getElem? (i := 606) (by decide +kernel)) (by decide +kernel)⟩
theorem kT_labelOf : Cond.code yT_labelOf bT_labelOf 2 (some .int) ∈ ck_T := ck_T_mk (List.mem_of_getElem? (i := 624) (by decide +kernel)) (by decide +kernel)
theorem sT_labelOf : Cond.instanceMethod yT_labelOf ∈ ck_T ∧ Cond.selects yT_labelOf.cls yT_labelOf yT_labelOf ∈ ck_T := ⟨ck_T_mk (List.mem_of_getElem? (i := 622) (by decide +kernel)) (by decide +kernel), ck_T_mk (List.mem_of_getElem? (i := 623) (by decide +kernel)) (by decide +kernel)⟩
theorem kT_has : Cond.code yT_has bT_has 2 (some .boolean) ∈ ck_T := ck_T_mk (List.mem_of_getElem? (i := 581) (by decide +kernel)) (by decide +kernel)
theorem sT_has : Cond.instanceMethod yT_has ∈ ck_T ∧ Cond.selects yT_has.cls yT_has yT_has ∈ ck_T := ⟨ck_T_mk (List.mem_of_getElem? (i := 580) (by decide +kernel)) (by decide +kernel), ck_T_mk (List.mem_of_getElem? (i := 12) (by decide +kernel)) (by decide +kernel)⟩
theorem kT_grow : Cond.code yT_grow bT_grow 3 (some .boolean) ∈ ck_T := ck_T_mk (List.mem_of_getElem? (i := 499) (by decide +kernel)) (by decide +kernel)
theorem sT_grow : Cond.instanceMethod yT_grow ∈ ck_T ∧ Cond.selects yT_grow.cls yT_grow yT_grow ∈ ck_T := ⟨ck_T_mk (List.mem_of_getElem? (i := 497) (by decide +kernel)) (by decide +kernel), ck_T_mk (List.mem_of_getElem? (i := 498) (by decide +kernel)) (by decide +kernel)⟩
theorem kT_addNode : Cond.code yT_addNode bT_addNode 5 (some .boolean) ∈ ck_T := ck_T_mk (List.mem_of_getElem? (i := 507) (by decide +kernel)) (by decide +kernel)
theorem sT_addNode : Cond.instanceMethod yT_addNode ∈ ck_T ∧ Cond.selects yT_addNode.cls yT_addNode yT_addNode ∈ ck_T := ⟨ck_T_mk (List.mem_of_getElem? (i := 506) (by decide +kernel)) (by decide +kernel), ck_T_mk (List.mem_of_getElem? (i := 6) (by decide +kernel)) (by decide +kernel)⟩
theorem kT_expand : Cond.code yT_expand bT_expand 3 (some .boolean) ∈ ck_T := ck_T_mk (List.mem_of_getElem? (i := 511) (by decide +kernel)) (by decide +kernel)
theorem sT_expand : Cond.instanceMethod yT_expand ∈ ck_T ∧ Cond.selects yT_expand.cls yT_expand yT_expand ∈ ck_T := ⟨ck_T_mk (List.mem_of_getElem? (i := 510) (by decide +kernel)) (by decide +kernel), ck_T_mk (List.mem_of_getElem? (i := 7) (by decide +kernel)) (by decide +kernel)⟩
theorem kT_makeLeaf : Cond.code yT_makeLeaf bT_makeLeaf 2 none ∈ ck_T := ck_T_mk (List.mem_of_getElem? (i := 525) (by decide +kernel)) (by decide +kernel)
theorem sT_makeLeaf : Cond.instanceMethod yT_makeLeaf ∈ ck_T ∧ Cond.selects yT_makeLeaf.cls yT_makeLeaf yT_makeLeaf ∈ ck_T := ⟨ck_T_mk (List.mem_of_getElem? (i := 524) (by decide +kernel)) (by decide +kernel), ck_T_mk (List.mem_of_getElem? (i := 8) (by decide +kernel)) (by decide +kernel)⟩
theorem kT_addNumbers : Cond.code yT_addNumbers bT_addNumbers 8 (some .boolean) ∈ ck_T := ck_T_mk (List.mem_of_getElem? (i := 538) (by decide +kernel)) (by decide +kernel)
theorem sT_addNumbers : Cond.instanceMethod yT_addNumbers ∈ ck_T ∧ Cond.selects yT_addNumbers.cls yT_addNumbers yT_addNumbers ∈ ck_T := ⟨ck_T_mk (List.mem_of_getElem? (i := 537) (by decide +kernel)) (by decide +kernel), ck_T_mk (List.mem_of_getElem? (i := 9) (by decide +kernel)) (by decide +kernel)⟩
theorem kT_addConstructors : Cond.code yT_addConstructors bT_addConstructors 7 (some .boolean) ∈ ck_T := ck_T_mk (List.mem_of_getElem? (i := 558) (by decide +kernel)) (by decide +kernel)
theorem sT_addConstructors : Cond.instanceMethod yT_addConstructors ∈ ck_T ∧ Cond.selects yT_addConstructors.cls yT_addConstructors yT_addConstructors ∈ ck_T := ⟨ck_T_mk (List.mem_of_getElem? (i := 557) (by decide +kernel)) (by decide +kernel), ck_T_mk (List.mem_of_getElem? (i := 10) (by decide +kernel)) (by decide +kernel)⟩
theorem kT_markFailing : Cond.code yT_markFailing bT_markFailing 3 none ∈ ck_T := ck_T_mk (List.mem_of_getElem? (i := 573) (by decide +kernel)) (by decide +kernel)
theorem sT_markFailing : Cond.instanceMethod yT_markFailing ∈ ck_T ∧ Cond.selects yT_markFailing.cls yT_markFailing yT_markFailing ∈ ck_T := ⟨ck_T_mk (List.mem_of_getElem? (i := 572) (by decide +kernel)) (by decide +kernel), ck_T_mk (List.mem_of_getElem? (i := 11) (by decide +kernel)) (by decide +kernel)⟩
theorem kT_failingBranch : Cond.code yT_failingBranch bT_failingBranch 3 (some .int) ∈ ck_T := ck_T_mk (List.mem_of_getElem? (i := 577) (by decide +kernel)) (by decide +kernel)
theorem sT_failingBranch : Cond.instanceMethod yT_failingBranch ∈ ck_T ∧ Cond.selects yT_failingBranch.cls yT_failingBranch yT_failingBranch ∈ ck_T := ⟨ck_T_mk (List.mem_of_getElem? (i := 575) (by decide +kernel)) (by decide +kernel), ck_T_mk (List.mem_of_getElem? (i := 576) (by decide +kernel)) (by decide +kernel)⟩
theorem kT_hasFailing : Cond.code yT_hasFailing bT_hasFailing 1 (some .boolean) ∈ ck_T := ck_T_mk (List.mem_of_getElem? (i := 589) (by decide +kernel)) (by decide +kernel)
theorem sT_hasFailing : Cond.instanceMethod yT_hasFailing ∈ ck_T ∧ Cond.selects yT_hasFailing.cls yT_hasFailing yT_hasFailing ∈ ck_T := ⟨ck_T_mk (List.mem_of_getElem? (i := 587) (by decide +kernel)) (by decide +kernel), ck_T_mk (List.mem_of_getElem? (i := 588) (by decide +kernel)) (by decide +kernel)⟩
theorem kT_mostTests : Cond.code yT_mostTests bT_mostTests 3 (some .int) ∈ ck_T := ck_T_mk (List.mem_of_getElem? (i := 658) (by decide +kernel)) (by decide +kernel)
theorem sT_mostTests : Cond.instanceMethod yT_mostTests ∈ ck_T ∧ Cond.selects yT_mostTests.cls yT_mostTests yT_mostTests ∈ ck_T := ⟨ck_T_mk (List.mem_of_getElem? (i := 656) (by decide +kernel)) (by decide +kernel), ck_T_mk (List.mem_of_getElem? (i := 657) (by decide +kernel)) (by decide +kernel)⟩
theorem kT_countKinds : Cond.code yT_countKinds bT_countKinds 4 (some .int) ∈ ck_T := ck_T_mk (List.mem_of_getElem? (i := 646) (by decide +kernel)) (by decide +kernel)
theorem sT_countKinds : Cond.instanceMethod yT_countKinds ∈ ck_T ∧ Cond.selects yT_countKinds.cls yT_countKinds yT_countKinds ∈ ck_T := ⟨ck_T_mk (List.mem_of_getElem? (i := 644) (by decide +kernel)) (by decide +kernel), ck_T_mk (List.mem_of_getElem? (i := 645) (by decide +kernel)) (by decide +kernel)⟩
theorem kT_alike : Cond.code yT_alike bT_alike 7 (some .boolean) ∈ ck_T := ck_T_mk (List.mem_of_getElem? (i := 650) (by decide +kernel)) (by decide +kernel)
theorem sT_alike : Cond.instanceMethod yT_alike ∈ ck_T ∧ Cond.selects yT_alike.cls yT_alike yT_alike ∈ ck_T := ⟨ck_T_mk (List.mem_of_getElem? (i := 649) (by decide +kernel)) (by decide +kernel), ck_T_mk (List.mem_of_getElem? (i := 17) (by decide +kernel)) (by decide +kernel)⟩
theorem kT_leafFor : Cond.code yT_leafFor bT_leafFor 7 (some .int) ∈ ck_T := ck_T_mk (List.mem_of_getElem? (i := 739) (by decide +kernel)) (by decide +kernel)
theorem sT_leafFor : Cond.instanceMethod yT_leafFor ∈ ck_T ∧ Cond.selects yT_leafFor.cls yT_leafFor yT_leafFor ∈ ck_T := ⟨ck_T_mk (List.mem_of_getElem? (i := 737) (by decide +kernel)) (by decide +kernel), ck_T_mk (List.mem_of_getElem? (i := 738) (by decide +kernel)) (by decide +kernel)⟩
theorem kT_branchFor : Cond.code yT_branchFor bT_branchFor 5 (some .int) ∈ ck_T := ck_T_mk (List.mem_of_getElem? (i := 620) (by decide +kernel)) (by decide +kernel)
theorem sT_branchFor : Cond.instanceMethod yT_branchFor ∈ ck_T ∧ Cond.selects yT_branchFor.cls yT_branchFor yT_branchFor ∈ ck_T := ⟨ck_T_mk (List.mem_of_getElem? (i := 619) (by decide +kernel)) (by decide +kernel), ck_T_mk (List.mem_of_getElem? (i := 15) (by decide +kernel)) (by decide +kernel)⟩
theorem kT_lastBranch : Cond.code yT_lastBranch bT_lastBranch 2 (some .int) ∈ ck_T := ck_T_mk (List.mem_of_getElem? (i := 611) (by decide +kernel)) (by decide +kernel)
theorem sT_lastBranch : Cond.instanceMethod yT_lastBranch ∈ ck_T ∧ Cond.selects yT_lastBranch.cls yT_lastBranch yT_lastBranch ∈ ck_T := ⟨ck_T_mk (List.mem_of_getElem? (i := 609) (by decide +kernel)) (by decide +kernel), ck_T_mk (List.mem_of_getElem? (i := 610) (by decide +kernel)) (by decide +kernel)⟩
theorem kT_leastWithoutBranch : Cond.code yT_leastWithoutBranch bT_leastWithoutBranch 5 (some .int) ∈ ck_T := ck_T_mk (List.mem_of_getElem? (i := 615) (by decide +kernel)) (by decide +kernel)
theorem sT_leastWithoutBranch : Cond.instanceMethod yT_leastWithoutBranch ∈ ck_T ∧ Cond.selects yT_leastWithoutBranch.cls yT_leastWithoutBranch yT_leastWithoutBranch ∈ ck_T := ⟨ck_T_mk (List.mem_of_getElem? (i := 613) (by decide +kernel)) (by decide +kernel), ck_T_mk (List.mem_of_getElem? (i := 614) (by decide +kernel)) (by decide +kernel)⟩
theorem kV_reset : Cond.code yV_reset bV_reset 1 none ∈ ck_T := ck_T_mk (List.mem_of_getElem? (i := 296) (by decide +kernel)) (by decide +kernel)
theorem sV_reset : Cond.instanceMethod yV_reset ∈ ck_T ∧ Cond.selects yV_reset.cls yV_reset yV_reset ∈ ck_T := ⟨ck_T_mk (List.mem_of_getElem? (i := 294) (by decide +kernel)) (by decide +kernel), ck_T_mk (List.mem_of_getElem? (i := 295) (by decide +kernel)) (by decide +kernel)⟩
theorem kV_has : Cond.code yV_has bV_has 2 (some .boolean) ∈ ck_T := ck_T_mk (List.mem_of_getElem? (i := 725) (by decide +kernel)) (by decide +kernel)
theorem sV_has : Cond.instanceMethod yV_has ∈ ck_T ∧ Cond.selects yV_has.cls yV_has yV_has ∈ ck_T := ⟨ck_T_mk (List.mem_of_getElem? (i := 723) (by decide +kernel)) (by decide +kernel), ck_T_mk (List.mem_of_getElem? (i := 724) (by decide +kernel)) (by decide +kernel)⟩
theorem kV_addInt : Cond.code yV_addInt bV_addInt 2 (some .int) ∈ ck_T := ck_T_mk (List.mem_of_getElem? (i := 713) (by decide +kernel)) (by decide +kernel)
theorem sV_addInt : Cond.instanceMethod yV_addInt ∈ ck_T ∧ Cond.selects yV_addInt.cls yV_addInt yV_addInt ∈ ck_T := ⟨ck_T_mk (List.mem_of_getElem? (i := 711) (by decide +kernel)) (by decide +kernel), ck_T_mk (List.mem_of_getElem? (i := 712) (by decide +kernel)) (by decide +kernel)⟩
theorem kV_addBuilt : Cond.code yV_addBuilt bV_addBuilt 6 (some .int) ∈ ck_T := ck_T_mk (List.mem_of_getElem? (i := 717) (by decide +kernel)) (by decide +kernel)
theorem sV_addBuilt : Cond.instanceMethod yV_addBuilt ∈ ck_T ∧ Cond.selects yV_addBuilt.cls yV_addBuilt yV_addBuilt ∈ ck_T := ⟨ck_T_mk (List.mem_of_getElem? (i := 715) (by decide +kernel)) (by decide +kernel), ck_T_mk (List.mem_of_getElem? (i := 716) (by decide +kernel)) (by decide +kernel)⟩
theorem kV_isOf : Cond.code yV_isOf bV_isOf 3 (some .boolean) ∈ ck_T := ck_T_mk (List.mem_of_getElem? (i := 729) (by decide +kernel)) (by decide +kernel)
theorem sV_isOf : Cond.instanceMethod yV_isOf ∈ ck_T ∧ Cond.selects yV_isOf.cls yV_isOf yV_isOf ∈ ck_T := ⟨ck_T_mk (List.mem_of_getElem? (i := 727) (by decide +kernel)) (by decide +kernel), ck_T_mk (List.mem_of_getElem? (i := 728) (by decide +kernel)) (by decide +kernel)⟩
theorem kV_symbolOf : Cond.code yV_symbolOf bV_symbolOf 2 (some .int) ∈ ck_T := ck_T_mk (List.mem_of_getElem? (i := 752) (by decide +kernel)) (by decide +kernel)
theorem sV_symbolOf : Cond.instanceMethod yV_symbolOf ∈ ck_T ∧ Cond.selects yV_symbolOf.cls yV_symbolOf yV_symbolOf ∈ ck_T := ⟨ck_T_mk (List.mem_of_getElem? (i := 750) (by decide +kernel)) (by decide +kernel), ck_T_mk (List.mem_of_getElem? (i := 751) (by decide +kernel)) (by decide +kernel)⟩
theorem kV_firstOf : Cond.code yV_firstOf bV_firstOf 2 (some .int) ∈ ck_T := ck_T_mk (List.mem_of_getElem? (i := 744) (by decide +kernel)) (by decide +kernel)
theorem sV_firstOf : Cond.instanceMethod yV_firstOf ∈ ck_T ∧ Cond.selects yV_firstOf.cls yV_firstOf yV_firstOf ∈ ck_T := ⟨ck_T_mk (List.mem_of_getElem? (i := 742) (by decide +kernel)) (by decide +kernel), ck_T_mk (List.mem_of_getElem? (i := 743) (by decide +kernel)) (by decide +kernel)⟩
theorem kV_secondOf : Cond.code yV_secondOf bV_secondOf 2 (some .int) ∈ ck_T := ck_T_mk (List.mem_of_getElem? (i := 748) (by decide +kernel)) (by decide +kernel)
theorem sV_secondOf : Cond.instanceMethod yV_secondOf ∈ ck_T ∧ Cond.selects yV_secondOf.cls yV_secondOf yV_secondOf ∈ ck_T := ⟨ck_T_mk (List.mem_of_getElem? (i := 746) (by decide +kernel)) (by decide +kernel), ck_T_mk (List.mem_of_getElem? (i := 747) (by decide +kernel)) (by decide +kernel)⟩
theorem kG_length : Cond.code yG_length bG_length 1 (some .int) ∈ ck_T := ck_T_mk (List.mem_of_getElem? (i := 684) (by decide +kernel)) (by decide +kernel)
theorem sG_length : Cond.instanceMethod yG_length ∈ ck_T ∧ Cond.selects yG_length.cls yG_length yG_length ∈ ck_T := ⟨ck_T_mk (List.mem_of_getElem? (i := 682) (by decide +kernel)) (by decide +kernel), ck_T_mk (List.mem_of_getElem? (i := 683) (by decide +kernel)) (by decide +kernel)⟩
theorem kG_has : Cond.code yG_has bG_has 2 (some .boolean) ∈ ck_T := ck_T_mk (List.mem_of_getElem? (i := 692) (by decide +kernel)) (by decide +kernel)
theorem sG_has : Cond.instanceMethod yG_has ∈ ck_T ∧ Cond.selects yG_has.cls yG_has yG_has ∈ ck_T := ⟨ck_T_mk (List.mem_of_getElem? (i := 690) (by decide +kernel)) (by decide +kernel), ck_T_mk (List.mem_of_getElem? (i := 691) (by decide +kernel)) (by decide +kernel)⟩
theorem kG_kindOf : Cond.code yG_kindOf bG_kindOf 2 (some .int) ∈ ck_T := ck_T_mk (List.mem_of_getElem? (i := 696) (by decide +kernel)) (by decide +kernel)
theorem sG_kindOf : Cond.instanceMethod yG_kindOf ∈ ck_T ∧ Cond.selects yG_kindOf.cls yG_kindOf yG_kindOf ∈ ck_T := ⟨ck_T_mk (List.mem_of_getElem? (i := 694) (by decide +kernel)) (by decide +kernel), ck_T_mk (List.mem_of_getElem? (i := 695) (by decide +kernel)) (by decide +kernel)⟩
theorem kG_symbolOf : Cond.code yG_symbolOf bG_symbolOf 2 (some .int) ∈ ck_T := ck_T_mk (List.mem_of_getElem? (i := 705) (by decide +kernel)) (by decide +kernel)
theorem sG_symbolOf : Cond.instanceMethod yG_symbolOf ∈ ck_T ∧ Cond.selects yG_symbolOf.cls yG_symbolOf yG_symbolOf ∈ ck_T := ⟨ck_T_mk (List.mem_of_getElem? (i := 703) (by decide +kernel)) (by decide +kernel), ck_T_mk (List.mem_of_getElem? (i := 704) (by decide +kernel)) (by decide +kernel)⟩
theorem kG_readFromTree : Cond.code yG_readFromTree bG_readFromTree 1 none ∈ ck_T := ck_T_mk (List.mem_of_getElem? (i := 585) (by decide +kernel)) (by decide +kernel)
theorem sG_readFromTree : Cond.instanceMethod yG_readFromTree ∈ ck_T ∧ Cond.selects yG_readFromTree.cls yG_readFromTree yG_readFromTree ∈ ck_T := ⟨ck_T_mk (List.mem_of_getElem? (i := 583) (by decide +kernel)) (by decide +kernel), ck_T_mk (List.mem_of_getElem? (i := 584) (by decide +kernel)) (by decide +kernel)⟩
theorem kG_followWayToFail : Cond.code yG_followWayToFail bG_followWayToFail 4 none ∈ ck_T := ck_T_mk (List.mem_of_getElem? (i := 594) (by decide +kernel)) (by decide +kernel)
theorem sG_followWayToFail : Cond.instanceMethod yG_followWayToFail ∈ ck_T ∧ Cond.selects yG_followWayToFail.cls yG_followWayToFail yG_followWayToFail ∈ ck_T := ⟨ck_T_mk (List.mem_of_getElem? (i := 593) (by decide +kernel)) (by decide +kernel), ck_T_mk (List.mem_of_getElem? (i := 13) (by decide +kernel)) (by decide +kernel)⟩
theorem kG_noteBranch : Cond.code yG_noteBranch bG_noteBranch 6 none ∈ ck_T := ck_T_mk (List.mem_of_getElem? (i := 603) (by decide +kernel)) (by decide +kernel)
theorem sG_noteBranch : Cond.instanceMethod yG_noteBranch ∈ ck_T ∧ Cond.selects yG_noteBranch.cls yG_noteBranch yG_noteBranch ∈ ck_T := ⟨ck_T_mk (List.mem_of_getElem? (i := 602) (by decide +kernel)) (by decide +kernel), ck_T_mk (List.mem_of_getElem? (i := 14) (by decide +kernel)) (by decide +kernel)⟩
theorem kG_write : Cond.code yG_write bG_write 2 none ∈ ck_T := ck_T_mk (List.mem_of_getElem? (i := 628) (by decide +kernel)) (by decide +kernel)
theorem sG_write : Cond.instanceMethod yG_write ∈ ck_T ∧ Cond.selects yG_write.cls yG_write yG_write ∈ ck_T := ⟨ck_T_mk (List.mem_of_getElem? (i := 627) (by decide +kernel)) (by decide +kernel), ck_T_mk (List.mem_of_getElem? (i := 16) (by decide +kernel)) (by decide +kernel)⟩
theorem kI_bitCount : Cond.code yI_bitCount bI_bitCount 1 (some .int) ∈ ck_T := ck_T_mk (List.mem_of_getElem? (i := 518) (by decide +kernel)) (by decide +kernel)
theorem sI_bitCount : Cond.static yI_bitCount ∈ ck_T := ck_T_mk (List.mem_of_getElem? (i := 517) (by decide +kernel)) (by decide +kernel)
theorem kJ_max : Cond.code yJ_max bJ_max 2 (some .int) ∈ ck_T := ck_T_mk (List.mem_of_getElem? (i := 435) (by decide +kernel)) (by decide +kernel)
theorem sJ_max : Cond.static yJ_max ∈ ck_T := ck_T_mk (List.mem_of_getElem? (i := 434) (by decide +kernel)) (by decide +kernel)
theorem kA_fill : Cond.code yA_fill bA_fill 4 none ∈ ck_T := ck_T_mk (List.mem_of_getElem? (i := 303) (by decide +kernel)) (by decide +kernel)
theorem sA_fill : Cond.static yA_fill ∈ ck_T := ck_T_mk (List.mem_of_getElem? (i := 302) (by decide +kernel)) (by decide +kernel)
theorem ini_C : Cond.initialized R_C ∈ ck_T := ck_T_mk (List.mem_of_getElem? (i := 43) (by decide +kernel)) (by decide +kernel)
theorem ini_D : Cond.initialized R_D ∈ ck_T := ck_T_mk (List.mem_of_getElem? (i := 44) (by decide +kernel)) (by decide +kernel)
theorem ini_P : Cond.initialized R_P ∈ ck_T := ck_T_mk (List.mem_of_getElem? (i := 45) (by decide +kernel)) (by decide +kernel)
theorem ini_V : Cond.initialized R_V ∈ ck_T := ck_T_mk (List.mem_of_getElem? (i := 46) (by decide +kernel)) (by decide +kernel)
theorem ini_M : Cond.initialized R_M ∈ ck_T := ck_T_mk (List.mem_of_getElem? (i := 47) (by decide +kernel)) (by decide +kernel)
theorem ini_T : Cond.initialized R_T ∈ ck_T := ck_T_mk (List.mem_of_getElem? (i := 48) (by decide +kernel)) (by decide +kernel)
theorem ini_G : Cond.initialized R_G ∈ ck_T := ck_T_mk (List.mem_of_getElem? (i := 49) (by decide +kernel)) (by decide +kernel)
theorem ini_R : Cond.initialized R_R ∈ ck_T := ck_T_mk (List.mem_of_getElem? (i := 50) (by decide +kernel)) (by decide +kernel)
theorem ini_I : Cond.initialized R_I ∈ ck_T := ck_T_mk (List.mem_of_getElem? (i := 53) (by decide +kernel)) (by decide +kernel)
theorem ini_J : Cond.initialized R_J ∈ ck_T := ck_T_mk (List.mem_of_getElem? (i := 52) (by decide +kernel)) (by decide +kernel)
theorem ini_A : Cond.initialized R_A ∈ ck_T := ck_T_mk (List.mem_of_getElem? (i := 51) (by decide +kernel)) (by decide +kernel)
theorem q_C : ∃ (ci N : Nat) (T0 : u_T) (fs : List (Option Nat)), sh_C[0]? = some (.inl (ci, fs)) ∧ cm_cl[ci]? = some (R_C, T0, N) := ⟨_, _, _, _, rfl, rfl⟩
theorem q_D : ∃ (ci N : Nat) (T0 : u_T) (fs : List (Option Nat)), sh_C[1]? = some (.inl (ci, fs)) ∧ cm_cl[ci]? = some (R_D, T0, N) := ⟨_, _, _, _, rfl, rfl⟩
theorem q_P : ∃ (ci N : Nat) (T0 : u_T) (fs : List (Option Nat)), sh_C[2]? = some (.inl (ci, fs)) ∧ cm_cl[ci]? = some (R_P, T0, N) := ⟨_, _, _, _, rfl, rfl⟩
theorem q_V : ∃ (ci N : Nat) (T0 : u_T) (fs : List (Option Nat)), sh_C[3]? = some (.inl (ci, fs)) ∧ cm_cl[ci]? = some (R_V, T0, N) := ⟨_, _, _, _, rfl, rfl⟩
theorem q_M : ∃ (ci N : Nat) (T0 : u_T) (fs : List (Option Nat)), sh_C[4]? = some (.inl (ci, fs)) ∧ cm_cl[ci]? = some (R_M, T0, N) := ⟨_, _, _, _, rfl, rfl⟩
theorem q_T : ∃ (ci N : Nat) (T0 : u_T) (fs : List (Option Nat)), sh_C[5]? = some (.inl (ci, fs)) ∧ cm_cl[ci]? = some (R_T, T0, N) := ⟨_, _, _, _, rfl, rfl⟩
theorem q_G : ∃ (ci N : Nat) (T0 : u_T) (fs : List (Option Nat)), sh_C[6]? = some (.inl (ci, fs)) ∧ cm_cl[ci]? = some (R_G, T0, N) := ⟨_, _, _, _, rfl, rfl⟩
theorem q_R : ∃ (ci N : Nat) (T0 : u_T) (fs : List (Option Nat)), sh_R[0]? = some (.inl (ci, fs)) ∧ cm_cl[ci]? = some (R_R, T0, N) := ⟨_, _, _, _, rfl, rfl⟩
theorem CC_D_reset : ck_C R_C 61 yD_reset bD_reset 1 none 0 := ⟨kD_reset, ck_T_mk (List.mem_of_getElem? (i := 285) (by decide +kernel)) (by decide +kernel), ini_D, by decide +kernel, by decide⟩
theorem CC_P_reset : ck_C R_C 64 yP_reset bP_reset 1 none 0 := ⟨kP_reset, ck_T_mk (List.mem_of_getElem? (i := 289) (by decide +kernel)) (by decide +kernel), ini_P, by decide +kernel, by decide⟩
theorem CC_V_reset : ck_C R_C 65 yV_reset bV_reset 1 none 0 := ⟨kV_reset, ck_T_mk (List.mem_of_getElem? (i := 293) (by decide +kernel)) (by decide +kernel), ini_V, by decide +kernel, by decide⟩
theorem CC_M_reset : ck_C R_C 66 yM_reset bM_reset 1 none 0 := ⟨kM_reset, ck_T_mk (List.mem_of_getElem? (i := 297) (by decide +kernel)) (by decide +kernel), ini_M, by decide +kernel, by decide⟩
theorem CC_T_drop : ck_C R_C 67 yT_drop bT_drop 1 none 0 := ⟨kT_drop, ck_T_mk (List.mem_of_getElem? (i := 304) (by decide +kernel)) (by decide +kernel), ini_T, by decide +kernel, by decide⟩
theorem CC_M_isBegun : ck_C R_C 70 yM_isBegun bM_isBegun 1 (some .boolean) 0 := ⟨kM_isBegun, ck_T_mk (List.mem_of_getElem? (i := 312) (by decide +kernel)) (by decide +kernel), ini_M, by decide +kernel, by decide⟩
theorem CC_D_addType : ck_C R_C 74 yD_addType bD_addType 1 (some .int) 0 := ⟨kD_addType, ck_T_mk (List.mem_of_getElem? (i := 316) (by decide +kernel)) (by decide +kernel), ini_D, by decide +kernel, by decide⟩
theorem CC_D_isOwnType : ck_C R_C 78 yD_isOwnType bD_isOwnType 2 (some .boolean) 1 := ⟨kD_isOwnType, ck_T_mk (List.mem_of_getElem? (i := 324) (by decide +kernel)) (by decide +kernel), ini_D, by decide +kernel, by decide⟩
theorem CC_D_canBeArguments : ck_C R_C 82 yD_canBeArguments bD_canBeArguments 3 (some .boolean) 2 := ⟨kD_canBeArguments, ck_T_mk (List.mem_of_getElem? (i := 328) (by decide +kernel)) (by decide +kernel), ini_D, by decide +kernel, by decide⟩
theorem CC_D_addConstructor : ck_C R_C 86 yD_addConstructor bD_addConstructor 5 (some .int) 3 := ⟨kD_addConstructor, ck_T_mk (List.mem_of_getElem? (i := 336) (by decide +kernel)) (by decide +kernel), ini_D, by decide +kernel, by decide⟩
theorem CC_D_isType : ck_C R_C 90 yD_isType bD_isType 2 (some .boolean) 1 := ⟨kD_isType, ck_T_mk (List.mem_of_getElem? (i := 348) (by decide +kernel)) (by decide +kernel), ini_D, by decide +kernel, by decide⟩
theorem CC_D_everyTypeHasValues : ck_C R_C 93 yD_everyTypeHasValues bD_everyTypeHasValues 3 (some .boolean) 0 := ⟨kD_everyTypeHasValues, ck_T_mk (List.mem_of_getElem? (i := 349) (by decide +kernel)) (by decide +kernel), ini_D, by decide +kernel, by decide⟩
theorem CC_M_beginOver : ck_C R_C 96 yM_beginOver bM_beginOver 2 none 1 := ⟨kM_beginOver, ck_T_mk (List.mem_of_getElem? (i := 360) (by decide +kernel)) (by decide +kernel), ini_M, by decide +kernel, by decide⟩
theorem CC_P_addAny : ck_C R_C 100 yP_addAny bP_addAny 1 (some .int) 0 := ⟨kP_addAny, ck_T_mk (List.mem_of_getElem? (i := 368) (by decide +kernel)) (by decide +kernel), ini_P, by decide +kernel, by decide⟩
theorem CC_P_addNumber : ck_C R_C 103 yP_addNumber bP_addNumber 2 (some .int) 1 := ⟨kP_addNumber, ck_T_mk (List.mem_of_getElem? (i := 388) (by decide +kernel)) (by decide +kernel), ini_P, by decide +kernel, by decide⟩
theorem CC_D_isConstructor : ck_C R_C 107 yD_isConstructor bD_isConstructor 2 (some .boolean) 1 := ⟨kD_isConstructor, ck_T_mk (List.mem_of_getElem? (i := 396) (by decide +kernel)) (by decide +kernel), ini_D, by decide +kernel, by decide⟩
theorem CC_D_firstTypeOf : ck_C R_C 110 yD_firstTypeOf bD_firstTypeOf 2 (some .int) 1 := ⟨kD_firstTypeOf, ck_T_mk (List.mem_of_getElem? (i := 400) (by decide +kernel)) (by decide +kernel), ini_D, by decide +kernel, by decide⟩
theorem CC_D_secondTypeOf : ck_C R_C 113 yD_secondTypeOf bD_secondTypeOf 2 (some .int) 1 := ⟨kD_secondTypeOf, ck_T_mk (List.mem_of_getElem? (i := 405) (by decide +kernel)) (by decide +kernel), ini_D, by decide +kernel, by decide⟩
theorem CC_P_has : ck_C R_C 116 yP_has bP_has 2 (some .boolean) 1 := ⟨kP_has, ck_T_mk (List.mem_of_getElem? (i := 409) (by decide +kernel)) (by decide +kernel), ini_P, by decide +kernel, by decide⟩
theorem CC_C_standsFor : ck_C R_C 119 yC_standsFor bC_standsFor 3 (some .boolean) 3 := ⟨kC_standsFor, ck_T_mk (List.mem_of_getElem? (i := 410) (by decide +kernel)) (by decide +kernel), ini_C, by decide +kernel, by decide⟩
theorem CC_P_fits : ck_C R_C 123 yP_fits bP_fits 3 (some .boolean) 2 := ⟨kP_fits, ck_T_mk (List.mem_of_getElem? (i := 413) (by decide +kernel)) (by decide +kernel), ini_P, by decide +kernel, by decide⟩
theorem CC_D_ownerOf : ck_C R_C 126 yD_ownerOf bD_ownerOf 2 (some .int) 1 := ⟨kD_ownerOf, ck_T_mk (List.mem_of_getElem? (i := 421) (by decide +kernel)) (by decide +kernel), ini_D, by decide +kernel, by decide⟩
theorem CC_P_addBuild : ck_C R_C 129 yP_addBuild bP_addBuild 7 (some .int) 4 := ⟨kP_addBuild, ck_T_mk (List.mem_of_getElem? (i := 425) (by decide +kernel)) (by decide +kernel), ini_P, by decide +kernel, by decide⟩
theorem CC_P_agree : ck_C R_C 133 yP_agree bP_agree 3 (some .boolean) 2 := ⟨kP_agree, ck_T_mk (List.mem_of_getElem? (i := 444) (by decide +kernel)) (by decide +kernel), ini_P, by decide +kernel, by decide⟩
theorem CC_P_addEither : ck_C R_C 136 yP_addEither bP_addEither 6 (some .int) 2 := ⟨kP_addEither, ck_T_mk (List.mem_of_getElem? (i := 449) (by decide +kernel)) (by decide +kernel), ini_P, by decide +kernel, by decide⟩
theorem CC_M_typeOver : ck_C R_C 140 yM_typeOver bM_typeOver 1 (some .int) 0 := ⟨kM_typeOver, ck_T_mk (List.mem_of_getElem? (i := 457) (by decide +kernel)) (by decide +kernel), ini_M, by decide +kernel, by decide⟩
theorem CC_M_addRow : ck_C R_C 143 yM_addRow bM_addRow 5 (some .int) 1 := ⟨kM_addRow, ck_T_mk (List.mem_of_getElem? (i := 461) (by decide +kernel)) (by decide +kernel), ini_M, by decide +kernel, by decide⟩
theorem CC_T_grow : ck_C R_C 146 yT_grow bT_grow 3 (some .boolean) 0 := ⟨kT_grow, ck_T_mk (List.mem_of_getElem? (i := 496) (by decide +kernel)) (by decide +kernel), ini_T, by decide +kernel, by decide⟩
theorem CC_G_readFromTree : ck_C R_C 149 yG_readFromTree bG_readFromTree 1 none 0 := ⟨kG_readFromTree, ck_T_mk (List.mem_of_getElem? (i := 582) (by decide +kernel)) (by decide +kernel), ini_G, by decide +kernel, by decide⟩
theorem CC_T_size : ck_C R_C 152 yT_size bT_size 1 (some .int) 0 := ⟨kT_size, ck_T_mk (List.mem_of_getElem? (i := 631) (by decide +kernel)) (by decide +kernel), ini_T, by decide +kernel, by decide⟩
theorem CC_T_isThere : ck_C R_C 155 yT_isThere bT_isThere 1 (some .boolean) 0 := ⟨kT_isThere, ck_T_mk (List.mem_of_getElem? (i := 639) (by decide +kernel)) (by decide +kernel), ini_T, by decide +kernel, by decide⟩
theorem CC_T_countKinds : ck_C R_C 158 yT_countKinds bT_countKinds 4 (some .int) 0 := ⟨kT_countKinds, ck_T_mk (List.mem_of_getElem? (i := 643) (by decide +kernel)) (by decide +kernel), ini_T, by decide +kernel, by decide⟩
theorem CC_T_mostTests : ck_C R_C 161 yT_mostTests bT_mostTests 3 (some .int) 0 := ⟨kT_mostTests, ck_T_mk (List.mem_of_getElem? (i := 655) (by decide +kernel)) (by decide +kernel), ini_T, by decide +kernel, by decide⟩
theorem CC_M_hasRow : ck_C R_C 164 yM_hasRow bM_hasRow 2 (some .boolean) 1 := ⟨kM_hasRow, ck_T_mk (List.mem_of_getElem? (i := 664) (by decide +kernel)) (by decide +kernel), ini_M, by decide +kernel, by decide⟩
theorem CC_T_caught : ck_C R_C 167 yT_caught bT_caught 1 (some .int) 0 := ⟨kT_caught, ck_T_mk (List.mem_of_getElem? (i := 668) (by decide +kernel)) (by decide +kernel), ini_T, by decide +kernel, by decide⟩
theorem CC_M_alternativesOutside : ck_C R_C 170 yM_alternativesOutside bM_alternativesOutside 4 (some .int) 2 := ⟨kM_alternativesOutside, ck_T_mk (List.mem_of_getElem? (i := 672) (by decide +kernel)) (by decide +kernel), ini_M, by decide +kernel, by decide⟩
theorem CC_G_length : ck_C R_C 173 yG_length bG_length 1 (some .int) 0 := ⟨kG_length, ck_T_mk (List.mem_of_getElem? (i := 681) (by decide +kernel)) (by decide +kernel), ini_G, by decide +kernel, by decide⟩
theorem CC_G_has : ck_C R_C 176 yG_has bG_has 2 (some .boolean) 1 := ⟨kG_has, ck_T_mk (List.mem_of_getElem? (i := 689) (by decide +kernel)) (by decide +kernel), ini_G, by decide +kernel, by decide⟩
theorem CC_G_kindOf : ck_C R_C 177 yG_kindOf bG_kindOf 2 (some .int) 1 := ⟨kG_kindOf, ck_T_mk (List.mem_of_getElem? (i := 693) (by decide +kernel)) (by decide +kernel), ini_G, by decide +kernel, by decide⟩
theorem CC_G_symbolOf : ck_C R_C 180 yG_symbolOf bG_symbolOf 2 (some .int) 1 := ⟨kG_symbolOf, ck_T_mk (List.mem_of_getElem? (i := 702) (by decide +kernel)) (by decide +kernel), ini_G, by decide +kernel, by decide⟩
theorem CC_V_addInt : ck_C R_C 183 yV_addInt bV_addInt 2 (some .int) 1 := ⟨kV_addInt, ck_T_mk (List.mem_of_getElem? (i := 710) (by decide +kernel)) (by decide +kernel), ini_V, by decide +kernel, by decide⟩
theorem CC_V_has : ck_C R_C 186 yV_has bV_has 2 (some .boolean) 1 := ⟨kV_has, ck_T_mk (List.mem_of_getElem? (i := 722) (by decide +kernel)) (by decide +kernel), ini_V, by decide +kernel, by decide⟩
theorem CC_V_isOf : ck_C R_C 187 yV_isOf bV_isOf 3 (some .boolean) 2 := ⟨kV_isOf, ck_T_mk (List.mem_of_getElem? (i := 726) (by decide +kernel)) (by decide +kernel), ini_V, by decide +kernel, by decide⟩
theorem CC_V_addBuilt : ck_C R_C 190 yV_addBuilt bV_addBuilt 6 (some .int) 4 := ⟨kV_addBuilt, ck_T_mk (List.mem_of_getElem? (i := 731) (by decide +kernel)) (by decide +kernel), ini_V, by decide +kernel, by decide⟩
theorem CC_T_leafFor : ck_C R_C 193 yT_leafFor bT_leafFor 7 (some .int) 2 := ⟨kT_leafFor, ck_T_mk (List.mem_of_getElem? (i := 736) (by decide +kernel)) (by decide +kernel), ini_T, by decide +kernel, by decide⟩
theorem CC_T_testsAbove : ck_C R_C 197 yT_testsAbove bT_testsAbove 2 (some .int) 1 := ⟨kT_testsAbove, ck_T_mk (List.mem_of_getElem? (i := 753) (by decide +kernel)) (by decide +kernel), ini_T, by decide +kernel, by decide⟩
theorem CC_T_clauseAt : ck_C R_C 200 yT_clauseAt bT_clauseAt 2 (some .int) 1 := ⟨kT_clauseAt, ck_T_mk (List.mem_of_getElem? (i := 757) (by decide +kernel)) (by decide +kernel), ini_T, by decide +kernel, by decide⟩
theorem CC_M_rowOf : ck_C R_C 203 yM_rowOf bM_rowOf 2 (some .int) 1 := ⟨kM_rowOf, ck_T_mk (List.mem_of_getElem? (i := 761) (by decide +kernel)) (by decide +kernel), ini_M, by decide +kernel, by decide⟩
theorem CR_R_isType : ck_C R_R 145 yR_isType bR_isType 2 (some .boolean) 1 := ⟨kR_isType, ck_T_mk (List.mem_of_getElem? (i := 929) (by decide +kernel)) (by decide +kernel), ini_R, by decide +kernel, by decide⟩
theorem CR_R_constructorsOf : ck_C R_R 149 yR_constructorsOf bR_constructorsOf 4 (some .int) 1 := ⟨kR_constructorsOf, ck_T_mk (List.mem_of_getElem? (i := 933) (by decide +kernel)) (by decide +kernel), ini_R, by decide +kernel, by decide⟩
theorem CR_R_inhabited : ck_C R_R 153 yR_inhabited bR_inhabited 6 (some .boolean) 0 := ⟨kR_inhabited, ck_T_mk (List.mem_of_getElem? (i := 941) (by decide +kernel)) (by decide +kernel), ini_R, by decide +kernel, by decide⟩
theorem CR_R_pattern : ck_C R_R 157 yR_pattern bR_pattern 8 (some .int) 7 := ⟨kR_pattern, ck_T_mk (List.mem_of_getElem? (i := 949) (by decide +kernel)) (by decide +kernel), ini_R, by decide +kernel, by decide⟩
theorem CR_R_isPattern : ck_C R_R 161 yR_isPattern bR_isPattern 2 (some .boolean) 1 := ⟨kR_isPattern, ck_T_mk (List.mem_of_getElem? (i := 961) (by decide +kernel)) (by decide +kernel), ini_R, by decide +kernel, by decide⟩
theorem CR_R_fitsType : ck_C R_R 164 yR_fitsType bR_fitsType 3 (some .boolean) 2 := ⟨kR_fitsType, ck_T_mk (List.mem_of_getElem? (i := 965) (by decide +kernel)) (by decide +kernel), ini_R, by decide +kernel, by decide⟩
theorem CR_R_writeOut : ck_C R_R 168 yR_writeOut bR_writeOut 5 none 3 := ⟨kR_writeOut, ck_T_mk (List.mem_of_getElem? (i := 977) (by decide +kernel)) (by decide +kernel), ini_R, by decide +kernel, by decide⟩
theorem CR_R_writeOne : ck_C R_R 172 yR_writeOne bR_writeOne 7 (some .int) 2 := ⟨kR_writeOne, ck_T_mk (List.mem_of_getElem? (i := 981) (by decide +kernel)) (by decide +kernel), ini_R, by decide +kernel, by decide⟩
theorem CR_R_lowest : ck_C R_R 176 yR_lowest bR_lowest 2 (some .int) 1 := ⟨kR_lowest, ck_T_mk (List.mem_of_getElem? (i := 997) (by decide +kernel)) (by decide +kernel), ini_R, by decide +kernel, by decide⟩
theorem CR_R_askers : ck_C R_R 179 yR_askers bR_askers 5 (some .int) 2 := ⟨kR_askers, ck_T_mk (List.mem_of_getElem? (i := 1000) (by decide +kernel)) (by decide +kernel), ini_R, by decide +kernel, by decide⟩
theorem CR_R_keep : ck_C R_R 188 yR_keep bR_keep 8 (some .int) 4 := ⟨kR_keep, ck_T_mk (List.mem_of_getElem? (i := 1014) (by decide +kernel)) (by decide +kernel), ini_R, by decide +kernel, by decide⟩
theorem CR_R_choose : ck_C R_R 192 yR_choose bR_choose 7 (some .int) 2 := ⟨kR_choose, ck_T_mk (List.mem_of_getElem? (i := 993) (by decide +kernel)) (by decide +kernel), ini_R, by decide +kernel, by decide⟩
theorem CR_R_growNumbers : ck_C R_R 195 yR_growNumbers bR_growNumbers 11 none 3 := ⟨kR_growNumbers, ck_T_mk (List.mem_of_getElem? (i := 1004) (by decide +kernel)) (by decide +kernel), ini_R, by decide +kernel, by decide⟩
theorem CR_R_branch : ck_C R_R 198 yR_branch bR_branch 5 none 4 := ⟨kR_branch, ck_T_mk (List.mem_of_getElem? (i := 1010) (by decide +kernel)) (by decide +kernel), ini_R, by decide +kernel, by decide⟩
theorem CR_R_grow : ck_C R_R 206 yR_grow bR_grow 7 none 1 := ⟨kR_grow, ck_T_mk (List.mem_of_getElem? (i := 989) (by decide +kernel)) (by decide +kernel), ini_R, by decide +kernel, by decide⟩
theorem CR_R_findWitness : ck_C R_R 210 yR_findWitness bR_findWitness 4 none 0 := ⟨kR_findWitness, ck_T_mk (List.mem_of_getElem? (i := 1018) (by decide +kernel)) (by decide +kernel), ini_R, by decide +kernel, by decide⟩
theorem CR_R_alike : ck_C R_R 213 yR_alike bR_alike 6 (some .boolean) 2 := ⟨kR_alike, ck_T_mk (List.mem_of_getElem? (i := 1034) (by decide +kernel)) (by decide +kernel), ini_R, by decide +kernel, by decide⟩
theorem CR_R_hasBranch : ck_C R_R 219 yR_hasBranch bR_hasBranch 5 (some .boolean) 2 := ⟨kR_hasBranch, ck_T_mk (List.mem_of_getElem? (i := 1022) (by decide +kernel)) (by decide +kernel), ini_R, by decide +kernel, by decide⟩
theorem CR_R_writeWitness : ck_C R_R 222 yR_writeWitness bR_writeWitness 5 none 0 := ⟨kR_writeWitness, ck_T_mk (List.mem_of_getElem? (i := 1026) (by decide +kernel)) (by decide +kernel), ini_R, by decide +kernel, by decide⟩
theorem CR_R_value : ck_C R_R 225 yR_value bR_value 5 (some .int) 4 := ⟨kR_value, ck_T_mk (List.mem_of_getElem? (i := 1062) (by decide +kernel)) (by decide +kernel), ini_R, by decide +kernel, by decide⟩
theorem CR_R_isValue : ck_C R_R 229 yR_isValue bR_isValue 2 (some .boolean) 1 := ⟨kR_isValue, ck_T_mk (List.mem_of_getElem? (i := 1070) (by decide +kernel)) (by decide +kernel), ini_R, by decide +kernel, by decide⟩
theorem CR_R_typeOf : ck_C R_R 232 yR_typeOf bR_typeOf 2 (some .int) 1 := ⟨kR_typeOf, ck_T_mk (List.mem_of_getElem? (i := 1074) (by decide +kernel)) (by decide +kernel), ini_R, by decide +kernel, by decide⟩
theorem CR_R_part : ck_C R_R 235 yR_part bR_part 6 (some .int) 2 := ⟨kR_part, ck_T_mk (List.mem_of_getElem? (i := 1086) (by decide +kernel)) (by decide +kernel), ini_R, by decide +kernel, by decide⟩
theorem CR_R_walk : ck_C R_R 238 yR_walk bR_walk 6 (some .int) 1 := ⟨kR_walk, ck_T_mk (List.mem_of_getElem? (i := 1082) (by decide +kernel)) (by decide +kernel), ini_R, by decide +kernel, by decide⟩
theorem CR_R_fits : ck_C R_R 241 yR_fits bR_fits 5 (some .boolean) 2 := ⟨kR_fits, ck_T_mk (List.mem_of_getElem? (i := 1090) (by decide +kernel)) (by decide +kernel), ini_R, by decide +kernel, by decide⟩
theorem CD_D_countOfType : ck_C R_D 28 yD_countOfType bD_countOfType 4 (some .int) 1 := ⟨kD_countOfType, ck_T_mk (List.mem_of_getElem? (i := 340) (by decide +kernel)) (by decide +kernel), ini_D, by decide +kernel, by decide⟩
theorem CD_D_isType : ck_C R_D 32 yD_isType bD_isType 2 (some .boolean) 1 := ⟨kD_isType, ck_T_mk (List.mem_of_getElem? (i := 332) (by decide +kernel)) (by decide +kernel), ini_D, by decide +kernel, by decide⟩
theorem CD_D_isConstructor : ck_C R_D 36 yD_isConstructor bD_isConstructor 2 (some .boolean) 1 := ⟨kD_isConstructor, ck_T_mk (List.mem_of_getElem? (i := 404) (by decide +kernel)) (by decide +kernel), ini_D, by decide +kernel, by decide⟩
theorem CD_D_firstTypeOf : ck_C R_D 39 yD_firstTypeOf bD_firstTypeOf 2 (some .int) 1 := ⟨kD_firstTypeOf, ck_T_mk (List.mem_of_getElem? (i := 568) (by decide +kernel)) (by decide +kernel), ini_D, by decide +kernel, by decide⟩
theorem CD_D_secondTypeOf : ck_C R_D 42 yD_secondTypeOf bD_secondTypeOf 2 (some .int) 1 := ⟨kD_secondTypeOf, ck_T_mk (List.mem_of_getElem? (i := 569) (by decide +kernel)) (by decide +kernel), ini_D, by decide +kernel, by decide⟩
theorem CD_D_withTypesBuiltFrom : ck_C R_D 45 yD_withTypesBuiltFrom bD_withTypesBuiltFrom 4 (some .int) 1 := ⟨kD_withTypesBuiltFrom, ck_T_mk (List.mem_of_getElem? (i := 353) (by decide +kernel)) (by decide +kernel), ini_D, by decide +kernel, by decide⟩
theorem CD_D_canBeGiven : ck_C R_D 48 yD_canBeGiven bD_canBeGiven 2 (some .boolean) 2 := ⟨kD_canBeGiven, ck_T_mk (List.mem_of_getElem? (i := 357) (by decide +kernel)) (by decide +kernel), ini_D, by decide +kernel, by decide⟩
theorem CM_A_fill : ck_C R_M 41 yA_fill bA_fill 4 none 2 := ⟨kA_fill, ck_T_mk (List.mem_of_getElem? (i := 301) (by decide +kernel)) (by decide +kernel), ini_A, by decide +kernel, by decide⟩
theorem CM_P_choicesOf : ck_C R_M 47 yP_choicesOf bP_choicesOf 2 (some .int) 1 := ⟨kP_choicesOf, ck_T_mk (List.mem_of_getElem? (i := 465) (by decide +kernel)) (by decide +kernel), ini_P, by decide +kernel, by decide⟩
theorem CM_M_layOut : ck_C R_M 53 yM_layOut bM_layOut 10 none 4 := ⟨kM_layOut, ck_T_mk (List.mem_of_getElem? (i := 466) (by decide +kernel)) (by decide +kernel), ini_M, by decide +kernel, by decide⟩
theorem CM_P_isEither : ck_C R_M 57 yP_isEither bP_isEither 2 (some .boolean) 1 := ⟨kP_isEither, ck_T_mk (List.mem_of_getElem? (i := 470) (by decide +kernel)) (by decide +kernel), ini_P, by decide +kernel, by decide⟩
theorem CM_P_firstOf : ck_C R_M 61 yP_firstOf bP_firstOf 2 (some .int) 1 := ⟨kP_firstOf, ck_T_mk (List.mem_of_getElem? (i := 474) (by decide +kernel)) (by decide +kernel), ini_P, by decide +kernel, by decide⟩
theorem CM_P_secondOf : ck_C R_M 64 yP_secondOf bP_secondOf 2 (some .int) 1 := ⟨kP_secondOf, ck_T_mk (List.mem_of_getElem? (i := 478) (by decide +kernel)) (by decide +kernel), ini_P, by decide +kernel, by decide⟩
theorem CM_P_has : ck_C R_M 67 yP_has bP_has 2 (some .boolean) 1 := ⟨kP_has, ck_T_mk (List.mem_of_getElem? (i := 482) (by decide +kernel)) (by decide +kernel), ini_P, by decide +kernel, by decide⟩
theorem CM_P_isOpen : ck_C R_M 70 yP_isOpen bP_isOpen 2 (some .boolean) 1 := ⟨kP_isOpen, ck_T_mk (List.mem_of_getElem? (i := 483) (by decide +kernel)) (by decide +kernel), ini_P, by decide +kernel, by decide⟩
theorem CM_P_symbolOf : ck_C R_M 73 yP_symbolOf bP_symbolOf 2 (some .int) 1 := ⟨kP_symbolOf, ck_T_mk (List.mem_of_getElem? (i := 484) (by decide +kernel)) (by decide +kernel), ini_P, by decide +kernel, by decide⟩
theorem CM_P_itsType : ck_C R_M 76 yP_itsType bP_itsType 2 (some .int) 1 := ⟨kP_itsType, ck_T_mk (List.mem_of_getElem? (i := 488) (by decide +kernel)) (by decide +kernel), ini_P, by decide +kernel, by decide⟩
theorem CM_I_bitCount : ck_C R_M 79 yI_bitCount bI_bitCount 1 (some .int) 1 := ⟨kI_bitCount, ck_T_mk (List.mem_of_getElem? (i := 516) (by decide +kernel)) (by decide +kernel), ini_I, by decide +kernel, by decide⟩
theorem CM_M_firstOf : ck_C R_M 84 yM_firstOf bM_firstOf 3 (some .int) 1 := ⟨kM_firstOf, ck_T_mk (List.mem_of_getElem? (i := 534) (by decide +kernel)) (by decide +kernel), ini_M, by decide +kernel, by decide⟩
theorem CM_M_notAsking : ck_C R_M 85 yM_notAsking bM_notAsking 3 (some .int) 2 := ⟨kM_notAsking, ck_T_mk (List.mem_of_getElem? (i := 550) (by decide +kernel)) (by decide +kernel), ini_M, by decide +kernel, by decide⟩
theorem CM_M_hasRow : ck_C R_M 91 yM_hasRow bM_hasRow 2 (some .boolean) 1 := ⟨kM_hasRow, ck_T_mk (List.mem_of_getElem? (i := 676) (by decide +kernel)) (by decide +kernel), ini_M, by decide +kernel, by decide⟩
theorem CP_P_add : ck_C R_P 38 yP_add bP_add 5 (some .int) 3 := ⟨kP_add, ck_T_mk (List.mem_of_getElem? (i := 372) (by decide +kernel)) (by decide +kernel), ini_P, by decide +kernel, by decide⟩
theorem CP_P_depthOf : ck_C R_P 42 yP_depthOf bP_depthOf 2 (some .int) 1 := ⟨kP_depthOf, ck_T_mk (List.mem_of_getElem? (i := 429) (by decide +kernel)) (by decide +kernel), ini_P, by decide +kernel, by decide⟩
theorem CP_P_choicesOf : ck_C R_P 52 yP_choicesOf bP_choicesOf 2 (some .int) 1 := ⟨kP_choicesOf, ck_T_mk (List.mem_of_getElem? (i := 436) (by decide +kernel)) (by decide +kernel), ini_P, by decide +kernel, by decide⟩
theorem CP_P_withParts : ck_C R_P 55 yP_withParts bP_withParts 6 (some .int) 5 := ⟨kP_withParts, ck_T_mk (List.mem_of_getElem? (i := 376) (by decide +kernel)) (by decide +kernel), ini_P, by decide +kernel, by decide⟩
theorem CP_P_isOpen : ck_C R_P 59 yP_isOpen bP_isOpen 2 (some .boolean) 1 := ⟨kP_isOpen, ck_T_mk (List.mem_of_getElem? (i := 417) (by decide +kernel)) (by decide +kernel), ini_P, by decide +kernel, by decide⟩
theorem CP_P_has : ck_C R_P 63 yP_has bP_has 2 (some .boolean) 1 := ⟨kP_has, ck_T_mk (List.mem_of_getElem? (i := 380) (by decide +kernel)) (by decide +kernel), ini_P, by decide +kernel, by decide⟩
theorem CP_P_fits : ck_C R_P 66 yP_fits bP_fits 3 (some .boolean) 2 := ⟨kP_fits, ck_T_mk (List.mem_of_getElem? (i := 448) (by decide +kernel)) (by decide +kernel), ini_P, by decide +kernel, by decide⟩
theorem CT_T_has : ck_C R_T 68 yT_has bT_has 2 (some .boolean) 1 := ⟨kT_has, ck_T_mk (List.mem_of_getElem? (i := 578) (by decide +kernel)) (by decide +kernel), ini_T, by decide +kernel, by decide⟩
theorem CT_M_allClauses : ck_C R_T 72 yM_allClauses bM_allClauses 1 (some .int) 0 := ⟨kM_allClauses, ck_T_mk (List.mem_of_getElem? (i := 500) (by decide +kernel)) (by decide +kernel), ini_M, by decide +kernel, by decide⟩
theorem CT_T_addNode : ck_C R_T 78 yT_addNode bT_addNode 5 (some .boolean) 4 := ⟨kT_addNode, ck_T_mk (List.mem_of_getElem? (i := 504) (by decide +kernel)) (by decide +kernel), ini_T, by decide +kernel, by decide⟩
theorem CT_T_expand : ck_C R_T 82 yT_expand bT_expand 3 (some .boolean) 1 := ⟨kT_expand, ck_T_mk (List.mem_of_getElem? (i := 508) (by decide +kernel)) (by decide +kernel), ini_T, by decide +kernel, by decide⟩
theorem CT_T_markFailing : ck_C R_T 85 yT_markFailing bT_markFailing 3 none 0 := ⟨kT_markFailing, ck_T_mk (List.mem_of_getElem? (i := 570) (by decide +kernel)) (by decide +kernel), ini_T, by decide +kernel, by decide⟩
theorem CT_M_placeToTest : ck_C R_T 88 yM_placeToTest bM_placeToTest 9 (some .int) 2 := ⟨kM_placeToTest, ck_T_mk (List.mem_of_getElem? (i := 512) (by decide +kernel)) (by decide +kernel), ini_M, by decide +kernel, by decide⟩
theorem CT_T_makeLeaf : ck_C R_T 92 yT_makeLeaf bT_makeLeaf 2 none 1 := ⟨kT_makeLeaf, ck_T_mk (List.mem_of_getElem? (i := 522) (by decide +kernel)) (by decide +kernel), ini_T, by decide +kernel, by decide⟩
theorem CT_M_typeAskedAt : ck_C R_T 96 yM_typeAskedAt bM_typeAskedAt 4 (some .int) 2 := ⟨kM_typeAskedAt, ck_T_mk (List.mem_of_getElem? (i := 530) (by decide +kernel)) (by decide +kernel), ini_M, by decide +kernel, by decide⟩
theorem CT_T_addNumbers : ck_C R_T 99 yT_addNumbers bT_addNumbers 8 (some .boolean) 1 := ⟨kT_addNumbers, ck_T_mk (List.mem_of_getElem? (i := 535) (by decide +kernel)) (by decide +kernel), ini_T, by decide +kernel, by decide⟩
theorem CT_T_addConstructors : ck_C R_T 102 yT_addConstructors bT_addConstructors 7 (some .boolean) 1 := ⟨kT_addConstructors, ck_T_mk (List.mem_of_getElem? (i := 555) (by decide +kernel)) (by decide +kernel), ini_T, by decide +kernel, by decide⟩
theorem CT_M_firstOf : ck_C R_T 105 yM_firstOf bM_firstOf 3 (some .int) 1 := ⟨kM_firstOf, ck_T_mk (List.mem_of_getElem? (i := 526) (by decide +kernel)) (by decide +kernel), ini_M, by decide +kernel, by decide⟩
theorem CT_M_leastAbove : ck_C R_T 111 yM_leastAbove bM_leastAbove 11 (some .long) 3 := ⟨kM_leastAbove, ck_T_mk (List.mem_of_getElem? (i := 540) (by decide +kernel)) (by decide +kernel), ini_M, by decide +kernel, by decide⟩
theorem CT_M_notAskingElse : ck_C R_T 117 yM_notAskingElse bM_notAskingElse 6 (some .int) 3 := ⟨kM_notAskingElse, ck_T_mk (List.mem_of_getElem? (i := 546) (by decide +kernel)) (by decide +kernel), ini_M, by decide +kernel, by decide⟩
theorem CT_M_notAsking : ck_C R_T 121 yM_notAsking bM_notAsking 3 (some .int) 2 := ⟨kM_notAsking, ck_T_mk (List.mem_of_getElem? (i := 554) (by decide +kernel)) (by decide +kernel), ini_M, by decide +kernel, by decide⟩
theorem CT_D_constructorCount : ck_C R_T 124 yD_constructorCount bD_constructorCount 1 (some .int) 0 := ⟨kD_constructorCount, ck_T_mk (List.mem_of_getElem? (i := 559) (by decide +kernel)) (by decide +kernel), ini_D, by decide +kernel, by decide⟩
theorem CT_D_ownerOf : ck_C R_T 129 yD_ownerOf bD_ownerOf 2 (some .int) 1 := ⟨kD_ownerOf, ck_T_mk (List.mem_of_getElem? (i := 563) (by decide +kernel)) (by decide +kernel), ini_D, by decide +kernel, by decide⟩
theorem CT_D_argumentPlaces : ck_C R_T 132 yD_argumentPlaces bD_argumentPlaces 4 (some .int) 2 := ⟨kD_argumentPlaces, ck_T_mk (List.mem_of_getElem? (i := 564) (by decide +kernel)) (by decide +kernel), ini_D, by decide +kernel, by decide⟩
theorem CT_T_failingBranch : ck_C R_T 135 yT_failingBranch bT_failingBranch 3 (some .int) 1 := ⟨kT_failingBranch, ck_T_mk (List.mem_of_getElem? (i := 574) (by decide +kernel)) (by decide +kernel), ini_T, by decide +kernel, by decide⟩
theorem CT_T_alike : ck_C R_T 143 yT_alike bT_alike 7 (some .boolean) 2 := ⟨kT_alike, ck_T_mk (List.mem_of_getElem? (i := 647) (by decide +kernel)) (by decide +kernel), ini_T, by decide +kernel, by decide⟩
theorem CT_T_placeOf : ck_C R_T 147 yT_placeOf bT_placeOf 2 (some .int) 1 := ⟨kT_placeOf, ck_T_mk (List.mem_of_getElem? (i := 740) (by decide +kernel)) (by decide +kernel), ini_T, by decide +kernel, by decide⟩
theorem CT_V_firstOf : ck_C R_T 150 yV_firstOf bV_firstOf 2 (some .int) 1 := ⟨kV_firstOf, ck_T_mk (List.mem_of_getElem? (i := 741) (by decide +kernel)) (by decide +kernel), ini_V, by decide +kernel, by decide⟩
theorem CT_V_secondOf : ck_C R_T 153 yV_secondOf bV_secondOf 2 (some .int) 1 := ⟨kV_secondOf, ck_T_mk (List.mem_of_getElem? (i := 745) (by decide +kernel)) (by decide +kernel), ini_V, by decide +kernel, by decide⟩
theorem CT_V_symbolOf : ck_C R_T 156 yV_symbolOf bV_symbolOf 2 (some .int) 1 := ⟨kV_symbolOf, ck_T_mk (List.mem_of_getElem? (i := 749) (by decide +kernel)) (by decide +kernel), ini_V, by decide +kernel, by decide⟩
theorem CT_T_branchFor : ck_C R_T 159 yT_branchFor bT_branchFor 5 (some .int) 2 := ⟨kT_branchFor, ck_T_mk (List.mem_of_getElem? (i := 617) (by decide +kernel)) (by decide +kernel), ini_T, by decide +kernel, by decide⟩
theorem CT_T_lastBranch : ck_C R_T 162 yT_lastBranch bT_lastBranch 2 (some .int) 1 := ⟨kT_lastBranch, ck_T_mk (List.mem_of_getElem? (i := 616) (by decide +kernel)) (by decide +kernel), ini_T, by decide +kernel, by decide⟩
theorem CV_V_addBuilt : ck_C R_V 28 yV_addBuilt bV_addBuilt 6 (some .int) 4 := ⟨kV_addBuilt, ck_T_mk (List.mem_of_getElem? (i := 714) (by decide +kernel)) (by decide +kernel), ini_V, by decide +kernel, by decide⟩
theorem CV_V_has : ck_C R_V 32 yV_has bV_has 2 (some .boolean) 1 := ⟨kV_has, ck_T_mk (List.mem_of_getElem? (i := 730) (by decide +kernel)) (by decide +kernel), ini_V, by decide +kernel, by decide⟩
theorem CG_G_has : ck_C R_G 36 yG_has bG_has 2 (some .boolean) 1 := ⟨kG_has, ck_T_mk (List.mem_of_getElem? (i := 697) (by decide +kernel)) (by decide +kernel), ini_G, by decide +kernel, by decide⟩
theorem CG_T_hasFailing : ck_C R_G 40 yT_hasFailing bT_hasFailing 1 (some .boolean) 0 := ⟨kT_hasFailing, ck_T_mk (List.mem_of_getElem? (i := 586) (by decide +kernel)) (by decide +kernel), ini_T, by decide +kernel, by decide⟩
theorem CG_A_fill : ck_C R_G 46 yA_fill bA_fill 4 none 2 := ⟨kA_fill, ck_T_mk (List.mem_of_getElem? (i := 590) (by decide +kernel)) (by decide +kernel), ini_A, by decide +kernel, by decide⟩
theorem CG_G_followWayToFail : ck_C R_G 52 yG_followWayToFail bG_followWayToFail 4 none 0 := ⟨kG_followWayToFail, ck_T_mk (List.mem_of_getElem? (i := 591) (by decide +kernel)) (by decide +kernel), ini_G, by decide +kernel, by decide⟩
theorem CG_G_write : ck_C R_G 55 yG_write bG_write 2 none 1 := ⟨kG_write, ck_T_mk (List.mem_of_getElem? (i := 625) (by decide +kernel)) (by decide +kernel), ini_G, by decide +kernel, by decide⟩
theorem CG_T_placeOf : ck_C R_G 59 yT_placeOf bT_placeOf 2 (some .int) 1 := ⟨kT_placeOf, ck_T_mk (List.mem_of_getElem? (i := 595) (by decide +kernel)) (by decide +kernel), ini_T, by decide +kernel, by decide⟩
theorem CG_T_failingBranch : ck_C R_G 63 yT_failingBranch bT_failingBranch 3 (some .int) 1 := ⟨kT_failingBranch, ck_T_mk (List.mem_of_getElem? (i := 599) (by decide +kernel)) (by decide +kernel), ini_T, by decide +kernel, by decide⟩
theorem CG_G_noteBranch : ck_C R_G 66 yG_noteBranch bG_noteBranch 6 none 2 := ⟨kG_noteBranch, ck_T_mk (List.mem_of_getElem? (i := 600) (by decide +kernel)) (by decide +kernel), ini_G, by decide +kernel, by decide⟩
theorem CG_T_typeOfTest : ck_C R_G 70 yT_typeOfTest bT_typeOfTest 2 (some .int) 1 := ⟨kT_typeOfTest, ck_T_mk (List.mem_of_getElem? (i := 604) (by decide +kernel)) (by decide +kernel), ini_T, by decide +kernel, by decide⟩
theorem CG_T_lastBranch : ck_C R_G 73 yT_lastBranch bT_lastBranch 2 (some .int) 1 := ⟨kT_lastBranch, ck_T_mk (List.mem_of_getElem? (i := 608) (by decide +kernel)) (by decide +kernel), ini_T, by decide +kernel, by decide⟩
theorem CG_T_leastWithoutBranch : ck_C R_G 76 yT_leastWithoutBranch bT_leastWithoutBranch 5 (some .int) 1 := ⟨kT_leastWithoutBranch, ck_T_mk (List.mem_of_getElem? (i := 612) (by decide +kernel)) (by decide +kernel), ini_T, by decide +kernel, by decide⟩
theorem CG_T_labelOf : ck_C R_G 79 yT_labelOf bT_labelOf 2 (some .int) 1 := ⟨kT_labelOf, ck_T_mk (List.mem_of_getElem? (i := 621) (by decide +kernel)) (by decide +kernel), ini_T, by decide +kernel, by decide⟩
theorem CG_D_firstTypeOf : ck_C R_G 82 yD_firstTypeOf bD_firstTypeOf 2 (some .int) 1 := ⟨kD_firstTypeOf, ck_T_mk (List.mem_of_getElem? (i := 629) (by decide +kernel)) (by decide +kernel), ini_D, by decide +kernel, by decide⟩
theorem CG_D_secondTypeOf : ck_C R_G 87 yD_secondTypeOf bD_secondTypeOf 2 (some .int) 1 := ⟨kD_secondTypeOf, ck_T_mk (List.mem_of_getElem? (i := 630) (by decide +kernel)) (by decide +kernel), ini_D, by decide +kernel, by decide⟩
end
section
theorem dI_bitCount_0 : decode bI_bitCount 0 = .ok (.iload_n 0, 1) := by decide +kernel
theorem dI_bitCount_1 : decode bI_bitCount 1 = .ok (.iload_n 0, 1) := by decide +kernel
theorem dI_bitCount_2 : decode bI_bitCount 2 = .ok (.iconst 1, 1) := by decide +kernel
theorem dI_bitCount_3 : decode bI_bitCount 3 = .ok (.iushr, 1) := by decide +kernel
theorem dI_bitCount_4 : decode bI_bitCount 4 = .ok (.ldc_w 265, 3) := by decide +kernel
theorem dI_bitCount_7 : decode bI_bitCount 7 = .ok (.iand, 1) := by decide +kernel
theorem dI_bitCount_8 : decode bI_bitCount 8 = .ok (.isub, 1) := by decide +kernel
theorem dI_bitCount_9 : decode bI_bitCount 9 = .ok (.istore_n 0, 1) := by decide +kernel
theorem dI_bitCount_10 : decode bI_bitCount 10 = .ok (.iload_n 0, 1) := by decide +kernel
theorem dI_bitCount_11 : decode bI_bitCount 11 = .ok (.ldc_w 266, 3) := by decide +kernel
theorem dI_bitCount_14 : decode bI_bitCount 14 = .ok (.iand, 1) := by decide +kernel
theorem dI_bitCount_15 : decode bI_bitCount 15 = .ok (.iload_n 0, 1) := by decide +kernel
theorem dI_bitCount_16 : decode bI_bitCount 16 = .ok (.iconst 2, 1) := by decide +kernel
theorem dI_bitCount_17 : decode bI_bitCount 17 = .ok (.iushr, 1) := by decide +kernel
theorem dI_bitCount_18 : decode bI_bitCount 18 = .ok (.ldc_w 266, 3) := by decide +kernel
theorem dI_bitCount_21 : decode bI_bitCount 21 = .ok (.iand, 1) := by decide +kernel
theorem dI_bitCount_22 : decode bI_bitCount 22 = .ok (.iadd, 1) := by decide +kernel
theorem dI_bitCount_23 : decode bI_bitCount 23 = .ok (.istore_n 0, 1) := by decide +kernel
theorem dI_bitCount_24 : decode bI_bitCount 24 = .ok (.iload_n 0, 1) := by decide +kernel
theorem dI_bitCount_25 : decode bI_bitCount 25 = .ok (.iload_n 0, 1) := by decide +kernel
theorem dI_bitCount_26 : decode bI_bitCount 26 = .ok (.iconst 4, 1) := by decide +kernel
theorem dI_bitCount_27 : decode bI_bitCount 27 = .ok (.iushr, 1) := by decide +kernel
theorem dI_bitCount_28 : decode bI_bitCount 28 = .ok (.iadd, 1) := by decide +kernel
theorem dI_bitCount_29 : decode bI_bitCount 29 = .ok (.ldc_w 267, 3) := by decide +kernel
theorem dI_bitCount_32 : decode bI_bitCount 32 = .ok (.iand, 1) := by decide +kernel
theorem dI_bitCount_33 : decode bI_bitCount 33 = .ok (.istore_n 0, 1) := by decide +kernel
theorem dI_bitCount_34 : decode bI_bitCount 34 = .ok (.iload_n 0, 1) := by decide +kernel
theorem dI_bitCount_35 : decode bI_bitCount 35 = .ok (.iload_n 0, 1) := by decide +kernel
theorem dI_bitCount_36 : decode bI_bitCount 36 = .ok (.bipush 8, 2) := by decide +kernel
theorem dI_bitCount_38 : decode bI_bitCount 38 = .ok (.iushr, 1) := by decide +kernel
theorem dI_bitCount_39 : decode bI_bitCount 39 = .ok (.iadd, 1) := by decide +kernel
theorem dI_bitCount_40 : decode bI_bitCount 40 = .ok (.istore_n 0, 1) := by decide +kernel
theorem dI_bitCount_41 : decode bI_bitCount 41 = .ok (.iload_n 0, 1) := by decide +kernel
theorem dI_bitCount_42 : decode bI_bitCount 42 = .ok (.iload_n 0, 1) := by decide +kernel
theorem dI_bitCount_43 : decode bI_bitCount 43 = .ok (.bipush 16, 2) := by decide +kernel
theorem dI_bitCount_45 : decode bI_bitCount 45 = .ok (.iushr, 1) := by decide +kernel
theorem dI_bitCount_46 : decode bI_bitCount 46 = .ok (.iadd, 1) := by decide +kernel
theorem dI_bitCount_47 : decode bI_bitCount 47 = .ok (.istore_n 0, 1) := by decide +kernel
theorem dI_bitCount_48 : decode bI_bitCount 48 = .ok (.iload_n 0, 1) := by decide +kernel
theorem dI_bitCount_49 : decode bI_bitCount 49 = .ok (.bipush 63, 2) := by decide +kernel
theorem dI_bitCount_51 : decode bI_bitCount 51 = .ok (.iand, 1) := by decide +kernel
theorem dI_bitCount_52 : decode bI_bitCount 52 = .ok (.ireturn, 1) := by decide +kernel
theorem dJ_max_0 : decode bJ_max 0 = .ok (.iload_n 0, 1) := by decide +kernel
theorem dJ_max_1 : decode bJ_max 1 = .ok (.iload_n 1, 1) := by decide +kernel
theorem dJ_max_2 : decode bJ_max 2 = .ok (.if_icmp .lt 7, 3) := by decide +kernel
theorem dJ_max_5 : decode bJ_max 5 = .ok (.iload_n 0, 1) := by decide +kernel
theorem dJ_max_6 : decode bJ_max 6 = .ok (.goto 4, 3) := by decide +kernel
theorem dJ_max_9 : decode bJ_max 9 = .ok (.iload_n 1, 1) := by decide +kernel
theorem dJ_max_10 : decode bJ_max 10 = .ok (.ireturn, 1) := by decide +kernel
theorem dA_fill_0 : decode bA_fill 0 = .ok (.iconst 0, 1) := by decide +kernel
theorem dA_fill_1 : decode bA_fill 1 = .ok (.istore_n 2, 1) := by decide +kernel
theorem dA_fill_2 : decode bA_fill 2 = .ok (.aload_n 0, 1) := by decide +kernel
theorem dA_fill_3 : decode bA_fill 3 = .ok (.arraylength, 1) := by decide +kernel
theorem dA_fill_4 : decode bA_fill 4 = .ok (.istore_n 3, 1) := by decide +kernel
theorem dA_fill_5 : decode bA_fill 5 = .ok (.iload_n 2, 1) := by decide +kernel
theorem dA_fill_6 : decode bA_fill 6 = .ok (.iload_n 3, 1) := by decide +kernel
theorem dA_fill_7 : decode bA_fill 7 = .ok (.if_icmp .ge 13, 3) := by decide +kernel
theorem dA_fill_10 : decode bA_fill 10 = .ok (.aload_n 0, 1) := by decide +kernel
theorem dA_fill_11 : decode bA_fill 11 = .ok (.iload_n 2, 1) := by decide +kernel
theorem dA_fill_12 : decode bA_fill 12 = .ok (.iload_n 1, 1) := by decide +kernel
theorem dA_fill_13 : decode bA_fill 13 = .ok (.iastore, 1) := by decide +kernel
theorem dA_fill_14 : decode bA_fill 14 = .ok (.iinc 2 1, 3) := by decide +kernel
theorem dA_fill_17 : decode bA_fill 17 = .ok (.goto (-12), 3) := by decide +kernel
theorem dA_fill_20 : decode bA_fill 20 = .ok (.return_, 1) := by decide +kernel
section SJdk
variable {p : Program} {l : Launch} {e : Env} {R : Room} {s : State} {m : MethodId} {args : Array Value} {below : List Frame} {meth : Method} {c : Code} {Q : State → Prop} {D : va_G} {cA : Nat → ClassId} {ad : Nat → Nat} {H0 : Heap}
def ck_mxv (x y : Int32) : Int32 := if x < y then y else x
theorem ck_mx1 : Cond.static Lib.Math.max.name ∈ ck_T := ck_T_mk (List.mem_of_getElem? (i := 434) (by decide +kernel)) (by decide +kernel)
theorem ck_mx2 : Cond.initialized "java/lang/Math" ∈ ck_T := ck_T_mk (List.mem_of_getElem? (i := 52) (by decide +kernel)) (by decide +kernel)
theorem ck_mx3 : Cond.code Lib.Math.max.name Lib.Math.max.code 2 (some .int) ∈ ck_T := ck_T_mk (List.mem_of_getElem? (i := 435) (by decide +kernel)) (by decide +kernel)
theorem ck_mx {H : Heap} {locs : List Loc} {cl : List vw_C} {cc : ByteArray} {own : String} {pc nL v idx : Nat} {x y : Int32} {ls : Array Slot} {rest : List Value} {L : List (Nat × Value)} (C : ck_X cl D cA cc nL own v p R s m args c) (hl : lv_has ls nL L) (hlink : Cond.methodLink own idx Lib.Math.max.name ∈ ck_T) (hv : 1 ≤ v) (hr : (rest.map fun v => v.category).sum ≤ 8) (hd : decode cc pc = .ok (.invokestatic idx, 3))
    (kk : W p l e R s m args below meth c H locs 0 0 Q (F0 m (pc + 3) ls (.int (ck_mxv x y) :: rest))) : W p l e R s m args below meth c H locs 0 0 Q (F0 m pc ls (.int y :: .int x :: rest)) := by
  obtain ⟨hx, hb, hml, hown, hts, hK, hlv, hlo⟩ := C
  exact va_mmax hx hb (hml.trans hl.1.symm) hown (hts _ hlink) (hts _ ck_mx1) (hts _ ck_mx2) (hts _ ck_mx3) (by omega) (by omega) (Nat.zero_le _) (Nat.zero_le _) hd kk
def fI_bitCount_C (x0 : Int32) (st : ck_S) : Option (Int32 × ck_S) := (some (((((((((x0 - ((ck_us x0 1) &&& 1431655765)) &&& 858993459) + ((ck_us (x0 - ((ck_us x0 1) &&& 1431655765)) 2) &&& 858993459)) + (ck_us (((x0 - ((ck_us x0 1) &&& 1431655765)) &&& 858993459) + ((ck_us (x0 - ((ck_us x0 1) &&& 1431655765)) 2) &&& 858993459)) 4)) &&& 252645135) + (ck_us (((((x0 - ((ck_us x0 1) &&& 1431655765)) &&& 858993459) + ((ck_us (x0 - ((ck_us x0 1) &&& 1431655765)) 2) &&& 858993459)) + (ck_us (((x0 - ((ck_us x0 1) &&& 1431655765)) &&& 858993459) + ((ck_us (x0 - ((ck_us x0 1) &&& 1431655765)) 2) &&& 858993459)) 4)) &&& 252645135) 8)) + (ck_us ((((((x0 - ((ck_us x0 1) &&& 1431655765)) &&& 858993459) + ((ck_us (x0 - ((ck_us x0 1) &&& 1431655765)) 2) &&& 858993459)) + (ck_us (((x0 - ((ck_us x0 1) &&& 1431655765)) &&& 858993459) + ((ck_us (x0 - ((ck_us x0 1) &&& 1431655765)) 2) &&& 858993459)) 4)) &&& 252645135) + (ck_us (((((x0 - ((ck_us x0 1) &&& 1431655765)) &&& 858993459) + ((ck_us (x0 - ((ck_us x0 1) &&& 1431655765)) 2) &&& 858993459)) + (ck_us (((x0 - ((ck_us x0 1) &&& 1431655765)) &&& 858993459) + ((ck_us (x0 - ((ck_us x0 1) &&& 1431655765)) 2) &&& 858993459)) 4)) &&& 252645135) 8)) 16)) &&& 63), st))
set_option maxRecDepth 100000 in
set_option maxHeartbeats 4000000 in
theorem cI_bitCount_C (l : Launch) (D : va_G) (cA : Nat → ClassId) (ad : Nat → Nat) {x0 : Int32} {st : ck_S} {r0 : Int32} {st0 : ck_S} (hf : fI_bitCount_C x0 st = some (r0, st0)) : Met l yI_bitCount (.code yI_bitCount bI_bitCount 1 (some .int) :: ck_T) (ck_R 0) (va_Pc [.int x0] (ck_P sh_C cm_cl D cA ad st)) (va_Qi (fun a u => a = r0 ∧ u = st0) (ck_P sh_C cm_cl D cA ad) (ck_A ad sh_C.length)) 0 0 (ck_A ad sh_C.length) := by
  refine ck_met_i (own := R_I) (by decide +kernel) rfl (Nat.le_of_ble_eq_true rfl) (fun p e R s m args below meth c H0 Q ls C hret h hl => ?_)
  have C1 := C
  obtain ⟨hx, hb, hml, hown, hts, hK, hlv, hlo⟩ := C1
  have hl : lv_has ls 1 [(0, .int x0)] := hl
  unfold fI_bitCount_C at hf
  refine lv_iload_n hx hb dI_bitCount_0 rfl (lv_at hl 0 rfl) ?_
  refine lv_iload_n hx hb dI_bitCount_1 rfl (lv_at hl 0 rfl) ?_
  refine lv_iconst (v := 1) hx hb dI_bitCount_2 (by decide) ?_
  refine lv_iushr (v := (ck_us x0 1)) hx hb dI_bitCount_3 rfl ?_
  refine lv_ldcw (v := 1431655765) hx hb hown (hts _ (ck_T_mk (List.mem_of_getElem? (i := 519) (by decide +kernel)) (by decide +kernel))) dI_bitCount_4 ?_
  refine lv_iand hx hb dI_bitCount_7 ?_
  refine lv_isub hx hb dI_bitCount_8 ?_
  refine lv_istore_n (lv' := [(0, .int (x0 - ((ck_us x0 1) &&& 1431655765)))]) hx hb dI_bitCount_9 rfl hl (by decide) rfl (fun ls hl => ?_)
  refine lv_iload_n hx hb dI_bitCount_10 rfl (lv_at hl 0 rfl) ?_
  refine lv_ldcw (v := 858993459) hx hb hown (hts _ (ck_T_mk (List.mem_of_getElem? (i := 520) (by decide +kernel)) (by decide +kernel))) dI_bitCount_11 ?_
  refine lv_iand hx hb dI_bitCount_14 ?_
  refine lv_iload_n hx hb dI_bitCount_15 rfl (lv_at hl 0 rfl) ?_
  refine lv_iconst (v := 2) hx hb dI_bitCount_16 (by decide) ?_
  refine lv_iushr (v := (ck_us (x0 - ((ck_us x0 1) &&& 1431655765)) 2)) hx hb dI_bitCount_17 rfl ?_
  refine lv_ldcw (v := 858993459) hx hb hown (hts _ (ck_T_mk (List.mem_of_getElem? (i := 520) (by decide +kernel)) (by decide +kernel))) dI_bitCount_18 ?_
  refine lv_iand hx hb dI_bitCount_21 ?_
  refine lv_iadd hx hb dI_bitCount_22 ?_
  refine lv_istore_n (lv' := [(0, .int (((x0 - ((ck_us x0 1) &&& 1431655765)) &&& 858993459) + ((ck_us (x0 - ((ck_us x0 1) &&& 1431655765)) 2) &&& 858993459)))]) hx hb dI_bitCount_23 rfl hl (by decide) rfl (fun ls hl => ?_)
  refine lv_iload_n hx hb dI_bitCount_24 rfl (lv_at hl 0 rfl) ?_
  refine lv_iload_n hx hb dI_bitCount_25 rfl (lv_at hl 0 rfl) ?_
  refine lv_iconst (v := 4) hx hb dI_bitCount_26 (by decide) ?_
  refine lv_iushr (v := (ck_us (((x0 - ((ck_us x0 1) &&& 1431655765)) &&& 858993459) + ((ck_us (x0 - ((ck_us x0 1) &&& 1431655765)) 2) &&& 858993459)) 4)) hx hb dI_bitCount_27 rfl ?_
  refine lv_iadd hx hb dI_bitCount_28 ?_
  refine lv_ldcw (v := 252645135) hx hb hown (hts _ (ck_T_mk (List.mem_of_getElem? (i := 521) (by decide +kernel)) (by decide +kernel))) dI_bitCount_29 ?_
  refine lv_iand hx hb dI_bitCount_32 ?_
  refine lv_istore_n (lv' := [(0, .int (((((x0 - ((ck_us x0 1) &&& 1431655765)) &&& 858993459) + ((ck_us (x0 - ((ck_us x0 1) &&& 1431655765)) 2) &&& 858993459)) + (ck_us (((x0 - ((ck_us x0 1) &&& 1431655765)) &&& 858993459) + ((ck_us (x0 - ((ck_us x0 1) &&& 1431655765)) 2) &&& 858993459)) 4)) &&& 252645135))]) hx hb dI_bitCount_33 rfl hl (by decide) rfl (fun ls hl => ?_)
  refine lv_iload_n hx hb dI_bitCount_34 rfl (lv_at hl 0 rfl) ?_
  refine lv_iload_n hx hb dI_bitCount_35 rfl (lv_at hl 0 rfl) ?_
  refine lv_bipush (v := 8) hx hb dI_bitCount_36 (by decide) ?_
  refine lv_iushr (v := (ck_us (((((x0 - ((ck_us x0 1) &&& 1431655765)) &&& 858993459) + ((ck_us (x0 - ((ck_us x0 1) &&& 1431655765)) 2) &&& 858993459)) + (ck_us (((x0 - ((ck_us x0 1) &&& 1431655765)) &&& 858993459) + ((ck_us (x0 - ((ck_us x0 1) &&& 1431655765)) 2) &&& 858993459)) 4)) &&& 252645135) 8)) hx hb dI_bitCount_38 rfl ?_
  refine lv_iadd hx hb dI_bitCount_39 ?_
  refine lv_istore_n (lv' := [(0, .int ((((((x0 - ((ck_us x0 1) &&& 1431655765)) &&& 858993459) + ((ck_us (x0 - ((ck_us x0 1) &&& 1431655765)) 2) &&& 858993459)) + (ck_us (((x0 - ((ck_us x0 1) &&& 1431655765)) &&& 858993459) + ((ck_us (x0 - ((ck_us x0 1) &&& 1431655765)) 2) &&& 858993459)) 4)) &&& 252645135) + (ck_us (((((x0 - ((ck_us x0 1) &&& 1431655765)) &&& 858993459) + ((ck_us (x0 - ((ck_us x0 1) &&& 1431655765)) 2) &&& 858993459)) + (ck_us (((x0 - ((ck_us x0 1) &&& 1431655765)) &&& 858993459) + ((ck_us (x0 - ((ck_us x0 1) &&& 1431655765)) 2) &&& 858993459)) 4)) &&& 252645135) 8)))]) hx hb dI_bitCount_40 rfl hl (by decide) rfl (fun ls hl => ?_)
  refine lv_iload_n hx hb dI_bitCount_41 rfl (lv_at hl 0 rfl) ?_
  refine lv_iload_n hx hb dI_bitCount_42 rfl (lv_at hl 0 rfl) ?_
  refine lv_bipush (v := 16) hx hb dI_bitCount_43 (by decide) ?_
  refine lv_iushr (v := (ck_us ((((((x0 - ((ck_us x0 1) &&& 1431655765)) &&& 858993459) + ((ck_us (x0 - ((ck_us x0 1) &&& 1431655765)) 2) &&& 858993459)) + (ck_us (((x0 - ((ck_us x0 1) &&& 1431655765)) &&& 858993459) + ((ck_us (x0 - ((ck_us x0 1) &&& 1431655765)) 2) &&& 858993459)) 4)) &&& 252645135) + (ck_us (((((x0 - ((ck_us x0 1) &&& 1431655765)) &&& 858993459) + ((ck_us (x0 - ((ck_us x0 1) &&& 1431655765)) 2) &&& 858993459)) + (ck_us (((x0 - ((ck_us x0 1) &&& 1431655765)) &&& 858993459) + ((ck_us (x0 - ((ck_us x0 1) &&& 1431655765)) 2) &&& 858993459)) 4)) &&& 252645135) 8)) 16)) hx hb dI_bitCount_45 rfl ?_
  refine lv_iadd hx hb dI_bitCount_46 ?_
  refine lv_istore_n (lv' := [(0, .int (((((((x0 - ((ck_us x0 1) &&& 1431655765)) &&& 858993459) + ((ck_us (x0 - ((ck_us x0 1) &&& 1431655765)) 2) &&& 858993459)) + (ck_us (((x0 - ((ck_us x0 1) &&& 1431655765)) &&& 858993459) + ((ck_us (x0 - ((ck_us x0 1) &&& 1431655765)) 2) &&& 858993459)) 4)) &&& 252645135) + (ck_us (((((x0 - ((ck_us x0 1) &&& 1431655765)) &&& 858993459) + ((ck_us (x0 - ((ck_us x0 1) &&& 1431655765)) 2) &&& 858993459)) + (ck_us (((x0 - ((ck_us x0 1) &&& 1431655765)) &&& 858993459) + ((ck_us (x0 - ((ck_us x0 1) &&& 1431655765)) 2) &&& 858993459)) 4)) &&& 252645135) 8)) + (ck_us ((((((x0 - ((ck_us x0 1) &&& 1431655765)) &&& 858993459) + ((ck_us (x0 - ((ck_us x0 1) &&& 1431655765)) 2) &&& 858993459)) + (ck_us (((x0 - ((ck_us x0 1) &&& 1431655765)) &&& 858993459) + ((ck_us (x0 - ((ck_us x0 1) &&& 1431655765)) 2) &&& 858993459)) 4)) &&& 252645135) + (ck_us (((((x0 - ((ck_us x0 1) &&& 1431655765)) &&& 858993459) + ((ck_us (x0 - ((ck_us x0 1) &&& 1431655765)) 2) &&& 858993459)) + (ck_us (((x0 - ((ck_us x0 1) &&& 1431655765)) &&& 858993459) + ((ck_us (x0 - ((ck_us x0 1) &&& 1431655765)) 2) &&& 858993459)) 4)) &&& 252645135) 8)) 16)))]) hx hb dI_bitCount_47 rfl hl (by decide) rfl (fun ls hl => ?_)
  refine lv_iload_n hx hb dI_bitCount_48 rfl (lv_at hl 0 rfl) ?_
  refine lv_bipush (v := 63) hx hb dI_bitCount_49 (by decide) ?_
  refine lv_iand hx hb dI_bitCount_51 ?_
  exact ck_ri hf hret h dI_bitCount_52
def fA_fill_38_C_l5 : Nat → Int32 → Int32 → Int32 → ck_S → Option ck_S
  | 0, _, _, _, _ => none
  | n + 1, x1, x2, x3, st => (if x3 ≤ x2 then (some st) else (ck_gd x2 32 (fA_fill_38_C_l5 n x1 (x2 + 1) x3 (ck_u st 38 (x2).toNatClampNeg x1))))
set_option maxRecDepth 100000 in
set_option maxHeartbeats 4000000 in
theorem BA_fill_38_C_5 (C : ck_X cm_cl D cA bA_fill 4 R_A 0 p R s m args c) {st0 : ck_S} (hret : ∀ (pc : Nat) (H : Heap) (locs : List Loc) (ls : Array Slot), decode bA_fill pc = .ok (.return_, 1) → ck_AT sh_C cm_cl D cA ad H0 st0 H locs → W p l e R s m args below meth c H locs 0 0 Q (F0 m pc ls [])) : ∀ (n : Nat) (x1 : Int32) (x2 : Int32) (x3 : Int32) (st : ck_S) (H : Heap) (locs : List Loc) (ls : Array Slot), ck_AT sh_C cm_cl D cA ad H0 st H locs → lv_has ls 4 [(0, .ref (ad 38)), (1, .int x1), (2, .int x2), (3, .int x3)] → fA_fill_38_C_l5  n x1 x2 x3 st = some st0 → W p l e R s m args below meth c H locs 0 0 Q (F0 m 5 ls []) := by
  have C1 := C
  obtain ⟨hx, hb, hml, hown, hts, hK, hlv, hlo⟩ := C1
  intro n
  induction n with
  | zero => intro _ _ _ _ _ _ _ _ _ hf; cases hf
  | succ n ih =>
    intro x1 x2 x3 st H locs ls h hl hf
    rw [fA_fill_38_C_l5] at hf
    refine lv_iload_n hx hb dA_fill_5 rfl (lv_at hl 2 rfl) ?_
    refine lv_iload_n hx hb dA_fill_6 rfl (lv_at hl 3 rfl) ?_
    refine lv_icmp_ge (tgt := 20) hx hb dA_fill_7 rfl (fun hq => ?_) (fun hq => ?_)
    · have hf := ck_t hq hf
      exact ck_rv hf hret h dA_fill_20
    · have hf := ck_f hq hf
      refine lv_aload_n hx hb dA_fill_10 rfl (lv_at hl 0 rfl) ?_
      refine lv_iload_n hx hb dA_fill_11 rfl (lv_at hl 2 rfl) ?_
      refine lv_iload_n hx hb dA_fill_12 rfl (lv_at hl 1 rfl) ?_
      obtain ⟨hg, hf⟩ := ck_gd_e hf
      refine ck_si C h (show sh_C[38]? = some (.inr (0, 32)) from rfl) hg dA_fill_13 (fun H locs h => ?_)
      refine lv_iinc (k := 2) (v := (x2 + 1)) (lv' := [(2, .int (x2 + 1)), (0, .ref (ad 38)), (1, .int x1), (3, .int x3)]) hx hb dA_fill_14 hl rfl rfl (by decide) rfl (fun ls hl => ?_)
      refine lv_goto (tgt := 5) hx hb dA_fill_17 rfl ?_
      exact ih _ _ _ _ _ _ _ h (lv_sub hl [1, 2, 0, 3] rfl) hf
def fA_fill_38_C (x1 : Int32) (st : ck_S) : Option ck_S := (fA_fill_38_C_l5  4096 x1 0 32 st)
set_option maxRecDepth 100000 in
set_option maxHeartbeats 4000000 in
theorem cA_fill_38_C (l : Launch) (D : va_G) (cA : Nat → ClassId) (ad : Nat → Nat) {x1 : Int32} {st : ck_S} {st0 : ck_S} (hf : fA_fill_38_C x1 st = some st0) : Met l yA_fill (.code yA_fill bA_fill 4 none :: ck_T) (ck_R 0) (va_Pc [.ref (ad 38), .int x1] (ck_P sh_C cm_cl D cA ad st)) (va_Qv (fun u => u = st0) (ck_P sh_C cm_cl D cA ad) (ck_A ad sh_C.length)) 0 0 (ck_A ad sh_C.length) := by
  refine ck_met_v (own := R_A) (by decide +kernel) rfl (Nat.le_of_ble_eq_true rfl) (fun p e R s m args below meth c H0 Q ls C hret h hl => ?_)
  have C1 := C
  obtain ⟨hx, hb, hml, hown, hts, hK, hlv, hlo⟩ := C1
  have hl : lv_has ls 4 [(0, .ref (ad 38)), (1, .int x1)] := hl
  unfold fA_fill_38_C at hf
  refine lv_iconst (v := 0) hx hb dA_fill_0 (by decide) ?_
  refine lv_istore_n (lv' := [(2, .int 0), (0, .ref (ad 38)), (1, .int x1)]) hx hb dA_fill_1 rfl hl (by decide) rfl (fun ls hl => ?_)
  refine lv_aload_n hx hb dA_fill_2 rfl (lv_at hl 1 rfl) ?_
  refine ck_an (x := 32) C h (show sh_C[38]? = some (.inr (0, 32)) from rfl) (by decide) dA_fill_3 ?_
  refine lv_istore_n (lv' := [(3, .int 32), (2, .int 0), (0, .ref (ad 38)), (1, .int x1)]) hx hb dA_fill_4 rfl hl (by decide) rfl (fun ls hl => ?_)
  exact BA_fill_38_C_5 C hret  4096 _ _ _ _ _ _ _ h (lv_sub hl [2, 3, 1, 0] rfl) hf
def fA_fill_39_C_l5 : Nat → Int32 → Int32 → Int32 → ck_S → Option ck_S
  | 0, _, _, _, _ => none
  | n + 1, x1, x2, x3, st => (if x3 ≤ x2 then (some st) else (ck_gd x2 32 (fA_fill_39_C_l5 n x1 (x2 + 1) x3 (ck_u st 39 (x2).toNatClampNeg x1))))
set_option maxRecDepth 100000 in
set_option maxHeartbeats 4000000 in
theorem BA_fill_39_C_5 (C : ck_X cm_cl D cA bA_fill 4 R_A 0 p R s m args c) {st0 : ck_S} (hret : ∀ (pc : Nat) (H : Heap) (locs : List Loc) (ls : Array Slot), decode bA_fill pc = .ok (.return_, 1) → ck_AT sh_C cm_cl D cA ad H0 st0 H locs → W p l e R s m args below meth c H locs 0 0 Q (F0 m pc ls [])) : ∀ (n : Nat) (x1 : Int32) (x2 : Int32) (x3 : Int32) (st : ck_S) (H : Heap) (locs : List Loc) (ls : Array Slot), ck_AT sh_C cm_cl D cA ad H0 st H locs → lv_has ls 4 [(0, .ref (ad 39)), (1, .int x1), (2, .int x2), (3, .int x3)] → fA_fill_39_C_l5  n x1 x2 x3 st = some st0 → W p l e R s m args below meth c H locs 0 0 Q (F0 m 5 ls []) := by
  have C1 := C
  obtain ⟨hx, hb, hml, hown, hts, hK, hlv, hlo⟩ := C1
  intro n
  induction n with
  | zero => intro _ _ _ _ _ _ _ _ _ hf; cases hf
  | succ n ih =>
    intro x1 x2 x3 st H locs ls h hl hf
    rw [fA_fill_39_C_l5] at hf
    refine lv_iload_n hx hb dA_fill_5 rfl (lv_at hl 2 rfl) ?_
    refine lv_iload_n hx hb dA_fill_6 rfl (lv_at hl 3 rfl) ?_
    refine lv_icmp_ge (tgt := 20) hx hb dA_fill_7 rfl (fun hq => ?_) (fun hq => ?_)
    · have hf := ck_t hq hf
      exact ck_rv hf hret h dA_fill_20
    · have hf := ck_f hq hf
      refine lv_aload_n hx hb dA_fill_10 rfl (lv_at hl 0 rfl) ?_
      refine lv_iload_n hx hb dA_fill_11 rfl (lv_at hl 2 rfl) ?_
      refine lv_iload_n hx hb dA_fill_12 rfl (lv_at hl 1 rfl) ?_
      obtain ⟨hg, hf⟩ := ck_gd_e hf
      refine ck_si C h (show sh_C[39]? = some (.inr (0, 32)) from rfl) hg dA_fill_13 (fun H locs h => ?_)
      refine lv_iinc (k := 2) (v := (x2 + 1)) (lv' := [(2, .int (x2 + 1)), (0, .ref (ad 39)), (1, .int x1), (3, .int x3)]) hx hb dA_fill_14 hl rfl rfl (by decide) rfl (fun ls hl => ?_)
      refine lv_goto (tgt := 5) hx hb dA_fill_17 rfl ?_
      exact ih _ _ _ _ _ _ _ h (lv_sub hl [1, 2, 0, 3] rfl) hf
def fA_fill_39_C (x1 : Int32) (st : ck_S) : Option ck_S := (fA_fill_39_C_l5  4096 x1 0 32 st)
set_option maxRecDepth 100000 in
set_option maxHeartbeats 4000000 in
theorem cA_fill_39_C (l : Launch) (D : va_G) (cA : Nat → ClassId) (ad : Nat → Nat) {x1 : Int32} {st : ck_S} {st0 : ck_S} (hf : fA_fill_39_C x1 st = some st0) : Met l yA_fill (.code yA_fill bA_fill 4 none :: ck_T) (ck_R 0) (va_Pc [.ref (ad 39), .int x1] (ck_P sh_C cm_cl D cA ad st)) (va_Qv (fun u => u = st0) (ck_P sh_C cm_cl D cA ad) (ck_A ad sh_C.length)) 0 0 (ck_A ad sh_C.length) := by
  refine ck_met_v (own := R_A) (by decide +kernel) rfl (Nat.le_of_ble_eq_true rfl) (fun p e R s m args below meth c H0 Q ls C hret h hl => ?_)
  have C1 := C
  obtain ⟨hx, hb, hml, hown, hts, hK, hlv, hlo⟩ := C1
  have hl : lv_has ls 4 [(0, .ref (ad 39)), (1, .int x1)] := hl
  unfold fA_fill_39_C at hf
  refine lv_iconst (v := 0) hx hb dA_fill_0 (by decide) ?_
  refine lv_istore_n (lv' := [(2, .int 0), (0, .ref (ad 39)), (1, .int x1)]) hx hb dA_fill_1 rfl hl (by decide) rfl (fun ls hl => ?_)
  refine lv_aload_n hx hb dA_fill_2 rfl (lv_at hl 1 rfl) ?_
  refine ck_an (x := 32) C h (show sh_C[39]? = some (.inr (0, 32)) from rfl) (by decide) dA_fill_3 ?_
  refine lv_istore_n (lv' := [(3, .int 32), (2, .int 0), (0, .ref (ad 39)), (1, .int x1)]) hx hb dA_fill_4 rfl hl (by decide) rfl (fun ls hl => ?_)
  exact BA_fill_39_C_5 C hret  4096 _ _ _ _ _ _ _ h (lv_sub hl [2, 3, 1, 0] rfl) hf
end SJdk
end
section
theorem dD_reset_0 : decode bD_reset 0 = .ok (.aload_n 0, 1) := by decide +kernel
theorem dD_reset_1 : decode bD_reset 1 = .ok (.iconst 0, 1) := by decide +kernel
theorem dD_reset_2 : decode bD_reset 2 = .ok (.putfield 21, 3) := by decide +kernel
theorem dD_reset_5 : decode bD_reset 5 = .ok (.aload_n 0, 1) := by decide +kernel
theorem dD_reset_6 : decode bD_reset 6 = .ok (.iconst 0, 1) := by decide +kernel
theorem dD_reset_7 : decode bD_reset 7 = .ok (.putfield 25, 3) := by decide +kernel
theorem dD_reset_10 : decode bD_reset 10 = .ok (.return_, 1) := by decide +kernel
theorem dD_addType_0 : decode bD_addType 0 = .ok (.aload_n 0, 1) := by decide +kernel
theorem dD_addType_1 : decode bD_addType 1 = .ok (.getfield 21, 3) := by decide +kernel
theorem dD_addType_4 : decode bD_addType 4 = .ok (.iconst 5, 1) := by decide +kernel
theorem dD_addType_5 : decode bD_addType 5 = .ok (.if_icmp .lt 6, 3) := by decide +kernel
theorem dD_addType_8 : decode bD_addType 8 = .ok (.bipush (-8), 2) := by decide +kernel
theorem dD_addType_10 : decode bD_addType 10 = .ok (.ireturn, 1) := by decide +kernel
theorem dD_addType_11 : decode bD_addType 11 = .ok (.aload_n 0, 1) := by decide +kernel
theorem dD_addType_12 : decode bD_addType 12 = .ok (.dup, 1) := by decide +kernel
theorem dD_addType_13 : decode bD_addType 13 = .ok (.getfield 21, 3) := by decide +kernel
theorem dD_addType_16 : decode bD_addType 16 = .ok (.iconst 1, 1) := by decide +kernel
theorem dD_addType_17 : decode bD_addType 17 = .ok (.iadd, 1) := by decide +kernel
theorem dD_addType_18 : decode bD_addType 18 = .ok (.putfield 21, 3) := by decide +kernel
theorem dD_addType_21 : decode bD_addType 21 = .ok (.aload_n 0, 1) := by decide +kernel
theorem dD_addType_22 : decode bD_addType 22 = .ok (.getfield 21, 3) := by decide +kernel
theorem dD_addType_25 : decode bD_addType 25 = .ok (.ireturn, 1) := by decide +kernel
theorem dD_countOfType_0 : decode bD_countOfType 0 = .ok (.iconst 0, 1) := by decide +kernel
theorem dD_countOfType_1 : decode bD_countOfType 1 = .ok (.istore_n 2, 1) := by decide +kernel
theorem dD_countOfType_2 : decode bD_countOfType 2 = .ok (.iconst 0, 1) := by decide +kernel
theorem dD_countOfType_3 : decode bD_countOfType 3 = .ok (.istore_n 3, 1) := by decide +kernel
theorem dD_countOfType_4 : decode bD_countOfType 4 = .ok (.iload_n 3, 1) := by decide +kernel
theorem dD_countOfType_5 : decode bD_countOfType 5 = .ok (.aload_n 0, 1) := by decide +kernel
theorem dD_countOfType_6 : decode bD_countOfType 6 = .ok (.getfield 25, 3) := by decide +kernel
theorem dD_countOfType_9 : decode bD_countOfType 9 = .ok (.if_icmp .ge 22, 3) := by decide +kernel
theorem dD_countOfType_12 : decode bD_countOfType 12 = .ok (.aload_n 0, 1) := by decide +kernel
theorem dD_countOfType_13 : decode bD_countOfType 13 = .ok (.getfield 9, 3) := by decide +kernel
theorem dD_countOfType_16 : decode bD_countOfType 16 = .ok (.iload_n 3, 1) := by decide +kernel
theorem dD_countOfType_17 : decode bD_countOfType 17 = .ok (.iaload, 1) := by decide +kernel
theorem dD_countOfType_18 : decode bD_countOfType 18 = .ok (.iload_n 1, 1) := by decide +kernel
theorem dD_countOfType_19 : decode bD_countOfType 19 = .ok (.if_icmp .ne 6, 3) := by decide +kernel
theorem dD_countOfType_22 : decode bD_countOfType 22 = .ok (.iinc 2 1, 3) := by decide +kernel
theorem dD_countOfType_25 : decode bD_countOfType 25 = .ok (.iinc 3 1, 3) := by decide +kernel
theorem dD_countOfType_28 : decode bD_countOfType 28 = .ok (.goto (-24), 3) := by decide +kernel
theorem dD_countOfType_31 : decode bD_countOfType 31 = .ok (.iload_n 2, 1) := by decide +kernel
theorem dD_countOfType_32 : decode bD_countOfType 32 = .ok (.ireturn, 1) := by decide +kernel
theorem dD_addConstructor_0 : decode bD_addConstructor 0 = .ok (.aload_n 0, 1) := by decide +kernel
theorem dD_addConstructor_1 : decode bD_addConstructor 1 = .ok (.getfield 25, 3) := by decide +kernel
theorem dD_addConstructor_4 : decode bD_addConstructor 4 = .ok (.bipush 12, 2) := by decide +kernel
theorem dD_addConstructor_6 : decode bD_addConstructor 6 = .ok (.if_icmp .ge 12, 3) := by decide +kernel
theorem dD_addConstructor_9 : decode bD_addConstructor 9 = .ok (.aload_n 0, 1) := by decide +kernel
theorem dD_addConstructor_10 : decode bD_addConstructor 10 = .ok (.iload_n 1, 1) := by decide +kernel
theorem dD_addConstructor_11 : decode bD_addConstructor 11 = .ok (.invokevirtual 28, 3) := by decide +kernel
theorem dD_addConstructor_14 : decode bD_addConstructor 14 = .ok (.iconst 4, 1) := by decide +kernel
theorem dD_addConstructor_15 : decode bD_addConstructor 15 = .ok (.if_icmp .lt 6, 3) := by decide +kernel
theorem dD_addConstructor_18 : decode bD_addConstructor 18 = .ok (.bipush (-8), 2) := by decide +kernel
theorem dD_addConstructor_20 : decode bD_addConstructor 20 = .ok (.ireturn, 1) := by decide +kernel
theorem dD_addConstructor_21 : decode bD_addConstructor 21 = .ok (.aload_n 0, 1) := by decide +kernel
theorem dD_addConstructor_22 : decode bD_addConstructor 22 = .ok (.getfield 25, 3) := by decide +kernel
theorem dD_addConstructor_25 : decode bD_addConstructor 25 = .ok (.istore 4, 2) := by decide +kernel
theorem dD_addConstructor_27 : decode bD_addConstructor 27 = .ok (.aload_n 0, 1) := by decide +kernel
theorem dD_addConstructor_28 : decode bD_addConstructor 28 = .ok (.getfield 9, 3) := by decide +kernel
theorem dD_addConstructor_31 : decode bD_addConstructor 31 = .ok (.iload 4, 2) := by decide +kernel
theorem dD_addConstructor_33 : decode bD_addConstructor 33 = .ok (.iload_n 1, 1) := by decide +kernel
theorem dD_addConstructor_34 : decode bD_addConstructor 34 = .ok (.iastore, 1) := by decide +kernel
theorem dD_addConstructor_35 : decode bD_addConstructor 35 = .ok (.aload_n 0, 1) := by decide +kernel
theorem dD_addConstructor_36 : decode bD_addConstructor 36 = .ok (.getfield 15, 3) := by decide +kernel
theorem dD_addConstructor_39 : decode bD_addConstructor 39 = .ok (.iload 4, 2) := by decide +kernel
theorem dD_addConstructor_41 : decode bD_addConstructor 41 = .ok (.iload_n 2, 1) := by decide +kernel
theorem dD_addConstructor_42 : decode bD_addConstructor 42 = .ok (.iastore, 1) := by decide +kernel
theorem dD_addConstructor_43 : decode bD_addConstructor 43 = .ok (.aload_n 0, 1) := by decide +kernel
theorem dD_addConstructor_44 : decode bD_addConstructor 44 = .ok (.getfield 18, 3) := by decide +kernel
theorem dD_addConstructor_47 : decode bD_addConstructor 47 = .ok (.iload 4, 2) := by decide +kernel
theorem dD_addConstructor_49 : decode bD_addConstructor 49 = .ok (.iload_n 3, 1) := by decide +kernel
theorem dD_addConstructor_50 : decode bD_addConstructor 50 = .ok (.iastore, 1) := by decide +kernel
theorem dD_addConstructor_51 : decode bD_addConstructor 51 = .ok (.aload_n 0, 1) := by decide +kernel
theorem dD_addConstructor_52 : decode bD_addConstructor 52 = .ok (.dup, 1) := by decide +kernel
theorem dD_addConstructor_53 : decode bD_addConstructor 53 = .ok (.getfield 25, 3) := by decide +kernel
theorem dD_addConstructor_56 : decode bD_addConstructor 56 = .ok (.iconst 1, 1) := by decide +kernel
theorem dD_addConstructor_57 : decode bD_addConstructor 57 = .ok (.iadd, 1) := by decide +kernel
theorem dD_addConstructor_58 : decode bD_addConstructor 58 = .ok (.putfield 25, 3) := by decide +kernel
theorem dD_addConstructor_61 : decode bD_addConstructor 61 = .ok (.iload 4, 2) := by decide +kernel
theorem dD_addConstructor_63 : decode bD_addConstructor 63 = .ok (.ireturn, 1) := by decide +kernel
theorem dD_isType_0 : decode bD_isType 0 = .ok (.iload_n 1, 1) := by decide +kernel
theorem dD_isType_1 : decode bD_isType 1 = .ok (.ifCond .lt 15, 3) := by decide +kernel
theorem dD_isType_4 : decode bD_isType 4 = .ok (.iload_n 1, 1) := by decide +kernel
theorem dD_isType_5 : decode bD_isType 5 = .ok (.aload_n 0, 1) := by decide +kernel
theorem dD_isType_6 : decode bD_isType 6 = .ok (.getfield 21, 3) := by decide +kernel
theorem dD_isType_9 : decode bD_isType 9 = .ok (.if_icmp .gt 7, 3) := by decide +kernel
theorem dD_isType_12 : decode bD_isType 12 = .ok (.iconst 1, 1) := by decide +kernel
theorem dD_isType_13 : decode bD_isType 13 = .ok (.goto 4, 3) := by decide +kernel
theorem dD_isType_16 : decode bD_isType 16 = .ok (.iconst 0, 1) := by decide +kernel
theorem dD_isType_17 : decode bD_isType 17 = .ok (.ireturn, 1) := by decide +kernel
theorem dD_isOwnType_0 : decode bD_isOwnType 0 = .ok (.iload_n 1, 1) := by decide +kernel
theorem dD_isOwnType_1 : decode bD_isOwnType 1 = .ok (.ifCond .le 15, 3) := by decide +kernel
theorem dD_isOwnType_4 : decode bD_isOwnType 4 = .ok (.iload_n 1, 1) := by decide +kernel
theorem dD_isOwnType_5 : decode bD_isOwnType 5 = .ok (.aload_n 0, 1) := by decide +kernel
theorem dD_isOwnType_6 : decode bD_isOwnType 6 = .ok (.getfield 21, 3) := by decide +kernel
theorem dD_isOwnType_9 : decode bD_isOwnType 9 = .ok (.if_icmp .gt 7, 3) := by decide +kernel
theorem dD_isOwnType_12 : decode bD_isOwnType 12 = .ok (.iconst 1, 1) := by decide +kernel
theorem dD_isOwnType_13 : decode bD_isOwnType 13 = .ok (.goto 4, 3) := by decide +kernel
theorem dD_isOwnType_16 : decode bD_isOwnType 16 = .ok (.iconst 0, 1) := by decide +kernel
theorem dD_isOwnType_17 : decode bD_isOwnType 17 = .ok (.ireturn, 1) := by decide +kernel
theorem dD_canBeArguments_0 : decode bD_canBeArguments 0 = .ok (.iload_n 1, 1) := by decide +kernel
theorem dD_canBeArguments_1 : decode bD_canBeArguments 1 = .ok (.iconst (-1), 1) := by decide +kernel
theorem dD_canBeArguments_2 : decode bD_canBeArguments 2 = .ok (.if_icmp .ne 14, 3) := by decide +kernel
theorem dD_canBeArguments_5 : decode bD_canBeArguments 5 = .ok (.iload_n 2, 1) := by decide +kernel
theorem dD_canBeArguments_6 : decode bD_canBeArguments 6 = .ok (.iconst (-1), 1) := by decide +kernel
theorem dD_canBeArguments_7 : decode bD_canBeArguments 7 = .ok (.if_icmp .ne 7, 3) := by decide +kernel
theorem dD_canBeArguments_10 : decode bD_canBeArguments 10 = .ok (.iconst 1, 1) := by decide +kernel
theorem dD_canBeArguments_11 : decode bD_canBeArguments 11 = .ok (.goto 4, 3) := by decide +kernel
theorem dD_canBeArguments_14 : decode bD_canBeArguments 14 = .ok (.iconst 0, 1) := by decide +kernel
theorem dD_canBeArguments_15 : decode bD_canBeArguments 15 = .ok (.ireturn, 1) := by decide +kernel
theorem dD_canBeArguments_16 : decode bD_canBeArguments 16 = .ok (.aload_n 0, 1) := by decide +kernel
theorem dD_canBeArguments_17 : decode bD_canBeArguments 17 = .ok (.iload_n 1, 1) := by decide +kernel
theorem dD_canBeArguments_18 : decode bD_canBeArguments 18 = .ok (.invokevirtual 32, 3) := by decide +kernel
theorem dD_canBeArguments_21 : decode bD_canBeArguments 21 = .ok (.ifCond .eq 20, 3) := by decide +kernel
theorem dD_canBeArguments_24 : decode bD_canBeArguments 24 = .ok (.iload_n 2, 1) := by decide +kernel
theorem dD_canBeArguments_25 : decode bD_canBeArguments 25 = .ok (.iconst (-1), 1) := by decide +kernel
theorem dD_canBeArguments_26 : decode bD_canBeArguments 26 = .ok (.if_icmp .eq 11, 3) := by decide +kernel
theorem dD_canBeArguments_29 : decode bD_canBeArguments 29 = .ok (.aload_n 0, 1) := by decide +kernel
theorem dD_canBeArguments_30 : decode bD_canBeArguments 30 = .ok (.iload_n 2, 1) := by decide +kernel
theorem dD_canBeArguments_31 : decode bD_canBeArguments 31 = .ok (.invokevirtual 32, 3) := by decide +kernel
theorem dD_canBeArguments_34 : decode bD_canBeArguments 34 = .ok (.ifCond .eq 7, 3) := by decide +kernel
theorem dD_canBeArguments_37 : decode bD_canBeArguments 37 = .ok (.iconst 1, 1) := by decide +kernel
theorem dD_canBeArguments_38 : decode bD_canBeArguments 38 = .ok (.goto 4, 3) := by decide +kernel
theorem dD_canBeArguments_41 : decode bD_canBeArguments 41 = .ok (.iconst 0, 1) := by decide +kernel
theorem dD_canBeArguments_42 : decode bD_canBeArguments 42 = .ok (.ireturn, 1) := by decide +kernel
theorem dD_isConstructor_0 : decode bD_isConstructor 0 = .ok (.iload_n 1, 1) := by decide +kernel
theorem dD_isConstructor_1 : decode bD_isConstructor 1 = .ok (.ifCond .lt 15, 3) := by decide +kernel
theorem dD_isConstructor_4 : decode bD_isConstructor 4 = .ok (.iload_n 1, 1) := by decide +kernel
theorem dD_isConstructor_5 : decode bD_isConstructor 5 = .ok (.aload_n 0, 1) := by decide +kernel
theorem dD_isConstructor_6 : decode bD_isConstructor 6 = .ok (.getfield 25, 3) := by decide +kernel
theorem dD_isConstructor_9 : decode bD_isConstructor 9 = .ok (.if_icmp .ge 7, 3) := by decide +kernel
theorem dD_isConstructor_12 : decode bD_isConstructor 12 = .ok (.iconst 1, 1) := by decide +kernel
theorem dD_isConstructor_13 : decode bD_isConstructor 13 = .ok (.goto 4, 3) := by decide +kernel
theorem dD_isConstructor_16 : decode bD_isConstructor 16 = .ok (.iconst 0, 1) := by decide +kernel
theorem dD_isConstructor_17 : decode bD_isConstructor 17 = .ok (.ireturn, 1) := by decide +kernel
theorem dD_constructorCount_0 : decode bD_constructorCount 0 = .ok (.aload_n 0, 1) := by decide +kernel
theorem dD_constructorCount_1 : decode bD_constructorCount 1 = .ok (.getfield 25, 3) := by decide +kernel
theorem dD_constructorCount_4 : decode bD_constructorCount 4 = .ok (.ireturn, 1) := by decide +kernel
theorem dD_ownerOf_0 : decode bD_ownerOf 0 = .ok (.aload_n 0, 1) := by decide +kernel
theorem dD_ownerOf_1 : decode bD_ownerOf 1 = .ok (.iload_n 1, 1) := by decide +kernel
theorem dD_ownerOf_2 : decode bD_ownerOf 2 = .ok (.invokevirtual 36, 3) := by decide +kernel
theorem dD_ownerOf_5 : decode bD_ownerOf 5 = .ok (.ifCond .eq 12, 3) := by decide +kernel
theorem dD_ownerOf_8 : decode bD_ownerOf 8 = .ok (.aload_n 0, 1) := by decide +kernel
theorem dD_ownerOf_9 : decode bD_ownerOf 9 = .ok (.getfield 9, 3) := by decide +kernel
theorem dD_ownerOf_12 : decode bD_ownerOf 12 = .ok (.iload_n 1, 1) := by decide +kernel
theorem dD_ownerOf_13 : decode bD_ownerOf 13 = .ok (.iaload, 1) := by decide +kernel
theorem dD_ownerOf_14 : decode bD_ownerOf 14 = .ok (.goto 4, 3) := by decide +kernel
theorem dD_ownerOf_17 : decode bD_ownerOf 17 = .ok (.iconst (-1), 1) := by decide +kernel
theorem dD_ownerOf_18 : decode bD_ownerOf 18 = .ok (.ireturn, 1) := by decide +kernel
theorem dD_firstTypeOf_0 : decode bD_firstTypeOf 0 = .ok (.aload_n 0, 1) := by decide +kernel
theorem dD_firstTypeOf_1 : decode bD_firstTypeOf 1 = .ok (.iload_n 1, 1) := by decide +kernel
theorem dD_firstTypeOf_2 : decode bD_firstTypeOf 2 = .ok (.invokevirtual 36, 3) := by decide +kernel
theorem dD_firstTypeOf_5 : decode bD_firstTypeOf 5 = .ok (.ifCond .eq 12, 3) := by decide +kernel
theorem dD_firstTypeOf_8 : decode bD_firstTypeOf 8 = .ok (.aload_n 0, 1) := by decide +kernel
theorem dD_firstTypeOf_9 : decode bD_firstTypeOf 9 = .ok (.getfield 15, 3) := by decide +kernel
theorem dD_firstTypeOf_12 : decode bD_firstTypeOf 12 = .ok (.iload_n 1, 1) := by decide +kernel
theorem dD_firstTypeOf_13 : decode bD_firstTypeOf 13 = .ok (.iaload, 1) := by decide +kernel
theorem dD_firstTypeOf_14 : decode bD_firstTypeOf 14 = .ok (.goto 4, 3) := by decide +kernel
theorem dD_firstTypeOf_17 : decode bD_firstTypeOf 17 = .ok (.iconst (-1), 1) := by decide +kernel
theorem dD_firstTypeOf_18 : decode bD_firstTypeOf 18 = .ok (.ireturn, 1) := by decide +kernel
theorem dD_secondTypeOf_0 : decode bD_secondTypeOf 0 = .ok (.aload_n 0, 1) := by decide +kernel
theorem dD_secondTypeOf_1 : decode bD_secondTypeOf 1 = .ok (.iload_n 1, 1) := by decide +kernel
theorem dD_secondTypeOf_2 : decode bD_secondTypeOf 2 = .ok (.invokevirtual 36, 3) := by decide +kernel
theorem dD_secondTypeOf_5 : decode bD_secondTypeOf 5 = .ok (.ifCond .eq 12, 3) := by decide +kernel
theorem dD_secondTypeOf_8 : decode bD_secondTypeOf 8 = .ok (.aload_n 0, 1) := by decide +kernel
theorem dD_secondTypeOf_9 : decode bD_secondTypeOf 9 = .ok (.getfield 18, 3) := by decide +kernel
theorem dD_secondTypeOf_12 : decode bD_secondTypeOf 12 = .ok (.iload_n 1, 1) := by decide +kernel
theorem dD_secondTypeOf_13 : decode bD_secondTypeOf 13 = .ok (.iaload, 1) := by decide +kernel
theorem dD_secondTypeOf_14 : decode bD_secondTypeOf 14 = .ok (.goto 4, 3) := by decide +kernel
theorem dD_secondTypeOf_17 : decode bD_secondTypeOf 17 = .ok (.iconst (-1), 1) := by decide +kernel
theorem dD_secondTypeOf_18 : decode bD_secondTypeOf 18 = .ok (.ireturn, 1) := by decide +kernel
theorem dD_argumentPlaces_0 : decode bD_argumentPlaces 0 = .ok (.iconst 0, 1) := by decide +kernel
theorem dD_argumentPlaces_1 : decode bD_argumentPlaces 1 = .ok (.istore_n 3, 1) := by decide +kernel
theorem dD_argumentPlaces_2 : decode bD_argumentPlaces 2 = .ok (.aload_n 0, 1) := by decide +kernel
theorem dD_argumentPlaces_3 : decode bD_argumentPlaces 3 = .ok (.iload_n 1, 1) := by decide +kernel
theorem dD_argumentPlaces_4 : decode bD_argumentPlaces 4 = .ok (.invokevirtual 39, 3) := by decide +kernel
theorem dD_argumentPlaces_7 : decode bD_argumentPlaces 7 = .ok (.iconst (-1), 1) := by decide +kernel
theorem dD_argumentPlaces_8 : decode bD_argumentPlaces 8 = .ok (.if_icmp .eq 11, 3) := by decide +kernel
theorem dD_argumentPlaces_11 : decode bD_argumentPlaces 11 = .ok (.iload_n 3, 1) := by decide +kernel
theorem dD_argumentPlaces_12 : decode bD_argumentPlaces 12 = .ok (.iconst 1, 1) := by decide +kernel
theorem dD_argumentPlaces_13 : decode bD_argumentPlaces 13 = .ok (.iconst 2, 1) := by decide +kernel
theorem dD_argumentPlaces_14 : decode bD_argumentPlaces 14 = .ok (.iload_n 2, 1) := by decide +kernel
theorem dD_argumentPlaces_15 : decode bD_argumentPlaces 15 = .ok (.imul, 1) := by decide +kernel
theorem dD_argumentPlaces_16 : decode bD_argumentPlaces 16 = .ok (.ishl, 1) := by decide +kernel
theorem dD_argumentPlaces_17 : decode bD_argumentPlaces 17 = .ok (.ior, 1) := by decide +kernel
theorem dD_argumentPlaces_18 : decode bD_argumentPlaces 18 = .ok (.istore_n 3, 1) := by decide +kernel
theorem dD_argumentPlaces_19 : decode bD_argumentPlaces 19 = .ok (.aload_n 0, 1) := by decide +kernel
theorem dD_argumentPlaces_20 : decode bD_argumentPlaces 20 = .ok (.iload_n 1, 1) := by decide +kernel
theorem dD_argumentPlaces_21 : decode bD_argumentPlaces 21 = .ok (.invokevirtual 42, 3) := by decide +kernel
theorem dD_argumentPlaces_24 : decode bD_argumentPlaces 24 = .ok (.iconst (-1), 1) := by decide +kernel
theorem dD_argumentPlaces_25 : decode bD_argumentPlaces 25 = .ok (.if_icmp .eq 13, 3) := by decide +kernel
theorem dD_argumentPlaces_28 : decode bD_argumentPlaces 28 = .ok (.iload_n 3, 1) := by decide +kernel
theorem dD_argumentPlaces_29 : decode bD_argumentPlaces 29 = .ok (.iconst 1, 1) := by decide +kernel
theorem dD_argumentPlaces_30 : decode bD_argumentPlaces 30 = .ok (.iconst 2, 1) := by decide +kernel
theorem dD_argumentPlaces_31 : decode bD_argumentPlaces 31 = .ok (.iload_n 2, 1) := by decide +kernel
theorem dD_argumentPlaces_32 : decode bD_argumentPlaces 32 = .ok (.imul, 1) := by decide +kernel
theorem dD_argumentPlaces_33 : decode bD_argumentPlaces 33 = .ok (.iconst 1, 1) := by decide +kernel
theorem dD_argumentPlaces_34 : decode bD_argumentPlaces 34 = .ok (.iadd, 1) := by decide +kernel
theorem dD_argumentPlaces_35 : decode bD_argumentPlaces 35 = .ok (.ishl, 1) := by decide +kernel
theorem dD_argumentPlaces_36 : decode bD_argumentPlaces 36 = .ok (.ior, 1) := by decide +kernel
theorem dD_argumentPlaces_37 : decode bD_argumentPlaces 37 = .ok (.istore_n 3, 1) := by decide +kernel
theorem dD_argumentPlaces_38 : decode bD_argumentPlaces 38 = .ok (.iload_n 3, 1) := by decide +kernel
theorem dD_argumentPlaces_39 : decode bD_argumentPlaces 39 = .ok (.ireturn, 1) := by decide +kernel
theorem dD_canBeGiven_0 : decode bD_canBeGiven 0 = .ok (.iload_n 0, 1) := by decide +kernel
theorem dD_canBeGiven_1 : decode bD_canBeGiven 1 = .ok (.iconst (-1), 1) := by decide +kernel
theorem dD_canBeGiven_2 : decode bD_canBeGiven 2 = .ok (.if_icmp .eq 12, 3) := by decide +kernel
theorem dD_canBeGiven_5 : decode bD_canBeGiven 5 = .ok (.iload_n 1, 1) := by decide +kernel
theorem dD_canBeGiven_6 : decode bD_canBeGiven 6 = .ok (.iload_n 0, 1) := by decide +kernel
theorem dD_canBeGiven_7 : decode bD_canBeGiven 7 = .ok (.ishr, 1) := by decide +kernel
theorem dD_canBeGiven_8 : decode bD_canBeGiven 8 = .ok (.iconst 1, 1) := by decide +kernel
theorem dD_canBeGiven_9 : decode bD_canBeGiven 9 = .ok (.iand, 1) := by decide +kernel
theorem dD_canBeGiven_10 : decode bD_canBeGiven 10 = .ok (.iconst 1, 1) := by decide +kernel
theorem dD_canBeGiven_11 : decode bD_canBeGiven 11 = .ok (.if_icmp .ne 7, 3) := by decide +kernel
theorem dD_canBeGiven_14 : decode bD_canBeGiven 14 = .ok (.iconst 1, 1) := by decide +kernel
theorem dD_canBeGiven_15 : decode bD_canBeGiven 15 = .ok (.goto 4, 3) := by decide +kernel
theorem dD_canBeGiven_18 : decode bD_canBeGiven 18 = .ok (.iconst 0, 1) := by decide +kernel
theorem dD_canBeGiven_19 : decode bD_canBeGiven 19 = .ok (.ireturn, 1) := by decide +kernel
theorem dD_withTypesBuiltFrom_0 : decode bD_withTypesBuiltFrom 0 = .ok (.iload_n 1, 1) := by decide +kernel
theorem dD_withTypesBuiltFrom_1 : decode bD_withTypesBuiltFrom 1 = .ok (.istore_n 2, 1) := by decide +kernel
theorem dD_withTypesBuiltFrom_2 : decode bD_withTypesBuiltFrom 2 = .ok (.iconst 0, 1) := by decide +kernel
theorem dD_withTypesBuiltFrom_3 : decode bD_withTypesBuiltFrom 3 = .ok (.istore_n 3, 1) := by decide +kernel
theorem dD_withTypesBuiltFrom_4 : decode bD_withTypesBuiltFrom 4 = .ok (.iload_n 3, 1) := by decide +kernel
theorem dD_withTypesBuiltFrom_5 : decode bD_withTypesBuiltFrom 5 = .ok (.aload_n 0, 1) := by decide +kernel
theorem dD_withTypesBuiltFrom_6 : decode bD_withTypesBuiltFrom 6 = .ok (.getfield 25, 3) := by decide +kernel
theorem dD_withTypesBuiltFrom_9 : decode bD_withTypesBuiltFrom 9 = .ok (.if_icmp .ge 46, 3) := by decide +kernel
theorem dD_withTypesBuiltFrom_12 : decode bD_withTypesBuiltFrom 12 = .ok (.aload_n 0, 1) := by decide +kernel
theorem dD_withTypesBuiltFrom_13 : decode bD_withTypesBuiltFrom 13 = .ok (.getfield 15, 3) := by decide +kernel
theorem dD_withTypesBuiltFrom_16 : decode bD_withTypesBuiltFrom 16 = .ok (.iload_n 3, 1) := by decide +kernel
theorem dD_withTypesBuiltFrom_17 : decode bD_withTypesBuiltFrom 17 = .ok (.iaload, 1) := by decide +kernel
theorem dD_withTypesBuiltFrom_18 : decode bD_withTypesBuiltFrom 18 = .ok (.iload_n 2, 1) := by decide +kernel
theorem dD_withTypesBuiltFrom_19 : decode bD_withTypesBuiltFrom 19 = .ok (.invokestatic 48, 3) := by decide +kernel
theorem dD_withTypesBuiltFrom_22 : decode bD_withTypesBuiltFrom 22 = .ok (.ifCond .eq 27, 3) := by decide +kernel
theorem dD_withTypesBuiltFrom_25 : decode bD_withTypesBuiltFrom 25 = .ok (.aload_n 0, 1) := by decide +kernel
theorem dD_withTypesBuiltFrom_26 : decode bD_withTypesBuiltFrom 26 = .ok (.getfield 18, 3) := by decide +kernel
theorem dD_withTypesBuiltFrom_29 : decode bD_withTypesBuiltFrom 29 = .ok (.iload_n 3, 1) := by decide +kernel
theorem dD_withTypesBuiltFrom_30 : decode bD_withTypesBuiltFrom 30 = .ok (.iaload, 1) := by decide +kernel
theorem dD_withTypesBuiltFrom_31 : decode bD_withTypesBuiltFrom 31 = .ok (.iload_n 2, 1) := by decide +kernel
theorem dD_withTypesBuiltFrom_32 : decode bD_withTypesBuiltFrom 32 = .ok (.invokestatic 48, 3) := by decide +kernel
theorem dD_withTypesBuiltFrom_35 : decode bD_withTypesBuiltFrom 35 = .ok (.ifCond .eq 14, 3) := by decide +kernel
theorem dD_withTypesBuiltFrom_38 : decode bD_withTypesBuiltFrom 38 = .ok (.iload_n 2, 1) := by decide +kernel
theorem dD_withTypesBuiltFrom_39 : decode bD_withTypesBuiltFrom 39 = .ok (.iconst 1, 1) := by decide +kernel
theorem dD_withTypesBuiltFrom_40 : decode bD_withTypesBuiltFrom 40 = .ok (.aload_n 0, 1) := by decide +kernel
theorem dD_withTypesBuiltFrom_41 : decode bD_withTypesBuiltFrom 41 = .ok (.getfield 9, 3) := by decide +kernel
theorem dD_withTypesBuiltFrom_44 : decode bD_withTypesBuiltFrom 44 = .ok (.iload_n 3, 1) := by decide +kernel
theorem dD_withTypesBuiltFrom_45 : decode bD_withTypesBuiltFrom 45 = .ok (.iaload, 1) := by decide +kernel
theorem dD_withTypesBuiltFrom_46 : decode bD_withTypesBuiltFrom 46 = .ok (.ishl, 1) := by decide +kernel
theorem dD_withTypesBuiltFrom_47 : decode bD_withTypesBuiltFrom 47 = .ok (.ior, 1) := by decide +kernel
theorem dD_withTypesBuiltFrom_48 : decode bD_withTypesBuiltFrom 48 = .ok (.istore_n 2, 1) := by decide +kernel
theorem dD_withTypesBuiltFrom_49 : decode bD_withTypesBuiltFrom 49 = .ok (.iinc 3 1, 3) := by decide +kernel
theorem dD_withTypesBuiltFrom_52 : decode bD_withTypesBuiltFrom 52 = .ok (.goto (-48), 3) := by decide +kernel
theorem dD_withTypesBuiltFrom_55 : decode bD_withTypesBuiltFrom 55 = .ok (.iload_n 2, 1) := by decide +kernel
theorem dD_withTypesBuiltFrom_56 : decode bD_withTypesBuiltFrom 56 = .ok (.ireturn, 1) := by decide +kernel
theorem dD_everyTypeHasValues_0 : decode bD_everyTypeHasValues 0 = .ok (.iconst 1, 1) := by decide +kernel
theorem dD_everyTypeHasValues_1 : decode bD_everyTypeHasValues 1 = .ok (.istore_n 1, 1) := by decide +kernel
theorem dD_everyTypeHasValues_2 : decode bD_everyTypeHasValues 2 = .ok (.iconst 0, 1) := by decide +kernel
theorem dD_everyTypeHasValues_3 : decode bD_everyTypeHasValues 3 = .ok (.istore_n 2, 1) := by decide +kernel
theorem dD_everyTypeHasValues_4 : decode bD_everyTypeHasValues 4 = .ok (.iload_n 2, 1) := by decide +kernel
theorem dD_everyTypeHasValues_5 : decode bD_everyTypeHasValues 5 = .ok (.aload_n 0, 1) := by decide +kernel
theorem dD_everyTypeHasValues_6 : decode bD_everyTypeHasValues 6 = .ok (.getfield 21, 3) := by decide +kernel
theorem dD_everyTypeHasValues_9 : decode bD_everyTypeHasValues 9 = .ok (.if_icmp .ge 15, 3) := by decide +kernel
theorem dD_everyTypeHasValues_12 : decode bD_everyTypeHasValues 12 = .ok (.aload_n 0, 1) := by decide +kernel
theorem dD_everyTypeHasValues_13 : decode bD_everyTypeHasValues 13 = .ok (.iload_n 1, 1) := by decide +kernel
theorem dD_everyTypeHasValues_14 : decode bD_everyTypeHasValues 14 = .ok (.invokevirtual 45, 3) := by decide +kernel
theorem dD_everyTypeHasValues_17 : decode bD_everyTypeHasValues 17 = .ok (.istore_n 1, 1) := by decide +kernel
theorem dD_everyTypeHasValues_18 : decode bD_everyTypeHasValues 18 = .ok (.iinc 2 1, 3) := by decide +kernel
theorem dD_everyTypeHasValues_21 : decode bD_everyTypeHasValues 21 = .ok (.goto (-17), 3) := by decide +kernel
theorem dD_everyTypeHasValues_24 : decode bD_everyTypeHasValues 24 = .ok (.iload_n 1, 1) := by decide +kernel
theorem dD_everyTypeHasValues_25 : decode bD_everyTypeHasValues 25 = .ok (.iconst 1, 1) := by decide +kernel
theorem dD_everyTypeHasValues_26 : decode bD_everyTypeHasValues 26 = .ok (.aload_n 0, 1) := by decide +kernel
theorem dD_everyTypeHasValues_27 : decode bD_everyTypeHasValues 27 = .ok (.getfield 21, 3) := by decide +kernel
theorem dD_everyTypeHasValues_30 : decode bD_everyTypeHasValues 30 = .ok (.iconst 1, 1) := by decide +kernel
theorem dD_everyTypeHasValues_31 : decode bD_everyTypeHasValues 31 = .ok (.iadd, 1) := by decide +kernel
theorem dD_everyTypeHasValues_32 : decode bD_everyTypeHasValues 32 = .ok (.ishl, 1) := by decide +kernel
theorem dD_everyTypeHasValues_33 : decode bD_everyTypeHasValues 33 = .ok (.iconst 1, 1) := by decide +kernel
theorem dD_everyTypeHasValues_34 : decode bD_everyTypeHasValues 34 = .ok (.isub, 1) := by decide +kernel
theorem dD_everyTypeHasValues_35 : decode bD_everyTypeHasValues 35 = .ok (.if_icmp .ne 7, 3) := by decide +kernel
theorem dD_everyTypeHasValues_38 : decode bD_everyTypeHasValues 38 = .ok (.iconst 1, 1) := by decide +kernel
theorem dD_everyTypeHasValues_39 : decode bD_everyTypeHasValues 39 = .ok (.goto 4, 3) := by decide +kernel
theorem dD_everyTypeHasValues_42 : decode bD_everyTypeHasValues 42 = .ok (.iconst 0, 1) := by decide +kernel
theorem dD_everyTypeHasValues_43 : decode bD_everyTypeHasValues 43 = .ok (.ireturn, 1) := by decide +kernel
section Sdecl
variable {p : Program} {l : Launch} {e : Env} {R : Room} {s : State} {m : MethodId} {args : Array Value} {below : List Frame} {meth : Method} {c : Code} {Q : State → Prop} {D : va_G} {cA : Nat → ClassId} {ad : Nat → Nat} {H0 : Heap}
def fD_reset (st : ck_S) : Option ck_S := (some (ck_u (ck_u st 1 3 0) 1 4 0))
set_option maxRecDepth 100000 in
set_option maxHeartbeats 4000000 in
theorem cD_reset (l : Launch) (D : va_G) (cA : Nat → ClassId) (ad : Nat → Nat) {st : ck_S} {st0 : ck_S} (hf : fD_reset st = some st0) : Met l yD_reset (.code yD_reset bD_reset 1 none :: ck_T) (ck_R 0) (va_Pc [.ref (ad 1)] (ck_P sh_C cm_cl D cA ad st)) (va_Qv (fun u => u = st0) (ck_P sh_C cm_cl D cA ad) (ck_A ad sh_C.length)) 0 0 (ck_A ad sh_C.length) := by
  refine ck_met_v (own := R_D) (by decide +kernel) rfl (Nat.le_of_ble_eq_true rfl) (fun p e R s m args below meth c H0 Q ls C hret h hl => ?_)
  have C1 := C
  obtain ⟨hx, hb, hml, hown, hts, hK, hlv, hlo⟩ := C1
  have hl : lv_has ls 1 [(0, .ref (ad 1))] := hl
  unfold fD_reset at hf
  refine lv_aload_n hx hb dD_reset_0 rfl (lv_at hl 0 rfl) ?_
  refine lv_iconst (v := 0) hx hb dD_reset_1 (by decide) ?_
  refine ck_pi C h GD_ownTypes rfl rfl dD_reset_2 (fun H locs h => ?_)
  refine lv_aload_n hx hb dD_reset_5 rfl (lv_at hl 0 rfl) ?_
  refine lv_iconst (v := 0) hx hb dD_reset_6 (by decide) ?_
  refine ck_pi C h GD_constructors rfl rfl dD_reset_7 (fun H locs h => ?_)
  exact ck_rv hf hret h dD_reset_10
def fD_addType (st : ck_S) : Option (Int32 × ck_S) := (if (st 1 3) < 5 then (some (((st 1 3) + 1), (ck_u st 1 3 ((st 1 3) + 1)))) else (some ((-8), st)))
set_option maxRecDepth 100000 in
set_option maxHeartbeats 4000000 in
theorem cD_addType (l : Launch) (D : va_G) (cA : Nat → ClassId) (ad : Nat → Nat) {st : ck_S} {r0 : Int32} {st0 : ck_S} (hf : fD_addType st = some (r0, st0)) : Met l yD_addType (.code yD_addType bD_addType 1 (some .int) :: ck_T) (ck_R 0) (va_Pc [.ref (ad 1)] (ck_P sh_C cm_cl D cA ad st)) (va_Qi (fun a u => a = r0 ∧ u = st0) (ck_P sh_C cm_cl D cA ad) (ck_A ad sh_C.length)) 0 0 (ck_A ad sh_C.length) := by
  refine ck_met_i (own := R_D) (by decide +kernel) rfl (Nat.le_of_ble_eq_true rfl) (fun p e R s m args below meth c H0 Q ls C hret h hl => ?_)
  have C1 := C
  obtain ⟨hx, hb, hml, hown, hts, hK, hlv, hlo⟩ := C1
  have hl : lv_has ls 1 [(0, .ref (ad 1))] := hl
  unfold fD_addType at hf
  refine lv_aload_n hx hb dD_addType_0 rfl (lv_at hl 0 rfl) ?_
  refine ck_gi (x := (st 1 3)) C h FD_ownTypes rfl dD_addType_1 ?_
  refine lv_iconst (v := 5) hx hb dD_addType_4 (by decide) ?_
  refine lv_icmp_lt (tgt := 11) hx hb dD_addType_5 rfl (fun hq => ?_) (fun hq => ?_)
  · have hf := ck_t hq hf
    refine lv_aload_n hx hb dD_addType_11 rfl (lv_at hl 0 rfl) ?_
    refine lv_dup hx hb dD_addType_12 rfl ?_
    refine ck_gi (x := (st 1 3)) C h FD_ownTypes rfl dD_addType_13 ?_
    refine lv_iconst (v := 1) hx hb dD_addType_16 (by decide) ?_
    refine lv_iadd hx hb dD_addType_17 ?_
    refine ck_pi C h GD_ownTypes rfl rfl dD_addType_18 (fun H locs h => ?_)
    refine lv_aload_n hx hb dD_addType_21 rfl (lv_at hl 0 rfl) ?_
    refine ck_gi (x := ((st 1 3) + 1)) C h FD_ownTypes rfl dD_addType_22 ?_
    exact ck_ri hf hret h dD_addType_25
  · have hf := ck_f hq hf
    refine lv_bipush (v := (-8)) hx hb dD_addType_8 (by decide) ?_
    exact ck_ri hf hret h dD_addType_10
def fD_countOfType_l4 : Nat → Int32 → Int32 → Int32 → ck_S → Option (Int32 × ck_S)
  | 0, _, _, _, _ => none
  | n + 1, x1, x2, x3, st => (if (st 1 4) ≤ x3 then (some (x2, st)) else (ck_gd x3 12 (if (st 7 (x3).toNatClampNeg) = x1 then (fD_countOfType_l4 n x1 (x2 + 1) (x3 + 1) st) else (fD_countOfType_l4 n x1 x2 (x3 + 1) st))))
set_option maxRecDepth 100000 in
set_option maxHeartbeats 4000000 in
theorem BD_countOfType_4 (C : ck_X cm_cl D cA bD_countOfType 4 R_D 0 p R s m args c) {r0 : Int32} {st0 : ck_S} (hret : ∀ (pc : Nat) (H : Heap) (locs : List Loc) (ls : Array Slot), decode bD_countOfType pc = .ok (.ireturn, 1) → ck_AT sh_C cm_cl D cA ad H0 st0 H locs → W p l e R s m args below meth c H locs 0 0 Q (F0 m pc ls [.int r0])) : ∀ (n : Nat) (x1 : Int32) (x2 : Int32) (x3 : Int32) (st : ck_S) (H : Heap) (locs : List Loc) (ls : Array Slot), ck_AT sh_C cm_cl D cA ad H0 st H locs → lv_has ls 4 [(0, .ref (ad 1)), (1, .int x1), (2, .int x2), (3, .int x3)] → fD_countOfType_l4  n x1 x2 x3 st = some (r0, st0) → W p l e R s m args below meth c H locs 0 0 Q (F0 m 4 ls []) := by
  have C1 := C
  obtain ⟨hx, hb, hml, hown, hts, hK, hlv, hlo⟩ := C1
  intro n
  induction n with
  | zero => intro _ _ _ _ _ _ _ _ _ hf; cases hf
  | succ n ih =>
    intro x1 x2 x3 st H locs ls h hl hf
    rw [fD_countOfType_l4] at hf
    refine lv_iload_n hx hb dD_countOfType_4 rfl (lv_at hl 3 rfl) ?_
    refine lv_aload_n hx hb dD_countOfType_5 rfl (lv_at hl 0 rfl) ?_
    refine ck_gi (x := (st 1 4)) C h FD_constructors rfl dD_countOfType_6 ?_
    refine lv_icmp_ge (tgt := 31) hx hb dD_countOfType_9 rfl (fun hq => ?_) (fun hq => ?_)
    · have hf := ck_t hq hf
      refine lv_iload_n hx hb dD_countOfType_31 rfl (lv_at hl 2 rfl) ?_
      exact ck_ri hf hret h dD_countOfType_32
    · have hf := ck_f hq hf
      refine lv_aload_n hx hb dD_countOfType_12 rfl (lv_at hl 0 rfl) ?_
      refine ck_gr C h FD_owner dD_countOfType_13 ?_
      refine lv_iload_n hx hb dD_countOfType_16 rfl (lv_at hl 3 rfl) ?_
      obtain ⟨hg, hf⟩ := ck_gd_e hf
      refine ck_ai (x := (st 7 (x3).toNatClampNeg)) C h (show sh_C[7]? = some (.inr (0, 12)) from rfl) hg rfl dD_countOfType_17 ?_
      refine lv_iload_n hx hb dD_countOfType_18 rfl (lv_at hl 1 rfl) ?_
      refine lv_icmp_ne (tgt := 25) hx hb dD_countOfType_19 rfl (fun hq => ?_) (fun hq => ?_)
      · have hf := ck_f hq hf
        refine lv_iinc (k := 3) (v := (x3 + 1)) (lv' := [(3, .int (x3 + 1)), (0, .ref (ad 1)), (1, .int x1), (2, .int x2)]) hx hb dD_countOfType_25 hl rfl rfl (by decide) rfl (fun ls hl => ?_)
        refine lv_goto (tgt := 4) hx hb dD_countOfType_28 rfl ?_
        exact ih _ _ _ _ _ _ _ h (lv_sub hl [1, 2, 3, 0] rfl) hf
      · have hf := ck_t hq hf
        refine lv_iinc (k := 2) (v := (x2 + 1)) (lv' := [(2, .int (x2 + 1)), (0, .ref (ad 1)), (1, .int x1), (3, .int x3)]) hx hb dD_countOfType_22 hl rfl rfl (by decide) rfl (fun ls hl => ?_)
        refine lv_iinc (k := 3) (v := (x3 + 1)) (lv' := [(3, .int (x3 + 1)), (2, .int (x2 + 1)), (0, .ref (ad 1)), (1, .int x1)]) hx hb dD_countOfType_25 hl rfl rfl (by decide) rfl (fun ls hl => ?_)
        refine lv_goto (tgt := 4) hx hb dD_countOfType_28 rfl ?_
        exact ih _ _ _ _ _ _ _ h (lv_sub hl [2, 3, 1, 0] rfl) hf
def fD_countOfType (x1 : Int32) (st : ck_S) : Option (Int32 × ck_S) := (fD_countOfType_l4  4096 x1 0 0 st)
set_option maxRecDepth 100000 in
set_option maxHeartbeats 4000000 in
theorem cD_countOfType (l : Launch) (D : va_G) (cA : Nat → ClassId) (ad : Nat → Nat) {x1 : Int32} {st : ck_S} {r0 : Int32} {st0 : ck_S} (hf : fD_countOfType x1 st = some (r0, st0)) : Met l yD_countOfType (.code yD_countOfType bD_countOfType 4 (some .int) :: ck_T) (ck_R 0) (va_Pc [.ref (ad 1), .int x1] (ck_P sh_C cm_cl D cA ad st)) (va_Qi (fun a u => a = r0 ∧ u = st0) (ck_P sh_C cm_cl D cA ad) (ck_A ad sh_C.length)) 0 0 (ck_A ad sh_C.length) := by
  refine ck_met_i (own := R_D) (by decide +kernel) rfl (Nat.le_of_ble_eq_true rfl) (fun p e R s m args below meth c H0 Q ls C hret h hl => ?_)
  have C1 := C
  obtain ⟨hx, hb, hml, hown, hts, hK, hlv, hlo⟩ := C1
  have hl : lv_has ls 4 [(0, .ref (ad 1)), (1, .int x1)] := hl
  unfold fD_countOfType at hf
  refine lv_iconst (v := 0) hx hb dD_countOfType_0 (by decide) ?_
  refine lv_istore_n (lv' := [(2, .int 0), (0, .ref (ad 1)), (1, .int x1)]) hx hb dD_countOfType_1 rfl hl (by decide) rfl (fun ls hl => ?_)
  refine lv_iconst (v := 0) hx hb dD_countOfType_2 (by decide) ?_
  refine lv_istore_n (lv' := [(3, .int 0), (2, .int 0), (0, .ref (ad 1)), (1, .int x1)]) hx hb dD_countOfType_3 rfl hl (by decide) rfl (fun ls hl => ?_)
  exact BD_countOfType_4 C hret  4096 _ _ _ _ _ _ _ h (lv_sub hl [2, 3, 1, 0] rfl) hf
def fD_addConstructor (x1 : Int32) (x2 : Int32) (x3 : Int32) (st : ck_S) : Option (Int32 × ck_S) := (if 12 ≤ (st 1 4) then (some ((-8), st)) else (ck_b (fD_countOfType x1 st) fun v2 st1 => (if v2 < 4 then (ck_gd (st1 1 4) 12 (ck_gd (st1 1 4) 12 (ck_gd (st1 1 4) 12 (some ((st1 1 4), (ck_u (ck_u (ck_u (ck_u st1 7 ((st1 1 4)).toNatClampNeg x1) 8 ((st1 1 4)).toNatClampNeg x2) 9 ((st1 1 4)).toNatClampNeg x3) 1 4 ((st1 1 4) + 1))))))) else (some ((-8), st1)))))
set_option maxRecDepth 100000 in
set_option maxHeartbeats 4000000 in
theorem cD_addConstructor (l : Launch) (D : va_G) (cA : Nat → ClassId) (ad : Nat → Nat) {x1 : Int32} {x2 : Int32} {x3 : Int32} {st : ck_S} {r0 : Int32} {st0 : ck_S} (hf : fD_addConstructor x1 x2 x3 st = some (r0, st0)) : Met l yD_addConstructor (.code yD_addConstructor bD_addConstructor 5 (some .int) :: ck_T) (ck_R 1) (va_Pc [.ref (ad 1), .int x1, .int x2, .int x3] (ck_P sh_C cm_cl D cA ad st)) (va_Qi (fun a u => a = r0 ∧ u = st0) (ck_P sh_C cm_cl D cA ad) (ck_A ad sh_C.length)) 0 0 (ck_A ad sh_C.length) := by
  refine ck_met_i (own := R_D) (by decide +kernel) rfl (Nat.le_of_ble_eq_true rfl) (fun p e R s m args below meth c H0 Q ls C hret h hl => ?_)
  have C1 := C
  obtain ⟨hx, hb, hml, hown, hts, hK, hlv, hlo⟩ := C1
  have hl : lv_has ls 5 [(0, .ref (ad 1)), (1, .int x1), (2, .int x2), (3, .int x3)] := hl
  unfold fD_addConstructor at hf
  refine lv_aload_n hx hb dD_addConstructor_0 rfl (lv_at hl 0 rfl) ?_
  refine ck_gi (x := (st 1 4)) C h FD_constructors rfl dD_addConstructor_1 ?_
  refine lv_bipush (v := 12) hx hb dD_addConstructor_4 (by decide) ?_
  refine lv_icmp_ge (tgt := 18) hx hb dD_addConstructor_6 rfl (fun hq => ?_) (fun hq => ?_)
  · have hf := ck_t hq hf
    refine lv_bipush (v := (-8)) hx hb dD_addConstructor_18 (by decide) ?_
    exact ck_ri hf hret h dD_addConstructor_20
  · have hf := ck_f hq hf
    refine lv_aload_n hx hb dD_addConstructor_9 rfl (lv_at hl 0 rfl) ?_
    refine lv_iload_n hx hb dD_addConstructor_10 rfl (lv_at hl 1 rfl) ?_
    obtain ⟨v2, st1, hc, hf⟩ := ck_b_e hf
    refine ck_vi (As := [.int x1]) (rest := []) (q := 1) C h hl CD_D_countOfType sD_countOfType q_D (cD_countOfType l D cA ad hc) (Nat.le_of_ble_eq_true rfl) rfl rfl (Nat.le_of_ble_eq_true rfl) dD_addConstructor_11 (fun H locs h => ?_)
    refine lv_iconst (v := 4) hx hb dD_addConstructor_14 (by decide) ?_
    refine lv_icmp_lt (tgt := 21) hx hb dD_addConstructor_15 rfl (fun hq => ?_) (fun hq => ?_)
    · have hf := ck_t hq hf
      refine lv_aload_n hx hb dD_addConstructor_21 rfl (lv_at hl 0 rfl) ?_
      refine ck_gi (x := (st1 1 4)) C h FD_constructors rfl dD_addConstructor_22 ?_
      refine lv_istore (lv' := [(4, .int (st1 1 4)), (0, .ref (ad 1)), (1, .int x1), (2, .int x2), (3, .int x3)]) hx hb dD_addConstructor_25 hl (by decide) rfl (fun ls hl => ?_)
      refine lv_aload_n hx hb dD_addConstructor_27 rfl (lv_at hl 1 rfl) ?_
      refine ck_gr C h FD_owner dD_addConstructor_28 ?_
      refine lv_iload hx hb dD_addConstructor_31 (lv_at hl 0 rfl) ?_
      refine lv_iload_n hx hb dD_addConstructor_33 rfl (lv_at hl 2 rfl) ?_
      obtain ⟨hg, hf⟩ := ck_gd_e hf
      refine ck_si C h (show sh_C[7]? = some (.inr (0, 12)) from rfl) hg dD_addConstructor_34 (fun H locs h => ?_)
      refine lv_aload_n hx hb dD_addConstructor_35 rfl (lv_at hl 1 rfl) ?_
      refine ck_gr C h FD_firstType dD_addConstructor_36 ?_
      refine lv_iload hx hb dD_addConstructor_39 (lv_at hl 0 rfl) ?_
      refine lv_iload_n hx hb dD_addConstructor_41 rfl (lv_at hl 3 rfl) ?_
      obtain ⟨hg, hf⟩ := ck_gd_e hf
      refine ck_si C h (show sh_C[8]? = some (.inr (0, 12)) from rfl) hg dD_addConstructor_42 (fun H locs h => ?_)
      refine lv_aload_n hx hb dD_addConstructor_43 rfl (lv_at hl 1 rfl) ?_
      refine ck_gr C h FD_secondType dD_addConstructor_44 ?_
      refine lv_iload hx hb dD_addConstructor_47 (lv_at hl 0 rfl) ?_
      refine lv_iload_n hx hb dD_addConstructor_49 rfl (lv_at hl 4 rfl) ?_
      obtain ⟨hg, hf⟩ := ck_gd_e hf
      refine ck_si C h (show sh_C[9]? = some (.inr (0, 12)) from rfl) hg dD_addConstructor_50 (fun H locs h => ?_)
      refine lv_aload_n hx hb dD_addConstructor_51 rfl (lv_at hl 1 rfl) ?_
      refine lv_dup hx hb dD_addConstructor_52 rfl ?_
      refine ck_gi (x := (st1 1 4)) C h FD_constructors rfl dD_addConstructor_53 ?_
      refine lv_iconst (v := 1) hx hb dD_addConstructor_56 (by decide) ?_
      refine lv_iadd hx hb dD_addConstructor_57 ?_
      refine ck_pi C h GD_constructors rfl rfl dD_addConstructor_58 (fun H locs h => ?_)
      refine lv_iload hx hb dD_addConstructor_61 (lv_at hl 0 rfl) ?_
      exact ck_ri hf hret h dD_addConstructor_63
    · have hf := ck_f hq hf
      refine lv_bipush (v := (-8)) hx hb dD_addConstructor_18 (by decide) ?_
      exact ck_ri hf hret h dD_addConstructor_20
def fD_isType (x1 : Int32) (st : ck_S) : Option (Int32 × ck_S) := (if x1 < 0 then (some (0, st)) else (if (st 1 3) < x1 then (some (0, st)) else (some (1, st))))
set_option maxRecDepth 100000 in
set_option maxHeartbeats 4000000 in
theorem cD_isType (l : Launch) (D : va_G) (cA : Nat → ClassId) (ad : Nat → Nat) {x1 : Int32} {st : ck_S} {r0 : Int32} {st0 : ck_S} (hf : fD_isType x1 st = some (r0, st0)) : Met l yD_isType (.code yD_isType bD_isType 2 (some .boolean) :: ck_T) (ck_R 0) (va_Pc [.ref (ad 1), .int x1] (ck_P sh_C cm_cl D cA ad st)) (va_Qi (fun a u => a = r0 ∧ u = st0) (ck_P sh_C cm_cl D cA ad) (ck_A ad sh_C.length)) 0 0 (ck_A ad sh_C.length) := by
  refine ck_met_z (own := R_D) (by decide +kernel) rfl (Nat.le_of_ble_eq_true rfl) (fun p e R s m args below meth c H0 Q ls C hret h hl => ?_)
  have C1 := C
  obtain ⟨hx, hb, hml, hown, hts, hK, hlv, hlo⟩ := C1
  have hl : lv_has ls 2 [(0, .ref (ad 1)), (1, .int x1)] := hl
  unfold fD_isType at hf
  refine lv_iload_n hx hb dD_isType_0 rfl (lv_at hl 1 rfl) ?_
  refine lv_if_lt (tgt := 16) hx hb dD_isType_1 rfl (fun hq => ?_) (fun hq => ?_)
  · have hf := ck_t hq hf
    refine lv_iconst (v := 0) hx hb dD_isType_16 (by decide) ?_
    exact ck_rz hf hret ck_z0 h dD_isType_17
  · have hf := ck_f hq hf
    refine lv_iload_n hx hb dD_isType_4 rfl (lv_at hl 1 rfl) ?_
    refine lv_aload_n hx hb dD_isType_5 rfl (lv_at hl 0 rfl) ?_
    refine ck_gi (x := (st 1 3)) C h FD_ownTypes rfl dD_isType_6 ?_
    refine lv_icmp_gt (tgt := 16) hx hb dD_isType_9 rfl (fun hq => ?_) (fun hq => ?_)
    · have hf := ck_t hq hf
      refine lv_iconst (v := 0) hx hb dD_isType_16 (by decide) ?_
      exact ck_rz hf hret ck_z0 h dD_isType_17
    · have hf := ck_f hq hf
      refine lv_iconst (v := 1) hx hb dD_isType_12 (by decide) ?_
      refine lv_goto (tgt := 17) hx hb dD_isType_13 rfl ?_
      exact ck_rz hf hret ck_z1 h dD_isType_17
def fD_isOwnType (x1 : Int32) (st : ck_S) : Option (Int32 × ck_S) := (if x1 ≤ 0 then (some (0, st)) else (if (st 1 3) < x1 then (some (0, st)) else (some (1, st))))
set_option maxRecDepth 100000 in
set_option maxHeartbeats 4000000 in
theorem cD_isOwnType (l : Launch) (D : va_G) (cA : Nat → ClassId) (ad : Nat → Nat) {x1 : Int32} {st : ck_S} {r0 : Int32} {st0 : ck_S} (hf : fD_isOwnType x1 st = some (r0, st0)) : Met l yD_isOwnType (.code yD_isOwnType bD_isOwnType 2 (some .boolean) :: ck_T) (ck_R 0) (va_Pc [.ref (ad 1), .int x1] (ck_P sh_C cm_cl D cA ad st)) (va_Qi (fun a u => a = r0 ∧ u = st0) (ck_P sh_C cm_cl D cA ad) (ck_A ad sh_C.length)) 0 0 (ck_A ad sh_C.length) := by
  refine ck_met_z (own := R_D) (by decide +kernel) rfl (Nat.le_of_ble_eq_true rfl) (fun p e R s m args below meth c H0 Q ls C hret h hl => ?_)
  have C1 := C
  obtain ⟨hx, hb, hml, hown, hts, hK, hlv, hlo⟩ := C1
  have hl : lv_has ls 2 [(0, .ref (ad 1)), (1, .int x1)] := hl
  unfold fD_isOwnType at hf
  refine lv_iload_n hx hb dD_isOwnType_0 rfl (lv_at hl 1 rfl) ?_
  refine lv_if_le (tgt := 16) hx hb dD_isOwnType_1 rfl (fun hq => ?_) (fun hq => ?_)
  · have hf := ck_t hq hf
    refine lv_iconst (v := 0) hx hb dD_isOwnType_16 (by decide) ?_
    exact ck_rz hf hret ck_z0 h dD_isOwnType_17
  · have hf := ck_f hq hf
    refine lv_iload_n hx hb dD_isOwnType_4 rfl (lv_at hl 1 rfl) ?_
    refine lv_aload_n hx hb dD_isOwnType_5 rfl (lv_at hl 0 rfl) ?_
    refine ck_gi (x := (st 1 3)) C h FD_ownTypes rfl dD_isOwnType_6 ?_
    refine lv_icmp_gt (tgt := 16) hx hb dD_isOwnType_9 rfl (fun hq => ?_) (fun hq => ?_)
    · have hf := ck_t hq hf
      refine lv_iconst (v := 0) hx hb dD_isOwnType_16 (by decide) ?_
      exact ck_rz hf hret ck_z0 h dD_isOwnType_17
    · have hf := ck_f hq hf
      refine lv_iconst (v := 1) hx hb dD_isOwnType_12 (by decide) ?_
      refine lv_goto (tgt := 17) hx hb dD_isOwnType_13 rfl ?_
      exact ck_rz hf hret ck_z1 h dD_isOwnType_17
def fD_canBeArguments (x1 : Int32) (x2 : Int32) (st : ck_S) : Option (Int32 × ck_S) := (if x1 = (-1) then (if x2 = (-1) then (some (1, st)) else (some (0, st))) else (ck_b (fD_isType x1 st) fun v2 st1 => (if v2 = 0 then (some (0, st1)) else (if x2 = (-1) then (some (1, st1)) else (ck_b (fD_isType x2 st1) fun v4 st3 => (if v4 = 0 then (some (0, st3)) else (some (1, st3))))))))
set_option maxRecDepth 100000 in
set_option maxHeartbeats 4000000 in
theorem cD_canBeArguments (l : Launch) (D : va_G) (cA : Nat → ClassId) (ad : Nat → Nat) {x1 : Int32} {x2 : Int32} {st : ck_S} {r0 : Int32} {st0 : ck_S} (hf : fD_canBeArguments x1 x2 st = some (r0, st0)) : Met l yD_canBeArguments (.code yD_canBeArguments bD_canBeArguments 3 (some .boolean) :: ck_T) (ck_R 1) (va_Pc [.ref (ad 1), .int x1, .int x2] (ck_P sh_C cm_cl D cA ad st)) (va_Qi (fun a u => a = r0 ∧ u = st0) (ck_P sh_C cm_cl D cA ad) (ck_A ad sh_C.length)) 0 0 (ck_A ad sh_C.length) := by
  refine ck_met_z (own := R_D) (by decide +kernel) rfl (Nat.le_of_ble_eq_true rfl) (fun p e R s m args below meth c H0 Q ls C hret h hl => ?_)
  have C1 := C
  obtain ⟨hx, hb, hml, hown, hts, hK, hlv, hlo⟩ := C1
  have hl : lv_has ls 3 [(0, .ref (ad 1)), (1, .int x1), (2, .int x2)] := hl
  unfold fD_canBeArguments at hf
  refine lv_iload_n hx hb dD_canBeArguments_0 rfl (lv_at hl 1 rfl) ?_
  refine lv_iconst (v := (-1)) hx hb dD_canBeArguments_1 (by decide) ?_
  refine lv_icmp_ne (tgt := 16) hx hb dD_canBeArguments_2 rfl (fun hq => ?_) (fun hq => ?_)
  · have hf := ck_f hq hf
    refine lv_aload_n hx hb dD_canBeArguments_16 rfl (lv_at hl 0 rfl) ?_
    refine lv_iload_n hx hb dD_canBeArguments_17 rfl (lv_at hl 1 rfl) ?_
    obtain ⟨v2, st1, hc, hf⟩ := ck_b_e hf
    refine ck_vi (As := [.int x1]) (rest := []) (q := 1) C h hl CD_D_isType sD_isType q_D (cD_isType l D cA ad hc) (Nat.le_of_ble_eq_true rfl) rfl rfl (Nat.le_of_ble_eq_true rfl) dD_canBeArguments_18 (fun H locs h => ?_)
    refine lv_if_eq (tgt := 41) hx hb dD_canBeArguments_21 rfl (fun hq => ?_) (fun hq => ?_)
    · have hf := ck_t hq hf
      refine lv_iconst (v := 0) hx hb dD_canBeArguments_41 (by decide) ?_
      exact ck_rz hf hret ck_z0 h dD_canBeArguments_42
    · have hf := ck_f hq hf
      refine lv_iload_n hx hb dD_canBeArguments_24 rfl (lv_at hl 2 rfl) ?_
      refine lv_iconst (v := (-1)) hx hb dD_canBeArguments_25 (by decide) ?_
      refine lv_icmp_eq (tgt := 37) hx hb dD_canBeArguments_26 rfl (fun hq => ?_) (fun hq => ?_)
      · have hf := ck_t hq hf
        refine lv_iconst (v := 1) hx hb dD_canBeArguments_37 (by decide) ?_
        refine lv_goto (tgt := 42) hx hb dD_canBeArguments_38 rfl ?_
        exact ck_rz hf hret ck_z1 h dD_canBeArguments_42
      · have hf := ck_f hq hf
        refine lv_aload_n hx hb dD_canBeArguments_29 rfl (lv_at hl 0 rfl) ?_
        refine lv_iload_n hx hb dD_canBeArguments_30 rfl (lv_at hl 2 rfl) ?_
        obtain ⟨v4, st3, hc, hf⟩ := ck_b_e hf
        refine ck_vi (As := [.int x2]) (rest := []) (q := 1) C h hl CD_D_isType sD_isType q_D (cD_isType l D cA ad hc) (Nat.le_of_ble_eq_true rfl) rfl rfl (Nat.le_of_ble_eq_true rfl) dD_canBeArguments_31 (fun H locs h => ?_)
        refine lv_if_eq (tgt := 41) hx hb dD_canBeArguments_34 rfl (fun hq => ?_) (fun hq => ?_)
        · have hf := ck_t hq hf
          refine lv_iconst (v := 0) hx hb dD_canBeArguments_41 (by decide) ?_
          exact ck_rz hf hret ck_z0 h dD_canBeArguments_42
        · have hf := ck_f hq hf
          refine lv_iconst (v := 1) hx hb dD_canBeArguments_37 (by decide) ?_
          refine lv_goto (tgt := 42) hx hb dD_canBeArguments_38 rfl ?_
          exact ck_rz hf hret ck_z1 h dD_canBeArguments_42
  · have hf := ck_t hq hf
    refine lv_iload_n hx hb dD_canBeArguments_5 rfl (lv_at hl 2 rfl) ?_
    refine lv_iconst (v := (-1)) hx hb dD_canBeArguments_6 (by decide) ?_
    refine lv_icmp_ne (tgt := 14) hx hb dD_canBeArguments_7 rfl (fun hq => ?_) (fun hq => ?_)
    · have hf := ck_f hq hf
      refine lv_iconst (v := 0) hx hb dD_canBeArguments_14 (by decide) ?_
      exact ck_rz hf hret ck_z0 h dD_canBeArguments_15
    · have hf := ck_t hq hf
      refine lv_iconst (v := 1) hx hb dD_canBeArguments_10 (by decide) ?_
      refine lv_goto (tgt := 15) hx hb dD_canBeArguments_11 rfl ?_
      exact ck_rz hf hret ck_z1 h dD_canBeArguments_15
def fD_isConstructor (x1 : Int32) (st : ck_S) : Option (Int32 × ck_S) := (if x1 < 0 then (some (0, st)) else (if (st 1 4) ≤ x1 then (some (0, st)) else (some (1, st))))
set_option maxRecDepth 100000 in
set_option maxHeartbeats 4000000 in
theorem cD_isConstructor (l : Launch) (D : va_G) (cA : Nat → ClassId) (ad : Nat → Nat) {x1 : Int32} {st : ck_S} {r0 : Int32} {st0 : ck_S} (hf : fD_isConstructor x1 st = some (r0, st0)) : Met l yD_isConstructor (.code yD_isConstructor bD_isConstructor 2 (some .boolean) :: ck_T) (ck_R 0) (va_Pc [.ref (ad 1), .int x1] (ck_P sh_C cm_cl D cA ad st)) (va_Qi (fun a u => a = r0 ∧ u = st0) (ck_P sh_C cm_cl D cA ad) (ck_A ad sh_C.length)) 0 0 (ck_A ad sh_C.length) := by
  refine ck_met_z (own := R_D) (by decide +kernel) rfl (Nat.le_of_ble_eq_true rfl) (fun p e R s m args below meth c H0 Q ls C hret h hl => ?_)
  have C1 := C
  obtain ⟨hx, hb, hml, hown, hts, hK, hlv, hlo⟩ := C1
  have hl : lv_has ls 2 [(0, .ref (ad 1)), (1, .int x1)] := hl
  unfold fD_isConstructor at hf
  refine lv_iload_n hx hb dD_isConstructor_0 rfl (lv_at hl 1 rfl) ?_
  refine lv_if_lt (tgt := 16) hx hb dD_isConstructor_1 rfl (fun hq => ?_) (fun hq => ?_)
  · have hf := ck_t hq hf
    refine lv_iconst (v := 0) hx hb dD_isConstructor_16 (by decide) ?_
    exact ck_rz hf hret ck_z0 h dD_isConstructor_17
  · have hf := ck_f hq hf
    refine lv_iload_n hx hb dD_isConstructor_4 rfl (lv_at hl 1 rfl) ?_
    refine lv_aload_n hx hb dD_isConstructor_5 rfl (lv_at hl 0 rfl) ?_
    refine ck_gi (x := (st 1 4)) C h FD_constructors rfl dD_isConstructor_6 ?_
    refine lv_icmp_ge (tgt := 16) hx hb dD_isConstructor_9 rfl (fun hq => ?_) (fun hq => ?_)
    · have hf := ck_t hq hf
      refine lv_iconst (v := 0) hx hb dD_isConstructor_16 (by decide) ?_
      exact ck_rz hf hret ck_z0 h dD_isConstructor_17
    · have hf := ck_f hq hf
      refine lv_iconst (v := 1) hx hb dD_isConstructor_12 (by decide) ?_
      refine lv_goto (tgt := 17) hx hb dD_isConstructor_13 rfl ?_
      exact ck_rz hf hret ck_z1 h dD_isConstructor_17
def fD_constructorCount (st : ck_S) : Option (Int32 × ck_S) := (some ((st 1 4), st))
set_option maxRecDepth 100000 in
set_option maxHeartbeats 4000000 in
theorem cD_constructorCount (l : Launch) (D : va_G) (cA : Nat → ClassId) (ad : Nat → Nat) {st : ck_S} {r0 : Int32} {st0 : ck_S} (hf : fD_constructorCount st = some (r0, st0)) : Met l yD_constructorCount (.code yD_constructorCount bD_constructorCount 1 (some .int) :: ck_T) (ck_R 0) (va_Pc [.ref (ad 1)] (ck_P sh_C cm_cl D cA ad st)) (va_Qi (fun a u => a = r0 ∧ u = st0) (ck_P sh_C cm_cl D cA ad) (ck_A ad sh_C.length)) 0 0 (ck_A ad sh_C.length) := by
  refine ck_met_i (own := R_D) (by decide +kernel) rfl (Nat.le_of_ble_eq_true rfl) (fun p e R s m args below meth c H0 Q ls C hret h hl => ?_)
  have C1 := C
  obtain ⟨hx, hb, hml, hown, hts, hK, hlv, hlo⟩ := C1
  have hl : lv_has ls 1 [(0, .ref (ad 1))] := hl
  unfold fD_constructorCount at hf
  refine lv_aload_n hx hb dD_constructorCount_0 rfl (lv_at hl 0 rfl) ?_
  refine ck_gi (x := (st 1 4)) C h FD_constructors rfl dD_constructorCount_1 ?_
  exact ck_ri hf hret h dD_constructorCount_4
def fD_ownerOf (x1 : Int32) (st : ck_S) : Option (Int32 × ck_S) := (ck_b (fD_isConstructor x1 st) fun v2 st1 => (if v2 = 0 then (some ((-1), st1)) else (ck_gd x1 12 (some ((st1 7 (x1).toNatClampNeg), st1)))))
set_option maxRecDepth 100000 in
set_option maxHeartbeats 4000000 in
theorem cD_ownerOf (l : Launch) (D : va_G) (cA : Nat → ClassId) (ad : Nat → Nat) {x1 : Int32} {st : ck_S} {r0 : Int32} {st0 : ck_S} (hf : fD_ownerOf x1 st = some (r0, st0)) : Met l yD_ownerOf (.code yD_ownerOf bD_ownerOf 2 (some .int) :: ck_T) (ck_R 1) (va_Pc [.ref (ad 1), .int x1] (ck_P sh_C cm_cl D cA ad st)) (va_Qi (fun a u => a = r0 ∧ u = st0) (ck_P sh_C cm_cl D cA ad) (ck_A ad sh_C.length)) 0 0 (ck_A ad sh_C.length) := by
  refine ck_met_i (own := R_D) (by decide +kernel) rfl (Nat.le_of_ble_eq_true rfl) (fun p e R s m args below meth c H0 Q ls C hret h hl => ?_)
  have C1 := C
  obtain ⟨hx, hb, hml, hown, hts, hK, hlv, hlo⟩ := C1
  have hl : lv_has ls 2 [(0, .ref (ad 1)), (1, .int x1)] := hl
  unfold fD_ownerOf at hf
  refine lv_aload_n hx hb dD_ownerOf_0 rfl (lv_at hl 0 rfl) ?_
  refine lv_iload_n hx hb dD_ownerOf_1 rfl (lv_at hl 1 rfl) ?_
  obtain ⟨v2, st1, hc, hf⟩ := ck_b_e hf
  refine ck_vi (As := [.int x1]) (rest := []) (q := 1) C h hl CD_D_isConstructor sD_isConstructor q_D (cD_isConstructor l D cA ad hc) (Nat.le_of_ble_eq_true rfl) rfl rfl (Nat.le_of_ble_eq_true rfl) dD_ownerOf_2 (fun H locs h => ?_)
  refine lv_if_eq (tgt := 17) hx hb dD_ownerOf_5 rfl (fun hq => ?_) (fun hq => ?_)
  · have hf := ck_t hq hf
    refine lv_iconst (v := (-1)) hx hb dD_ownerOf_17 (by decide) ?_
    exact ck_ri hf hret h dD_ownerOf_18
  · have hf := ck_f hq hf
    refine lv_aload_n hx hb dD_ownerOf_8 rfl (lv_at hl 0 rfl) ?_
    refine ck_gr C h FD_owner dD_ownerOf_9 ?_
    refine lv_iload_n hx hb dD_ownerOf_12 rfl (lv_at hl 1 rfl) ?_
    obtain ⟨hg, hf⟩ := ck_gd_e hf
    refine ck_ai (x := (st1 7 (x1).toNatClampNeg)) C h (show sh_C[7]? = some (.inr (0, 12)) from rfl) hg rfl dD_ownerOf_13 ?_
    refine lv_goto (tgt := 18) hx hb dD_ownerOf_14 rfl ?_
    exact ck_ri hf hret h dD_ownerOf_18
def fD_firstTypeOf (x1 : Int32) (st : ck_S) : Option (Int32 × ck_S) := (ck_b (fD_isConstructor x1 st) fun v2 st1 => (if v2 = 0 then (some ((-1), st1)) else (ck_gd x1 12 (some ((st1 8 (x1).toNatClampNeg), st1)))))
set_option maxRecDepth 100000 in
set_option maxHeartbeats 4000000 in
theorem cD_firstTypeOf (l : Launch) (D : va_G) (cA : Nat → ClassId) (ad : Nat → Nat) {x1 : Int32} {st : ck_S} {r0 : Int32} {st0 : ck_S} (hf : fD_firstTypeOf x1 st = some (r0, st0)) : Met l yD_firstTypeOf (.code yD_firstTypeOf bD_firstTypeOf 2 (some .int) :: ck_T) (ck_R 1) (va_Pc [.ref (ad 1), .int x1] (ck_P sh_C cm_cl D cA ad st)) (va_Qi (fun a u => a = r0 ∧ u = st0) (ck_P sh_C cm_cl D cA ad) (ck_A ad sh_C.length)) 0 0 (ck_A ad sh_C.length) := by
  refine ck_met_i (own := R_D) (by decide +kernel) rfl (Nat.le_of_ble_eq_true rfl) (fun p e R s m args below meth c H0 Q ls C hret h hl => ?_)
  have C1 := C
  obtain ⟨hx, hb, hml, hown, hts, hK, hlv, hlo⟩ := C1
  have hl : lv_has ls 2 [(0, .ref (ad 1)), (1, .int x1)] := hl
  unfold fD_firstTypeOf at hf
  refine lv_aload_n hx hb dD_firstTypeOf_0 rfl (lv_at hl 0 rfl) ?_
  refine lv_iload_n hx hb dD_firstTypeOf_1 rfl (lv_at hl 1 rfl) ?_
  obtain ⟨v2, st1, hc, hf⟩ := ck_b_e hf
  refine ck_vi (As := [.int x1]) (rest := []) (q := 1) C h hl CD_D_isConstructor sD_isConstructor q_D (cD_isConstructor l D cA ad hc) (Nat.le_of_ble_eq_true rfl) rfl rfl (Nat.le_of_ble_eq_true rfl) dD_firstTypeOf_2 (fun H locs h => ?_)
  refine lv_if_eq (tgt := 17) hx hb dD_firstTypeOf_5 rfl (fun hq => ?_) (fun hq => ?_)
  · have hf := ck_t hq hf
    refine lv_iconst (v := (-1)) hx hb dD_firstTypeOf_17 (by decide) ?_
    exact ck_ri hf hret h dD_firstTypeOf_18
  · have hf := ck_f hq hf
    refine lv_aload_n hx hb dD_firstTypeOf_8 rfl (lv_at hl 0 rfl) ?_
    refine ck_gr C h FD_firstType dD_firstTypeOf_9 ?_
    refine lv_iload_n hx hb dD_firstTypeOf_12 rfl (lv_at hl 1 rfl) ?_
    obtain ⟨hg, hf⟩ := ck_gd_e hf
    refine ck_ai (x := (st1 8 (x1).toNatClampNeg)) C h (show sh_C[8]? = some (.inr (0, 12)) from rfl) hg rfl dD_firstTypeOf_13 ?_
    refine lv_goto (tgt := 18) hx hb dD_firstTypeOf_14 rfl ?_
    exact ck_ri hf hret h dD_firstTypeOf_18
def fD_secondTypeOf (x1 : Int32) (st : ck_S) : Option (Int32 × ck_S) := (ck_b (fD_isConstructor x1 st) fun v2 st1 => (if v2 = 0 then (some ((-1), st1)) else (ck_gd x1 12 (some ((st1 9 (x1).toNatClampNeg), st1)))))
set_option maxRecDepth 100000 in
set_option maxHeartbeats 4000000 in
theorem cD_secondTypeOf (l : Launch) (D : va_G) (cA : Nat → ClassId) (ad : Nat → Nat) {x1 : Int32} {st : ck_S} {r0 : Int32} {st0 : ck_S} (hf : fD_secondTypeOf x1 st = some (r0, st0)) : Met l yD_secondTypeOf (.code yD_secondTypeOf bD_secondTypeOf 2 (some .int) :: ck_T) (ck_R 1) (va_Pc [.ref (ad 1), .int x1] (ck_P sh_C cm_cl D cA ad st)) (va_Qi (fun a u => a = r0 ∧ u = st0) (ck_P sh_C cm_cl D cA ad) (ck_A ad sh_C.length)) 0 0 (ck_A ad sh_C.length) := by
  refine ck_met_i (own := R_D) (by decide +kernel) rfl (Nat.le_of_ble_eq_true rfl) (fun p e R s m args below meth c H0 Q ls C hret h hl => ?_)
  have C1 := C
  obtain ⟨hx, hb, hml, hown, hts, hK, hlv, hlo⟩ := C1
  have hl : lv_has ls 2 [(0, .ref (ad 1)), (1, .int x1)] := hl
  unfold fD_secondTypeOf at hf
  refine lv_aload_n hx hb dD_secondTypeOf_0 rfl (lv_at hl 0 rfl) ?_
  refine lv_iload_n hx hb dD_secondTypeOf_1 rfl (lv_at hl 1 rfl) ?_
  obtain ⟨v2, st1, hc, hf⟩ := ck_b_e hf
  refine ck_vi (As := [.int x1]) (rest := []) (q := 1) C h hl CD_D_isConstructor sD_isConstructor q_D (cD_isConstructor l D cA ad hc) (Nat.le_of_ble_eq_true rfl) rfl rfl (Nat.le_of_ble_eq_true rfl) dD_secondTypeOf_2 (fun H locs h => ?_)
  refine lv_if_eq (tgt := 17) hx hb dD_secondTypeOf_5 rfl (fun hq => ?_) (fun hq => ?_)
  · have hf := ck_t hq hf
    refine lv_iconst (v := (-1)) hx hb dD_secondTypeOf_17 (by decide) ?_
    exact ck_ri hf hret h dD_secondTypeOf_18
  · have hf := ck_f hq hf
    refine lv_aload_n hx hb dD_secondTypeOf_8 rfl (lv_at hl 0 rfl) ?_
    refine ck_gr C h FD_secondType dD_secondTypeOf_9 ?_
    refine lv_iload_n hx hb dD_secondTypeOf_12 rfl (lv_at hl 1 rfl) ?_
    obtain ⟨hg, hf⟩ := ck_gd_e hf
    refine ck_ai (x := (st1 9 (x1).toNatClampNeg)) C h (show sh_C[9]? = some (.inr (0, 12)) from rfl) hg rfl dD_secondTypeOf_13 ?_
    refine lv_goto (tgt := 18) hx hb dD_secondTypeOf_14 rfl ?_
    exact ck_ri hf hret h dD_secondTypeOf_18
def fD_argumentPlaces_b19 (x1 : Int32) (x2 : Int32) (x3 : Int32) (st : ck_S) : Option (Int32 × ck_S) := (ck_b (fD_secondTypeOf x1 st) fun v2 st1 => (if v2 = (-1) then (some (x3, st1)) else (some ((x3 ||| (1 <<< (((2 * x2) + 1) &&& 31))), st1))))
set_option maxRecDepth 100000 in
set_option maxHeartbeats 4000000 in
theorem BD_argumentPlaces_19 (C : ck_X cm_cl D cA bD_argumentPlaces 4 R_D 2 p R s m args c) {r0 : Int32} {st0 : ck_S} (hret : ∀ (pc : Nat) (H : Heap) (locs : List Loc) (ls : Array Slot), decode bD_argumentPlaces pc = .ok (.ireturn, 1) → ck_AT sh_C cm_cl D cA ad H0 st0 H locs → W p l e R s m args below meth c H locs 0 0 Q (F0 m pc ls [.int r0])) (x1 : Int32) (x2 : Int32) (x3 : Int32) (st : ck_S) (H : Heap) (locs : List Loc) (ls : Array Slot) (h : ck_AT sh_C cm_cl D cA ad H0 st H locs) (hl : lv_has ls 4 [(0, .ref (ad 1)), (1, .int x1), (2, .int x2), (3, .int x3)]) (hf : fD_argumentPlaces_b19 x1 x2 x3 st = some (r0, st0)) : W p l e R s m args below meth c H locs 0 0 Q (F0 m 19 ls []) := by
  have C1 := C
  obtain ⟨hx, hb, hml, hown, hts, hK, hlv, hlo⟩ := C1
  unfold fD_argumentPlaces_b19 at hf
  refine lv_aload_n hx hb dD_argumentPlaces_19 rfl (lv_at hl 0 rfl) ?_
  refine lv_iload_n hx hb dD_argumentPlaces_20 rfl (lv_at hl 1 rfl) ?_
  obtain ⟨v2, st1, hc, hf⟩ := ck_b_e hf
  refine ck_vi (As := [.int x1]) (rest := []) (q := 1) C h hl CD_D_secondTypeOf sD_secondTypeOf q_D (cD_secondTypeOf l D cA ad hc) (Nat.le_of_ble_eq_true rfl) rfl rfl (Nat.le_of_ble_eq_true rfl) dD_argumentPlaces_21 (fun H locs h => ?_)
  refine lv_iconst (v := (-1)) hx hb dD_argumentPlaces_24 (by decide) ?_
  refine lv_icmp_eq (tgt := 38) hx hb dD_argumentPlaces_25 rfl (fun hq => ?_) (fun hq => ?_)
  · have hf := ck_t hq hf
    refine lv_iload_n hx hb dD_argumentPlaces_38 rfl (lv_at hl 3 rfl) ?_
    exact ck_ri hf hret h dD_argumentPlaces_39
  · have hf := ck_f hq hf
    refine lv_iload_n hx hb dD_argumentPlaces_28 rfl (lv_at hl 3 rfl) ?_
    refine lv_iconst (v := 1) hx hb dD_argumentPlaces_29 (by decide) ?_
    refine lv_iconst (v := 2) hx hb dD_argumentPlaces_30 (by decide) ?_
    refine lv_iload_n hx hb dD_argumentPlaces_31 rfl (lv_at hl 2 rfl) ?_
    refine lv_imul hx hb dD_argumentPlaces_32 ?_
    refine lv_iconst (v := 1) hx hb dD_argumentPlaces_33 (by decide) ?_
    refine lv_iadd hx hb dD_argumentPlaces_34 ?_
    refine lv_ishl hx hb dD_argumentPlaces_35 ?_
    refine lv_ior hx hb dD_argumentPlaces_36 ?_
    refine lv_istore_n (lv' := [(3, .int (x3 ||| (1 <<< (((2 * x2) + 1) &&& 31)))), (0, .ref (ad 1)), (1, .int x1), (2, .int x2)]) hx hb dD_argumentPlaces_37 rfl hl (by decide) rfl (fun ls hl => ?_)
    refine lv_iload_n hx hb dD_argumentPlaces_38 rfl (lv_at hl 0 rfl) ?_
    exact ck_ri hf hret h dD_argumentPlaces_39
def fD_argumentPlaces (x1 : Int32) (x2 : Int32) (st : ck_S) : Option (Int32 × ck_S) := (ck_b (fD_firstTypeOf x1 st) fun v2 st1 => (if v2 = (-1) then (fD_argumentPlaces_b19 x1 x2 0 st1) else (fD_argumentPlaces_b19 x1 x2 (0 ||| (1 <<< ((2 * x2) &&& 31))) st1)))
set_option maxRecDepth 100000 in
set_option maxHeartbeats 4000000 in
theorem cD_argumentPlaces (l : Launch) (D : va_G) (cA : Nat → ClassId) (ad : Nat → Nat) {x1 : Int32} {x2 : Int32} {st : ck_S} {r0 : Int32} {st0 : ck_S} (hf : fD_argumentPlaces x1 x2 st = some (r0, st0)) : Met l yD_argumentPlaces (.code yD_argumentPlaces bD_argumentPlaces 4 (some .int) :: ck_T) (ck_R 2) (va_Pc [.ref (ad 1), .int x1, .int x2] (ck_P sh_C cm_cl D cA ad st)) (va_Qi (fun a u => a = r0 ∧ u = st0) (ck_P sh_C cm_cl D cA ad) (ck_A ad sh_C.length)) 0 0 (ck_A ad sh_C.length) := by
  refine ck_met_i (own := R_D) (by decide +kernel) rfl (Nat.le_of_ble_eq_true rfl) (fun p e R s m args below meth c H0 Q ls C hret h hl => ?_)
  have C1 := C
  obtain ⟨hx, hb, hml, hown, hts, hK, hlv, hlo⟩ := C1
  have hl : lv_has ls 4 [(0, .ref (ad 1)), (1, .int x1), (2, .int x2)] := hl
  unfold fD_argumentPlaces at hf
  refine lv_iconst (v := 0) hx hb dD_argumentPlaces_0 (by decide) ?_
  refine lv_istore_n (lv' := [(3, .int 0), (0, .ref (ad 1)), (1, .int x1), (2, .int x2)]) hx hb dD_argumentPlaces_1 rfl hl (by decide) rfl (fun ls hl => ?_)
  refine lv_aload_n hx hb dD_argumentPlaces_2 rfl (lv_at hl 1 rfl) ?_
  refine lv_iload_n hx hb dD_argumentPlaces_3 rfl (lv_at hl 2 rfl) ?_
  obtain ⟨v2, st1, hc, hf⟩ := ck_b_e hf
  refine ck_vi (As := [.int x1]) (rest := []) (q := 1) C h hl CD_D_firstTypeOf sD_firstTypeOf q_D (cD_firstTypeOf l D cA ad hc) (Nat.le_of_ble_eq_true rfl) rfl rfl (Nat.le_of_ble_eq_true rfl) dD_argumentPlaces_4 (fun H locs h => ?_)
  refine lv_iconst (v := (-1)) hx hb dD_argumentPlaces_7 (by decide) ?_
  refine lv_icmp_eq (tgt := 19) hx hb dD_argumentPlaces_8 rfl (fun hq => ?_) (fun hq => ?_)
  · have hf := ck_t hq hf
    exact BD_argumentPlaces_19 C hret _ _ _ _ _ _ _ h (lv_sub hl [1, 2, 3, 0] rfl) hf
  · have hf := ck_f hq hf
    refine lv_iload_n hx hb dD_argumentPlaces_11 rfl (lv_at hl 0 rfl) ?_
    refine lv_iconst (v := 1) hx hb dD_argumentPlaces_12 (by decide) ?_
    refine lv_iconst (v := 2) hx hb dD_argumentPlaces_13 (by decide) ?_
    refine lv_iload_n hx hb dD_argumentPlaces_14 rfl (lv_at hl 3 rfl) ?_
    refine lv_imul hx hb dD_argumentPlaces_15 ?_
    refine lv_ishl hx hb dD_argumentPlaces_16 ?_
    refine lv_ior hx hb dD_argumentPlaces_17 ?_
    refine lv_istore_n (lv' := [(3, .int (0 ||| (1 <<< ((2 * x2) &&& 31)))), (0, .ref (ad 1)), (1, .int x1), (2, .int x2)]) hx hb dD_argumentPlaces_18 rfl hl (by decide) rfl (fun ls hl => ?_)
    exact BD_argumentPlaces_19 C hret _ _ _ _ _ _ _ h (lv_sub hl [1, 2, 3, 0] rfl) hf
def fD_canBeGiven (x0 : Int32) (x1 : Int32) (st : ck_S) : Option (Int32 × ck_S) := (if x0 = (-1) then (some (1, st)) else (if ((x1 >>> (x0 &&& 31)) &&& 1) = 1 then (some (1, st)) else (some (0, st))))
set_option maxRecDepth 100000 in
set_option maxHeartbeats 4000000 in
theorem cD_canBeGiven (l : Launch) (D : va_G) (cA : Nat → ClassId) (ad : Nat → Nat) {x0 : Int32} {x1 : Int32} {st : ck_S} {r0 : Int32} {st0 : ck_S} (hf : fD_canBeGiven x0 x1 st = some (r0, st0)) : Met l yD_canBeGiven (.code yD_canBeGiven bD_canBeGiven 2 (some .boolean) :: ck_T) (ck_R 0) (va_Pc [.int x0, .int x1] (ck_P sh_C cm_cl D cA ad st)) (va_Qi (fun a u => a = r0 ∧ u = st0) (ck_P sh_C cm_cl D cA ad) (ck_A ad sh_C.length)) 0 0 (ck_A ad sh_C.length) := by
  refine ck_met_z (own := R_D) (by decide +kernel) rfl (Nat.le_of_ble_eq_true rfl) (fun p e R s m args below meth c H0 Q ls C hret h hl => ?_)
  have C1 := C
  obtain ⟨hx, hb, hml, hown, hts, hK, hlv, hlo⟩ := C1
  have hl : lv_has ls 2 [(0, .int x0), (1, .int x1)] := hl
  unfold fD_canBeGiven at hf
  refine lv_iload_n hx hb dD_canBeGiven_0 rfl (lv_at hl 0 rfl) ?_
  refine lv_iconst (v := (-1)) hx hb dD_canBeGiven_1 (by decide) ?_
  refine lv_icmp_eq (tgt := 14) hx hb dD_canBeGiven_2 rfl (fun hq => ?_) (fun hq => ?_)
  · have hf := ck_t hq hf
    refine lv_iconst (v := 1) hx hb dD_canBeGiven_14 (by decide) ?_
    refine lv_goto (tgt := 19) hx hb dD_canBeGiven_15 rfl ?_
    exact ck_rz hf hret ck_z1 h dD_canBeGiven_19
  · have hf := ck_f hq hf
    refine lv_iload_n hx hb dD_canBeGiven_5 rfl (lv_at hl 1 rfl) ?_
    refine lv_iload_n hx hb dD_canBeGiven_6 rfl (lv_at hl 0 rfl) ?_
    refine lv_ishr hx hb dD_canBeGiven_7 ?_
    refine lv_iconst (v := 1) hx hb dD_canBeGiven_8 (by decide) ?_
    refine lv_iand hx hb dD_canBeGiven_9 ?_
    refine lv_iconst (v := 1) hx hb dD_canBeGiven_10 (by decide) ?_
    refine lv_icmp_ne (tgt := 18) hx hb dD_canBeGiven_11 rfl (fun hq => ?_) (fun hq => ?_)
    · have hf := ck_f hq hf
      refine lv_iconst (v := 0) hx hb dD_canBeGiven_18 (by decide) ?_
      exact ck_rz hf hret ck_z0 h dD_canBeGiven_19
    · have hf := ck_t hq hf
      refine lv_iconst (v := 1) hx hb dD_canBeGiven_14 (by decide) ?_
      refine lv_goto (tgt := 19) hx hb dD_canBeGiven_15 rfl ?_
      exact ck_rz hf hret ck_z1 h dD_canBeGiven_19
def fD_withTypesBuiltFrom_l4 : Nat → Int32 → Int32 → ck_S → Option (Int32 × ck_S)
  | 0, _, _, _ => none
  | n + 1, x2, x3, st => (if (st 1 4) ≤ x3 then (some (x2, st)) else (ck_gd x3 12 (ck_b (fD_canBeGiven (st 8 (x3).toNatClampNeg) x2 st) fun v2 st1 => (if v2 = 0 then (fD_withTypesBuiltFrom_l4 n x2 (x3 + 1) st1) else (ck_gd x3 12 (ck_b (fD_canBeGiven (st1 9 (x3).toNatClampNeg) x2 st1) fun v4 st3 => (if v4 = 0 then (fD_withTypesBuiltFrom_l4 n x2 (x3 + 1) st3) else (ck_gd x3 12 (fD_withTypesBuiltFrom_l4 n (x2 ||| (1 <<< ((st3 7 (x3).toNatClampNeg) &&& 31))) (x3 + 1) st3)))))))))
set_option maxRecDepth 100000 in
set_option maxHeartbeats 4000000 in
theorem BD_withTypesBuiltFrom_4 (C : ck_X cm_cl D cA bD_withTypesBuiltFrom 4 R_D 1 p R s m args c) {r0 : Int32} {st0 : ck_S} (hret : ∀ (pc : Nat) (H : Heap) (locs : List Loc) (ls : Array Slot), decode bD_withTypesBuiltFrom pc = .ok (.ireturn, 1) → ck_AT sh_C cm_cl D cA ad H0 st0 H locs → W p l e R s m args below meth c H locs 0 0 Q (F0 m pc ls [.int r0])) : ∀ (n : Nat) (x2 : Int32) (x3 : Int32) (st : ck_S) (H : Heap) (locs : List Loc) (ls : Array Slot), ck_AT sh_C cm_cl D cA ad H0 st H locs → lv_has ls 4 [(0, .ref (ad 1)), (2, .int x2), (3, .int x3)] → fD_withTypesBuiltFrom_l4  n x2 x3 st = some (r0, st0) → W p l e R s m args below meth c H locs 0 0 Q (F0 m 4 ls []) := by
  have C1 := C
  obtain ⟨hx, hb, hml, hown, hts, hK, hlv, hlo⟩ := C1
  intro n
  induction n with
  | zero => intro _ _ _ _ _ _ _ _ hf; cases hf
  | succ n ih =>
    intro x2 x3 st H locs ls h hl hf
    rw [fD_withTypesBuiltFrom_l4] at hf
    refine lv_iload_n hx hb dD_withTypesBuiltFrom_4 rfl (lv_at hl 2 rfl) ?_
    refine lv_aload_n hx hb dD_withTypesBuiltFrom_5 rfl (lv_at hl 0 rfl) ?_
    refine ck_gi (x := (st 1 4)) C h FD_constructors rfl dD_withTypesBuiltFrom_6 ?_
    refine lv_icmp_ge (tgt := 55) hx hb dD_withTypesBuiltFrom_9 rfl (fun hq => ?_) (fun hq => ?_)
    · have hf := ck_t hq hf
      refine lv_iload_n hx hb dD_withTypesBuiltFrom_55 rfl (lv_at hl 1 rfl) ?_
      exact ck_ri hf hret h dD_withTypesBuiltFrom_56
    · have hf := ck_f hq hf
      refine lv_aload_n hx hb dD_withTypesBuiltFrom_12 rfl (lv_at hl 0 rfl) ?_
      refine ck_gr C h FD_firstType dD_withTypesBuiltFrom_13 ?_
      refine lv_iload_n hx hb dD_withTypesBuiltFrom_16 rfl (lv_at hl 2 rfl) ?_
      obtain ⟨hg, hf⟩ := ck_gd_e hf
      refine ck_ai (x := (st 8 (x3).toNatClampNeg)) C h (show sh_C[8]? = some (.inr (0, 12)) from rfl) hg rfl dD_withTypesBuiltFrom_17 ?_
      refine lv_iload_n hx hb dD_withTypesBuiltFrom_18 rfl (lv_at hl 1 rfl) ?_
      obtain ⟨v2, st1, hc, hf⟩ := ck_b_e hf
      refine ck_ti (As := [.int (st 8 (x3).toNatClampNeg), .int x2]) (rest := []) C h hl CD_D_canBeGiven sD_canBeGiven (cD_canBeGiven l D cA ad hc) (Nat.le_of_ble_eq_true rfl) rfl rfl (Nat.le_of_ble_eq_true rfl) dD_withTypesBuiltFrom_19 (fun H locs h => ?_)
      refine lv_if_eq (tgt := 49) hx hb dD_withTypesBuiltFrom_22 rfl (fun hq => ?_) (fun hq => ?_)
      · have hf := ck_t hq hf
        refine lv_iinc (k := 2) (v := (x3 + 1)) (lv' := [(3, .int (x3 + 1)), (0, .ref (ad 1)), (2, .int x2)]) hx hb dD_withTypesBuiltFrom_49 hl rfl rfl (by decide) rfl (fun ls hl => ?_)
        refine lv_goto (tgt := 4) hx hb dD_withTypesBuiltFrom_52 rfl ?_
        exact ih _ _ _ _ _ _ h (lv_sub hl [1, 2, 0] rfl) hf
      · have hf := ck_f hq hf
        refine lv_aload_n hx hb dD_withTypesBuiltFrom_25 rfl (lv_at hl 0 rfl) ?_
        refine ck_gr C h FD_secondType dD_withTypesBuiltFrom_26 ?_
        refine lv_iload_n hx hb dD_withTypesBuiltFrom_29 rfl (lv_at hl 2 rfl) ?_
        obtain ⟨hg, hf⟩ := ck_gd_e hf
        refine ck_ai (x := (st1 9 (x3).toNatClampNeg)) C h (show sh_C[9]? = some (.inr (0, 12)) from rfl) hg rfl dD_withTypesBuiltFrom_30 ?_
        refine lv_iload_n hx hb dD_withTypesBuiltFrom_31 rfl (lv_at hl 1 rfl) ?_
        obtain ⟨v4, st3, hc, hf⟩ := ck_b_e hf
        refine ck_ti (As := [.int (st1 9 (x3).toNatClampNeg), .int x2]) (rest := []) C h hl CD_D_canBeGiven sD_canBeGiven (cD_canBeGiven l D cA ad hc) (Nat.le_of_ble_eq_true rfl) rfl rfl (Nat.le_of_ble_eq_true rfl) dD_withTypesBuiltFrom_32 (fun H locs h => ?_)
        refine lv_if_eq (tgt := 49) hx hb dD_withTypesBuiltFrom_35 rfl (fun hq => ?_) (fun hq => ?_)
        · have hf := ck_t hq hf
          refine lv_iinc (k := 2) (v := (x3 + 1)) (lv' := [(3, .int (x3 + 1)), (0, .ref (ad 1)), (2, .int x2)]) hx hb dD_withTypesBuiltFrom_49 hl rfl rfl (by decide) rfl (fun ls hl => ?_)
          refine lv_goto (tgt := 4) hx hb dD_withTypesBuiltFrom_52 rfl ?_
          exact ih _ _ _ _ _ _ h (lv_sub hl [1, 2, 0] rfl) hf
        · have hf := ck_f hq hf
          refine lv_iload_n hx hb dD_withTypesBuiltFrom_38 rfl (lv_at hl 1 rfl) ?_
          refine lv_iconst (v := 1) hx hb dD_withTypesBuiltFrom_39 (by decide) ?_
          refine lv_aload_n hx hb dD_withTypesBuiltFrom_40 rfl (lv_at hl 0 rfl) ?_
          refine ck_gr C h FD_owner dD_withTypesBuiltFrom_41 ?_
          refine lv_iload_n hx hb dD_withTypesBuiltFrom_44 rfl (lv_at hl 2 rfl) ?_
          obtain ⟨hg, hf⟩ := ck_gd_e hf
          refine ck_ai (x := (st3 7 (x3).toNatClampNeg)) C h (show sh_C[7]? = some (.inr (0, 12)) from rfl) hg rfl dD_withTypesBuiltFrom_45 ?_
          refine lv_ishl hx hb dD_withTypesBuiltFrom_46 ?_
          refine lv_ior hx hb dD_withTypesBuiltFrom_47 ?_
          refine lv_istore_n (lv' := [(2, .int (x2 ||| (1 <<< ((st3 7 (x3).toNatClampNeg) &&& 31)))), (0, .ref (ad 1)), (3, .int x3)]) hx hb dD_withTypesBuiltFrom_48 rfl hl (by decide) rfl (fun ls hl => ?_)
          refine lv_iinc (k := 2) (v := (x3 + 1)) (lv' := [(3, .int (x3 + 1)), (2, .int (x2 ||| (1 <<< ((st3 7 (x3).toNatClampNeg) &&& 31)))), (0, .ref (ad 1))]) hx hb dD_withTypesBuiltFrom_49 hl rfl rfl (by decide) rfl (fun ls hl => ?_)
          refine lv_goto (tgt := 4) hx hb dD_withTypesBuiltFrom_52 rfl ?_
          exact ih _ _ _ _ _ _ h (lv_sub hl [2, 1, 0] rfl) hf
def fD_withTypesBuiltFrom (x1 : Int32) (st : ck_S) : Option (Int32 × ck_S) := (fD_withTypesBuiltFrom_l4  4096 x1 0 st)
set_option maxRecDepth 100000 in
set_option maxHeartbeats 4000000 in
theorem cD_withTypesBuiltFrom (l : Launch) (D : va_G) (cA : Nat → ClassId) (ad : Nat → Nat) {x1 : Int32} {st : ck_S} {r0 : Int32} {st0 : ck_S} (hf : fD_withTypesBuiltFrom x1 st = some (r0, st0)) : Met l yD_withTypesBuiltFrom (.code yD_withTypesBuiltFrom bD_withTypesBuiltFrom 4 (some .int) :: ck_T) (ck_R 1) (va_Pc [.ref (ad 1), .int x1] (ck_P sh_C cm_cl D cA ad st)) (va_Qi (fun a u => a = r0 ∧ u = st0) (ck_P sh_C cm_cl D cA ad) (ck_A ad sh_C.length)) 0 0 (ck_A ad sh_C.length) := by
  refine ck_met_i (own := R_D) (by decide +kernel) rfl (Nat.le_of_ble_eq_true rfl) (fun p e R s m args below meth c H0 Q ls C hret h hl => ?_)
  have C1 := C
  obtain ⟨hx, hb, hml, hown, hts, hK, hlv, hlo⟩ := C1
  have hl : lv_has ls 4 [(0, .ref (ad 1)), (1, .int x1)] := hl
  unfold fD_withTypesBuiltFrom at hf
  refine lv_iload_n hx hb dD_withTypesBuiltFrom_0 rfl (lv_at hl 1 rfl) ?_
  refine lv_istore_n (lv' := [(2, .int x1), (0, .ref (ad 1)), (1, .int x1)]) hx hb dD_withTypesBuiltFrom_1 rfl hl (by decide) rfl (fun ls hl => ?_)
  refine lv_iconst (v := 0) hx hb dD_withTypesBuiltFrom_2 (by decide) ?_
  refine lv_istore_n (lv' := [(3, .int 0), (2, .int x1), (0, .ref (ad 1)), (1, .int x1)]) hx hb dD_withTypesBuiltFrom_3 rfl hl (by decide) rfl (fun ls hl => ?_)
  exact BD_withTypesBuiltFrom_4 C hret  4096 _ _ _ _ _ _ h (lv_sub hl [2, 1, 0] rfl) hf
def fD_everyTypeHasValues_l4 (k24 : Int32 → ck_S → Option (Int32 × ck_S)) : Nat → Int32 → Int32 → ck_S → Option (Int32 × ck_S)
  | 0, _, _, _ => none
  | n + 1, x1, x2, st => (if (st 1 3) ≤ x2 then (k24 x1 st) else (ck_b (fD_withTypesBuiltFrom x1 st) fun v2 st1 => (fD_everyTypeHasValues_l4 k24 n v2 (x2 + 1) st1)))
set_option maxRecDepth 100000 in
set_option maxHeartbeats 4000000 in
theorem BD_everyTypeHasValues_4 (C : ck_X cm_cl D cA bD_everyTypeHasValues 3 R_D 2 p R s m args c) {r0 : Int32} {st0 : ck_S} (hret : ∀ (pc : Nat) (H : Heap) (locs : List Loc) (ls : Array Slot), decode bD_everyTypeHasValues pc = .ok (.ireturn, 1) → (r0 = 0 ∨ r0 = 1) → ck_AT sh_C cm_cl D cA ad H0 st0 H locs → W p l e R s m args below meth c H locs 0 0 Q (F0 m pc ls [.int r0])) {k24 : Int32 → ck_S → Option (Int32 × ck_S)} (hk24 : ∀ (x1 : Int32) (st : ck_S) (H : Heap) (locs : List Loc) (ls : Array Slot), ck_AT sh_C cm_cl D cA ad H0 st H locs → lv_has ls 3 [(0, .ref (ad 1)), (1, .int x1)] → k24 x1 st = some (r0, st0) → W p l e R s m args below meth c H locs 0 0 Q (F0 m 24 ls [])) : ∀ (n : Nat) (x1 : Int32) (x2 : Int32) (st : ck_S) (H : Heap) (locs : List Loc) (ls : Array Slot), ck_AT sh_C cm_cl D cA ad H0 st H locs → lv_has ls 3 [(0, .ref (ad 1)), (1, .int x1), (2, .int x2)] → fD_everyTypeHasValues_l4 k24 n x1 x2 st = some (r0, st0) → W p l e R s m args below meth c H locs 0 0 Q (F0 m 4 ls []) := by
  have C1 := C
  obtain ⟨hx, hb, hml, hown, hts, hK, hlv, hlo⟩ := C1
  intro n
  induction n with
  | zero => intro _ _ _ _ _ _ _ _ hf; cases hf
  | succ n ih =>
    intro x1 x2 st H locs ls h hl hf
    rw [fD_everyTypeHasValues_l4] at hf
    refine lv_iload_n hx hb dD_everyTypeHasValues_4 rfl (lv_at hl 2 rfl) ?_
    refine lv_aload_n hx hb dD_everyTypeHasValues_5 rfl (lv_at hl 0 rfl) ?_
    refine ck_gi (x := (st 1 3)) C h FD_ownTypes rfl dD_everyTypeHasValues_6 ?_
    refine lv_icmp_ge (tgt := 24) hx hb dD_everyTypeHasValues_9 rfl (fun hq => ?_) (fun hq => ?_)
    · have hf := ck_t hq hf
      exact hk24 _ _ _ _ _ h (lv_sub hl [0, 1] rfl) hf
    · have hf := ck_f hq hf
      refine lv_aload_n hx hb dD_everyTypeHasValues_12 rfl (lv_at hl 0 rfl) ?_
      refine lv_iload_n hx hb dD_everyTypeHasValues_13 rfl (lv_at hl 1 rfl) ?_
      obtain ⟨v2, st1, hc, hf⟩ := ck_b_e hf
      refine ck_vi (As := [.int x1]) (rest := []) (q := 1) C h hl CD_D_withTypesBuiltFrom sD_withTypesBuiltFrom q_D (cD_withTypesBuiltFrom l D cA ad hc) (Nat.le_of_ble_eq_true rfl) rfl rfl (Nat.le_of_ble_eq_true rfl) dD_everyTypeHasValues_14 (fun H locs h => ?_)
      refine lv_istore_n (lv' := [(1, .int v2), (0, .ref (ad 1)), (2, .int x2)]) hx hb dD_everyTypeHasValues_17 rfl hl (by decide) rfl (fun ls hl => ?_)
      refine lv_iinc (k := 2) (v := (x2 + 1)) (lv' := [(2, .int (x2 + 1)), (1, .int v2), (0, .ref (ad 1))]) hx hb dD_everyTypeHasValues_18 hl rfl rfl (by decide) rfl (fun ls hl => ?_)
      refine lv_goto (tgt := 4) hx hb dD_everyTypeHasValues_21 rfl ?_
      exact ih _ _ _ _ _ _ h (lv_sub hl [2, 1, 0] rfl) hf
def fD_everyTypeHasValues_b24 (x1 : Int32) (st : ck_S) : Option (Int32 × ck_S) := (if x1 = ((1 <<< (((st 1 3) + 1) &&& 31)) - 1) then (some (1, st)) else (some (0, st)))
set_option maxRecDepth 100000 in
set_option maxHeartbeats 4000000 in
theorem BD_everyTypeHasValues_24 (C : ck_X cm_cl D cA bD_everyTypeHasValues 3 R_D 2 p R s m args c) {r0 : Int32} {st0 : ck_S} (hret : ∀ (pc : Nat) (H : Heap) (locs : List Loc) (ls : Array Slot), decode bD_everyTypeHasValues pc = .ok (.ireturn, 1) → (r0 = 0 ∨ r0 = 1) → ck_AT sh_C cm_cl D cA ad H0 st0 H locs → W p l e R s m args below meth c H locs 0 0 Q (F0 m pc ls [.int r0])) (x1 : Int32) (st : ck_S) (H : Heap) (locs : List Loc) (ls : Array Slot) (h : ck_AT sh_C cm_cl D cA ad H0 st H locs) (hl : lv_has ls 3 [(0, .ref (ad 1)), (1, .int x1)]) (hf : fD_everyTypeHasValues_b24 x1 st = some (r0, st0)) : W p l e R s m args below meth c H locs 0 0 Q (F0 m 24 ls []) := by
  have C1 := C
  obtain ⟨hx, hb, hml, hown, hts, hK, hlv, hlo⟩ := C1
  unfold fD_everyTypeHasValues_b24 at hf
  refine lv_iload_n hx hb dD_everyTypeHasValues_24 rfl (lv_at hl 1 rfl) ?_
  refine lv_iconst (v := 1) hx hb dD_everyTypeHasValues_25 (by decide) ?_
  refine lv_aload_n hx hb dD_everyTypeHasValues_26 rfl (lv_at hl 0 rfl) ?_
  refine ck_gi (x := (st 1 3)) C h FD_ownTypes rfl dD_everyTypeHasValues_27 ?_
  refine lv_iconst (v := 1) hx hb dD_everyTypeHasValues_30 (by decide) ?_
  refine lv_iadd hx hb dD_everyTypeHasValues_31 ?_
  refine lv_ishl hx hb dD_everyTypeHasValues_32 ?_
  refine lv_iconst (v := 1) hx hb dD_everyTypeHasValues_33 (by decide) ?_
  refine lv_isub hx hb dD_everyTypeHasValues_34 ?_
  refine lv_icmp_ne (tgt := 42) hx hb dD_everyTypeHasValues_35 rfl (fun hq => ?_) (fun hq => ?_)
  · have hf := ck_f hq hf
    refine lv_iconst (v := 0) hx hb dD_everyTypeHasValues_42 (by decide) ?_
    exact ck_rz hf hret ck_z0 h dD_everyTypeHasValues_43
  · have hf := ck_t hq hf
    refine lv_iconst (v := 1) hx hb dD_everyTypeHasValues_38 (by decide) ?_
    refine lv_goto (tgt := 43) hx hb dD_everyTypeHasValues_39 rfl ?_
    exact ck_rz hf hret ck_z1 h dD_everyTypeHasValues_43
def fD_everyTypeHasValues (st : ck_S) : Option (Int32 × ck_S) := (fD_everyTypeHasValues_l4 (fun x1 st => (fD_everyTypeHasValues_b24 x1 st)) 4096 1 0 st)
set_option maxRecDepth 100000 in
set_option maxHeartbeats 4000000 in
theorem cD_everyTypeHasValues (l : Launch) (D : va_G) (cA : Nat → ClassId) (ad : Nat → Nat) {st : ck_S} {r0 : Int32} {st0 : ck_S} (hf : fD_everyTypeHasValues st = some (r0, st0)) : Met l yD_everyTypeHasValues (.code yD_everyTypeHasValues bD_everyTypeHasValues 3 (some .boolean) :: ck_T) (ck_R 2) (va_Pc [.ref (ad 1)] (ck_P sh_C cm_cl D cA ad st)) (va_Qi (fun a u => a = r0 ∧ u = st0) (ck_P sh_C cm_cl D cA ad) (ck_A ad sh_C.length)) 0 0 (ck_A ad sh_C.length) := by
  refine ck_met_z (own := R_D) (by decide +kernel) rfl (Nat.le_of_ble_eq_true rfl) (fun p e R s m args below meth c H0 Q ls C hret h hl => ?_)
  have C1 := C
  obtain ⟨hx, hb, hml, hown, hts, hK, hlv, hlo⟩ := C1
  have hl : lv_has ls 3 [(0, .ref (ad 1))] := hl
  unfold fD_everyTypeHasValues at hf
  refine lv_iconst (v := 1) hx hb dD_everyTypeHasValues_0 (by decide) ?_
  refine lv_istore_n (lv' := [(1, .int 1), (0, .ref (ad 1))]) hx hb dD_everyTypeHasValues_1 rfl hl (by decide) rfl (fun ls hl => ?_)
  refine lv_iconst (v := 0) hx hb dD_everyTypeHasValues_2 (by decide) ?_
  refine lv_istore_n (lv' := [(2, .int 0), (1, .int 1), (0, .ref (ad 1))]) hx hb dD_everyTypeHasValues_3 rfl hl (by decide) rfl (fun ls hl => ?_)
  exact BD_everyTypeHasValues_4 C hret (fun x1 st H locs ls h hl hf => by
      exact BD_everyTypeHasValues_24 C hret _ _ _ _ _ h (lv_sub hl [0, 1] rfl) hf) 4096 _ _ _ _ _ _ h (lv_sub hl [2, 1, 0] rfl) hf
end Sdecl
end
