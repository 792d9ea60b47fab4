section
-- ===== PART A: goes FIRST, ahead of the names: the tables' words, and 'selects' of the private methods out of them =====
/-- a private method of a class that the tables say can be made, by its rows of tables_1 -/
def lw_okq (q : MethodName × Nat) : Prop := (q.1.cls ≠ "java/lang/invoke/MethodHandle" ∧ q.1.cls ≠ "java/lang/invoke/VarHandle") ∧ Cond.instantiable q.1.cls q.2 ∈ tables_1 ∧ Cond.privateMethod q.1 ∈ tables_1 ∧ Cond.instanceMethod q.1 ∈ tables_1
theorem lw_p0 : lw_okq (⟨"ClauseMatrix$Declarations", "countOfType", "(I)I"⟩, 5) := ⟨⟨by decide +kernel, by decide +kernel⟩, List.mem_of_getElem? (i := 21) (by decide +kernel), List.mem_of_getElem? (i := 299) (by decide +kernel), List.mem_of_getElem? (i := 300) (by decide +kernel)⟩
theorem lw_p1 : lw_okq (⟨"ClauseMatrix$Declarations", "withTypesBuiltFrom", "(I)I"⟩, 5) := ⟨⟨by decide +kernel, by decide +kernel⟩, List.mem_of_getElem? (i := 21) (by decide +kernel), List.mem_of_getElem? (i := 312) (by decide +kernel), List.mem_of_getElem? (i := 313) (by decide +kernel)⟩
theorem lw_p2 : lw_okq (⟨"ClauseMatrix$Patterns", "add", "(ZII)I"⟩, 8) := ⟨⟨by decide +kernel, by decide +kernel⟩, List.mem_of_getElem? (i := 44) (by decide +kernel), List.mem_of_getElem? (i := 331) (by decide +kernel), List.mem_of_getElem? (i := 332) (by decide +kernel)⟩
theorem lw_p3 : lw_okq (⟨"ClauseMatrix$Patterns", "withParts", "(IIIII)I"⟩, 8) := ⟨⟨by decide +kernel, by decide +kernel⟩, List.mem_of_getElem? (i := 44) (by decide +kernel), List.mem_of_getElem? (i := 335) (by decide +kernel), List.mem_of_getElem? (i := 336) (by decide +kernel)⟩
theorem lw_p4 : lw_okq (⟨"ClauseMatrix$Patterns", "depthOf", "(I)I"⟩, 8) := ⟨⟨by decide +kernel, by decide +kernel⟩, List.mem_of_getElem? (i := 44) (by decide +kernel), List.mem_of_getElem? (i := 388) (by decide +kernel), List.mem_of_getElem? (i := 389) (by decide +kernel)⟩
theorem lw_p5 : lw_okq (⟨"ClauseMatrix$Match", "layOut", "(IIII)V"⟩, 9) := ⟨⟨by decide +kernel, by decide +kernel⟩, List.mem_of_getElem? (i := 98) (by decide +kernel), List.mem_of_getElem? (i := 425) (by decide +kernel), List.mem_of_getElem? (i := 426) (by decide +kernel)⟩
theorem lw_p6 : lw_okq (⟨"ClauseMatrix$Tree", "addNode", "(IIII)Z"⟩, 17) := ⟨⟨by decide +kernel, by decide +kernel⟩, List.mem_of_getElem? (i := 132) (by decide +kernel), List.mem_of_getElem? (i := 463) (by decide +kernel), List.mem_of_getElem? (i := 464) (by decide +kernel)⟩
theorem lw_p7 : lw_okq (⟨"ClauseMatrix$Tree", "expand", "(I)Z"⟩, 17) := ⟨⟨by decide +kernel, by decide +kernel⟩, List.mem_of_getElem? (i := 132) (by decide +kernel), List.mem_of_getElem? (i := 467) (by decide +kernel), List.mem_of_getElem? (i := 468) (by decide +kernel)⟩
theorem lw_p8 : lw_okq (⟨"ClauseMatrix$Tree", "makeLeaf", "(I)V"⟩, 17) := ⟨⟨by decide +kernel, by decide +kernel⟩, List.mem_of_getElem? (i := 132) (by decide +kernel), List.mem_of_getElem? (i := 481) (by decide +kernel), List.mem_of_getElem? (i := 482) (by decide +kernel)⟩
theorem lw_p9 : lw_okq (⟨"ClauseMatrix$Tree", "addNumbers", "(I)Z"⟩, 17) := ⟨⟨by decide +kernel, by decide +kernel⟩, List.mem_of_getElem? (i := 132) (by decide +kernel), List.mem_of_getElem? (i := 494) (by decide +kernel), List.mem_of_getElem? (i := 495) (by decide +kernel)⟩
theorem lw_p10 : lw_okq (⟨"ClauseMatrix$Tree", "addConstructors", "(I)Z"⟩, 17) := ⟨⟨by decide +kernel, by decide +kernel⟩, List.mem_of_getElem? (i := 132) (by decide +kernel), List.mem_of_getElem? (i := 514) (by decide +kernel), List.mem_of_getElem? (i := 515) (by decide +kernel)⟩
theorem lw_p11 : lw_okq (⟨"ClauseMatrix$Tree", "markFailing", "()V"⟩, 17) := ⟨⟨by decide +kernel, by decide +kernel⟩, List.mem_of_getElem? (i := 132) (by decide +kernel), List.mem_of_getElem? (i := 529) (by decide +kernel), List.mem_of_getElem? (i := 530) (by decide +kernel)⟩
theorem lw_p12 : lw_okq (⟨"ClauseMatrix$Tree", "has", "(I)Z"⟩, 17) := ⟨⟨by decide +kernel, by decide +kernel⟩, List.mem_of_getElem? (i := 132) (by decide +kernel), List.mem_of_getElem? (i := 537) (by decide +kernel), List.mem_of_getElem? (i := 538) (by decide +kernel)⟩
theorem lw_p13 : lw_okq (⟨"ClauseMatrix$Witness", "followWayToFail", "()V"⟩, 7) := ⟨⟨by decide +kernel, by decide +kernel⟩, List.mem_of_getElem? (i := 190) (by decide +kernel), List.mem_of_getElem? (i := 550) (by decide +kernel), List.mem_of_getElem? (i := 551) (by decide +kernel)⟩
theorem lw_p14 : lw_okq (⟨"ClauseMatrix$Witness", "noteBranch", "(II)V"⟩, 7) := ⟨⟨by decide +kernel, by decide +kernel⟩, List.mem_of_getElem? (i := 190) (by decide +kernel), List.mem_of_getElem? (i := 559) (by decide +kernel), List.mem_of_getElem? (i := 560) (by decide +kernel)⟩
theorem lw_p15 : lw_okq (⟨"ClauseMatrix$Tree", "branchFor", "(II)I"⟩, 17) := ⟨⟨by decide +kernel, by decide +kernel⟩, List.mem_of_getElem? (i := 132) (by decide +kernel), List.mem_of_getElem? (i := 576) (by decide +kernel), List.mem_of_getElem? (i := 577) (by decide +kernel)⟩
def lw_privs_1 : List (MethodName × Nat) := [(⟨"ClauseMatrix$Declarations", "countOfType", "(I)I"⟩, 5), (⟨"ClauseMatrix$Declarations", "withTypesBuiltFrom", "(I)I"⟩, 5), (⟨"ClauseMatrix$Patterns", "add", "(ZII)I"⟩, 8), (⟨"ClauseMatrix$Patterns", "withParts", "(IIIII)I"⟩, 8), (⟨"ClauseMatrix$Patterns", "depthOf", "(I)I"⟩, 8), (⟨"ClauseMatrix$Match", "layOut", "(IIII)V"⟩, 9), (⟨"ClauseMatrix$Tree", "addNode", "(IIII)Z"⟩, 17), (⟨"ClauseMatrix$Tree", "expand", "(I)Z"⟩, 17), (⟨"ClauseMatrix$Tree", "makeLeaf", "(I)V"⟩, 17), (⟨"ClauseMatrix$Tree", "addNumbers", "(I)Z"⟩, 17), (⟨"ClauseMatrix$Tree", "addConstructors", "(I)Z"⟩, 17), (⟨"ClauseMatrix$Tree", "markFailing", "()V"⟩, 17), (⟨"ClauseMatrix$Tree", "has", "(I)Z"⟩, 17), (⟨"ClauseMatrix$Witness", "followWayToFail", "()V"⟩, 7), (⟨"ClauseMatrix$Witness", "noteBranch", "(II)V"⟩, 7), (⟨"ClauseMatrix$Tree", "branchFor", "(II)I"⟩, 17)]
theorem lw_r1 : ∀ q ∈ lw_privs_1, lw_okq q := List.forall_mem_cons.mpr ⟨lw_p0, List.forall_mem_cons.mpr ⟨lw_p1, List.forall_mem_cons.mpr ⟨lw_p2, List.forall_mem_cons.mpr ⟨lw_p3, List.forall_mem_cons.mpr ⟨lw_p4, List.forall_mem_cons.mpr ⟨lw_p5, List.forall_mem_cons.mpr ⟨lw_p6, List.forall_mem_cons.mpr ⟨lw_p7, List.forall_mem_cons.mpr ⟨lw_p8, List.forall_mem_cons.mpr ⟨lw_p9, List.forall_mem_cons.mpr ⟨lw_p10, List.forall_mem_cons.mpr ⟨lw_p11, List.forall_mem_cons.mpr ⟨lw_p12, List.forall_mem_cons.mpr ⟨lw_p13, List.forall_mem_cons.mpr ⟨lw_p14, List.forall_mem_cons.mpr ⟨lw_p15, fun _ h => absurd h List.not_mem_nil⟩⟩⟩⟩⟩⟩⟩⟩⟩⟩⟩⟩⟩⟩⟩⟩
theorem lw_p16 : lw_okq (⟨"ClauseMatrix$Witness", "write", "(I)V"⟩, 7) := ⟨⟨by decide +kernel, by decide +kernel⟩, List.mem_of_getElem? (i := 190) (by decide +kernel), List.mem_of_getElem? (i := 584) (by decide +kernel), List.mem_of_getElem? (i := 585) (by decide +kernel)⟩
theorem lw_p17 : lw_okq (⟨"ClauseMatrix$Tree", "alike", "(II)Z"⟩, 17) := ⟨⟨by decide +kernel, by decide +kernel⟩, List.mem_of_getElem? (i := 132) (by decide +kernel), List.mem_of_getElem? (i := 606) (by decide +kernel), List.mem_of_getElem? (i := 607) (by decide +kernel)⟩
theorem lw_p18 : lw_okq (⟨"ClauseMatrixModel", "isType", "(I)Z"⟩, 47) := ⟨⟨by decide +kernel, by decide +kernel⟩, List.mem_of_getElem? (i := 728) (by decide +kernel), List.mem_of_getElem? (i := 888) (by decide +kernel), List.mem_of_getElem? (i := 889) (by decide +kernel)⟩
theorem lw_p19 : lw_okq (⟨"ClauseMatrixModel", "constructorsOf", "(I)I"⟩, 47) := ⟨⟨by decide +kernel, by decide +kernel⟩, List.mem_of_getElem? (i := 728) (by decide +kernel), List.mem_of_getElem? (i := 892) (by decide +kernel), List.mem_of_getElem? (i := 893) (by decide +kernel)⟩
theorem lw_p20 : lw_okq (⟨"ClauseMatrixModel", "inhabited", "()Z"⟩, 47) := ⟨⟨by decide +kernel, by decide +kernel⟩, List.mem_of_getElem? (i := 728) (by decide +kernel), List.mem_of_getElem? (i := 900) (by decide +kernel), List.mem_of_getElem? (i := 901) (by decide +kernel)⟩
theorem lw_p21 : lw_okq (⟨"ClauseMatrixModel", "pattern", "(IIIIIII)I"⟩, 47) := ⟨⟨by decide +kernel, by decide +kernel⟩, List.mem_of_getElem? (i := 728) (by decide +kernel), List.mem_of_getElem? (i := 908) (by decide +kernel), List.mem_of_getElem? (i := 909) (by decide +kernel)⟩
theorem lw_p22 : lw_okq (⟨"ClauseMatrixModel", "isPattern", "(I)Z"⟩, 47) := ⟨⟨by decide +kernel, by decide +kernel⟩, List.mem_of_getElem? (i := 728) (by decide +kernel), List.mem_of_getElem? (i := 920) (by decide +kernel), List.mem_of_getElem? (i := 921) (by decide +kernel)⟩
theorem lw_p23 : lw_okq (⟨"ClauseMatrixModel", "fitsType", "(II)Z"⟩, 47) := ⟨⟨by decide +kernel, by decide +kernel⟩, List.mem_of_getElem? (i := 728) (by decide +kernel), List.mem_of_getElem? (i := 924) (by decide +kernel), List.mem_of_getElem? (i := 925) (by decide +kernel)⟩
theorem lw_p24 : lw_okq (⟨"ClauseMatrixModel", "writeOut", "(III)V"⟩, 47) := ⟨⟨by decide +kernel, by decide +kernel⟩, List.mem_of_getElem? (i := 728) (by decide +kernel), List.mem_of_getElem? (i := 936) (by decide +kernel), List.mem_of_getElem? (i := 937) (by decide +kernel)⟩
theorem lw_p25 : lw_okq (⟨"ClauseMatrixModel", "writeOne", "(II)I"⟩, 47) := ⟨⟨by decide +kernel, by decide +kernel⟩, List.mem_of_getElem? (i := 728) (by decide +kernel), List.mem_of_getElem? (i := 940) (by decide +kernel), List.mem_of_getElem? (i := 941) (by decide +kernel)⟩
theorem lw_p26 : lw_okq (⟨"ClauseMatrixModel", "grow", "(I)V"⟩, 47) := ⟨⟨by decide +kernel, by decide +kernel⟩, List.mem_of_getElem? (i := 728) (by decide +kernel), List.mem_of_getElem? (i := 948) (by decide +kernel), List.mem_of_getElem? (i := 949) (by decide +kernel)⟩
theorem lw_p27 : lw_okq (⟨"ClauseMatrixModel", "choose", "(II)I"⟩, 47) := ⟨⟨by decide +kernel, by decide +kernel⟩, List.mem_of_getElem? (i := 728) (by decide +kernel), List.mem_of_getElem? (i := 952) (by decide +kernel), List.mem_of_getElem? (i := 953) (by decide +kernel)⟩
theorem lw_p28 : lw_okq (⟨"ClauseMatrixModel", "askers", "(II)I"⟩, 47) := ⟨⟨by decide +kernel, by decide +kernel⟩, List.mem_of_getElem? (i := 728) (by decide +kernel), List.mem_of_getElem? (i := 959) (by decide +kernel), List.mem_of_getElem? (i := 960) (by decide +kernel)⟩
theorem lw_p29 : lw_okq (⟨"ClauseMatrixModel", "growNumbers", "(III)V"⟩, 47) := ⟨⟨by decide +kernel, by decide +kernel⟩, List.mem_of_getElem? (i := 728) (by decide +kernel), List.mem_of_getElem? (i := 963) (by decide +kernel), List.mem_of_getElem? (i := 964) (by decide +kernel)⟩
theorem lw_p30 : lw_okq (⟨"ClauseMatrixModel", "branch", "(IIZI)V"⟩, 47) := ⟨⟨by decide +kernel, by decide +kernel⟩, List.mem_of_getElem? (i := 728) (by decide +kernel), List.mem_of_getElem? (i := 969) (by decide +kernel), List.mem_of_getElem? (i := 970) (by decide +kernel)⟩
theorem lw_p31 : lw_okq (⟨"ClauseMatrixModel", "keep", "(IIIZ)I"⟩, 47) := ⟨⟨by decide +kernel, by decide +kernel⟩, List.mem_of_getElem? (i := 728) (by decide +kernel), List.mem_of_getElem? (i := 973) (by decide +kernel), List.mem_of_getElem? (i := 974) (by decide +kernel)⟩
def lw_privs_2 : List (MethodName × Nat) := [(⟨"ClauseMatrix$Witness", "write", "(I)V"⟩, 7), (⟨"ClauseMatrix$Tree", "alike", "(II)Z"⟩, 17), (⟨"ClauseMatrixModel", "isType", "(I)Z"⟩, 47), (⟨"ClauseMatrixModel", "constructorsOf", "(I)I"⟩, 47), (⟨"ClauseMatrixModel", "inhabited", "()Z"⟩, 47), (⟨"ClauseMatrixModel", "pattern", "(IIIIIII)I"⟩, 47), (⟨"ClauseMatrixModel", "isPattern", "(I)Z"⟩, 47), (⟨"ClauseMatrixModel", "fitsType", "(II)Z"⟩, 47), (⟨"ClauseMatrixModel", "writeOut", "(III)V"⟩, 47), (⟨"ClauseMatrixModel", "writeOne", "(II)I"⟩, 47), (⟨"ClauseMatrixModel", "grow", "(I)V"⟩, 47), (⟨"ClauseMatrixModel", "choose", "(II)I"⟩, 47), (⟨"ClauseMatrixModel", "askers", "(II)I"⟩, 47), (⟨"ClauseMatrixModel", "growNumbers", "(III)V"⟩, 47), (⟨"ClauseMatrixModel", "branch", "(IIZI)V"⟩, 47), (⟨"ClauseMatrixModel", "keep", "(IIIZ)I"⟩, 47)]
theorem lw_r2 : ∀ q ∈ lw_privs_2, lw_okq q := List.forall_mem_cons.mpr ⟨lw_p16, List.forall_mem_cons.mpr ⟨lw_p17, List.forall_mem_cons.mpr ⟨lw_p18, List.forall_mem_cons.mpr ⟨lw_p19, List.forall_mem_cons.mpr ⟨lw_p20, List.forall_mem_cons.mpr ⟨lw_p21, List.forall_mem_cons.mpr ⟨lw_p22, List.forall_mem_cons.mpr ⟨lw_p23, List.forall_mem_cons.mpr ⟨lw_p24, List.forall_mem_cons.mpr ⟨lw_p25, List.forall_mem_cons.mpr ⟨lw_p26, List.forall_mem_cons.mpr ⟨lw_p27, List.forall_mem_cons.mpr ⟨lw_p28, List.forall_mem_cons.mpr ⟨lw_p29, List.forall_mem_cons.mpr ⟨lw_p30, List.forall_mem_cons.mpr ⟨lw_p31, fun _ h => absurd h List.not_mem_nil⟩⟩⟩⟩⟩⟩⟩⟩⟩⟩⟩⟩⟩⟩⟩⟩
theorem lw_p32 : lw_okq (⟨"ClauseMatrixModel", "findWitness", "()V"⟩, 47) := ⟨⟨by decide +kernel, by decide +kernel⟩, List.mem_of_getElem? (i := 728) (by decide +kernel), List.mem_of_getElem? (i := 977) (by decide +kernel), List.mem_of_getElem? (i := 978) (by decide +kernel)⟩
theorem lw_p33 : lw_okq (⟨"ClauseMatrixModel", "hasBranch", "(II)Z"⟩, 47) := ⟨⟨by decide +kernel, by decide +kernel⟩, List.mem_of_getElem? (i := 728) (by decide +kernel), List.mem_of_getElem? (i := 981) (by decide +kernel), List.mem_of_getElem? (i := 982) (by decide +kernel)⟩
theorem lw_p34 : lw_okq (⟨"ClauseMatrixModel", "writeWitness", "()V"⟩, 47) := ⟨⟨by decide +kernel, by decide +kernel⟩, List.mem_of_getElem? (i := 728) (by decide +kernel), List.mem_of_getElem? (i := 985) (by decide +kernel), List.mem_of_getElem? (i := 986) (by decide +kernel)⟩
theorem lw_p35 : lw_okq (⟨"ClauseMatrixModel", "alike", "(II)Z"⟩, 47) := ⟨⟨by decide +kernel, by decide +kernel⟩, List.mem_of_getElem? (i := 728) (by decide +kernel), List.mem_of_getElem? (i := 993) (by decide +kernel), List.mem_of_getElem? (i := 994) (by decide +kernel)⟩
theorem lw_p36 : lw_okq (⟨"ClauseMatrixModel", "value", "(IIII)I"⟩, 47) := ⟨⟨by decide +kernel, by decide +kernel⟩, List.mem_of_getElem? (i := 728) (by decide +kernel), List.mem_of_getElem? (i := 1021) (by decide +kernel), List.mem_of_getElem? (i := 1022) (by decide +kernel)⟩
theorem lw_p37 : lw_okq (⟨"ClauseMatrixModel", "isValue", "(I)Z"⟩, 47) := ⟨⟨by decide +kernel, by decide +kernel⟩, List.mem_of_getElem? (i := 728) (by decide +kernel), List.mem_of_getElem? (i := 1029) (by decide +kernel), List.mem_of_getElem? (i := 1030) (by decide +kernel)⟩
theorem lw_p38 : lw_okq (⟨"ClauseMatrixModel", "typeOf", "(I)I"⟩, 47) := ⟨⟨by decide +kernel, by decide +kernel⟩, List.mem_of_getElem? (i := 728) (by decide +kernel), List.mem_of_getElem? (i := 1033) (by decide +kernel), List.mem_of_getElem? (i := 1034) (by decide +kernel)⟩
theorem lw_p39 : lw_okq (⟨"ClauseMatrixModel", "walk", "(I)I"⟩, 47) := ⟨⟨by decide +kernel, by decide +kernel⟩, List.mem_of_getElem? (i := 728) (by decide +kernel), List.mem_of_getElem? (i := 1041) (by decide +kernel), List.mem_of_getElem? (i := 1042) (by decide +kernel)⟩
theorem lw_p40 : lw_okq (⟨"ClauseMatrixModel", "part", "(II)I"⟩, 47) := ⟨⟨by decide +kernel, by decide +kernel⟩, List.mem_of_getElem? (i := 728) (by decide +kernel), List.mem_of_getElem? (i := 1045) (by decide +kernel), List.mem_of_getElem? (i := 1046) (by decide +kernel)⟩
theorem lw_p41 : lw_okq (⟨"ClauseMatrixModel", "fits", "(II)Z"⟩, 47) := ⟨⟨by decide +kernel, by decide +kernel⟩, List.mem_of_getElem? (i := 728) (by decide +kernel), List.mem_of_getElem? (i := 1049) (by decide +kernel), List.mem_of_getElem? (i := 1050) (by decide +kernel)⟩
def lw_privs_3 : List (MethodName × Nat) := [(⟨"ClauseMatrixModel", "findWitness", "()V"⟩, 47), (⟨"ClauseMatrixModel", "hasBranch", "(II)Z"⟩, 47), (⟨"ClauseMatrixModel", "writeWitness", "()V"⟩, 47), (⟨"ClauseMatrixModel", "alike", "(II)Z"⟩, 47), (⟨"ClauseMatrixModel", "value", "(IIII)I"⟩, 47), (⟨"ClauseMatrixModel", "isValue", "(I)Z"⟩, 47), (⟨"ClauseMatrixModel", "typeOf", "(I)I"⟩, 47), (⟨"ClauseMatrixModel", "walk", "(I)I"⟩, 47), (⟨"ClauseMatrixModel", "part", "(II)I"⟩, 47), (⟨"ClauseMatrixModel", "fits", "(II)Z"⟩, 47)]
theorem lw_r3 : ∀ q ∈ lw_privs_3, lw_okq q := List.forall_mem_cons.mpr ⟨lw_p32, List.forall_mem_cons.mpr ⟨lw_p33, List.forall_mem_cons.mpr ⟨lw_p34, List.forall_mem_cons.mpr ⟨lw_p35, List.forall_mem_cons.mpr ⟨lw_p36, List.forall_mem_cons.mpr ⟨lw_p37, List.forall_mem_cons.mpr ⟨lw_p38, List.forall_mem_cons.mpr ⟨lw_p39, List.forall_mem_cons.mpr ⟨lw_p40, List.forall_mem_cons.mpr ⟨lw_p41, fun _ h => absurd h List.not_mem_nil⟩⟩⟩⟩⟩⟩⟩⟩⟩⟩
def lw_privs : List (MethodName × Nat) := lw_privs_1 ++ (lw_privs_2 ++ (lw_privs_3))
def lw_tbl : List Cond := k2_sels lw_privs ++ tables_1
theorem lw_privs_ok : ∀ q ∈ lw_privs, lw_okq q := by
  show ∀ q ∈ lw_privs_1 ++ (lw_privs_2 ++ (lw_privs_3)), lw_okq q
  exact List.forall_mem_append.mpr ⟨lw_r1, List.forall_mem_append.mpr ⟨lw_r2, lw_r3⟩⟩
end
section
/-! My own words for a state: cells by number, an object's slots and an array's elements by place. -/
abbrev ck_S : Type := Nat → Nat → Int32
def ck_u (st : ck_S) (q i : Nat) (x : Int32) : ck_S := fun a => if a = q then upd (st q) i x else st a
abbrev ck_Sh : Type := (Nat × List (Option Nat)) ⊕ (Nat × Nat)
def ck_fv (ad : Nat → Nat) (r : Nat → Int32) (j : Nat) (d : Option Nat) : Value := match d with
  | none => .int (r j)
  | some t => .ref (ad t)
def ck_ce (cA : Nat → ClassId) (ad : Nat → Nat) (r : Nat → Int32) (x : ck_Sh) : va_E := match x with
  | .inl o => .inr (o.1, o.2.mapIdx (ck_fv ad r))
  | .inr a => .inl (cA a.1, a.2, .inl r)
def ck_w (sh : List ck_Sh) (cA : Nat → ClassId) (ad : Nat → Nat) (st : ck_S) : va_W := sh.mapIdx (fun q x => (ad q, ck_ce cA ad (st q) x))
theorem ck_w_at {sh : List ck_Sh} {cA : Nat → ClassId} {ad : Nat → Nat} {st : ck_S} {q : Nat} {x : ck_Sh} (h : sh[q]? = some x) : (ck_w sh cA ad st)[q]? = some (ad q, ck_ce cA ad (st q) x) := by
  unfold ck_w
  rw [List.getElem?_mapIdx, h]
  rfl
theorem ck_w_set {sh : List ck_Sh} {cA : Nat → ClassId} {ad : Nat → Nat} {st : ck_S} {q : Nat} {x : ck_Sh} {r : Nat → Int32} (h : sh[q]? = some x) : (ck_w sh cA ad st).set q (ad q, ck_ce cA ad r x) = ck_w sh cA ad (fun a => if a = q then r else st a) := by
  have hq : q < sh.length := (List.getElem?_eq_some_iff.mp h).1
  apply List.ext_getElem?
  intro j
  unfold ck_w
  rw [List.getElem?_set, List.getElem?_mapIdx, List.getElem?_mapIdx, List.length_mapIdx]
  by_cases hj : q = j
  · subst hj
    rw [if_pos rfl, if_pos hq, h]
    simp
  · have hj' : ¬ j = q := fun e => hj e.symm
    simp [hj, hj']
theorem ck_fs_set {ad : Nat → Nat} {r : Nat → Int32} {fs : List (Option Nat)} {k : Nat} {x : Int32} (h : fs[k]? = some none) : (fs.mapIdx (ck_fv ad r)).set k (.int x) = fs.mapIdx (ck_fv ad (upd r k x)) := by
  have hq : k < fs.length := (List.getElem?_eq_some_iff.mp h).1
  apply List.ext_getElem?
  intro j
  rw [List.getElem?_set, List.getElem?_mapIdx, List.getElem?_mapIdx, List.length_mapIdx]
  by_cases hj : k = j
  · subst hj
    rw [if_pos rfl, if_pos hq, h]
    simp [ck_fv, upd]
  · have hj' : ¬ j = k := fun e => hj e.symm
    rw [if_neg hj]
    congr 1
    funext d
    cases d <;> simp [ck_fv, upd, hj']
def ck_A (ad : Nat → Nat) (n : Nat) : Nat → Prop := fun a => ∃ k : Nat, k < n ∧ a = ad k
def ck_T : List Cond := lw_tbl.filter goodWord
theorem ck_T_in {w : Cond} (h : w ∈ ck_T) : w ∈ lw_tbl := (List.mem_filter.mp h).1
theorem ck_T_good {w : Cond} (h : w ∈ ck_T) : goodWord w = true := (List.mem_filter.mp h).2
theorem ck_T_mk {w : Cond} (h : w ∈ lw_tbl) (g : goodWord w = true) : w ∈ ck_T := List.mem_filter.mpr ⟨h, g⟩
theorem ck_good {w : Cond} (h : w ∈ ck_T) : GoodIn ck_T (w :: ck_T) := fun x hx => by
  rcases List.mem_cons.mp hx with rfl | hx
  · exact ⟨h, good_of_word (ck_T_good h)⟩
  · exact ⟨hx, good_of_word (ck_T_good hx)⟩
def ck_ty (cA : Nat → ClassId) : List (ClassId × FieldType) := [(cA 0, .int), (cA 1, .boolean)]
/-- what stays through a method: machine, code, words, classes, room for v frames -/
def ck_X (cl : List vw_C) (D : va_G) (cA : Nat → ClassId) (cc : ByteArray) (nL : Nat) (own : String) (v : Nat) (p : Program) (R : Room) (s : State) (m : MethodId) (args : Array Value) (c : Code) : Prop :=
  p.tables.exec = Jvm.exec ∧ c.code = cc ∧ c.maxLocals = nL ∧ s.vm.findClass own = some m.cls ∧ (∀ w ∈ ck_T, w.before args s = true) ∧ va_K D cl (ck_ty cA) s ∧ v ≤ R.frames ∧ 40 * v ≤ R.locals
/-- the heap holds the state -/
def ck_AT (sh : List ck_Sh) (cl : List vw_C) (D : va_G) (cA : Nat → ClassId) (ad : Nat → Nat) (H0 : Heap) (st : ck_S) (H : Heap) (locs : List Loc) : Prop :=
  va_P D cl (ck_w sh cA ad st) H ∧ va_D (ck_A ad sh.length) (ck_w sh cA ad st) ∧ va_S (ck_A ad sh.length) H0 H locs
def ck_P (sh : List ck_Sh) (cl : List vw_C) (D : va_G) (cA : Nat → ClassId) (ad : Nat → Nat) (st : ck_S) (U : State) : Prop :=
  va_P D cl (ck_w sh cA ad st) U.heap ∧ va_K D cl (ck_ty cA) U ∧ va_D (ck_A ad sh.length) (ck_w sh cA ad st)
def ck_R (v : Nat) : Room := { frames := v, cells := 0, slots := 0, locals := 40 * v }
/-- a field: its place in the shape, its class, its words -/
def ck_F (sh : List ck_Sh) (cl : List vw_C) (own : String) (idx q k : Nat) (d : Option Nat) : Prop :=
  ∃ (ci N : Nat) (T0 : u_T) (fs : List (Option Nat)), sh[q]? = some (.inl (ci, fs)) ∧ fs[k]? = some d ∧ cl[ci]? = some (own, T0, N) ∧ k < N ∧ (∀ w ∈ u_ws own T0 N, w ∈ ck_T) ∧ Cond.fieldLink own idx own (T0 k).2.1 (T0 k).2.2.1 ∈ ck_T ∧ (T0 k).1 = own
/-- a field that may be written -/
def ck_G (sh : List ck_Sh) (cl : List vw_C) (own : String) (idx q k : Nat) (ty : FieldType) : Prop :=
  ∃ (ci N : Nat) (T0 : u_T) (fs : List (Option Nat)) (ty0 : Nat → FieldType), sh[q]? = some (.inl (ci, fs)) ∧ fs[k]? = some none ∧ cl[ci]? = some (own, T0, N) ∧ k < N ∧ (∀ w ∈ u_ws own T0 N, w ∈ ck_T) ∧ Cond.fieldLink own idx own (T0 k).2.1 (T0 k).2.2.1 ∈ ck_T ∧ (T0 k).1 = own ∧
    (∀ k, k < N → parseFieldDescriptor (T0 k).2.2.1 = some (ty0 k)) ∧ (∀ a, a < N → ∀ b, b < N → a ≠ b → (T0 a).2.1 ≠ (T0 b).2.1) ∧ (T0 k).2.2.2 = false ∧ parseFieldDescriptor (T0 k).2.2.1 = some ty
/-- a call's words -/
def ck_C (own : String) (idx : Nat) (y : MethodName) (cc : ByteArray) (nL : Nat) (ret : Option FieldType) (n : Nat) : Prop :=
  Cond.code y cc nL ret ∈ ck_T ∧ Cond.methodLink own idx y ∈ ck_T ∧ Cond.initialized y.cls ∈ ck_T ∧ (y.cls ≠ "java/lang/invoke/MethodHandle" ∧ y.cls ≠ "java/lang/invoke/VarHandle" ∧ (parseMethodDescriptor y.desc).map (fun d => d.parameters.length) = some n) ∧ nL ≤ 21
theorem ck_nz {x : Int32} (h : x = 0 ∨ x = 1) : narrow .boolean (.int x) = .int x := by
  rcases h with rfl | rfl <;> decide
section CKW
variable {p : Program} {l : Launch} {e : Env} {R : Room} {s : State} {m : MethodId} {args : Array Value} {below : List Frame} {meth : Method} {c : Code} {H : Heap} {locs : List Loc} {Q : State → Prop}
variable {cc : ByteArray} {pc nL v : Nat} {ls : Array Slot} {rest : List Value} {D : va_G} {cl : List vw_C} {cA : Nat → ClassId} {own : String} {sh : List ck_Sh} {ad : Nat → Nat} {H0 : Heap} {st : ck_S}
theorem ck_gi {q k idx : Nat} {x : Int32} (C : ck_X cl D cA cc nL own v p R s m args c) (h : ck_AT sh cl D cA ad H0 st H locs) (F : ck_F sh cl own idx q k none) (hx : st q k = x) (hd : decode cc pc = .ok (.getfield idx, 3))
    (kk : W p l e R s m args below meth c H locs 0 0 Q (F0 m (pc + 3) ls (.int x :: rest))) : W p l e R s m args below meth c H locs 0 0 Q (F0 m pc ls (.ref (ad q) :: rest)) := by
  obtain ⟨ci, N, T0, fs, h1, h2, h3, h4, h5, h6, h7⟩ := F
  refine va_get C.1 C.2.1 C.2.2.2.2.1 h5 C.2.2.2.1 C.2.2.2.2.2.1 h.1 q (ck_w_at h1) h3 k h4 (C.2.2.2.2.1 _ h6) (fun x hx => by rw [h7] at hx; exact hx) (v := .int x) ?_ hd kk
  rw [List.getElem?_mapIdx, h2, ← hx]
  rfl
theorem ck_gr {q k idx t : Nat} (C : ck_X cl D cA cc nL own v p R s m args c) (h : ck_AT sh cl D cA ad H0 st H locs) (F : ck_F sh cl own idx q k (some t)) (hd : decode cc pc = .ok (.getfield idx, 3))
    (kk : W p l e R s m args below meth c H locs 0 0 Q (F0 m (pc + 3) ls (.ref (ad t) :: rest))) : W p l e R s m args below meth c H locs 0 0 Q (F0 m pc ls (.ref (ad q) :: rest)) := by
  obtain ⟨ci, N, T0, fs, h1, h2, h3, h4, h5, h6, h7⟩ := F
  refine va_get C.1 C.2.1 C.2.2.2.2.1 h5 C.2.2.2.1 C.2.2.2.2.2.1 h.1 q (ck_w_at h1) h3 k h4 (C.2.2.2.2.1 _ h6) (fun x hx => by rw [h7] at hx; exact hx) (v := .ref (ad t)) ?_ hd kk
  rw [List.getElem?_mapIdx, h2]
  rfl
theorem ck_pi {q k idx : Nat} {x : Int32} {ty : FieldType} (C : ck_X cl D cA cc nL own v p R s m args c) (h : ck_AT sh cl D cA ad H0 st H locs) (F : ck_G sh cl own idx q k ty) (hn : narrow ty (.int x) = .int x) (hf : fits ty (.int x) = true) (hd : decode cc pc = .ok (.putfield idx, 3))
    (kk : ∀ (H : Heap) (locs : List Loc), ck_AT sh cl D cA ad H0 (ck_u st q k x) H locs → W p l e R s m args below meth c H locs 0 0 Q (F0 m (pc + 3) ls rest)) : W p l e R s m args below meth c H locs 0 0 Q (F0 m pc ls (.int x :: .ref (ad q) :: rest)) := by
  obtain ⟨ci, N, T0, fs, ty0, h1, h2, h3, h4, h5, h6, h7, h8, h9, h10, h11⟩ := F
  have hkl : k < fs.length := (List.getElem?_eq_some_iff.mp h2).1
  refine va_put C.1 C.2.1 C.2.2.2.2.1 h5 ty0 h8 h9 C.2.2.2.1 C.2.2.2.2.2.1 h.1 h.2.1 h.2.2 q (ck_w_at h1) h3 k h4 (C.2.2.2.2.1 _ h6) (fun x hx => by rw [h7] at hx; exact hx) h10 h11 hn hf (by rw [List.length_mapIdx]; exact hkl) hd (fun H1 locs1 a1 a2 a3 => ?_)
  have he : (ck_w sh cA ad st).set q (ad q, .inr (ci, (fs.mapIdx (ck_fv ad (st q))).set k (.int x))) = ck_w sh cA ad (ck_u st q k x) := by
    rw [ck_fs_set h2]
    exact ck_w_set h1
  have a1' := a1
  have a2' := a2
  change va_P D cl ((ck_w sh cA ad st).set q (ad q, .inr (ci, (fs.mapIdx (ck_fv ad (st q))).set k (.int x)))) H1 at a1'
  change va_D _ ((ck_w sh cA ad st).set q (ad q, .inr (ci, (fs.mapIdx (ck_fv ad (st q))).set k (.int x)))) at a2'
  rw [he] at a1' a2'
  exact kk H1 locs1 ⟨a1', a2', a3⟩
theorem ck_ai {q n : Nat} {i x : Int32} (C : ck_X cl D cA cc nL own v p R s m args c) (h : ck_AT sh cl D cA ad H0 st H locs) (F : sh[q]? = some (.inr (0, n))) (hi : vp_in i n) (hx : st q i.toNatClampNeg = x) (hd : decode cc pc = .ok (.iaload, 1))
    (kk : W p l e R s m args below meth c H locs 0 0 Q (F0 m (pc + 1) ls (.int x :: rest))) : W p l e R s m args below meth c H locs 0 0 Q (F0 m pc ls (.int i :: .ref (ad q) :: rest)) := by
  subst hx
  exact va_iald C.1 C.2.1 C.2.2.2.2.2.1 h.1 q 0 (ck_w_at F) rfl hi hd kk
theorem ck_az {q n : Nat} {i x : Int32} (C : ck_X cl D cA cc nL own v p R s m args c) (h : ck_AT sh cl D cA ad H0 st H locs) (F : sh[q]? = some (.inr (1, n))) (hi : vp_in i n) (hx : st q i.toNatClampNeg = x) (hd : decode cc pc = .ok (.baload, 1))
    (kk : W p l e R s m args below meth c H locs 0 0 Q (F0 m (pc + 1) ls (.int x :: rest))) : W p l e R s m args below meth c H locs 0 0 Q (F0 m pc ls (.int i :: .ref (ad q) :: rest)) := by
  subst hx
  exact va_zald C.1 C.2.1 C.2.2.2.2.2.1 h.1 q 1 (ck_w_at F) rfl hi hd kk
theorem ck_si {q n : Nat} {i x : Int32} (C : ck_X cl D cA cc nL own v p R s m args c) (h : ck_AT sh cl D cA ad H0 st H locs) (F : sh[q]? = some (.inr (0, n))) (hi : vp_in i n) (hd : decode cc pc = .ok (.iastore, 1))
    (kk : ∀ (H : Heap) (locs : List Loc), ck_AT sh cl D cA ad H0 (ck_u st q i.toNatClampNeg x) H locs → W p l e R s m args below meth c H locs 0 0 Q (F0 m (pc + 1) ls rest)) : W p l e R s m args below meth c H locs 0 0 Q (F0 m pc ls (.int x :: .int i :: .ref (ad q) :: rest)) := by
  refine va_iast C.1 C.2.1 C.2.2.2.2.2.1 h.1 h.2.1 h.2.2 q 0 (ck_w_at F) rfl hi hd (fun H1 locs1 a1 a2 a3 => ?_)
  have he : (ck_w sh cA ad st).set q (ad q, .inl (cA 0, n, .inl (upd (st q) i.toNatClampNeg x))) = ck_w sh cA ad (ck_u st q i.toNatClampNeg x) := ck_w_set F
  rw [he] at a1 a2
  exact kk H1 locs1 ⟨a1, a2, a3⟩
theorem ck_sz {q n : Nat} {i x : Int32} (C : ck_X cl D cA cc nL own v p R s m args c) (h : ck_AT sh cl D cA ad H0 st H locs) (F : sh[q]? = some (.inr (1, n))) (hi : vp_in i n) (hd : decode cc pc = .ok (.bastore, 1))
    (kk : ∀ (H : Heap) (locs : List Loc), ck_AT sh cl D cA ad H0 (ck_u st q i.toNatClampNeg (vp_nar .boolean x)) H locs → W p l e R s m args below meth c H locs 0 0 Q (F0 m (pc + 1) ls rest)) : W p l e R s m args below meth c H locs 0 0 Q (F0 m pc ls (.int x :: .int i :: .ref (ad q) :: rest)) := by
  refine va_zast C.1 C.2.1 C.2.2.2.2.2.1 h.1 h.2.1 h.2.2 q 1 (ck_w_at F) rfl hi hd (fun H1 locs1 a1 a2 a3 => ?_)
  have he : (ck_w sh cA ad st).set q (ad q, .inl (cA 1, n, .inl (upd (st q) i.toNatClampNeg (vp_nar .boolean x)))) = ck_w sh cA ad (ck_u st q i.toNatClampNeg (vp_nar .boolean x)) := ck_w_set F
  rw [he] at a1 a2
  exact kk H1 locs1 ⟨a1, a2, a3⟩
theorem ck_an {q n : Nat} {x : Int32} (C : ck_X cl D cA cc nL own v p R s m args c) (h : ck_AT sh cl D cA ad H0 st H locs) (F : sh[q]? = some (.inr (0, n))) (hx : Int32.ofNat n = x) (hd : decode cc pc = .ok (.arraylength, 1))
    (kk : W p l e R s m args below meth c H locs 0 0 Q (F0 m (pc + 1) ls (.int x :: rest))) : W p l e R s m args below meth c H locs 0 0 Q (F0 m pc ls (.ref (ad q) :: rest)) := by
  subst hx
  exact va_alen C.1 C.2.1 C.2.2.2.2.2.1 h.1 q 0 (ck_w_at F) rfl rfl hd kk
theorem ck_blind {av : List Value} : FrameBlind (va_Pc av (ck_P sh cl D cA ad st)) := fun a U g mk q => ⟨q.1, q.2.1, va_K.moved (u := U) (U := U.calling g mk a) (Vm.Alike.refl U.vm) q.2.2.1, q.2.2.2⟩
theorem ck_cb {idx nL2 v2 n : Nat} {y : MethodName} {cc2 : ByteArray} {ret : Option FieldType} (C : ck_X cl D cA cc nL own v p R s m args c) (F : ck_C own idx y cc2 nL2 ret n) (hv : v2 + 1 ≤ v) : CallB R s args own idx y cc2 nL2 ret (.code y cc2 nL2 ret :: ck_T) (ck_R v2) 0 0 n := by
  obtain ⟨hx, hb, hml, hown, hts, hK, hf, hlo⟩ := C
  obtain ⟨f1, f2, f3, f4, f5⟩ := F
  refine callB_of n hts (ck_good f1) rfl rfl rfl (hts _ f3) (hts _ f2) f4 ⟨?_, ?_⟩
  · show v2 + 1 ≤ R.frames
    omega
  · show 8 + (nL2 + 11) + 40 * v2 ≤ R.locals
    omega
/-- what comes back from a call: the new state, in the caller's words -/
theorem ck_back {st2 u : ck_S} {t : State} {H1 : Heap} {locs1 : List Loc} (ht : t.heap = H1) (hu : u = st2) (hB : ck_P sh cl D cA ad u t) (hS : va_S (ck_A ad sh.length) H0 H1 locs1) : ck_AT sh cl D cA ad H0 st2 H1 locs1 := by
  subst hu; subst ht
  exact ⟨hB.1, hB.2.2, hS⟩
theorem ck_vi {idx nL2 v2 n q : Nat} {y : MethodName} {cc2 : ByteArray} {ret : Option FieldType} {As S : List Value} {L : List (Nat × Value)} {r : Int32} {st2 : ck_S}
    (C : ck_X cl D cA cc nL own v p R s m args c) (h : ck_AT sh cl D cA ad H0 st H locs) (hl : lv_has ls nL L) (F : ck_C own idx y cc2 nL2 ret n) (F2 : Cond.instanceMethod y ∈ ck_T ∧ Cond.selects y.cls y y ∈ ck_T) (F3 : ∃ (ci N : Nat) (T0 : u_T) (fs : List (Option Nat)), sh[q]? = some (.inl (ci, fs)) ∧ cl[ci]? = some (y.cls, T0, N))
    (hM : Met l y (.code y cc2 nL2 ret :: ck_T) (ck_R v2) (va_Pc (.ref (ad q) :: As) (ck_P sh cl D cA ad st)) (va_Qi (fun a u => a = r ∧ u = st2) (ck_P sh cl D cA ad) (ck_A ad sh.length)) 0 0 (ck_A ad sh.length)) (hv : v2 + 1 ≤ v)
    (hn : As.length = n) (hS : S = As.reverse ++ .ref (ad q) :: rest) (hr : (rest.map fun v => v.category).sum ≤ 8) (hd : decode cc pc = .ok (.invokevirtual idx, 3))
    (kk : ∀ (H : Heap) (locs : List Loc), ck_AT sh cl D cA ad H0 st2 H locs → W p l e R s m args below meth c H locs 0 0 Q (F0 m (pc + 3) ls (.int r :: rest))) : W p l e R s m args below meth c H locs 0 0 Q (F0 m pc ls S) := by
  obtain ⟨ci, N, T0, fs, g1, g2⟩ := F3
  have hcb := ck_cb (v2 := v2) C F hv
  obtain ⟨hx, hb, hml, hown, hts, hK, hfr, hlo⟩ := C
  refine va_calli (va_runV (C := y.cls) (b := ad q) (As := As) (rest := rest) ⟨hx, hb, hml, hown, hts⟩ hM ⟨hcb, hts _ F2.1, hts _ F2.2⟩ ⟨ck_blind, va_recv hK h.1 g2 (ck_w_at g1), fun U hU hW => ⟨rfl, by rw [hU]; exact h.1, va_K.moved hW.alike hK, h.2.1⟩⟩ rfl hn hl.1 hS (lv_room hr) hd ⟨Nat.zero_le _, Nat.zero_le _⟩) h.2.2 (fun _ _ a => a) (fun _ a => a) (fun r1 u t H1 locs1 ht hvm hp hB hz hk hS1 => ?_)
  obtain ⟨rfl, hu⟩ := hp
  exact kk H1 locs1 (ck_back ht hu hB hS1)
theorem ck_vl {idx nL2 v2 n q : Nat} {y : MethodName} {cc2 : ByteArray} {ret : Option FieldType} {As S : List Value} {L : List (Nat × Value)} {r : Int64} {st2 : ck_S}
    (C : ck_X cl D cA cc nL own v p R s m args c) (h : ck_AT sh cl D cA ad H0 st H locs) (hl : lv_has ls nL L) (F : ck_C own idx y cc2 nL2 ret n) (F2 : Cond.instanceMethod y ∈ ck_T ∧ Cond.selects y.cls y y ∈ ck_T) (F3 : ∃ (ci N : Nat) (T0 : u_T) (fs : List (Option Nat)), sh[q]? = some (.inl (ci, fs)) ∧ cl[ci]? = some (y.cls, T0, N))
    (hM : Met l y (.code y cc2 nL2 ret :: ck_T) (ck_R v2) (va_Pc (.ref (ad q) :: As) (ck_P sh cl D cA ad st)) (va_Ql (fun a u => a = r ∧ u = st2) (ck_P sh cl D cA ad) (ck_A ad sh.length)) 0 0 (ck_A ad sh.length)) (hv : v2 + 1 ≤ v)
    (hn : As.length = n) (hS : S = As.reverse ++ .ref (ad q) :: rest) (hr : (rest.map fun v => v.category).sum ≤ 8) (hd : decode cc pc = .ok (.invokevirtual idx, 3))
    (kk : ∀ (H : Heap) (locs : List Loc), ck_AT sh cl D cA ad H0 st2 H locs → W p l e R s m args below meth c H locs 0 0 Q (F0 m (pc + 3) ls (.long r :: rest))) : W p l e R s m args below meth c H locs 0 0 Q (F0 m pc ls S) := by
  obtain ⟨ci, N, T0, fs, g1, g2⟩ := F3
  have hcb := ck_cb (v2 := v2) C F hv
  obtain ⟨hx, hb, hml, hown, hts, hK, hfr, hlo⟩ := C
  refine va_calll (va_runV (C := y.cls) (b := ad q) (As := As) (rest := rest) ⟨hx, hb, hml, hown, hts⟩ hM ⟨hcb, hts _ F2.1, hts _ F2.2⟩ ⟨ck_blind, va_recv hK h.1 g2 (ck_w_at g1), fun U hU hW => ⟨rfl, by rw [hU]; exact h.1, va_K.moved hW.alike hK, h.2.1⟩⟩ rfl hn hl.1 hS (lv_room hr) hd ⟨Nat.zero_le _, Nat.zero_le _⟩) h.2.2 (fun _ _ a => a) (fun _ a => a) (fun r1 u t H1 locs1 ht hvm hp hB hz hk hS1 => ?_)
  obtain ⟨rfl, hu⟩ := hp
  exact kk H1 locs1 (ck_back ht hu hB hS1)
theorem ck_vv {idx nL2 v2 n q : Nat} {y : MethodName} {cc2 : ByteArray} {ret : Option FieldType} {As S : List Value} {L : List (Nat × Value)} {st2 : ck_S}
    (C : ck_X cl D cA cc nL own v p R s m args c) (h : ck_AT sh cl D cA ad H0 st H locs) (hl : lv_has ls nL L) (F : ck_C own idx y cc2 nL2 ret n) (F2 : Cond.instanceMethod y ∈ ck_T ∧ Cond.selects y.cls y y ∈ ck_T) (F3 : ∃ (ci N : Nat) (T0 : u_T) (fs : List (Option Nat)), sh[q]? = some (.inl (ci, fs)) ∧ cl[ci]? = some (y.cls, T0, N))
    (hM : Met l y (.code y cc2 nL2 ret :: ck_T) (ck_R v2) (va_Pc (.ref (ad q) :: As) (ck_P sh cl D cA ad st)) (va_Qv (fun u => u = st2) (ck_P sh cl D cA ad) (ck_A ad sh.length)) 0 0 (ck_A ad sh.length)) (hv : v2 + 1 ≤ v)
    (hn : As.length = n) (hS : S = As.reverse ++ .ref (ad q) :: rest) (hr : (rest.map fun v => v.category).sum ≤ 8) (hd : decode cc pc = .ok (.invokevirtual idx, 3))
    (kk : ∀ (H : Heap) (locs : List Loc), ck_AT sh cl D cA ad H0 st2 H locs → W p l e R s m args below meth c H locs 0 0 Q (F0 m (pc + 3) ls rest)) : W p l e R s m args below meth c H locs 0 0 Q (F0 m pc ls S) := by
  obtain ⟨ci, N, T0, fs, g1, g2⟩ := F3
  have hcb := ck_cb (v2 := v2) C F hv
  obtain ⟨hx, hb, hml, hown, hts, hK, hfr, hlo⟩ := C
  refine va_callv (va_runV (C := y.cls) (b := ad q) (As := As) (rest := rest) ⟨hx, hb, hml, hown, hts⟩ hM ⟨hcb, hts _ F2.1, hts _ F2.2⟩ ⟨ck_blind, va_recv hK h.1 g2 (ck_w_at g1), fun U hU hW => ⟨rfl, by rw [hU]; exact h.1, va_K.moved hW.alike hK, h.2.1⟩⟩ rfl hn hl.1 hS (lv_room hr) hd ⟨Nat.zero_le _, Nat.zero_le _⟩) h.2.2 (fun _ _ a => a) (fun _ a => a) (fun u t H1 locs1 ht hvm hp hB hz hk hS1 => ?_)
  exact kk H1 locs1 (ck_back ht hp hB hS1)
theorem ck_ti {idx nL2 v2 n : Nat} {y : MethodName} {cc2 : ByteArray} {ret : Option FieldType} {As S : List Value} {L : List (Nat × Value)} {r : Int32} {st2 : ck_S}
    (C : ck_X cl D cA cc nL own v p R s m args c) (h : ck_AT sh cl D cA ad H0 st H locs) (hl : lv_has ls nL L) (F : ck_C own idx y cc2 nL2 ret n) (F2 : Cond.static y ∈ ck_T)
    (hM : Met l y (.code y cc2 nL2 ret :: ck_T) (ck_R v2) (va_Pc As (ck_P sh cl D cA ad st)) (va_Qi (fun a u => a = r ∧ u = st2) (ck_P sh cl D cA ad) (ck_A ad sh.length)) 0 0 (ck_A ad sh.length)) (hv : v2 + 1 ≤ v)
    (hn : As.length = n) (hS : S = As.reverse ++ rest) (hr : (rest.map fun v => v.category).sum ≤ 8) (hd : decode cc pc = .ok (.invokestatic idx, 3))
    (kk : ∀ (H : Heap) (locs : List Loc), ck_AT sh cl D cA ad H0 st2 H locs → W p l e R s m args below meth c H locs 0 0 Q (F0 m (pc + 3) ls (.int r :: rest))) : W p l e R s m args below meth c H locs 0 0 Q (F0 m pc ls S) := by
  have hcb := ck_cb (v2 := v2) C F hv
  obtain ⟨hx, hb, hml, hown, hts, hK, hfr, hlo⟩ := C
  refine va_calli (va_runS (As := As) (rest := rest) ⟨hx, hb, hml, hown, hts⟩ hM ⟨hcb, hts _ F2⟩ ⟨ck_blind, fun U hU hW => ⟨rfl, by rw [hU]; exact h.1, va_K.moved hW.alike hK, h.2.1⟩⟩ rfl hn hl.1 hS (lv_room hr) hd ⟨Nat.zero_le _, Nat.zero_le _⟩) h.2.2 (fun _ _ a => a) (fun _ a => a) (fun r1 u t H1 locs1 ht hvm hp hB hz hk hS1 => ?_)
  obtain ⟨rfl, hu⟩ := hp
  exact kk H1 locs1 (ck_back ht hu hB hS1)
theorem ck_tv {idx nL2 v2 n : Nat} {y : MethodName} {cc2 : ByteArray} {ret : Option FieldType} {As S : List Value} {L : List (Nat × Value)} {st2 : ck_S}
    (C : ck_X cl D cA cc nL own v p R s m args c) (h : ck_AT sh cl D cA ad H0 st H locs) (hl : lv_has ls nL L) (F : ck_C own idx y cc2 nL2 ret n) (F2 : Cond.static y ∈ ck_T)
    (hM : Met l y (.code y cc2 nL2 ret :: ck_T) (ck_R v2) (va_Pc As (ck_P sh cl D cA ad st)) (va_Qv (fun u => u = st2) (ck_P sh cl D cA ad) (ck_A ad sh.length)) 0 0 (ck_A ad sh.length)) (hv : v2 + 1 ≤ v)
    (hn : As.length = n) (hS : S = As.reverse ++ rest) (hr : (rest.map fun v => v.category).sum ≤ 8) (hd : decode cc pc = .ok (.invokestatic idx, 3))
    (kk : ∀ (H : Heap) (locs : List Loc), ck_AT sh cl D cA ad H0 st2 H locs → W p l e R s m args below meth c H locs 0 0 Q (F0 m (pc + 3) ls rest)) : W p l e R s m args below meth c H locs 0 0 Q (F0 m pc ls S) := by
  have hcb := ck_cb (v2 := v2) C F hv
  obtain ⟨hx, hb, hml, hown, hts, hK, hfr, hlo⟩ := C
  refine va_callv (va_runS (As := As) (rest := rest) ⟨hx, hb, hml, hown, hts⟩ hM ⟨hcb, hts _ F2⟩ ⟨ck_blind, fun U hU hW => ⟨rfl, by rw [hU]; exact h.1, va_K.moved hW.alike hK, h.2.1⟩⟩ rfl hn hl.1 hS (lv_room hr) hd ⟨Nat.zero_le _, Nat.zero_le _⟩) h.2.2 (fun _ _ a => a) (fun _ a => a) (fun u t H1 locs1 ht hvm hp hB hz hk hS1 => ?_)
  exact kk H1 locs1 (ck_back ht hp hB hS1)
end CKW
section CKM
variable {l : Launch} {y : MethodName} {cc : ByteArray} {nL v : Nat} {own : String} {D : va_G} {cl : List vw_C} {cA : Nat → ClassId} {sh : List ck_Sh} {ad : Nat → Nat} {st st2 : ck_S} {av : List Value}
theorem ck_met_i {r : Int32} (hy : plainName y.cls = true) (ho : y.cls = own) (hlen : (lg_sl av).length ≤ nL)
    (body : ∀ (p : Program) (e : Env) (R : Room) (s : State) (m : MethodId) (args : Array Value) (below : List Frame) (meth : Method) (c : Code) (H0 : Heap) (Q : State → Prop) (ls : Array Slot), ck_X cl D cA cc nL own v p R s m args c →
      (∀ (pc : Nat) (H : Heap) (locs : List Loc) (ls : Array Slot), decode cc pc = .ok (.ireturn, 1) → ck_AT sh cl D cA ad H0 st2 H locs → W p l e R s m args below meth c H locs 0 0 Q (F0 m pc ls [.int r])) →
      ck_AT sh cl D cA ad H0 st H0 [] → lv_has ls nL (lv_args 0 av) → W p l e R s m args below meth c H0 [] 0 0 Q (F0 m 0 ls [])) :
    Met l y (.code y cc nL (some .int) :: ck_T) (ck_R v) (va_Pc av (ck_P sh cl D cA ad st)) (va_Qi (fun a u => a = r ∧ u = st2) (ck_P sh cl D cA ad) (ck_A ad sh.length)) 0 0 (ck_A ad sh.length) := by
  refine Met.ofW (cc := cc) (maxL := nL) (ret := some .int) hy rfl ?_
  intro p e s m args below meth c s₁ B hml hv
  obtain ⟨rfl, hP, hK, hD⟩ := hv
  have hts := atoms_spec B.pre
  have hown : s.vm.findClass y.cls = some m.cls := findClass_of_methodNamed B.named
  have hlocks := B.notSynchronized
  have hx := B.exec
  have hb := B.bytes
  have hr := B.returns
  rw [lg_entry_eq]
  exact body p e _ s m _ below meth c s.heap _ _ ⟨hx, hb, hml, by rw [← ho]; exact hown, fun w hw => hts w (List.mem_cons_of_mem _ hw), hK, Nat.le_refl _, Nat.le_refl _⟩
    (fun pc H locs ls hd h => W.iret hx hb hr (fun t ht hW => ⟨⟨r, st2, rfl, ⟨rfl, rfl⟩, by rw [ht]; exact h.1, va_K.moved hW.alike hK, h.2.1⟩, h.2.2.F ht⟩) h.2.2.2.2 hd) ⟨hP, hD, va_S.rf⟩ (lv_entry av hlen)
theorem ck_met_z {r : Int32} (hy : plainName y.cls = true) (ho : y.cls = own) (hlen : (lg_sl av).length ≤ nL)
    (body : ∀ (p : Program) (e : Env) (R : Room) (s : State) (m : MethodId) (args : Array Value) (below : List Frame) (meth : Method) (c : Code) (H0 : Heap) (Q : State → Prop) (ls : Array Slot), ck_X cl D cA cc nL own v p R s m args c →
      (∀ (pc : Nat) (H : Heap) (locs : List Loc) (ls : Array Slot), decode cc pc = .ok (.ireturn, 1) → (r = 0 ∨ r = 1) → ck_AT sh cl D cA ad H0 st2 H locs → W p l e R s m args below meth c H locs 0 0 Q (F0 m pc ls [.int r])) →
      ck_AT sh cl D cA ad H0 st H0 [] → lv_has ls nL (lv_args 0 av) → W p l e R s m args below meth c H0 [] 0 0 Q (F0 m 0 ls [])) :
    Met l y (.code y cc nL (some .boolean) :: ck_T) (ck_R v) (va_Pc av (ck_P sh cl D cA ad st)) (va_Qi (fun a u => a = r ∧ u = st2) (ck_P sh cl D cA ad) (ck_A ad sh.length)) 0 0 (ck_A ad sh.length) := by
  refine Met.ofW (cc := cc) (maxL := nL) (ret := some .boolean) hy rfl ?_
  intro p e s m args below meth c s₁ B hml hv
  obtain ⟨rfl, hP, hK, hD⟩ := hv
  have hts := atoms_spec B.pre
  have hown : s.vm.findClass y.cls = some m.cls := findClass_of_methodNamed B.named
  have hlocks := B.notSynchronized
  have hx := B.exec
  have hb := B.bytes
  have hr := B.returns
  rw [lg_entry_eq]
  exact body p e _ s m _ below meth c s.heap _ _ ⟨hx, hb, hml, by rw [← ho]; exact hown, fun w hw => hts w (List.mem_cons_of_mem _ hw), hK, Nat.le_refl _, Nat.le_refl _⟩
    (fun pc H locs ls hd hz h => W.zret hx hb hr (ck_nz hz) (fun t ht hW => ⟨⟨r, st2, rfl, ⟨rfl, rfl⟩, by rw [ht]; exact h.1, va_K.moved hW.alike hK, h.2.1⟩, h.2.2.F ht⟩) h.2.2.2.2 hd) ⟨hP, hD, va_S.rf⟩ (lv_entry av hlen)
theorem ck_met_l {r : Int64} (hy : plainName y.cls = true) (ho : y.cls = own) (hlen : (lg_sl av).length ≤ nL)
    (body : ∀ (p : Program) (e : Env) (R : Room) (s : State) (m : MethodId) (args : Array Value) (below : List Frame) (meth : Method) (c : Code) (H0 : Heap) (Q : State → Prop) (ls : Array Slot), ck_X cl D cA cc nL own v p R s m args c →
      (∀ (pc : Nat) (H : Heap) (locs : List Loc) (ls : Array Slot), decode cc pc = .ok (.lreturn, 1) → ck_AT sh cl D cA ad H0 st2 H locs → W p l e R s m args below meth c H locs 0 0 Q (F0 m pc ls [.long r])) →
      ck_AT sh cl D cA ad H0 st H0 [] → lv_has ls nL (lv_args 0 av) → W p l e R s m args below meth c H0 [] 0 0 Q (F0 m 0 ls [])) :
    Met l y (.code y cc nL (some .long) :: ck_T) (ck_R v) (va_Pc av (ck_P sh cl D cA ad st)) (va_Ql (fun a u => a = r ∧ u = st2) (ck_P sh cl D cA ad) (ck_A ad sh.length)) 0 0 (ck_A ad sh.length) := by
  refine Met.ofW (cc := cc) (maxL := nL) (ret := some .long) hy rfl ?_
  intro p e s m args below meth c s₁ B hml hv
  obtain ⟨rfl, hP, hK, hD⟩ := hv
  have hts := atoms_spec B.pre
  have hown : s.vm.findClass y.cls = some m.cls := findClass_of_methodNamed B.named
  have hlocks := B.notSynchronized
  have hx := B.exec
  have hb := B.bytes
  have hr := B.returns
  rw [lg_entry_eq]
  exact body p e _ s m _ below meth c s.heap _ _ ⟨hx, hb, hml, by rw [← ho]; exact hown, fun w hw => hts w (List.mem_cons_of_mem _ hw), hK, Nat.le_refl _, Nat.le_refl _⟩
    (fun pc H locs ls hd h => W.lret hx hb hr (fun t ht hW => ⟨⟨r, st2, rfl, ⟨rfl, rfl⟩, by rw [ht]; exact h.1, va_K.moved hW.alike hK, h.2.1⟩, h.2.2.F ht⟩) h.2.2.2.2 hd) ⟨hP, hD, va_S.rf⟩ (lv_entry av hlen)
theorem ck_met_v (hy : plainName y.cls = true) (ho : y.cls = own) (hlen : (lg_sl av).length ≤ nL)
    (body : ∀ (p : Program) (e : Env) (R : Room) (s : State) (m : MethodId) (args : Array Value) (below : List Frame) (meth : Method) (c : Code) (H0 : Heap) (Q : State → Prop) (ls : Array Slot), ck_X cl D cA cc nL own v p R s m args c →
      (∀ (pc : Nat) (H : Heap) (locs : List Loc) (ls : Array Slot), decode cc pc = .ok (.return_, 1) → ck_AT sh cl D cA ad H0 st2 H locs → W p l e R s m args below meth c H locs 0 0 Q (F0 m pc ls [])) →
      ck_AT sh cl D cA ad H0 st H0 [] → lv_has ls nL (lv_args 0 av) → W p l e R s m args below meth c H0 [] 0 0 Q (F0 m 0 ls [])) :
    Met l y (.code y cc nL none :: ck_T) (ck_R v) (va_Pc av (ck_P sh cl D cA ad st)) (va_Qv (fun u => u = st2) (ck_P sh cl D cA ad) (ck_A ad sh.length)) 0 0 (ck_A ad sh.length) := by
  refine Met.ofW (cc := cc) (maxL := nL) (ret := none) hy rfl ?_
  intro p e s m args below meth c s₁ B hml hv
  obtain ⟨rfl, hP, hK, hD⟩ := hv
  have hts := atoms_spec B.pre
  have hown : s.vm.findClass y.cls = some m.cls := findClass_of_methodNamed B.named
  have hlocks := B.notSynchronized
  have hx := B.exec
  have hb := B.bytes
  have hr := B.returns
  rw [lg_entry_eq]
  exact body p e _ s m _ below meth c s.heap _ _ ⟨hx, hb, hml, by rw [← ho]; exact hown, fun w hw => hts w (List.mem_cons_of_mem _ hw), hK, Nat.le_refl _, Nat.le_refl _⟩
    (fun pc H locs ls hd h => W.vret hx hb hr (fun t ht hW => ⟨⟨st2, rfl, rfl, by rw [ht]; exact h.1, va_K.moved hW.alike hK, h.2.1⟩, h.2.2.F ht⟩) h.2.2.2.2 hd) ⟨hP, hD, va_S.rf⟩ (lv_entry av hlen)
end CKM
/-! the words that the laid functions are made of -/
def ck_gd {γ : Type} (i : Int32) (n : Nat) (o : Option γ) : Option γ := if i < 0 ∨ n ≤ i.toNatClampNeg then none else o
def ck_us (x y : Int32) : Int32 := (x.toUInt32 >>> (y.toUInt32 &&& Int32.toUInt32 31)).toInt32
def ck_dz {γ : Type} (y : Int32) (o : Option γ) : Option γ := if y = 0 then none else o
def ck_gz {γ : Type} (x : Int32) (o : Option γ) : Option γ := if x = 0 ∨ x = 1 then o else none
def ck_b {α γ : Type} (o : Option (α × ck_S)) (f : α → ck_S → Option γ) : Option γ := match o with
  | none => none
  | some q => f q.1 q.2
def ck_bv {γ : Type} (o : Option ck_S) (f : ck_S → Option γ) : Option γ := match o with
  | none => none
  | some q => f q
theorem ck_gd_e {γ : Type} {i : Int32} {n : Nat} {o : Option γ} {x : γ} (h : ck_gd i n o = some x) : vp_in i n ∧ o = some x := by
  unfold ck_gd at h
  by_cases hc : i < 0 ∨ n ≤ i.toNatClampNeg
  · rw [if_pos hc] at h; cases h
  · rw [if_neg hc] at h; exact ⟨hc, h⟩
theorem ck_dz_e {γ : Type} {y : Int32} {o : Option γ} {x : γ} (h : ck_dz y o = some x) : ¬ y = 0 ∧ o = some x := by
  unfold ck_dz at h
  by_cases hc : y = 0
  · rw [if_pos hc] at h; cases h
  · rw [if_neg hc] at h; exact ⟨hc, h⟩
theorem ck_gz_e {γ : Type} {y : Int32} {o : Option γ} {x : γ} (h : ck_gz y o = some x) : (y = 0 ∨ y = 1) ∧ o = some x := by
  unfold ck_gz at h
  by_cases hc : y = 0 ∨ y = 1
  · rw [if_pos hc] at h; exact ⟨hc, h⟩
  · rw [if_neg hc] at h; cases h
theorem ck_b_e {α γ : Type} {o : Option (α × ck_S)} {f : α → ck_S → Option γ} {x : γ} (h : ck_b o f = some x) : ∃ (a : α) (st : ck_S), o = some (a, st) ∧ f a st = some x := by
  unfold ck_b at h
  cases o with
  | none => cases h
  | some q => exact ⟨q.1, q.2, rfl, h⟩
theorem ck_bv_e {γ : Type} {o : Option ck_S} {f : ck_S → Option γ} {x : γ} (h : ck_bv o f = some x) : ∃ st : ck_S, o = some st ∧ f st = some x := by
  unfold ck_bv at h
  cases o with
  | none => cases h
  | some q => exact ⟨q, rfl, h⟩
theorem ck_t {c : Prop} {hd : Decidable c} {α : Type} {a b x : α} (h : c) (e : (if c then a else b) = x) : a = x := by rw [if_pos h] at e; exact e
theorem ck_f {c : Prop} {hd : Decidable c} {α : Type} {a b x : α} (h : ¬ c) (e : (if c then a else b) = x) : b = x := by rw [if_neg h] at e; exact e
theorem ck_z0 : (0 : Int32) = 0 ∨ (0 : Int32) = 1 := Or.inl rfl
theorem ck_z1 : (1 : Int32) = 0 ∨ (1 : Int32) = 1 := Or.inr rfl
section CKR
variable {p : Program} {l : Launch} {e : Env} {R : Room} {s : State} {m : MethodId} {args : Array Value} {below : List Frame} {meth : Method} {c : Code} {H : Heap} {locs : List Loc} {Q : State → Prop}
variable {cc : ByteArray} {pc : Nat} {ls : Array Slot} {D : va_G} {cl : List vw_C} {cA : Nat → ClassId} {sh : List ck_Sh} {ad : Nat → Nat} {H0 : Heap} {st st0 : ck_S}
theorem ck_ri {x r : Int32} (hf : some (x, st) = some (r, st0)) (hret : ∀ (pc : Nat) (H : Heap) (locs : List Loc) (ls : Array Slot), decode cc pc = .ok (.ireturn, 1) → ck_AT sh cl D cA ad H0 st0 H locs → W p l e R s m args below meth c H locs 0 0 Q (F0 m pc ls [.int r])) (h : ck_AT sh cl D cA ad H0 st H locs) (hd : decode cc pc = .ok (.ireturn, 1)) : W p l e R s m args below meth c H locs 0 0 Q (F0 m pc ls [.int x]) := by
  cases hf
  exact hret pc H locs ls hd h
theorem ck_rz {x r : Int32} (hf : some (x, st) = some (r, st0)) (hret : ∀ (pc : Nat) (H : Heap) (locs : List Loc) (ls : Array Slot), decode cc pc = .ok (.ireturn, 1) → (r = 0 ∨ r = 1) → ck_AT sh cl D cA ad H0 st0 H locs → W p l e R s m args below meth c H locs 0 0 Q (F0 m pc ls [.int r])) (hz : x = 0 ∨ x = 1) (h : ck_AT sh cl D cA ad H0 st H locs) (hd : decode cc pc = .ok (.ireturn, 1)) : W p l e R s m args below meth c H locs 0 0 Q (F0 m pc ls [.int x]) := by
  cases hf
  exact hret pc H locs ls hd hz h
theorem ck_rl {x r : Int64} (hf : some (x, st) = some (r, st0)) (hret : ∀ (pc : Nat) (H : Heap) (locs : List Loc) (ls : Array Slot), decode cc pc = .ok (.lreturn, 1) → ck_AT sh cl D cA ad H0 st0 H locs → W p l e R s m args below meth c H locs 0 0 Q (F0 m pc ls [.long r])) (h : ck_AT sh cl D cA ad H0 st H locs) (hd : decode cc pc = .ok (.lreturn, 1)) : W p l e R s m args below meth c H locs 0 0 Q (F0 m pc ls [.long x]) := by
  cases hf
  exact hret pc H locs ls hd h
theorem ck_rv (hf : some st = some st0) (hret : ∀ (pc : Nat) (H : Heap) (locs : List Loc) (ls : Array Slot), decode cc pc = .ok (.return_, 1) → ck_AT sh cl D cA ad H0 st0 H locs → W p l e R s m args below meth c H locs 0 0 Q (F0 m pc ls [])) (h : ck_AT sh cl D cA ad H0 st H locs) (hd : decode cc pc = .ok (.return_, 1)) : W p l e R s m args below meth c H locs 0 0 Q (F0 m pc ls []) := by
  cases hf
  exact hret pc H locs ls hd h
end CKR
end
section
/-! names of classes, fields, methods; shapes of the two worlds -/
def R_C : String := "ClauseMatrix"
def T_C : u_T := fun k => match k with
  | 0 => ("ClauseMatrix", "declared", "LClauseMatrix$Declarations;", true)
  | 1 => ("ClauseMatrix", "patterns", "LClauseMatrix$Patterns;", true)
  | 2 => ("ClauseMatrix", "values", "LClauseMatrix$Values;", true)
  | 3 => ("ClauseMatrix", "match", "LClauseMatrix$Match;", true)
  | 4 => ("ClauseMatrix", "tree", "LClauseMatrix$Tree;", true)
  | 5 => ("ClauseMatrix", "gap", "LClauseMatrix$Witness;", true)
  | _ => ("ClauseMatrix", "latestTests", "I", false)
def ct_C : Nat → FieldType := fun k => match k with
  | 0 => .object "ClauseMatrix$Declarations"
  | 1 => .object "ClauseMatrix$Patterns"
  | 2 => .object "ClauseMatrix$Values"
  | 3 => .object "ClauseMatrix$Match"
  | 4 => .object "ClauseMatrix$Tree"
  | 5 => .object "ClauseMatrix$Witness"
  | _ => .int
theorem cn_C : ∀ a, a < 7 → ∀ b, b < 7 → a ≠ b → (T_C a).2.1 ≠ (T_C b).2.1 := by decide +kernel
theorem co_C : ∀ k, k < 7 → parseFieldDescriptor (T_C k).2.2.1 = some (ct_C k) := by decide +kernel
theorem cuu_C : ∀ w ∈ u_ws R_C T_C 7, w ∈ lw_tbl ∧ goodWord w = true := by decide +kernel
theorem cu_C : ∀ w ∈ u_ws R_C T_C 7, w ∈ ck_T := fun w h => ck_T_mk (cuu_C w h).1 (cuu_C w h).2
def R_D : String := "ClauseMatrix$Declarations"
def T_D : u_T := fun k => match k with
  | 0 => ("ClauseMatrix$Declarations", "owner", "[I", true)
  | 1 => ("ClauseMatrix$Declarations", "firstType", "[I", true)
  | 2 => ("ClauseMatrix$Declarations", "secondType", "[I", true)
  | 3 => ("ClauseMatrix$Declarations", "ownTypes", "I", false)
  | _ => ("ClauseMatrix$Declarations", "constructors", "I", false)
def ct_D : Nat → FieldType := fun k => match k with
  | 0 => .array .int
  | 1 => .array .int
  | 2 => .array .int
  | 3 => .int
  | _ => .int
theorem cn_D : ∀ a, a < 5 → ∀ b, b < 5 → a ≠ b → (T_D a).2.1 ≠ (T_D b).2.1 := by decide +kernel
theorem co_D : ∀ k, k < 5 → parseFieldDescriptor (T_D k).2.2.1 = some (ct_D k) := by decide +kernel
theorem cuu_D : ∀ w ∈ u_ws R_D T_D 5, w ∈ lw_tbl ∧ goodWord w = true := by decide +kernel
theorem cu_D : ∀ w ∈ u_ws R_D T_D 5, w ∈ ck_T := fun w h => ck_T_mk (cuu_D w h).1 (cuu_D w h).2
def R_P : String := "ClauseMatrix$Patterns"
def T_P : u_T := fun k => match k with
  | 0 => ("ClauseMatrix$Patterns", "twofold", "[Z", true)
  | 1 => ("ClauseMatrix$Patterns", "typeOf", "[I", true)
  | 2 => ("ClauseMatrix$Patterns", "symbol", "[I", true)
  | 3 => ("ClauseMatrix$Patterns", "first", "[I", true)
  | 4 => ("ClauseMatrix$Patterns", "second", "[I", true)
  | 5 => ("ClauseMatrix$Patterns", "depth", "[I", true)
  | 6 => ("ClauseMatrix$Patterns", "alternatives", "[I", true)
  | _ => ("ClauseMatrix$Patterns", "count", "I", false)
def ct_P : Nat → FieldType := fun k => match k with
  | 0 => .array .boolean
  | 1 => .array .int
  | 2 => .array .int
  | 3 => .array .int
  | 4 => .array .int
  | 5 => .array .int
  | 6 => .array .int
  | _ => .int
theorem cn_P : ∀ a, a < 8 → ∀ b, b < 8 → a ≠ b → (T_P a).2.1 ≠ (T_P b).2.1 := by decide +kernel
theorem co_P : ∀ k, k < 8 → parseFieldDescriptor (T_P k).2.2.1 = some (ct_P k) := by decide +kernel
theorem cuu_P : ∀ w ∈ u_ws R_P T_P 8, w ∈ lw_tbl ∧ goodWord w = true := by decide +kernel
theorem cu_P : ∀ w ∈ u_ws R_P T_P 8, w ∈ ck_T := fun w h => ck_T_mk (cuu_P w h).1 (cuu_P w h).2
def R_V : String := "ClauseMatrix$Values"
def T_V : u_T := fun k => match k with
  | 0 => ("ClauseMatrix$Values", "typeOf", "[I", true)
  | 1 => ("ClauseMatrix$Values", "symbol", "[I", true)
  | 2 => ("ClauseMatrix$Values", "first", "[I", true)
  | 3 => ("ClauseMatrix$Values", "second", "[I", true)
  | _ => ("ClauseMatrix$Values", "count", "I", false)
def ct_V : Nat → FieldType := fun k => match k with
  | 0 => .array .int
  | 1 => .array .int
  | 2 => .array .int
  | 3 => .array .int
  | _ => .int
theorem cn_V : ∀ a, a < 5 → ∀ b, b < 5 → a ≠ b → (T_V a).2.1 ≠ (T_V b).2.1 := by decide +kernel
theorem co_V : ∀ k, k < 5 → parseFieldDescriptor (T_V k).2.2.1 = some (ct_V k) := by decide +kernel
theorem cuu_V : ∀ w ∈ u_ws R_V T_V 5, w ∈ lw_tbl ∧ goodWord w = true := by decide +kernel
theorem cu_V : ∀ w ∈ u_ws R_V T_V 5, w ∈ ck_T := fun w h => ck_T_mk (cuu_V w h).1 (cuu_V w h).2
def R_M : String := "ClauseMatrix$Match"
def T_M : u_T := fun k => match k with
  | 0 => ("ClauseMatrix$Match", "patterns", "LClauseMatrix$Patterns;", true)
  | 1 => ("ClauseMatrix$Match", "firstClause", "[I", true)
  | 2 => ("ClauseMatrix$Match", "rowOfClause", "[I", true)
  | 3 => ("ClauseMatrix$Match", "askers", "[I", true)
  | 4 => ("ClauseMatrix$Match", "askedSymbol", "[I", true)
  | 5 => ("ClauseMatrix$Match", "askedType", "[I", true)
  | 6 => ("ClauseMatrix$Match", "over", "I", false)
  | 7 => ("ClauseMatrix$Match", "rows", "I", false)
  | _ => ("ClauseMatrix$Match", "clauses", "I", false)
def ct_M : Nat → FieldType := fun k => match k with
  | 0 => .object "ClauseMatrix$Patterns"
  | 1 => .array .int
  | 2 => .array .int
  | 3 => .array .int
  | 4 => .array .int
  | 5 => .array .int
  | 6 => .int
  | 7 => .int
  | _ => .int
theorem cn_M : ∀ a, a < 9 → ∀ b, b < 9 → a ≠ b → (T_M a).2.1 ≠ (T_M b).2.1 := by decide +kernel
theorem co_M : ∀ k, k < 9 → parseFieldDescriptor (T_M k).2.2.1 = some (ct_M k) := by decide +kernel
theorem cuu_M : ∀ w ∈ u_ws R_M T_M 9, w ∈ lw_tbl ∧ goodWord w = true := by decide +kernel
theorem cu_M : ∀ w ∈ u_ws R_M T_M 9, w ∈ ck_T := fun w h => ck_T_mk (cuu_M w h).1 (cuu_M w h).2
def R_T : String := "ClauseMatrix$Tree"
def T_T : u_T := fun k => match k with
  | 0 => ("ClauseMatrix$Tree", "declared", "LClauseMatrix$Declarations;", true)
  | 1 => ("ClauseMatrix$Tree", "match", "LClauseMatrix$Match;", true)
  | 2 => ("ClauseMatrix$Tree", "left", "[I", true)
  | 3 => ("ClauseMatrix$Tree", "open", "[I", true)
  | 4 => ("ClauseMatrix$Tree", "label", "[I", true)
  | 5 => ("ClauseMatrix$Tree", "above", "[I", true)
  | 6 => ("ClauseMatrix$Tree", "place", "[I", true)
  | 7 => ("ClauseMatrix$Tree", "testType", "[I", true)
  | 8 => ("ClauseMatrix$Tree", "clause", "[I", true)
  | 9 => ("ClauseMatrix$Tree", "firstBranch", "[I", true)
  | 10 => ("ClauseMatrix$Tree", "branchCount", "[I", true)
  | 11 => ("ClauseMatrix$Tree", "kind", "[I", true)
  | 12 => ("ClauseMatrix$Tree", "failing", "[Z", true)
  | 13 => ("ClauseMatrix$Tree", "valueAt", "[I", true)
  | 14 => ("ClauseMatrix$Tree", "size", "I", false)
  | 15 => ("ClauseMatrix$Tree", "caught", "I", false)
  | _ => ("ClauseMatrix$Tree", "there", "Z", false)
def ct_T : Nat → FieldType := fun k => match k with
  | 0 => .object "ClauseMatrix$Declarations"
  | 1 => .object "ClauseMatrix$Match"
  | 2 => .array .int
  | 3 => .array .int
  | 4 => .array .int
  | 5 => .array .int
  | 6 => .array .int
  | 7 => .array .int
  | 8 => .array .int
  | 9 => .array .int
  | 10 => .array .int
  | 11 => .array .int
  | 12 => .array .boolean
  | 13 => .array .int
  | 14 => .int
  | 15 => .int
  | _ => .boolean
theorem cn_T : ∀ a, a < 17 → ∀ b, b < 17 → a ≠ b → (T_T a).2.1 ≠ (T_T b).2.1 := by decide +kernel
theorem co_T : ∀ k, k < 17 → parseFieldDescriptor (T_T k).2.2.1 = some (ct_T k) := by decide +kernel
theorem cuu_T : ∀ w ∈ u_ws R_T T_T 17, w ∈ lw_tbl ∧ goodWord w = true := by decide +kernel
theorem cu_T : ∀ w ∈ u_ws R_T T_T 17, w ∈ ck_T := fun w h => ck_T_mk (cuu_T w h).1 (cuu_T w h).2
def R_G : String := "ClauseMatrix$Witness"
def T_G : u_T := fun k => match k with
  | 0 => ("ClauseMatrix$Witness", "declared", "LClauseMatrix$Declarations;", true)
  | 1 => ("ClauseMatrix$Witness", "tree", "LClauseMatrix$Tree;", true)
  | 2 => ("ClauseMatrix$Witness", "kindAt", "[I", true)
  | 3 => ("ClauseMatrix$Witness", "symbolAt", "[I", true)
  | 4 => ("ClauseMatrix$Witness", "kind", "[I", true)
  | 5 => ("ClauseMatrix$Witness", "symbol", "[I", true)
  | _ => ("ClauseMatrix$Witness", "length", "I", false)
def ct_G : Nat → FieldType := fun k => match k with
  | 0 => .object "ClauseMatrix$Declarations"
  | 1 => .object "ClauseMatrix$Tree"
  | 2 => .array .int
  | 3 => .array .int
  | 4 => .array .int
  | 5 => .array .int
  | _ => .int
theorem cn_G : ∀ a, a < 7 → ∀ b, b < 7 → a ≠ b → (T_G a).2.1 ≠ (T_G b).2.1 := by decide +kernel
theorem co_G : ∀ k, k < 7 → parseFieldDescriptor (T_G k).2.2.1 = some (ct_G k) := by decide +kernel
theorem cuu_G : ∀ w ∈ u_ws R_G T_G 7, w ∈ lw_tbl ∧ goodWord w = true := by decide +kernel
theorem cu_G : ∀ w ∈ u_ws R_G T_G 7, w ∈ ck_T := fun w h => ck_T_mk (cuu_G w h).1 (cuu_G w h).2
def R_R : String := "ClauseMatrixModel"
def T_R : u_T := fun k => match k with
  | 0 => ("ClauseMatrixModel", "types", "I", false)
  | 1 => ("ClauseMatrixModel", "constructors", "I", false)
  | 2 => ("ClauseMatrixModel", "owner", "[I", false)
  | 3 => ("ClauseMatrixModel", "first", "[I", false)
  | 4 => ("ClauseMatrixModel", "second", "[I", false)
  | 5 => ("ClauseMatrixModel", "patterns", "I", false)
  | 6 => ("ClauseMatrixModel", "kind", "[I", false)
  | 7 => ("ClauseMatrixModel", "what", "[I", false)
  | 8 => ("ClauseMatrixModel", "left", "[I", false)
  | 9 => ("ClauseMatrixModel", "right", "[I", false)
  | 10 => ("ClauseMatrixModel", "kindOfType", "[I", false)
  | 11 => ("ClauseMatrixModel", "depth", "[I", false)
  | 12 => ("ClauseMatrixModel", "choices", "[I", false)
  | 13 => ("ClauseMatrixModel", "values", "I", false)
  | 14 => ("ClauseMatrixModel", "valueKind", "[I", false)
  | 15 => ("ClauseMatrixModel", "valueWhat", "[I", false)
  | 16 => ("ClauseMatrixModel", "valueLeft", "[I", false)
  | 17 => ("ClauseMatrixModel", "valueRight", "[I", false)
  | 18 => ("ClauseMatrixModel", "over", "I", false)
  | 19 => ("ClauseMatrixModel", "rows", "I", false)
  | 20 => ("ClauseMatrixModel", "clauses", "I", false)
  | 21 => ("ClauseMatrixModel", "rowOf", "[I", false)
  | 22 => ("ClauseMatrixModel", "numberOf", "[I", false)
  | 23 => ("ClauseMatrixModel", "asks", "[I", false)
  | 24 => ("ClauseMatrixModel", "asked", "[I", false)
  | 25 => ("ClauseMatrixModel", "waits", "[I", false)
  | 26 => ("ClauseMatrixModel", "choice", "[I", false)
  | 27 => ("ClauseMatrixModel", "spot", "[I", false)
  | 28 => ("ClauseMatrixModel", "grown", "Z", false)
  | 29 => ("ClauseMatrixModel", "nodes", "I", false)
  | 30 => ("ClauseMatrixModel", "tooBig", "Z", false)
  | 31 => ("ClauseMatrixModel", "remain", "[I", false)
  | 32 => ("ClauseMatrixModel", "open", "[I", false)
  | 33 => ("ClauseMatrixModel", "place", "[I", false)
  | 34 => ("ClauseMatrixModel", "test", "[I", false)
  | 35 => ("ClauseMatrixModel", "leaf", "[I", false)
  | 36 => ("ClauseMatrixModel", "from", "[I", false)
  | 37 => ("ClauseMatrixModel", "many", "[I", false)
  | 38 => ("ClauseMatrixModel", "label", "[I", false)
  | 39 => ("ClauseMatrixModel", "others", "[Z", false)
  | 40 => ("ClauseMatrixModel", "work", "[I", false)
  | 41 => ("ClauseMatrixModel", "symbols", "I", false)
  | 42 => ("ClauseMatrixModel", "symbolKind", "[I", false)
  | 43 => ("ClauseMatrixModel", "symbol", "[I", false)
  | 44 => ("ClauseMatrixModel", "wayKind", "[I", false)
  | 45 => ("ClauseMatrixModel", "way", "[I", false)
  | _ => ("ClauseMatrixModel", "tested", "I", false)
def ct_R : Nat → FieldType := fun k => match k with
  | 0 => .int
  | 1 => .int
  | 2 => .array .int
  | 3 => .array .int
  | 4 => .array .int
  | 5 => .int
  | 6 => .array .int
  | 7 => .array .int
  | 8 => .array .int
  | 9 => .array .int
  | 10 => .array .int
  | 11 => .array .int
  | 12 => .array .int
  | 13 => .int
  | 14 => .array .int
  | 15 => .array .int
  | 16 => .array .int
  | 17 => .array .int
  | 18 => .int
  | 19 => .int
  | 20 => .int
  | 21 => .array .int
  | 22 => .array .int
  | 23 => .array .int
  | 24 => .array .int
  | 25 => .array .int
  | 26 => .array .int
  | 27 => .array .int
  | 28 => .boolean
  | 29 => .int
  | 30 => .boolean
  | 31 => .array .int
  | 32 => .array .int
  | 33 => .array .int
  | 34 => .array .int
  | 35 => .array .int
  | 36 => .array .int
  | 37 => .array .int
  | 38 => .array .int
  | 39 => .array .boolean
  | 40 => .array .int
  | 41 => .int
  | 42 => .array .int
  | 43 => .array .int
  | 44 => .array .int
  | 45 => .array .int
  | _ => .int
theorem cn_R : ∀ a, a < 47 → ∀ b, b < 47 → a ≠ b → (T_R a).2.1 ≠ (T_R b).2.1 := by decide +kernel
theorem co_R : ∀ k, k < 47 → parseFieldDescriptor (T_R k).2.2.1 = some (ct_R k) := by decide +kernel
theorem cuu_R : ∀ w ∈ u_ws R_R T_R 47, w ∈ lw_tbl ∧ goodWord w = true := by decide +kernel
theorem cu_R : ∀ w ∈ u_ws R_R T_R 47, w ∈ ck_T := fun w h => ck_T_mk (cuu_R w h).1 (cuu_R w h).2
def R_I : String := "java/lang/Integer"
def R_J : String := "java/lang/Math"
def R_A : String := "java/util/Arrays"
def cm_cl : List vw_C := [(R_C, T_C, 7), (R_D, T_D, 5), (R_P, T_P, 8), (R_V, T_V, 5), (R_M, T_M, 9), (R_T, T_T, 17), (R_G, T_G, 7), (R_R, T_R, 47)]
def sh_C : List ck_Sh := [.inl (0, [some 1, some 2, some 3, some 4, some 5, some 6, none]), .inl (1, [some 7, some 8, some 9, none, none]), .inl (2, [some 10, some 11, some 12, some 13, some 14, some 15, some 16, none]), .inl (3, [some 17, some 18, some 19, some 20, none]), .inl (4, [some 2, some 21, some 22, some 23, some 24, some 25, none, none, none]), .inl (5, [some 1, some 4, some 26, some 27, some 28, some 29, some 30, some 31, some 32, some 33, some 34, some 35, some 36, some 37, none, none, none]), .inl (6, [some 1, some 5, some 38, some 39, some 40, some 41, none]), .inr (0, 12), .inr (0, 12), .inr (0, 12), .inr (1, 60), .inr (0, 60), .inr (0, 60), .inr (0, 60), .inr (0, 60), .inr (0, 60), .inr (0, 60), .inr (0, 60), .inr (0, 60), .inr (0, 60), .inr (0, 60), .inr (0, 9), .inr (0, 16), .inr (0, 16), .inr (0, 256), .inr (0, 256), .inr (0, 60), .inr (0, 60), .inr (0, 60), .inr (0, 60), .inr (0, 60), .inr (0, 60), .inr (0, 60), .inr (0, 60), .inr (0, 60), .inr (0, 60), .inr (1, 60), .inr (0, 32), .inr (0, 32), .inr (0, 32), .inr (0, 32), .inr (0, 32)]
def sh_R : List ck_Sh := [.inl (7, [none, none, some 1, some 2, some 3, none, some 4, some 5, some 6, some 7, some 8, some 9, some 10, none, some 11, some 12, some 13, some 14, none, none, none, some 15, some 16, some 17, some 18, some 19, some 20, some 21, none, none, none, some 22, some 23, some 24, some 25, some 26, some 27, some 28, some 29, some 30, some 31, none, some 32, some 33, some 34, some 35, none]), .inr (0, 12), .inr (0, 12), .inr (0, 12), .inr (0, 60), .inr (0, 60), .inr (0, 60), .inr (0, 60), .inr (0, 60), .inr (0, 60), .inr (0, 60), .inr (0, 60), .inr (0, 60), .inr (0, 60), .inr (0, 60), .inr (0, 16), .inr (0, 16), .inr (0, 256), .inr (0, 256), .inr (0, 20), .inr (0, 20), .inr (0, 20), .inr (0, 60), .inr (0, 60), .inr (0, 60), .inr (0, 60), .inr (0, 60), .inr (0, 60), .inr (0, 60), .inr (0, 60), .inr (1, 60), .inr (0, 60), .inr (0, 32), .inr (0, 32), .inr (0, 16), .inr (0, 16)]
abbrev bC_init : ByteArray := prog_1_method_1_code
def yC_init : MethodName := ⟨R_C, "<init>", "()V"⟩
abbrev bC_clear : ByteArray := prog_1_method_2_code
def yC_clear : MethodName := ⟨R_C, "clear", "()V"⟩
abbrev bC_type : ByteArray := prog_1_method_3_code
def yC_type : MethodName := ⟨R_C, "type", "()I"⟩
abbrev bC_constructor : ByteArray := prog_1_method_4_code
def yC_constructor : MethodName := ⟨R_C, "constructor", "(III)I"⟩
abbrev bC_begin : ByteArray := prog_1_method_5_code
def yC_begin : MethodName := ⟨R_C, "begin", "(I)I"⟩
abbrev bC_any : ByteArray := prog_1_method_6_code
def yC_any : MethodName := ⟨R_C, "any", "()I"⟩
abbrev bC_number : ByteArray := prog_1_method_7_code
def yC_number : MethodName := ⟨R_C, "number", "(I)I"⟩
abbrev bC_build : ByteArray := prog_1_method_8_code
def yC_build : MethodName := ⟨R_C, "build", "(III)I"⟩
abbrev bC_either : ByteArray := prog_1_method_9_code
def yC_either : MethodName := ⟨R_C, "either", "(II)I"⟩
abbrev bC_row : ByteArray := prog_1_method_10_code
def yC_row : MethodName := ⟨R_C, "row", "(I)I"⟩
abbrev bC_compile : ByteArray := prog_1_method_11_code
def yC_compile : MethodName := ⟨R_C, "compile", "()I"⟩
abbrev bC_kinds : ByteArray := prog_1_method_12_code
def yC_kinds : MethodName := ⟨R_C, "kinds", "()I"⟩
abbrev bC_longest : ByteArray := prog_1_method_13_code
def yC_longest : MethodName := ⟨R_C, "longest", "()I"⟩
abbrev bC_useless : ByteArray := prog_1_method_14_code
def yC_useless : MethodName := ⟨R_C, "useless", "(I)I"⟩
abbrev bC_witnessLength : ByteArray := prog_1_method_15_code
def yC_witnessLength : MethodName := ⟨R_C, "witnessLength", "()I"⟩
abbrev bC_witnessKind : ByteArray := prog_1_method_16_code
def yC_witnessKind : MethodName := ⟨R_C, "witnessKind", "(I)I"⟩
abbrev bC_witness : ByteArray := prog_1_method_17_code
def yC_witness : MethodName := ⟨R_C, "witness", "(I)I"⟩
abbrev bC_valueNumber : ByteArray := prog_1_method_18_code
def yC_valueNumber : MethodName := ⟨R_C, "valueNumber", "(I)I"⟩
abbrev bC_valueOf : ByteArray := prog_1_method_19_code
def yC_valueOf : MethodName := ⟨R_C, "valueOf", "(III)I"⟩
abbrev bC_run : ByteArray := prog_1_method_20_code
def yC_run : MethodName := ⟨R_C, "run", "(I)I"⟩
abbrev bC_tests : ByteArray := prog_1_method_21_code
def yC_tests : MethodName := ⟨R_C, "tests", "()I"⟩
abbrev bC_standsFor : ByteArray := prog_1_method_22_code
def yC_standsFor : MethodName := ⟨R_C, "standsFor", "(IZI)Z"⟩
abbrev bR_init : ByteArray := prog_9_method_1_code
def yR_init : MethodName := ⟨R_R, "<init>", "()V"⟩
abbrev bR_clear : ByteArray := prog_9_method_2_code
def yR_clear : MethodName := ⟨R_R, "clear", "()V"⟩
abbrev bR_type : ByteArray := prog_9_method_3_code
def yR_type : MethodName := ⟨R_R, "type", "()I"⟩
abbrev bR_isType : ByteArray := prog_9_method_4_code
def yR_isType : MethodName := ⟨R_R, "isType", "(I)Z"⟩
abbrev bR_constructorsOf : ByteArray := prog_9_method_5_code
def yR_constructorsOf : MethodName := ⟨R_R, "constructorsOf", "(I)I"⟩
abbrev bR_constructor : ByteArray := prog_9_method_6_code
def yR_constructor : MethodName := ⟨R_R, "constructor", "(III)I"⟩
abbrev bR_inhabited : ByteArray := prog_9_method_7_code
def yR_inhabited : MethodName := ⟨R_R, "inhabited", "()Z"⟩
abbrev bR_begin : ByteArray := prog_9_method_8_code
def yR_begin : MethodName := ⟨R_R, "begin", "(I)I"⟩
abbrev bR_isPattern : ByteArray := prog_9_method_9_code
def yR_isPattern : MethodName := ⟨R_R, "isPattern", "(I)Z"⟩
abbrev bR_fitsType : ByteArray := prog_9_method_10_code
def yR_fitsType : MethodName := ⟨R_R, "fitsType", "(II)Z"⟩
abbrev bR_pattern : ByteArray := prog_9_method_11_code
def yR_pattern : MethodName := ⟨R_R, "pattern", "(IIIIIII)I"⟩
abbrev bR_any : ByteArray := prog_9_method_12_code
def yR_any : MethodName := ⟨R_R, "any", "()I"⟩
abbrev bR_number : ByteArray := prog_9_method_13_code
def yR_number : MethodName := ⟨R_R, "number", "(I)I"⟩
abbrev bR_build : ByteArray := prog_9_method_14_code
def yR_build : MethodName := ⟨R_R, "build", "(III)I"⟩
abbrev bR_either : ByteArray := prog_9_method_15_code
def yR_either : MethodName := ⟨R_R, "either", "(II)I"⟩
abbrev bR_row : ByteArray := prog_9_method_16_code
def yR_row : MethodName := ⟨R_R, "row", "(I)I"⟩
abbrev bR_writeOut : ByteArray := prog_9_method_17_code
def yR_writeOut : MethodName := ⟨R_R, "writeOut", "(III)V"⟩
abbrev bR_writeOne : ByteArray := prog_9_method_18_code
def yR_writeOne : MethodName := ⟨R_R, "writeOne", "(II)I"⟩
abbrev bR_lowest : ByteArray := prog_9_method_19_code
def yR_lowest : MethodName := ⟨R_R, "lowest", "(I)I"⟩
abbrev bR_askers : ByteArray := prog_9_method_20_code
def yR_askers : MethodName := ⟨R_R, "askers", "(II)I"⟩
abbrev bR_choose : ByteArray := prog_9_method_21_code
def yR_choose : MethodName := ⟨R_R, "choose", "(II)I"⟩
abbrev bR_keep : ByteArray := prog_9_method_22_code
def yR_keep : MethodName := ⟨R_R, "keep", "(IIIZ)I"⟩
abbrev bR_branch : ByteArray := prog_9_method_23_code
def yR_branch : MethodName := ⟨R_R, "branch", "(IIZI)V"⟩
abbrev bR_grow : ByteArray := prog_9_method_24_code
def yR_grow : MethodName := ⟨R_R, "grow", "(I)V"⟩
abbrev bR_growNumbers : ByteArray := prog_9_method_25_code
def yR_growNumbers : MethodName := ⟨R_R, "growNumbers", "(III)V"⟩
abbrev bR_compile : ByteArray := prog_9_method_26_code
def yR_compile : MethodName := ⟨R_R, "compile", "()I"⟩
abbrev bR_alike : ByteArray := prog_9_method_27_code
def yR_alike : MethodName := ⟨R_R, "alike", "(II)Z"⟩
abbrev bR_kinds : ByteArray := prog_9_method_28_code
def yR_kinds : MethodName := ⟨R_R, "kinds", "()I"⟩
abbrev bR_longest : ByteArray := prog_9_method_29_code
def yR_longest : MethodName := ⟨R_R, "longest", "()I"⟩
abbrev bR_useless : ByteArray := prog_9_method_30_code
def yR_useless : MethodName := ⟨R_R, "useless", "(I)I"⟩
abbrev bR_hasBranch : ByteArray := prog_9_method_31_code
def yR_hasBranch : MethodName := ⟨R_R, "hasBranch", "(II)Z"⟩
abbrev bR_findWitness : ByteArray := prog_9_method_32_code
def yR_findWitness : MethodName := ⟨R_R, "findWitness", "()V"⟩
abbrev bR_writeWitness : ByteArray := prog_9_method_33_code
def yR_writeWitness : MethodName := ⟨R_R, "writeWitness", "()V"⟩
abbrev bR_witnessLength : ByteArray := prog_9_method_34_code
def yR_witnessLength : MethodName := ⟨R_R, "witnessLength", "()I"⟩
abbrev bR_witnessKind : ByteArray := prog_9_method_35_code
def yR_witnessKind : MethodName := ⟨R_R, "witnessKind", "(I)I"⟩
abbrev bR_witness : ByteArray := prog_9_method_36_code
def yR_witness : MethodName := ⟨R_R, "witness", "(I)I"⟩
abbrev bR_isValue : ByteArray := prog_9_method_37_code
def yR_isValue : MethodName := ⟨R_R, "isValue", "(I)Z"⟩
abbrev bR_typeOf : ByteArray := prog_9_method_38_code
def yR_typeOf : MethodName := ⟨R_R, "typeOf", "(I)I"⟩
abbrev bR_value : ByteArray := prog_9_method_39_code
def yR_value : MethodName := ⟨R_R, "value", "(IIII)I"⟩
abbrev bR_valueNumber : ByteArray := prog_9_method_40_code
def yR_valueNumber : MethodName := ⟨R_R, "valueNumber", "(I)I"⟩
abbrev bR_valueOf : ByteArray := prog_9_method_41_code
def yR_valueOf : MethodName := ⟨R_R, "valueOf", "(III)I"⟩
abbrev bR_part : ByteArray := prog_9_method_42_code
def yR_part : MethodName := ⟨R_R, "part", "(II)I"⟩
abbrev bR_fits : ByteArray := prog_9_method_43_code
def yR_fits : MethodName := ⟨R_R, "fits", "(II)Z"⟩
abbrev bR_walk : ByteArray := prog_9_method_44_code
def yR_walk : MethodName := ⟨R_R, "walk", "(I)I"⟩
abbrev bR_run : ByteArray := prog_9_method_45_code
def yR_run : MethodName := ⟨R_R, "run", "(I)I"⟩
abbrev bR_tests : ByteArray := prog_9_method_46_code
def yR_tests : MethodName := ⟨R_R, "tests", "()I"⟩
abbrev bD_init : ByteArray := prog_2_method_1_code
def yD_init : MethodName := ⟨R_D, "<init>", "()V"⟩
abbrev bD_reset : ByteArray := prog_2_method_2_code
def yD_reset : MethodName := ⟨R_D, "reset", "()V"⟩
abbrev bD_addType : ByteArray := prog_2_method_3_code
def yD_addType : MethodName := ⟨R_D, "addType", "()I"⟩
abbrev bD_addConstructor : ByteArray := prog_2_method_4_code
def yD_addConstructor : MethodName := ⟨R_D, "addConstructor", "(III)I"⟩
abbrev bD_countOfType : ByteArray := prog_2_method_5_code
def yD_countOfType : MethodName := ⟨R_D, "countOfType", "(I)I"⟩
abbrev bD_isType : ByteArray := prog_2_method_6_code
def yD_isType : MethodName := ⟨R_D, "isType", "(I)Z"⟩
abbrev bD_isOwnType : ByteArray := prog_2_method_7_code
def yD_isOwnType : MethodName := ⟨R_D, "isOwnType", "(I)Z"⟩
abbrev bD_canBeArguments : ByteArray := prog_2_method_8_code
def yD_canBeArguments : MethodName := ⟨R_D, "canBeArguments", "(II)Z"⟩
abbrev bD_isConstructor : ByteArray := prog_2_method_9_code
def yD_isConstructor : MethodName := ⟨R_D, "isConstructor", "(I)Z"⟩
abbrev bD_constructorCount : ByteArray := prog_2_method_10_code
def yD_constructorCount : MethodName := ⟨R_D, "constructorCount", "()I"⟩
abbrev bD_ownerOf : ByteArray := prog_2_method_11_code
def yD_ownerOf : MethodName := ⟨R_D, "ownerOf", "(I)I"⟩
abbrev bD_firstTypeOf : ByteArray := prog_2_method_12_code
def yD_firstTypeOf : MethodName := ⟨R_D, "firstTypeOf", "(I)I"⟩
abbrev bD_secondTypeOf : ByteArray := prog_2_method_13_code
def yD_secondTypeOf : MethodName := ⟨R_D, "secondTypeOf", "(I)I"⟩
abbrev bD_argumentPlaces : ByteArray := prog_2_method_14_code
def yD_argumentPlaces : MethodName := ⟨R_D, "argumentPlaces", "(II)I"⟩
abbrev bD_everyTypeHasValues : ByteArray := prog_2_method_15_code
def yD_everyTypeHasValues : MethodName := ⟨R_D, "everyTypeHasValues", "()Z"⟩
abbrev bD_withTypesBuiltFrom : ByteArray := prog_2_method_16_code
def yD_withTypesBuiltFrom : MethodName := ⟨R_D, "withTypesBuiltFrom", "(I)I"⟩
abbrev bD_canBeGiven : ByteArray := prog_2_method_17_code
def yD_canBeGiven : MethodName := ⟨R_D, "canBeGiven", "(II)Z"⟩
abbrev bM_init : ByteArray := prog_3_method_1_code
def yM_init : MethodName := ⟨R_M, "<init>", "(LClauseMatrix$Patterns;)V"⟩
abbrev bM_reset : ByteArray := prog_3_method_2_code
def yM_reset : MethodName := ⟨R_M, "reset", "()V"⟩
abbrev bM_isBegun : ByteArray := prog_3_method_3_code
def yM_isBegun : MethodName := ⟨R_M, "isBegun", "()Z"⟩
abbrev bM_beginOver : ByteArray := prog_3_method_4_code
def yM_beginOver : MethodName := ⟨R_M, "beginOver", "(I)V"⟩
abbrev bM_typeOver : ByteArray := prog_3_method_5_code
def yM_typeOver : MethodName := ⟨R_M, "typeOver", "()I"⟩
abbrev bM_hasRow : ByteArray := prog_3_method_6_code
def yM_hasRow : MethodName := ⟨R_M, "hasRow", "(I)Z"⟩
abbrev bM_addRow : ByteArray := prog_3_method_7_code
def yM_addRow : MethodName := ⟨R_M, "addRow", "(I)I"⟩
abbrev bM_layOut : ByteArray := prog_3_method_8_code
def yM_layOut : MethodName := ⟨R_M, "layOut", "(IIII)V"⟩
abbrev bM_allClauses : ByteArray := prog_3_method_9_code
def yM_allClauses : MethodName := ⟨R_M, "allClauses", "()I"⟩
abbrev bM_firstOf : ByteArray := prog_3_method_10_code
def yM_firstOf : MethodName := ⟨R_M, "firstOf", "(I)I"⟩
abbrev bM_rowOf : ByteArray := prog_3_method_11_code
def yM_rowOf : MethodName := ⟨R_M, "rowOf", "(I)I"⟩
abbrev bM_placeToTest : ByteArray := prog_3_method_12_code
def yM_placeToTest : MethodName := ⟨R_M, "placeToTest", "(II)I"⟩
abbrev bM_typeAskedAt : ByteArray := prog_3_method_13_code
def yM_typeAskedAt : MethodName := ⟨R_M, "typeAskedAt", "(II)I"⟩
abbrev bM_notAsking : ByteArray := prog_3_method_14_code
def yM_notAsking : MethodName := ⟨R_M, "notAsking", "(II)I"⟩
abbrev bM_notAskingElse : ByteArray := prog_3_method_15_code
def yM_notAskingElse : MethodName := ⟨R_M, "notAskingElse", "(III)I"⟩
abbrev bM_leastAbove : ByteArray := prog_3_method_16_code
def yM_leastAbove : MethodName := ⟨R_M, "leastAbove", "(JII)J"⟩
abbrev bM_alternativesOutside : ByteArray := prog_3_method_17_code
def yM_alternativesOutside : MethodName := ⟨R_M, "alternativesOutside", "(II)I"⟩
abbrev bP_init : ByteArray := prog_4_method_1_code
def yP_init : MethodName := ⟨R_P, "<init>", "()V"⟩
abbrev bP_reset : ByteArray := prog_4_method_2_code
def yP_reset : MethodName := ⟨R_P, "reset", "()V"⟩
abbrev bP_has : ByteArray := prog_4_method_3_code
def yP_has : MethodName := ⟨R_P, "has", "(I)Z"⟩
abbrev bP_addAny : ByteArray := prog_4_method_4_code
def yP_addAny : MethodName := ⟨R_P, "addAny", "()I"⟩
abbrev bP_addNumber : ByteArray := prog_4_method_5_code
def yP_addNumber : MethodName := ⟨R_P, "addNumber", "(I)I"⟩
abbrev bP_addBuild : ByteArray := prog_4_method_6_code
def yP_addBuild : MethodName := ⟨R_P, "addBuild", "(IIII)I"⟩
abbrev bP_addEither : ByteArray := prog_4_method_7_code
def yP_addEither : MethodName := ⟨R_P, "addEither", "(II)I"⟩
abbrev bP_add : ByteArray := prog_4_method_8_code
def yP_add : MethodName := ⟨R_P, "add", "(ZII)I"⟩
abbrev bP_withParts : ByteArray := prog_4_method_9_code
def yP_withParts : MethodName := ⟨R_P, "withParts", "(IIIII)I"⟩
abbrev bP_isOpen : ByteArray := prog_4_method_10_code
def yP_isOpen : MethodName := ⟨R_P, "isOpen", "(I)Z"⟩
abbrev bP_fits : ByteArray := prog_4_method_11_code
def yP_fits : MethodName := ⟨R_P, "fits", "(II)Z"⟩
abbrev bP_agree : ByteArray := prog_4_method_12_code
def yP_agree : MethodName := ⟨R_P, "agree", "(II)Z"⟩
abbrev bP_isEither : ByteArray := prog_4_method_13_code
def yP_isEither : MethodName := ⟨R_P, "isEither", "(I)Z"⟩
abbrev bP_itsType : ByteArray := prog_4_method_14_code
def yP_itsType : MethodName := ⟨R_P, "itsType", "(I)I"⟩
abbrev bP_symbolOf : ByteArray := prog_4_method_15_code
def yP_symbolOf : MethodName := ⟨R_P, "symbolOf", "(I)I"⟩
abbrev bP_firstOf : ByteArray := prog_4_method_16_code
def yP_firstOf : MethodName := ⟨R_P, "firstOf", "(I)I"⟩
abbrev bP_secondOf : ByteArray := prog_4_method_17_code
def yP_secondOf : MethodName := ⟨R_P, "secondOf", "(I)I"⟩
abbrev bP_depthOf : ByteArray := prog_4_method_18_code
def yP_depthOf : MethodName := ⟨R_P, "depthOf", "(I)I"⟩
abbrev bP_choicesOf : ByteArray := prog_4_method_19_code
def yP_choicesOf : MethodName := ⟨R_P, "choicesOf", "(I)I"⟩
abbrev bT_init : ByteArray := prog_5_method_1_code
def yT_init : MethodName := ⟨R_T, "<init>", "(LClauseMatrix$Declarations;LClauseMatrix$Match;)V"⟩
abbrev bT_drop : ByteArray := prog_5_method_2_code
def yT_drop : MethodName := ⟨R_T, "drop", "()V"⟩
abbrev bT_isThere : ByteArray := prog_5_method_3_code
def yT_isThere : MethodName := ⟨R_T, "isThere", "()Z"⟩
abbrev bT_size : ByteArray := prog_5_method_4_code
def yT_size : MethodName := ⟨R_T, "size", "()I"⟩
abbrev bT_caught : ByteArray := prog_5_method_5_code
def yT_caught : MethodName := ⟨R_T, "caught", "()I"⟩
abbrev bT_testsAbove : ByteArray := prog_5_method_6_code
def yT_testsAbove : MethodName := ⟨R_T, "testsAbove", "(I)I"⟩
abbrev bT_clauseAt : ByteArray := prog_5_method_7_code
def yT_clauseAt : MethodName := ⟨R_T, "clauseAt", "(I)I"⟩
abbrev bT_placeOf : ByteArray := prog_5_method_8_code
def yT_placeOf : MethodName := ⟨R_T, "placeOf", "(I)I"⟩
abbrev bT_typeOfTest : ByteArray := prog_5_method_9_code
def yT_typeOfTest : MethodName := ⟨R_T, "typeOfTest", "(I)I"⟩
abbrev bT_labelOf : ByteArray := prog_5_method_10_code
def yT_labelOf : MethodName := ⟨R_T, "labelOf", "(I)I"⟩
abbrev bT_has : ByteArray := prog_5_method_11_code
def yT_has : MethodName := ⟨R_T, "has", "(I)Z"⟩
abbrev bT_grow : ByteArray := prog_5_method_12_code
def yT_grow : MethodName := ⟨R_T, "grow", "()Z"⟩
abbrev bT_addNode : ByteArray := prog_5_method_13_code
def yT_addNode : MethodName := ⟨R_T, "addNode", "(IIII)Z"⟩
abbrev bT_expand : ByteArray := prog_5_method_14_code
def yT_expand : MethodName := ⟨R_T, "expand", "(I)Z"⟩
abbrev bT_makeLeaf : ByteArray := prog_5_method_15_code
def yT_makeLeaf : MethodName := ⟨R_T, "makeLeaf", "(I)V"⟩
abbrev bT_addNumbers : ByteArray := prog_5_method_16_code
def yT_addNumbers : MethodName := ⟨R_T, "addNumbers", "(I)Z"⟩
abbrev bT_addConstructors : ByteArray := prog_5_method_17_code
def yT_addConstructors : MethodName := ⟨R_T, "addConstructors", "(I)Z"⟩
abbrev bT_markFailing : ByteArray := prog_5_method_18_code
def yT_markFailing : MethodName := ⟨R_T, "markFailing", "()V"⟩
abbrev bT_failingBranch : ByteArray := prog_5_method_19_code
def yT_failingBranch : MethodName := ⟨R_T, "failingBranch", "(I)I"⟩
abbrev bT_hasFailing : ByteArray := prog_5_method_20_code
def yT_hasFailing : MethodName := ⟨R_T, "hasFailing", "()Z"⟩
abbrev bT_mostTests : ByteArray := prog_5_method_21_code
def yT_mostTests : MethodName := ⟨R_T, "mostTests", "()I"⟩
abbrev bT_countKinds : ByteArray := prog_5_method_22_code
def yT_countKinds : MethodName := ⟨R_T, "countKinds", "()I"⟩
abbrev bT_alike : ByteArray := prog_5_method_23_code
def yT_alike : MethodName := ⟨R_T, "alike", "(II)Z"⟩
abbrev bT_leafFor : ByteArray := prog_5_method_24_code
def yT_leafFor : MethodName := ⟨R_T, "leafFor", "(LClauseMatrix$Values;I)I"⟩
abbrev bT_branchFor : ByteArray := prog_5_method_25_code
def yT_branchFor : MethodName := ⟨R_T, "branchFor", "(II)I"⟩
abbrev bT_lastBranch : ByteArray := prog_5_method_26_code
def yT_lastBranch : MethodName := ⟨R_T, "lastBranch", "(I)I"⟩
abbrev bT_leastWithoutBranch : ByteArray := prog_5_method_27_code
def yT_leastWithoutBranch : MethodName := ⟨R_T, "leastWithoutBranch", "(I)I"⟩
abbrev bV_init : ByteArray := prog_6_method_1_code
def yV_init : MethodName := ⟨R_V, "<init>", "()V"⟩
abbrev bV_reset : ByteArray := prog_6_method_2_code
def yV_reset : MethodName := ⟨R_V, "reset", "()V"⟩
abbrev bV_has : ByteArray := prog_6_method_3_code
def yV_has : MethodName := ⟨R_V, "has", "(I)Z"⟩
abbrev bV_addInt : ByteArray := prog_6_method_4_code
def yV_addInt : MethodName := ⟨R_V, "addInt", "(I)I"⟩
abbrev bV_addBuilt : ByteArray := prog_6_method_5_code
def yV_addBuilt : MethodName := ⟨R_V, "addBuilt", "(IIII)I"⟩
abbrev bV_isOf : ByteArray := prog_6_method_6_code
def yV_isOf : MethodName := ⟨R_V, "isOf", "(II)Z"⟩
abbrev bV_symbolOf : ByteArray := prog_6_method_7_code
def yV_symbolOf : MethodName := ⟨R_V, "symbolOf", "(I)I"⟩
abbrev bV_firstOf : ByteArray := prog_6_method_8_code
def yV_firstOf : MethodName := ⟨R_V, "firstOf", "(I)I"⟩
abbrev bV_secondOf : ByteArray := prog_6_method_9_code
def yV_secondOf : MethodName := ⟨R_V, "secondOf", "(I)I"⟩
abbrev bG_init : ByteArray := prog_7_method_1_code
def yG_init : MethodName := ⟨R_G, "<init>", "(LClauseMatrix$Declarations;LClauseMatrix$Tree;)V"⟩
abbrev bG_length : ByteArray := prog_7_method_2_code
def yG_length : MethodName := ⟨R_G, "length", "()I"⟩
abbrev bG_has : ByteArray := prog_7_method_3_code
def yG_has : MethodName := ⟨R_G, "has", "(I)Z"⟩
abbrev bG_kindOf : ByteArray := prog_7_method_4_code
def yG_kindOf : MethodName := ⟨R_G, "kindOf", "(I)I"⟩
abbrev bG_symbolOf : ByteArray := prog_7_method_5_code
def yG_symbolOf : MethodName := ⟨R_G, "symbolOf", "(I)I"⟩
abbrev bG_readFromTree : ByteArray := prog_7_method_6_code
def yG_readFromTree : MethodName := ⟨R_G, "readFromTree", "()V"⟩
abbrev bG_followWayToFail : ByteArray := prog_7_method_7_code
def yG_followWayToFail : MethodName := ⟨R_G, "followWayToFail", "()V"⟩
abbrev bG_noteBranch : ByteArray := prog_7_method_8_code
def yG_noteBranch : MethodName := ⟨R_G, "noteBranch", "(II)V"⟩
abbrev bG_write : ByteArray := prog_7_method_9_code
def yG_write : MethodName := ⟨R_G, "write", "(I)V"⟩
abbrev bI_bitCount : ByteArray := prog_10_method_49_code
def yI_bitCount : MethodName := ⟨R_I, "bitCount", "(I)I"⟩
abbrev bJ_max : ByteArray := prog_11_method_65_code
def yJ_max : MethodName := ⟨R_J, "max", "(II)I"⟩
abbrev bA_fill : ByteArray := prog_12_method_103_code
def yA_fill : MethodName := ⟨R_A, "fill", "([II)V"⟩
end
section
/-! fields and calls: their words among the tables' -/
theorem FC_declared : ck_F sh_C cm_cl R_C 10 0 0 (some 1) := ⟨_, _, _, _, rfl, rfl, rfl, by decide, cu_C, ck_T_mk (List.mem_of_getElem? (i := 259) (by decide +kernel)) (by decide +kernel), rfl⟩
theorem FC_patterns : ck_F sh_C cm_cl R_C 19 0 1 (some 2) := ⟨_, _, _, _, rfl, rfl, rfl, by decide, cu_C, ck_T_mk (List.mem_of_getElem? (i := 260) (by decide +kernel)) (by decide +kernel), rfl⟩
theorem FC_values : ck_F sh_C cm_cl R_C 26 0 2 (some 3) := ⟨_, _, _, _, rfl, rfl, rfl, by decide, cu_C, ck_T_mk (List.mem_of_getElem? (i := 261) (by decide +kernel)) (by decide +kernel), rfl⟩
theorem FC_match : ck_F sh_C cm_cl R_C 35 0 3 (some 4) := ⟨_, _, _, _, rfl, rfl, rfl, by decide, cu_C, ck_T_mk (List.mem_of_getElem? (i := 262) (by decide +kernel)) (by decide +kernel), rfl⟩
theorem FC_tree : ck_F sh_C cm_cl R_C 44 0 4 (some 5) := ⟨_, _, _, _, rfl, rfl, rfl, by decide, cu_C, ck_T_mk (List.mem_of_getElem? (i := 263) (by decide +kernel)) (by decide +kernel), rfl⟩
theorem FC_gap : ck_F sh_C cm_cl R_C 53 0 5 (some 6) := ⟨_, _, _, _, rfl, rfl, rfl, by decide, cu_C, ck_T_mk (List.mem_of_getElem? (i := 264) (by decide +kernel)) (by decide +kernel), rfl⟩
theorem FC_latestTests : ck_F sh_C cm_cl R_C 57 0 6 none := ⟨_, _, _, _, rfl, rfl, rfl, by decide, cu_C, ck_T_mk (List.mem_of_getElem? (i := 265) (by decide +kernel)) (by decide +kernel), rfl⟩
theorem GC_latestTests : ck_G sh_C cm_cl R_C 57 0 6 .int := ⟨_, _, _, _, _, rfl, rfl, rfl, by decide, cu_C, ck_T_mk (List.mem_of_getElem? (i := 265) (by decide +kernel)) (by decide +kernel), rfl, co_C, cn_C, rfl, by decide +kernel⟩
theorem FD_owner : ck_F sh_C cm_cl R_D 9 1 0 (some 7) := ⟨_, _, _, _, rfl, rfl, rfl, by decide, cu_D, ck_T_mk (List.mem_of_getElem? (i := 68) (by decide +kernel)) (by decide +kernel), rfl⟩
theorem FD_firstType : ck_F sh_C cm_cl R_D 15 1 1 (some 8) := ⟨_, _, _, _, rfl, rfl, rfl, by decide, cu_D, ck_T_mk (List.mem_of_getElem? (i := 69) (by decide +kernel)) (by decide +kernel), rfl⟩
theorem FD_secondType : ck_F sh_C cm_cl R_D 18 1 2 (some 9) := ⟨_, _, _, _, rfl, rfl, rfl, by decide, cu_D, ck_T_mk (List.mem_of_getElem? (i := 70) (by decide +kernel)) (by decide +kernel), rfl⟩
theorem FD_ownTypes : ck_F sh_C cm_cl R_D 21 1 3 none := ⟨_, _, _, _, rfl, rfl, rfl, by decide, cu_D, ck_T_mk (List.mem_of_getElem? (i := 71) (by decide +kernel)) (by decide +kernel), rfl⟩
theorem GD_ownTypes : ck_G sh_C cm_cl R_D 21 1 3 .int := ⟨_, _, _, _, _, rfl, rfl, rfl, by decide, cu_D, ck_T_mk (List.mem_of_getElem? (i := 71) (by decide +kernel)) (by decide +kernel), rfl, co_D, cn_D, rfl, by decide +kernel⟩
theorem FD_constructors : ck_F sh_C cm_cl R_D 25 1 4 none := ⟨_, _, _, _, rfl, rfl, rfl, by decide, cu_D, ck_T_mk (List.mem_of_getElem? (i := 72) (by decide +kernel)) (by decide +kernel), rfl⟩
theorem GD_constructors : ck_G sh_C cm_cl R_D 25 1 4 .int := ⟨_, _, _, _, _, rfl, rfl, rfl, by decide, cu_D, ck_T_mk (List.mem_of_getElem? (i := 72) (by decide +kernel)) (by decide +kernel), rfl, co_D, cn_D, rfl, by decide +kernel⟩
theorem FP_twofold : ck_F sh_C cm_cl R_P 9 2 0 (some 10) := ⟨_, _, _, _, rfl, rfl, rfl, by decide, cu_P, ck_T_mk (List.mem_of_getElem? (i := 91) (by decide +kernel)) (by decide +kernel), rfl⟩
theorem FP_typeOf : ck_F sh_C cm_cl R_P 15 2 1 (some 11) := ⟨_, _, _, _, rfl, rfl, rfl, by decide, cu_P, ck_T_mk (List.mem_of_getElem? (i := 92) (by decide +kernel)) (by decide +kernel), rfl⟩
theorem FP_symbol : ck_F sh_C cm_cl R_P 19 2 2 (some 12) := ⟨_, _, _, _, rfl, rfl, rfl, by decide, cu_P, ck_T_mk (List.mem_of_getElem? (i := 93) (by decide +kernel)) (by decide +kernel), rfl⟩
theorem FP_first : ck_F sh_C cm_cl R_P 22 2 3 (some 13) := ⟨_, _, _, _, rfl, rfl, rfl, by decide, cu_P, ck_T_mk (List.mem_of_getElem? (i := 94) (by decide +kernel)) (by decide +kernel), rfl⟩
theorem FP_second : ck_F sh_C cm_cl R_P 25 2 4 (some 14) := ⟨_, _, _, _, rfl, rfl, rfl, by decide, cu_P, ck_T_mk (List.mem_of_getElem? (i := 95) (by decide +kernel)) (by decide +kernel), rfl⟩
theorem FP_depth : ck_F sh_C cm_cl R_P 28 2 5 (some 15) := ⟨_, _, _, _, rfl, rfl, rfl, by decide, cu_P, ck_T_mk (List.mem_of_getElem? (i := 96) (by decide +kernel)) (by decide +kernel), rfl⟩
theorem FP_alternatives : ck_F sh_C cm_cl R_P 31 2 6 (some 16) := ⟨_, _, _, _, rfl, rfl, rfl, by decide, cu_P, ck_T_mk (List.mem_of_getElem? (i := 97) (by decide +kernel)) (by decide +kernel), rfl⟩
theorem FP_count : ck_F sh_C cm_cl R_P 34 2 7 none := ⟨_, _, _, _, rfl, rfl, rfl, by decide, cu_P, ck_T_mk (List.mem_of_getElem? (i := 98) (by decide +kernel)) (by decide +kernel), rfl⟩
theorem GP_count : ck_G sh_C cm_cl R_P 34 2 7 .int := ⟨_, _, _, _, _, rfl, rfl, rfl, by decide, cu_P, ck_T_mk (List.mem_of_getElem? (i := 98) (by decide +kernel)) (by decide +kernel), rfl, co_P, cn_P, rfl, by decide +kernel⟩
theorem FV_typeOf : ck_F sh_C cm_cl R_V 9 3 0 (some 17) := ⟨_, _, _, _, rfl, rfl, rfl, by decide, cu_V, ck_T_mk (List.mem_of_getElem? (i := 123) (by decide +kernel)) (by decide +kernel), rfl⟩
theorem FV_symbol : ck_F sh_C cm_cl R_V 15 3 1 (some 18) := ⟨_, _, _, _, rfl, rfl, rfl, by decide, cu_V, ck_T_mk (List.mem_of_getElem? (i := 124) (by decide +kernel)) (by decide +kernel), rfl⟩
theorem FV_first : ck_F sh_C cm_cl R_V 18 3 2 (some 19) := ⟨_, _, _, _, rfl, rfl, rfl, by decide, cu_V, ck_T_mk (List.mem_of_getElem? (i := 125) (by decide +kernel)) (by decide +kernel), rfl⟩
theorem FV_second : ck_F sh_C cm_cl R_V 21 3 3 (some 20) := ⟨_, _, _, _, rfl, rfl, rfl, by decide, cu_V, ck_T_mk (List.mem_of_getElem? (i := 126) (by decide +kernel)) (by decide +kernel), rfl⟩
theorem FV_count : ck_F sh_C cm_cl R_V 24 3 4 none := ⟨_, _, _, _, rfl, rfl, rfl, by decide, cu_V, ck_T_mk (List.mem_of_getElem? (i := 127) (by decide +kernel)) (by decide +kernel), rfl⟩
theorem GV_count : ck_G sh_C cm_cl R_V 24 3 4 .int := ⟨_, _, _, _, _, rfl, rfl, rfl, by decide, cu_V, ck_T_mk (List.mem_of_getElem? (i := 127) (by decide +kernel)) (by decide +kernel), rfl, co_V, cn_V, rfl, by decide +kernel⟩
theorem FM_patterns : ck_F sh_C cm_cl R_M 37 4 0 (some 2) := ⟨_, _, _, _, rfl, rfl, rfl, by decide, cu_M, ck_T_mk (List.mem_of_getElem? (i := 145) (by decide +kernel)) (by decide +kernel), rfl⟩
theorem FM_firstClause : ck_F sh_C cm_cl R_M 9 4 1 (some 21) := ⟨_, _, _, _, rfl, rfl, rfl, by decide, cu_M, ck_T_mk (List.mem_of_getElem? (i := 146) (by decide +kernel)) (by decide +kernel), rfl⟩
theorem FM_rowOfClause : ck_F sh_C cm_cl R_M 15 4 2 (some 22) := ⟨_, _, _, _, rfl, rfl, rfl, by decide, cu_M, ck_T_mk (List.mem_of_getElem? (i := 147) (by decide +kernel)) (by decide +kernel), rfl⟩
theorem FM_askers : ck_F sh_C cm_cl R_M 18 4 3 (some 23) := ⟨_, _, _, _, rfl, rfl, rfl, by decide, cu_M, ck_T_mk (List.mem_of_getElem? (i := 148) (by decide +kernel)) (by decide +kernel), rfl⟩
theorem FM_askedSymbol : ck_F sh_C cm_cl R_M 21 4 4 (some 24) := ⟨_, _, _, _, rfl, rfl, rfl, by decide, cu_M, ck_T_mk (List.mem_of_getElem? (i := 149) (by decide +kernel)) (by decide +kernel), rfl⟩
theorem FM_askedType : ck_F sh_C cm_cl R_M 24 4 5 (some 25) := ⟨_, _, _, _, rfl, rfl, rfl, by decide, cu_M, ck_T_mk (List.mem_of_getElem? (i := 150) (by decide +kernel)) (by decide +kernel), rfl⟩
theorem FM_over : ck_F sh_C cm_cl R_M 27 4 6 none := ⟨_, _, _, _, rfl, rfl, rfl, by decide, cu_M, ck_T_mk (List.mem_of_getElem? (i := 151) (by decide +kernel)) (by decide +kernel), rfl⟩
theorem GM_over : ck_G sh_C cm_cl R_M 27 4 6 .int := ⟨_, _, _, _, _, rfl, rfl, rfl, by decide, cu_M, ck_T_mk (List.mem_of_getElem? (i := 151) (by decide +kernel)) (by decide +kernel), rfl, co_M, cn_M, rfl, by decide +kernel⟩
theorem FM_rows : ck_F sh_C cm_cl R_M 31 4 7 none := ⟨_, _, _, _, rfl, rfl, rfl, by decide, cu_M, ck_T_mk (List.mem_of_getElem? (i := 152) (by decide +kernel)) (by decide +kernel), rfl⟩
theorem GM_rows : ck_G sh_C cm_cl R_M 31 4 7 .int := ⟨_, _, _, _, _, rfl, rfl, rfl, by decide, cu_M, ck_T_mk (List.mem_of_getElem? (i := 152) (by decide +kernel)) (by decide +kernel), rfl, co_M, cn_M, rfl, by decide +kernel⟩
theorem FM_clauses : ck_F sh_C cm_cl R_M 34 4 8 none := ⟨_, _, _, _, rfl, rfl, rfl, by decide, cu_M, ck_T_mk (List.mem_of_getElem? (i := 153) (by decide +kernel)) (by decide +kernel), rfl⟩
theorem GM_clauses : ck_G sh_C cm_cl R_M 34 4 8 .int := ⟨_, _, _, _, _, rfl, rfl, rfl, by decide, cu_M, ck_T_mk (List.mem_of_getElem? (i := 153) (by decide +kernel)) (by decide +kernel), rfl, co_M, cn_M, rfl, by decide +kernel⟩
theorem FT_declared : ck_F sh_C cm_cl R_T 60 5 0 (some 1) := ⟨_, _, _, _, rfl, rfl, rfl, by decide, cu_T, ck_T_mk (List.mem_of_getElem? (i := 179) (by decide +kernel)) (by decide +kernel), rfl⟩
theorem FT_match : ck_F sh_C cm_cl R_T 64 5 1 (some 4) := ⟨_, _, _, _, rfl, rfl, rfl, by decide, cu_T, ck_T_mk (List.mem_of_getElem? (i := 180) (by decide +kernel)) (by decide +kernel), rfl⟩
theorem FT_left : ck_F sh_C cm_cl R_T 9 5 2 (some 26) := ⟨_, _, _, _, rfl, rfl, rfl, by decide, cu_T, ck_T_mk (List.mem_of_getElem? (i := 181) (by decide +kernel)) (by decide +kernel), rfl⟩
theorem FT_open : ck_F sh_C cm_cl R_T 15 5 3 (some 27) := ⟨_, _, _, _, rfl, rfl, rfl, by decide, cu_T, ck_T_mk (List.mem_of_getElem? (i := 182) (by decide +kernel)) (by decide +kernel), rfl⟩
theorem FT_label : ck_F sh_C cm_cl R_T 18 5 4 (some 28) := ⟨_, _, _, _, rfl, rfl, rfl, by decide, cu_T, ck_T_mk (List.mem_of_getElem? (i := 183) (by decide +kernel)) (by decide +kernel), rfl⟩
theorem FT_above : ck_F sh_C cm_cl R_T 21 5 5 (some 29) := ⟨_, _, _, _, rfl, rfl, rfl, by decide, cu_T, ck_T_mk (List.mem_of_getElem? (i := 184) (by decide +kernel)) (by decide +kernel), rfl⟩
theorem FT_place : ck_F sh_C cm_cl R_T 24 5 6 (some 30) := ⟨_, _, _, _, rfl, rfl, rfl, by decide, cu_T, ck_T_mk (List.mem_of_getElem? (i := 185) (by decide +kernel)) (by decide +kernel), rfl⟩
theorem FT_testType : ck_F sh_C cm_cl R_T 27 5 7 (some 31) := ⟨_, _, _, _, rfl, rfl, rfl, by decide, cu_T, ck_T_mk (List.mem_of_getElem? (i := 186) (by decide +kernel)) (by decide +kernel), rfl⟩
theorem FT_clause : ck_F sh_C cm_cl R_T 30 5 8 (some 32) := ⟨_, _, _, _, rfl, rfl, rfl, by decide, cu_T, ck_T_mk (List.mem_of_getElem? (i := 187) (by decide +kernel)) (by decide +kernel), rfl⟩
theorem FT_firstBranch : ck_F sh_C cm_cl R_T 33 5 9 (some 33) := ⟨_, _, _, _, rfl, rfl, rfl, by decide, cu_T, ck_T_mk (List.mem_of_getElem? (i := 188) (by decide +kernel)) (by decide +kernel), rfl⟩
theorem FT_branchCount : ck_F sh_C cm_cl R_T 36 5 10 (some 34) := ⟨_, _, _, _, rfl, rfl, rfl, by decide, cu_T, ck_T_mk (List.mem_of_getElem? (i := 189) (by decide +kernel)) (by decide +kernel), rfl⟩
theorem FT_kind : ck_F sh_C cm_cl R_T 39 5 11 (some 35) := ⟨_, _, _, _, rfl, rfl, rfl, by decide, cu_T, ck_T_mk (List.mem_of_getElem? (i := 190) (by decide +kernel)) (by decide +kernel), rfl⟩
theorem FT_failing : ck_F sh_C cm_cl R_T 42 5 12 (some 36) := ⟨_, _, _, _, rfl, rfl, rfl, by decide, cu_T, ck_T_mk (List.mem_of_getElem? (i := 191) (by decide +kernel)) (by decide +kernel), rfl⟩
theorem FT_valueAt : ck_F sh_C cm_cl R_T 46 5 13 (some 37) := ⟨_, _, _, _, rfl, rfl, rfl, by decide, cu_T, ck_T_mk (List.mem_of_getElem? (i := 192) (by decide +kernel)) (by decide +kernel), rfl⟩
theorem FT_size : ck_F sh_C cm_cl R_T 49 5 14 none := ⟨_, _, _, _, rfl, rfl, rfl, by decide, cu_T, ck_T_mk (List.mem_of_getElem? (i := 193) (by decide +kernel)) (by decide +kernel), rfl⟩
theorem GT_size : ck_G sh_C cm_cl R_T 49 5 14 .int := ⟨_, _, _, _, _, rfl, rfl, rfl, by decide, cu_T, ck_T_mk (List.mem_of_getElem? (i := 193) (by decide +kernel)) (by decide +kernel), rfl, co_T, cn_T, rfl, by decide +kernel⟩
theorem FT_caught : ck_F sh_C cm_cl R_T 53 5 15 none := ⟨_, _, _, _, rfl, rfl, rfl, by decide, cu_T, ck_T_mk (List.mem_of_getElem? (i := 194) (by decide +kernel)) (by decide +kernel), rfl⟩
theorem GT_caught : ck_G sh_C cm_cl R_T 53 5 15 .int := ⟨_, _, _, _, _, rfl, rfl, rfl, by decide, cu_T, ck_T_mk (List.mem_of_getElem? (i := 194) (by decide +kernel)) (by decide +kernel), rfl, co_T, cn_T, rfl, by decide +kernel⟩
theorem FT_there : ck_F sh_C cm_cl R_T 56 5 16 none := ⟨_, _, _, _, rfl, rfl, rfl, by decide, cu_T, ck_T_mk (List.mem_of_getElem? (i := 195) (by decide +kernel)) (by decide +kernel), rfl⟩
theorem GT_there : ck_G sh_C cm_cl R_T 56 5 16 .boolean := ⟨_, _, _, _, _, rfl, rfl, rfl, by decide, cu_T, ck_T_mk (List.mem_of_getElem? (i := 195) (by decide +kernel)) (by decide +kernel), rfl, co_T, cn_T, rfl, by decide +kernel⟩
theorem FG_declared : ck_F sh_C cm_cl R_G 28 6 0 (some 1) := ⟨_, _, _, _, rfl, rfl, rfl, by decide, cu_G, ck_T_mk (List.mem_of_getElem? (i := 237) (by decide +kernel)) (by decide +kernel), rfl⟩
theorem FG_tree : ck_F sh_C cm_cl R_G 32 6 1 (some 5) := ⟨_, _, _, _, rfl, rfl, rfl, by decide, cu_G, ck_T_mk (List.mem_of_getElem? (i := 238) (by decide +kernel)) (by decide +kernel), rfl⟩
theorem FG_kindAt : ck_F sh_C cm_cl R_G 9 6 2 (some 38) := ⟨_, _, _, _, rfl, rfl, rfl, by decide, cu_G, ck_T_mk (List.mem_of_getElem? (i := 239) (by decide +kernel)) (by decide +kernel), rfl⟩
theorem FG_symbolAt : ck_F sh_C cm_cl R_G 15 6 3 (some 39) := ⟨_, _, _, _, rfl, rfl, rfl, by decide, cu_G, ck_T_mk (List.mem_of_getElem? (i := 240) (by decide +kernel)) (by decide +kernel), rfl⟩
theorem FG_kind : ck_F sh_C cm_cl R_G 18 6 4 (some 40) := ⟨_, _, _, _, rfl, rfl, rfl, by decide, cu_G, ck_T_mk (List.mem_of_getElem? (i := 241) (by decide +kernel)) (by decide +kernel), rfl⟩
theorem FG_symbol : ck_F sh_C cm_cl R_G 21 6 5 (some 41) := ⟨_, _, _, _, rfl, rfl, rfl, by decide, cu_G, ck_T_mk (List.mem_of_getElem? (i := 242) (by decide +kernel)) (by decide +kernel), rfl⟩
theorem FG_length : ck_F sh_C cm_cl R_G 24 6 6 none := ⟨_, _, _, _, rfl, rfl, rfl, by decide, cu_G, ck_T_mk (List.mem_of_getElem? (i := 243) (by decide +kernel)) (by decide +kernel), rfl⟩
theorem GG_length : ck_G sh_C cm_cl R_G 24 6 6 .int := ⟨_, _, _, _, _, rfl, rfl, rfl, by decide, cu_G, ck_T_mk (List.mem_of_getElem? (i := 243) (by decide +kernel)) (by decide +kernel), rfl, co_G, cn_G, rfl, by decide +kernel⟩
theorem FR_types : ck_F sh_R cm_cl R_R 120 0 0 none := ⟨_, _, _, _, rfl, rfl, rfl, by decide, cu_R, ck_T_mk (List.mem_of_getElem? (i := 775) (by decide +kernel)) (by decide +kernel), rfl⟩
theorem GR_types : ck_G sh_R cm_cl R_R 120 0 0 .int := ⟨_, _, _, _, _, rfl, rfl, rfl, by decide, cu_R, ck_T_mk (List.mem_of_getElem? (i := 775) (by decide +kernel)) (by decide +kernel), rfl, co_R, cn_R, rfl, by decide +kernel⟩
theorem FR_constructors : ck_F sh_R cm_cl R_R 123 0 1 none := ⟨_, _, _, _, rfl, rfl, rfl, by decide, cu_R, ck_T_mk (List.mem_of_getElem? (i := 776) (by decide +kernel)) (by decide +kernel), rfl⟩
theorem GR_constructors : ck_G sh_R cm_cl R_R 123 0 1 .int := ⟨_, _, _, _, _, rfl, rfl, rfl, by decide, cu_R, ck_T_mk (List.mem_of_getElem? (i := 776) (by decide +kernel)) (by decide +kernel), rfl, co_R, cn_R, rfl, by decide +kernel⟩
theorem FR_owner : ck_F sh_R cm_cl R_R 7 0 2 (some 1) := ⟨_, _, _, _, rfl, rfl, rfl, by decide, cu_R, ck_T_mk (List.mem_of_getElem? (i := 777) (by decide +kernel)) (by decide +kernel), rfl⟩
theorem FR_first : ck_F sh_R cm_cl R_R 13 0 3 (some 2) := ⟨_, _, _, _, rfl, rfl, rfl, by decide, cu_R, ck_T_mk (List.mem_of_getElem? (i := 778) (by decide +kernel)) (by decide +kernel), rfl⟩
theorem FR_second : ck_F sh_R cm_cl R_R 16 0 4 (some 3) := ⟨_, _, _, _, rfl, rfl, rfl, by decide, cu_R, ck_T_mk (List.mem_of_getElem? (i := 779) (by decide +kernel)) (by decide +kernel), rfl⟩
theorem FR_patterns : ck_F sh_R cm_cl R_R 126 0 5 none := ⟨_, _, _, _, rfl, rfl, rfl, by decide, cu_R, ck_T_mk (List.mem_of_getElem? (i := 780) (by decide +kernel)) (by decide +kernel), rfl⟩
theorem GR_patterns : ck_G sh_R cm_cl R_R 126 0 5 .int := ⟨_, _, _, _, _, rfl, rfl, rfl, by decide, cu_R, ck_T_mk (List.mem_of_getElem? (i := 780) (by decide +kernel)) (by decide +kernel), rfl, co_R, cn_R, rfl, by decide +kernel⟩
theorem FR_kind : ck_F sh_R cm_cl R_R 19 0 6 (some 4) := ⟨_, _, _, _, rfl, rfl, rfl, by decide, cu_R, ck_T_mk (List.mem_of_getElem? (i := 781) (by decide +kernel)) (by decide +kernel), rfl⟩
theorem FR_what : ck_F sh_R cm_cl R_R 22 0 7 (some 5) := ⟨_, _, _, _, rfl, rfl, rfl, by decide, cu_R, ck_T_mk (List.mem_of_getElem? (i := 782) (by decide +kernel)) (by decide +kernel), rfl⟩
theorem FR_left : ck_F sh_R cm_cl R_R 25 0 8 (some 6) := ⟨_, _, _, _, rfl, rfl, rfl, by decide, cu_R, ck_T_mk (List.mem_of_getElem? (i := 783) (by decide +kernel)) (by decide +kernel), rfl⟩
theorem FR_right : ck_F sh_R cm_cl R_R 28 0 9 (some 7) := ⟨_, _, _, _, rfl, rfl, rfl, by decide, cu_R, ck_T_mk (List.mem_of_getElem? (i := 784) (by decide +kernel)) (by decide +kernel), rfl⟩
theorem FR_kindOfType : ck_F sh_R cm_cl R_R 31 0 10 (some 8) := ⟨_, _, _, _, rfl, rfl, rfl, by decide, cu_R, ck_T_mk (List.mem_of_getElem? (i := 785) (by decide +kernel)) (by decide +kernel), rfl⟩
theorem FR_depth : ck_F sh_R cm_cl R_R 34 0 11 (some 9) := ⟨_, _, _, _, rfl, rfl, rfl, by decide, cu_R, ck_T_mk (List.mem_of_getElem? (i := 786) (by decide +kernel)) (by decide +kernel), rfl⟩
theorem FR_choices : ck_F sh_R cm_cl R_R 37 0 12 (some 10) := ⟨_, _, _, _, rfl, rfl, rfl, by decide, cu_R, ck_T_mk (List.mem_of_getElem? (i := 787) (by decide +kernel)) (by decide +kernel), rfl⟩
theorem FR_values : ck_F sh_R cm_cl R_R 129 0 13 none := ⟨_, _, _, _, rfl, rfl, rfl, by decide, cu_R, ck_T_mk (List.mem_of_getElem? (i := 788) (by decide +kernel)) (by decide +kernel), rfl⟩
theorem GR_values : ck_G sh_R cm_cl R_R 129 0 13 .int := ⟨_, _, _, _, _, rfl, rfl, rfl, by decide, cu_R, ck_T_mk (List.mem_of_getElem? (i := 788) (by decide +kernel)) (by decide +kernel), rfl, co_R, cn_R, rfl, by decide +kernel⟩
theorem FR_valueKind : ck_F sh_R cm_cl R_R 40 0 14 (some 11) := ⟨_, _, _, _, rfl, rfl, rfl, by decide, cu_R, ck_T_mk (List.mem_of_getElem? (i := 789) (by decide +kernel)) (by decide +kernel), rfl⟩
theorem FR_valueWhat : ck_F sh_R cm_cl R_R 43 0 15 (some 12) := ⟨_, _, _, _, rfl, rfl, rfl, by decide, cu_R, ck_T_mk (List.mem_of_getElem? (i := 790) (by decide +kernel)) (by decide +kernel), rfl⟩
theorem FR_valueLeft : ck_F sh_R cm_cl R_R 46 0 16 (some 13) := ⟨_, _, _, _, rfl, rfl, rfl, by decide, cu_R, ck_T_mk (List.mem_of_getElem? (i := 791) (by decide +kernel)) (by decide +kernel), rfl⟩
theorem FR_valueRight : ck_F sh_R cm_cl R_R 49 0 17 (some 14) := ⟨_, _, _, _, rfl, rfl, rfl, by decide, cu_R, ck_T_mk (List.mem_of_getElem? (i := 792) (by decide +kernel)) (by decide +kernel), rfl⟩
theorem FR_over : ck_F sh_R cm_cl R_R 52 0 18 none := ⟨_, _, _, _, rfl, rfl, rfl, by decide, cu_R, ck_T_mk (List.mem_of_getElem? (i := 793) (by decide +kernel)) (by decide +kernel), rfl⟩
theorem GR_over : ck_G sh_R cm_cl R_R 52 0 18 .int := ⟨_, _, _, _, _, rfl, rfl, rfl, by decide, cu_R, ck_T_mk (List.mem_of_getElem? (i := 793) (by decide +kernel)) (by decide +kernel), rfl, co_R, cn_R, rfl, by decide +kernel⟩
theorem FR_rows : ck_F sh_R cm_cl R_R 132 0 19 none := ⟨_, _, _, _, rfl, rfl, rfl, by decide, cu_R, ck_T_mk (List.mem_of_getElem? (i := 794) (by decide +kernel)) (by decide +kernel), rfl⟩
theorem GR_rows : ck_G sh_R cm_cl R_R 132 0 19 .int := ⟨_, _, _, _, _, rfl, rfl, rfl, by decide, cu_R, ck_T_mk (List.mem_of_getElem? (i := 794) (by decide +kernel)) (by decide +kernel), rfl, co_R, cn_R, rfl, by decide +kernel⟩
theorem FR_clauses : ck_F sh_R cm_cl R_R 135 0 20 none := ⟨_, _, _, _, rfl, rfl, rfl, by decide, cu_R, ck_T_mk (List.mem_of_getElem? (i := 795) (by decide +kernel)) (by decide +kernel), rfl⟩
theorem GR_clauses : ck_G sh_R cm_cl R_R 135 0 20 .int := ⟨_, _, _, _, _, rfl, rfl, rfl, by decide, cu_R, ck_T_mk (List.mem_of_getElem? (i := 795) (by decide +kernel)) (by decide +kernel), rfl, co_R, cn_R, rfl, by decide +kernel⟩
theorem FR_rowOf : ck_F sh_R cm_cl R_R 56 0 21 (some 15) := ⟨_, _, _, _, rfl, rfl, rfl, by decide, cu_R, ck_T_mk (List.mem_of_getElem? (i := 796) (by decide +kernel)) (by decide +kernel), rfl⟩
theorem FR_numberOf : ck_F sh_R cm_cl R_R 59 0 22 (some 16) := ⟨_, _, _, _, rfl, rfl, rfl, by decide, cu_R, ck_T_mk (List.mem_of_getElem? (i := 797) (by decide +kernel)) (by decide +kernel), rfl⟩
theorem FR_asks : ck_F sh_R cm_cl R_R 62 0 23 (some 17) := ⟨_, _, _, _, rfl, rfl, rfl, by decide, cu_R, ck_T_mk (List.mem_of_getElem? (i := 798) (by decide +kernel)) (by decide +kernel), rfl⟩
theorem FR_asked : ck_F sh_R cm_cl R_R 65 0 24 (some 18) := ⟨_, _, _, _, rfl, rfl, rfl, by decide, cu_R, ck_T_mk (List.mem_of_getElem? (i := 799) (by decide +kernel)) (by decide +kernel), rfl⟩
theorem FR_waits : ck_F sh_R cm_cl R_R 68 0 25 (some 19) := ⟨_, _, _, _, rfl, rfl, rfl, by decide, cu_R, ck_T_mk (List.mem_of_getElem? (i := 800) (by decide +kernel)) (by decide +kernel), rfl⟩
theorem FR_choice : ck_F sh_R cm_cl R_R 71 0 26 (some 20) := ⟨_, _, _, _, rfl, rfl, rfl, by decide, cu_R, ck_T_mk (List.mem_of_getElem? (i := 801) (by decide +kernel)) (by decide +kernel), rfl⟩
theorem FR_spot : ck_F sh_R cm_cl R_R 74 0 27 (some 21) := ⟨_, _, _, _, rfl, rfl, rfl, by decide, cu_R, ck_T_mk (List.mem_of_getElem? (i := 802) (by decide +kernel)) (by decide +kernel), rfl⟩
theorem FR_grown : ck_F sh_R cm_cl R_R 138 0 28 none := ⟨_, _, _, _, rfl, rfl, rfl, by decide, cu_R, ck_T_mk (List.mem_of_getElem? (i := 803) (by decide +kernel)) (by decide +kernel), rfl⟩
theorem GR_grown : ck_G sh_R cm_cl R_R 138 0 28 .boolean := ⟨_, _, _, _, _, rfl, rfl, rfl, by decide, cu_R, ck_T_mk (List.mem_of_getElem? (i := 803) (by decide +kernel)) (by decide +kernel), rfl, co_R, cn_R, rfl, by decide +kernel⟩
theorem FR_nodes : ck_F sh_R cm_cl R_R 182 0 29 none := ⟨_, _, _, _, rfl, rfl, rfl, by decide, cu_R, ck_T_mk (List.mem_of_getElem? (i := 804) (by decide +kernel)) (by decide +kernel), rfl⟩
theorem GR_nodes : ck_G sh_R cm_cl R_R 182 0 29 .int := ⟨_, _, _, _, _, rfl, rfl, rfl, by decide, cu_R, ck_T_mk (List.mem_of_getElem? (i := 804) (by decide +kernel)) (by decide +kernel), rfl, co_R, cn_R, rfl, by decide +kernel⟩
theorem FR_tooBig : ck_F sh_R cm_cl R_R 185 0 30 none := ⟨_, _, _, _, rfl, rfl, rfl, by decide, cu_R, ck_T_mk (List.mem_of_getElem? (i := 805) (by decide +kernel)) (by decide +kernel), rfl⟩
theorem GR_tooBig : ck_G sh_R cm_cl R_R 185 0 30 .boolean := ⟨_, _, _, _, _, rfl, rfl, rfl, by decide, cu_R, ck_T_mk (List.mem_of_getElem? (i := 805) (by decide +kernel)) (by decide +kernel), rfl, co_R, cn_R, rfl, by decide +kernel⟩
theorem FR_remain : ck_F sh_R cm_cl R_R 77 0 31 (some 22) := ⟨_, _, _, _, rfl, rfl, rfl, by decide, cu_R, ck_T_mk (List.mem_of_getElem? (i := 806) (by decide +kernel)) (by decide +kernel), rfl⟩
theorem FR_open : ck_F sh_R cm_cl R_R 80 0 32 (some 23) := ⟨_, _, _, _, rfl, rfl, rfl, by decide, cu_R, ck_T_mk (List.mem_of_getElem? (i := 807) (by decide +kernel)) (by decide +kernel), rfl⟩
theorem FR_place : ck_F sh_R cm_cl R_R 83 0 33 (some 24) := ⟨_, _, _, _, rfl, rfl, rfl, by decide, cu_R, ck_T_mk (List.mem_of_getElem? (i := 808) (by decide +kernel)) (by decide +kernel), rfl⟩
theorem FR_test : ck_F sh_R cm_cl R_R 86 0 34 (some 25) := ⟨_, _, _, _, rfl, rfl, rfl, by decide, cu_R, ck_T_mk (List.mem_of_getElem? (i := 809) (by decide +kernel)) (by decide +kernel), rfl⟩
theorem FR_leaf : ck_F sh_R cm_cl R_R 89 0 35 (some 26) := ⟨_, _, _, _, rfl, rfl, rfl, by decide, cu_R, ck_T_mk (List.mem_of_getElem? (i := 810) (by decide +kernel)) (by decide +kernel), rfl⟩
theorem FR_from : ck_F sh_R cm_cl R_R 92 0 36 (some 27) := ⟨_, _, _, _, rfl, rfl, rfl, by decide, cu_R, ck_T_mk (List.mem_of_getElem? (i := 811) (by decide +kernel)) (by decide +kernel), rfl⟩
theorem FR_many : ck_F sh_R cm_cl R_R 95 0 37 (some 28) := ⟨_, _, _, _, rfl, rfl, rfl, by decide, cu_R, ck_T_mk (List.mem_of_getElem? (i := 812) (by decide +kernel)) (by decide +kernel), rfl⟩
theorem FR_label : ck_F sh_R cm_cl R_R 98 0 38 (some 29) := ⟨_, _, _, _, rfl, rfl, rfl, by decide, cu_R, ck_T_mk (List.mem_of_getElem? (i := 813) (by decide +kernel)) (by decide +kernel), rfl⟩
theorem FR_others : ck_F sh_R cm_cl R_R 101 0 39 (some 30) := ⟨_, _, _, _, rfl, rfl, rfl, by decide, cu_R, ck_T_mk (List.mem_of_getElem? (i := 814) (by decide +kernel)) (by decide +kernel), rfl⟩
theorem FR_work : ck_F sh_R cm_cl R_R 105 0 40 (some 31) := ⟨_, _, _, _, rfl, rfl, rfl, by decide, cu_R, ck_T_mk (List.mem_of_getElem? (i := 815) (by decide +kernel)) (by decide +kernel), rfl⟩
theorem FR_symbols : ck_F sh_R cm_cl R_R 216 0 41 none := ⟨_, _, _, _, rfl, rfl, rfl, by decide, cu_R, ck_T_mk (List.mem_of_getElem? (i := 816) (by decide +kernel)) (by decide +kernel), rfl⟩
theorem GR_symbols : ck_G sh_R cm_cl R_R 216 0 41 .int := ⟨_, _, _, _, _, rfl, rfl, rfl, by decide, cu_R, ck_T_mk (List.mem_of_getElem? (i := 816) (by decide +kernel)) (by decide +kernel), rfl, co_R, cn_R, rfl, by decide +kernel⟩
theorem FR_symbolKind : ck_F sh_R cm_cl R_R 108 0 42 (some 32) := ⟨_, _, _, _, rfl, rfl, rfl, by decide, cu_R, ck_T_mk (List.mem_of_getElem? (i := 817) (by decide +kernel)) (by decide +kernel), rfl⟩
theorem FR_symbol : ck_F sh_R cm_cl R_R 111 0 43 (some 33) := ⟨_, _, _, _, rfl, rfl, rfl, by decide, cu_R, ck_T_mk (List.mem_of_getElem? (i := 818) (by decide +kernel)) (by decide +kernel), rfl⟩
theorem FR_wayKind : ck_F sh_R cm_cl R_R 114 0 44 (some 34) := ⟨_, _, _, _, rfl, rfl, rfl, by decide, cu_R, ck_T_mk (List.mem_of_getElem? (i := 819) (by decide +kernel)) (by decide +kernel), rfl⟩
theorem FR_way : ck_F sh_R cm_cl R_R 117 0 45 (some 35) := ⟨_, _, _, _, rfl, rfl, rfl, by decide, cu_R, ck_T_mk (List.mem_of_getElem? (i := 820) (by decide +kernel)) (by decide +kernel), rfl⟩
theorem FR_tested : ck_F sh_R cm_cl R_R 142 0 46 none := ⟨_, _, _, _, rfl, rfl, rfl, by decide, cu_R, ck_T_mk (List.mem_of_getElem? (i := 821) (by decide +kernel)) (by decide +kernel), rfl⟩
theorem GR_tested : ck_G sh_R cm_cl R_R 142 0 46 .int := ⟨_, _, _, _, _, rfl, rfl, rfl, by decide, cu_R, ck_T_mk (List.mem_of_getElem? (i := 821) (by decide +kernel)) (by decide +kernel), rfl, co_R, cn_R, rfl, by decide +kernel⟩
theorem kC_clear : Cond.code yC_clear bC_clear 1 none ∈ ck_T := ck_T_mk (List.mem_of_getElem? (i := 284) (by decide +kernel)) (by decide +kernel)
theorem sC_clear : Cond.instanceMethod yC_clear ∈ ck_T ∧ Cond.selects yC_clear.cls yC_clear yC_clear ∈ ck_T := ⟨ck_T_mk (List.mem_of_getElem? (i := 282) (by decide +kernel)) (by decide +kernel), ck_T_mk (List.mem_of_getElem? (i := 283) (by decide +kernel)) (by decide +kernel)⟩
theorem kC_type : Cond.code yC_type bC_type 1 (some .int) ∈ ck_T := ck_T_mk (List.mem_of_getElem? (i := 311) (by decide +kernel)) (by decide +kernel)
theorem sC_type : Cond.instanceMethod yC_type ∈ ck_T ∧ Cond.selects yC_type.cls yC_type yC_type ∈ ck_T := ⟨ck_T_mk (List.mem_of_getElem? (i := 309) (by decide +kernel)) (by decide +kernel), ck_T_mk (List.mem_of_getElem? (i := 310) (by decide +kernel)) (by decide +kernel)⟩
theorem kC_constructor : Cond.code yC_constructor bC_constructor 4 (some .int) ∈ ck_T := ck_T_mk (List.mem_of_getElem? (i := 323) (by decide +kernel)) (by decide +kernel)
theorem sC_constructor : Cond.instanceMethod yC_constructor ∈ ck_T ∧ Cond.selects yC_constructor.cls yC_constructor yC_constructor ∈ ck_T := ⟨ck_T_mk (List.mem_of_getElem? (i := 321) (by decide +kernel)) (by decide +kernel), ck_T_mk (List.mem_of_getElem? (i := 322) (by decide +kernel)) (by decide +kernel)⟩
theorem kC_begin : Cond.code yC_begin bC_begin 2 (some .int) ∈ ck_T := ck_T_mk (List.mem_of_getElem? (i := 347) (by decide +kernel)) (by decide +kernel)
theorem sC_begin : Cond.instanceMethod yC_begin ∈ ck_T ∧ Cond.selects yC_begin.cls yC_begin yC_begin ∈ ck_T := ⟨ck_T_mk (List.mem_of_getElem? (i := 345) (by decide +kernel)) (by decide +kernel), ck_T_mk (List.mem_of_getElem? (i := 346) (by decide +kernel)) (by decide +kernel)⟩
theorem kC_any : Cond.code yC_any bC_any 1 (some .int) ∈ ck_T := ck_T_mk (List.mem_of_getElem? (i := 367) (by decide +kernel)) (by decide +kernel)
theorem sC_any : Cond.instanceMethod yC_any ∈ ck_T ∧ Cond.selects yC_any.cls yC_any yC_any ∈ ck_T := ⟨ck_T_mk (List.mem_of_getElem? (i := 365) (by decide +kernel)) (by decide +kernel), ck_T_mk (List.mem_of_getElem? (i := 366) (by decide +kernel)) (by decide +kernel)⟩
theorem kC_number : Cond.code yC_number bC_number 2 (some .int) ∈ ck_T := ck_T_mk (List.mem_of_getElem? (i := 387) (by decide +kernel)) (by decide +kernel)
theorem sC_number : Cond.instanceMethod yC_number ∈ ck_T ∧ Cond.selects yC_number.cls yC_number yC_number ∈ ck_T := ⟨ck_T_mk (List.mem_of_getElem? (i := 385) (by decide +kernel)) (by decide +kernel), ck_T_mk (List.mem_of_getElem? (i := 386) (by decide +kernel)) (by decide +kernel)⟩
theorem kC_build : Cond.code yC_build bC_build 6 (some .int) ∈ ck_T := ck_T_mk (List.mem_of_getElem? (i := 395) (by decide +kernel)) (by decide +kernel)
theorem sC_build : Cond.instanceMethod yC_build ∈ ck_T ∧ Cond.selects yC_build.cls yC_build yC_build ∈ ck_T := ⟨ck_T_mk (List.mem_of_getElem? (i := 393) (by decide +kernel)) (by decide +kernel), ck_T_mk (List.mem_of_getElem? (i := 394) (by decide +kernel)) (by decide +kernel)⟩
theorem kC_either : Cond.code yC_either bC_either 3 (some .int) ∈ ck_T := ck_T_mk (List.mem_of_getElem? (i := 443) (by decide +kernel)) (by decide +kernel)
theorem sC_either : Cond.instanceMethod yC_either ∈ ck_T ∧ Cond.selects yC_either.cls yC_either yC_either ∈ ck_T := ⟨ck_T_mk (List.mem_of_getElem? (i := 441) (by decide +kernel)) (by decide +kernel), ck_T_mk (List.mem_of_getElem? (i := 442) (by decide +kernel)) (by decide +kernel)⟩
theorem kC_row : Cond.code yC_row bC_row 3 (some .int) ∈ ck_T := ck_T_mk (List.mem_of_getElem? (i := 456) (by decide +kernel)) (by decide +kernel)
theorem sC_row : Cond.instanceMethod yC_row ∈ ck_T ∧ Cond.selects yC_row.cls yC_row yC_row ∈ ck_T := ⟨ck_T_mk (List.mem_of_getElem? (i := 454) (by decide +kernel)) (by decide +kernel), ck_T_mk (List.mem_of_getElem? (i := 455) (by decide +kernel)) (by decide +kernel)⟩
theorem kC_compile : Cond.code yC_compile bC_compile 1 (some .int) ∈ ck_T := ck_T_mk (List.mem_of_getElem? (i := 495) (by decide +kernel)) (by decide +kernel)
theorem sC_compile : Cond.instanceMethod yC_compile ∈ ck_T ∧ Cond.selects yC_compile.cls yC_compile yC_compile ∈ ck_T := ⟨ck_T_mk (List.mem_of_getElem? (i := 493) (by decide +kernel)) (by decide +kernel), ck_T_mk (List.mem_of_getElem? (i := 494) (by decide +kernel)) (by decide +kernel)⟩
theorem kC_kinds : Cond.code yC_kinds bC_kinds 1 (some .int) ∈ ck_T := ck_T_mk (List.mem_of_getElem? (i := 638) (by decide +kernel)) (by decide +kernel)
theorem sC_kinds : Cond.instanceMethod yC_kinds ∈ ck_T ∧ Cond.selects yC_kinds.cls yC_kinds yC_kinds ∈ ck_T := ⟨ck_T_mk (List.mem_of_getElem? (i := 636) (by decide +kernel)) (by decide +kernel), ck_T_mk (List.mem_of_getElem? (i := 637) (by decide +kernel)) (by decide +kernel)⟩
theorem kC_longest : Cond.code yC_longest bC_longest 1 (some .int) ∈ ck_T := ck_T_mk (List.mem_of_getElem? (i := 654) (by decide +kernel)) (by decide +kernel)
theorem sC_longest : Cond.instanceMethod yC_longest ∈ ck_T ∧ Cond.selects yC_longest.cls yC_longest yC_longest ∈ ck_T := ⟨ck_T_mk (List.mem_of_getElem? (i := 652) (by decide +kernel)) (by decide +kernel), ck_T_mk (List.mem_of_getElem? (i := 653) (by decide +kernel)) (by decide +kernel)⟩
theorem kC_useless : Cond.code yC_useless bC_useless 2 (some .int) ∈ ck_T := ck_T_mk (List.mem_of_getElem? (i := 663) (by decide +kernel)) (by decide +kernel)
theorem sC_useless : Cond.instanceMethod yC_useless ∈ ck_T ∧ Cond.selects yC_useless.cls yC_useless yC_useless ∈ ck_T := ⟨ck_T_mk (List.mem_of_getElem? (i := 661) (by decide +kernel)) (by decide +kernel), ck_T_mk (List.mem_of_getElem? (i := 662) (by decide +kernel)) (by decide +kernel)⟩
theorem kC_witnessLength : Cond.code yC_witnessLength bC_witnessLength 1 (some .int) ∈ ck_T := ck_T_mk (List.mem_of_getElem? (i := 680) (by decide +kernel)) (by decide +kernel)
theorem sC_witnessLength : Cond.instanceMethod yC_witnessLength ∈ ck_T ∧ Cond.selects yC_witnessLength.cls yC_witnessLength yC_witnessLength ∈ ck_T := ⟨ck_T_mk (List.mem_of_getElem? (i := 678) (by decide +kernel)) (by decide +kernel), ck_T_mk (List.mem_of_getElem? (i := 679) (by decide +kernel)) (by decide +kernel)⟩
theorem kC_witnessKind : Cond.code yC_witnessKind bC_witnessKind 2 (some .int) ∈ ck_T := ck_T_mk (List.mem_of_getElem? (i := 688) (by decide +kernel)) (by decide +kernel)
theorem sC_witnessKind : Cond.instanceMethod yC_witnessKind ∈ ck_T ∧ Cond.selects yC_witnessKind.cls yC_witnessKind yC_witnessKind ∈ ck_T := ⟨ck_T_mk (List.mem_of_getElem? (i := 686) (by decide +kernel)) (by decide +kernel), ck_T_mk (List.mem_of_getElem? (i := 687) (by decide +kernel)) (by decide +kernel)⟩
theorem kC_witness : Cond.code yC_witness bC_witness 2 (some .int) ∈ ck_T := ck_T_mk (List.mem_of_getElem? (i := 701) (by decide +kernel)) (by decide +kernel)
theorem sC_witness : Cond.instanceMethod yC_witness ∈ ck_T ∧ Cond.selects yC_witness.cls yC_witness yC_witness ∈ ck_T := ⟨ck_T_mk (List.mem_of_getElem? (i := 699) (by decide +kernel)) (by decide +kernel), ck_T_mk (List.mem_of_getElem? (i := 700) (by decide +kernel)) (by decide +kernel)⟩
theorem kC_valueNumber : Cond.code yC_valueNumber bC_valueNumber 2 (some .int) ∈ ck_T := ck_T_mk (List.mem_of_getElem? (i := 709) (by decide +kernel)) (by decide +kernel)
theorem sC_valueNumber : Cond.instanceMethod yC_valueNumber ∈ ck_T ∧ Cond.selects yC_valueNumber.cls yC_valueNumber yC_valueNumber ∈ ck_T := ⟨ck_T_mk (List.mem_of_getElem? (i := 707) (by decide +kernel)) (by decide +kernel), ck_T_mk (List.mem_of_getElem? (i := 708) (by decide +kernel)) (by decide +kernel)⟩
theorem kC_valueOf : Cond.code yC_valueOf bC_valueOf 6 (some .int) ∈ ck_T := ck_T_mk (List.mem_of_getElem? (i := 721) (by decide +kernel)) (by decide +kernel)
theorem sC_valueOf : Cond.instanceMethod yC_valueOf ∈ ck_T ∧ Cond.selects yC_valueOf.cls yC_valueOf yC_valueOf ∈ ck_T := ⟨ck_T_mk (List.mem_of_getElem? (i := 719) (by decide +kernel)) (by decide +kernel), ck_T_mk (List.mem_of_getElem? (i := 720) (by decide +kernel)) (by decide +kernel)⟩
theorem kC_run : Cond.code yC_run bC_run 3 (some .int) ∈ ck_T := ck_T_mk (List.mem_of_getElem? (i := 735) (by decide +kernel)) (by decide +kernel)
theorem sC_run : Cond.instanceMethod yC_run ∈ ck_T ∧ Cond.selects yC_run.cls yC_run yC_run ∈ ck_T := ⟨ck_T_mk (List.mem_of_getElem? (i := 733) (by decide +kernel)) (by decide +kernel), ck_T_mk (List.mem_of_getElem? (i := 734) (by decide +kernel)) (by decide +kernel)⟩
theorem kC_tests : Cond.code yC_tests bC_tests 1 (some .int) ∈ ck_T := ck_T_mk (List.mem_of_getElem? (i := 768) (by decide +kernel)) (by decide +kernel)
theorem sC_tests : Cond.instanceMethod yC_tests ∈ ck_T ∧ Cond.selects yC_tests.cls yC_tests yC_tests ∈ ck_T := ⟨ck_T_mk (List.mem_of_getElem? (i := 766) (by decide +kernel)) (by decide +kernel), ck_T_mk (List.mem_of_getElem? (i := 767) (by decide +kernel)) (by decide +kernel)⟩
theorem kC_standsFor : Cond.code yC_standsFor bC_standsFor 3 (some .boolean) ∈ ck_T := ck_T_mk (List.mem_of_getElem? (i := 412) (by decide +kernel)) (by decide +kernel)
theorem sC_standsFor : Cond.static yC_standsFor ∈ ck_T := ck_T_mk (List.mem_of_getElem? (i := 411) (by decide +kernel)) (by decide +kernel)
theorem kR_clear : Cond.code yR_clear bR_clear 1 none ∈ ck_T := ck_T_mk (List.mem_of_getElem? (i := 920) (by decide +kernel)) (by decide +kernel)
theorem sR_clear : Cond.instanceMethod yR_clear ∈ ck_T ∧ Cond.selects yR_clear.cls yR_clear yR_clear ∈ ck_T := ⟨ck_T_mk (List.mem_of_getElem? (i := 918) (by decide +kernel)) (by decide +kernel), ck_T_mk (List.mem_of_getElem? (i := 919) (by decide +kernel)) (by decide +kernel)⟩
theorem kR_type : Cond.code yR_type bR_type 1 (some .int) ∈ ck_T := ck_T_mk (List.mem_of_getElem? (i := 924) (by decide +kernel)) (by decide +kernel)
theorem sR_type : Cond.instanceMethod yR_type ∈ ck_T ∧ Cond.selects yR_type.cls yR_type yR_type ∈ ck_T := ⟨ck_T_mk (List.mem_of_getElem? (i := 922) (by decide +kernel)) (by decide +kernel), ck_T_mk (List.mem_of_getElem? (i := 923) (by decide +kernel)) (by decide +kernel)⟩
theorem kR_isType : Cond.code yR_isType bR_isType 2 (some .boolean) ∈ ck_T := ck_T_mk (List.mem_of_getElem? (i := 932) (by decide +kernel)) (by decide +kernel)
theorem sR_isType : Cond.instanceMethod yR_isType ∈ ck_T ∧ Cond.selects yR_isType.cls yR_isType yR_isType ∈ ck_T := ⟨ck_T_mk (List.mem_of_getElem? (i := 931) (by decide +kernel)) (by decide +kernel), ck_T_mk (List.mem_of_getElem? (i := 18) (by decide +kernel)) (by decide +kernel)⟩
theorem kR_constructorsOf : Cond.code yR_constructorsOf bR_constructorsOf 4 (some .int) ∈ ck_T := ck_T_mk (List.mem_of_getElem? (i := 936) (by decide +kernel)) (by decide +kernel)
theorem sR_constructorsOf : Cond.instanceMethod yR_constructorsOf ∈ ck_T ∧ Cond.selects yR_constructorsOf.cls yR_constructorsOf yR_constructorsOf ∈ ck_T := ⟨ck_T_mk (List.mem_of_getElem? (i := 935) (by decide +kernel)) (by decide +kernel), ck_T_mk (List.mem_of_getElem? (i := 19) (by decide +kernel)) (by decide +kernel)⟩
theorem kR_constructor : Cond.code yR_constructor bR_constructor 4 (some .int) ∈ ck_T := ck_T_mk (List.mem_of_getElem? (i := 928) (by decide +kernel)) (by decide +kernel)
theorem sR_constructor : Cond.instanceMethod yR_constructor ∈ ck_T ∧ Cond.selects yR_constructor.cls yR_constructor yR_constructor ∈ ck_T := ⟨ck_T_mk (List.mem_of_getElem? (i := 926) (by decide +kernel)) (by decide +kernel), ck_T_mk (List.mem_of_getElem? (i := 927) (by decide +kernel)) (by decide +kernel)⟩
theorem kR_inhabited : Cond.code yR_inhabited bR_inhabited 6 (some .boolean) ∈ ck_T := ck_T_mk (List.mem_of_getElem? (i := 944) (by decide +kernel)) (by decide +kernel)
theorem sR_inhabited : Cond.instanceMethod yR_inhabited ∈ ck_T ∧ Cond.selects yR_inhabited.cls yR_inhabited yR_inhabited ∈ ck_T := ⟨ck_T_mk (List.mem_of_getElem? (i := 943) (by decide +kernel)) (by decide +kernel), ck_T_mk (List.mem_of_getElem? (i := 20) (by decide +kernel)) (by decide +kernel)⟩
theorem kR_begin : Cond.code yR_begin bR_begin 2 (some .int) ∈ ck_T := ck_T_mk (List.mem_of_getElem? (i := 940) (by decide +kernel)) (by decide +kernel)
theorem sR_begin : Cond.instanceMethod yR_begin ∈ ck_T ∧ Cond.selects yR_begin.cls yR_begin yR_begin ∈ ck_T := ⟨ck_T_mk (List.mem_of_getElem? (i := 938) (by decide +kernel)) (by decide +kernel), ck_T_mk (List.mem_of_getElem? (i := 939) (by decide +kernel)) (by decide +kernel)⟩
theorem kR_isPattern : Cond.code yR_isPattern bR_isPattern 2 (some .boolean) ∈ ck_T := ck_T_mk (List.mem_of_getElem? (i := 964) (by decide +kernel)) (by decide +kernel)
theorem sR_isPattern : Cond.instanceMethod yR_isPattern ∈ ck_T ∧ Cond.selects yR_isPattern.cls yR_isPattern yR_isPattern ∈ ck_T := ⟨ck_T_mk (List.mem_of_getElem? (i := 963) (by decide +kernel)) (by decide +kernel), ck_T_mk (List.mem_of_getElem? (i := 22) (by decide +kernel)) (by decide +kernel)⟩
theorem kR_fitsType : Cond.code yR_fitsType bR_fitsType 3 (some .boolean) ∈ ck_T := ck_T_mk (List.mem_of_getElem? (i := 968) (by decide +kernel)) (by decide +kernel)
theorem sR_fitsType : Cond.instanceMethod yR_fitsType ∈ ck_T ∧ Cond.selects yR_fitsType.cls yR_fitsType yR_fitsType ∈ ck_T := ⟨ck_T_mk (List.mem_of_getElem? (i := 967) (by decide +kernel)) (by decide +kernel), ck_T_mk (List.mem_of_getElem? (i := 23) (by decide +kernel)) (by decide +kernel)⟩
theorem kR_pattern : Cond.code yR_pattern bR_pattern 8 (some .int) ∈ ck_T := ck_T_mk (List.mem_of_getElem? (i := 952) (by decide +kernel)) (by decide +kernel)
theorem sR_pattern : Cond.instanceMethod yR_pattern ∈ ck_T ∧ Cond.selects yR_pattern.cls yR_pattern yR_pattern ∈ ck_T := ⟨ck_T_mk (List.mem_of_getElem? (i := 951) (by decide +kernel)) (by decide +kernel), ck_T_mk (List.mem_of_getElem? (i := 21) (by decide +kernel)) (by decide +kernel)⟩
theorem kR_any : Cond.code yR_any bR_any 1 (some .int) ∈ ck_T := ck_T_mk (List.mem_of_getElem? (i := 948) (by decide +kernel)) (by decide +kernel)
theorem sR_any : Cond.instanceMethod yR_any ∈ ck_T ∧ Cond.selects yR_any.cls yR_any yR_any ∈ ck_T := ⟨ck_T_mk (List.mem_of_getElem? (i := 946) (by decide +kernel)) (by decide +kernel), ck_T_mk (List.mem_of_getElem? (i := 947) (by decide +kernel)) (by decide +kernel)⟩
theorem kR_number : Cond.code yR_number bR_number 2 (some .int) ∈ ck_T := ck_T_mk (List.mem_of_getElem? (i := 956) (by decide +kernel)) (by decide +kernel)
theorem sR_number : Cond.instanceMethod yR_number ∈ ck_T ∧ Cond.selects yR_number.cls yR_number yR_number ∈ ck_T := ⟨ck_T_mk (List.mem_of_getElem? (i := 954) (by decide +kernel)) (by decide +kernel), ck_T_mk (List.mem_of_getElem? (i := 955) (by decide +kernel)) (by decide +kernel)⟩
theorem kR_build : Cond.code yR_build bR_build 8 (some .int) ∈ ck_T := ck_T_mk (List.mem_of_getElem? (i := 960) (by decide +kernel)) (by decide +kernel)
theorem sR_build : Cond.instanceMethod yR_build ∈ ck_T ∧ Cond.selects yR_build.cls yR_build yR_build ∈ ck_T := ⟨ck_T_mk (List.mem_of_getElem? (i := 958) (by decide +kernel)) (by decide +kernel), ck_T_mk (List.mem_of_getElem? (i := 959) (by decide +kernel)) (by decide +kernel)⟩
theorem kR_either : Cond.code yR_either bR_either 6 (some .int) ∈ ck_T := ck_T_mk (List.mem_of_getElem? (i := 972) (by decide +kernel)) (by decide +kernel)
theorem sR_either : Cond.instanceMethod yR_either ∈ ck_T ∧ Cond.selects yR_either.cls yR_either yR_either ∈ ck_T := ⟨ck_T_mk (List.mem_of_getElem? (i := 970) (by decide +kernel)) (by decide +kernel), ck_T_mk (List.mem_of_getElem? (i := 971) (by decide +kernel)) (by decide +kernel)⟩
theorem kR_row : Cond.code yR_row bR_row 3 (some .int) ∈ ck_T := ck_T_mk (List.mem_of_getElem? (i := 976) (by decide +kernel)) (by decide +kernel)
theorem sR_row : Cond.instanceMethod yR_row ∈ ck_T ∧ Cond.selects yR_row.cls yR_row yR_row ∈ ck_T := ⟨ck_T_mk (List.mem_of_getElem? (i := 974) (by decide +kernel)) (by decide +kernel), ck_T_mk (List.mem_of_getElem? (i := 975) (by decide +kernel)) (by decide +kernel)⟩
theorem kR_writeOut : Cond.code yR_writeOut bR_writeOut 5 none ∈ ck_T := ck_T_mk (List.mem_of_getElem? (i := 980) (by decide +kernel)) (by decide +kernel)
theorem sR_writeOut : Cond.instanceMethod yR_writeOut ∈ ck_T ∧ Cond.selects yR_writeOut.cls yR_writeOut yR_writeOut ∈ ck_T := ⟨ck_T_mk (List.mem_of_getElem? (i := 979) (by decide +kernel)) (by decide +kernel), ck_T_mk (List.mem_of_getElem? (i := 24) (by decide +kernel)) (by decide +kernel)⟩
theorem kR_writeOne : Cond.code yR_writeOne bR_writeOne 7 (some .int) ∈ ck_T := ck_T_mk (List.mem_of_getElem? (i := 984) (by decide +kernel)) (by decide +kernel)
theorem sR_writeOne : Cond.instanceMethod yR_writeOne ∈ ck_T ∧ Cond.selects yR_writeOne.cls yR_writeOne yR_writeOne ∈ ck_T := ⟨ck_T_mk (List.mem_of_getElem? (i := 983) (by decide +kernel)) (by decide +kernel), ck_T_mk (List.mem_of_getElem? (i := 25) (by decide +kernel)) (by decide +kernel)⟩
theorem kR_lowest : Cond.code yR_lowest bR_lowest 2 (some .int) ∈ ck_T := ck_T_mk (List.mem_of_getElem? (i := 999) (by decide +kernel)) (by decide +kernel)
theorem sR_lowest : Cond.static yR_lowest ∈ ck_T := ck_T_mk (List.mem_of_getElem? (i := 998) (by decide +kernel)) (by decide +kernel)
theorem kR_askers : Cond.code yR_askers bR_askers 5 (some .int) ∈ ck_T := ck_T_mk (List.mem_of_getElem? (i := 1003) (by decide +kernel)) (by decide +kernel)
theorem sR_askers : Cond.instanceMethod yR_askers ∈ ck_T ∧ Cond.selects yR_askers.cls yR_askers yR_askers ∈ ck_T := ⟨ck_T_mk (List.mem_of_getElem? (i := 1002) (by decide +kernel)) (by decide +kernel), ck_T_mk (List.mem_of_getElem? (i := 28) (by decide +kernel)) (by decide +kernel)⟩
theorem kR_choose : Cond.code yR_choose bR_choose 7 (some .int) ∈ ck_T := ck_T_mk (List.mem_of_getElem? (i := 996) (by decide +kernel)) (by decide +kernel)
theorem sR_choose : Cond.instanceMethod yR_choose ∈ ck_T ∧ Cond.selects yR_choose.cls yR_choose yR_choose ∈ ck_T := ⟨ck_T_mk (List.mem_of_getElem? (i := 995) (by decide +kernel)) (by decide +kernel), ck_T_mk (List.mem_of_getElem? (i := 27) (by decide +kernel)) (by decide +kernel)⟩
theorem kR_keep : Cond.code yR_keep bR_keep 8 (some .int) ∈ ck_T := ck_T_mk (List.mem_of_getElem? (i := 1017) (by decide +kernel)) (by decide +kernel)
theorem sR_keep : Cond.instanceMethod yR_keep ∈ ck_T ∧ Cond.selects yR_keep.cls yR_keep yR_keep ∈ ck_T := ⟨ck_T_mk (List.mem_of_getElem? (i := 1016) (by decide +kernel)) (by decide +kernel), ck_T_mk (List.mem_of_getElem? (i := 31) (by decide +kernel)) (by decide +kernel)⟩
theorem kR_branch : Cond.code yR_branch bR_branch 5 none ∈ ck_T := ck_T_mk (List.mem_of_getElem? (i := 1013) (by decide +kernel)) (by decide +kernel)
theorem sR_branch : Cond.instanceMethod yR_branch ∈ ck_T ∧ Cond.selects yR_branch.cls yR_branch yR_branch ∈ ck_T := ⟨ck_T_mk (List.mem_of_getElem? (i := 1012) (by decide +kernel)) (by decide +kernel), ck_T_mk (List.mem_of_getElem? (i := 30) (by decide +kernel)) (by decide +kernel)⟩
theorem kR_grow : Cond.code yR_grow bR_grow 7 none ∈ ck_T := ck_T_mk (List.mem_of_getElem? (i := 992) (by decide +kernel)) (by decide +kernel)
theorem sR_grow : Cond.instanceMethod yR_grow ∈ ck_T ∧ Cond.selects yR_grow.cls yR_grow yR_grow ∈ ck_T := ⟨ck_T_mk (List.mem_of_getElem? (i := 991) (by decide +kernel)) (by decide +kernel), ck_T_mk (List.mem_of_getElem? (i := 26) (by decide +kernel)) (by decide +kernel)⟩
theorem kR_growNumbers : Cond.code yR_growNumbers bR_growNumbers 11 none ∈ ck_T := ck_T_mk (List.mem_of_getElem? (i := 1007) (by decide +kernel)) (by decide +kernel)
theorem sR_growNumbers : Cond.instanceMethod yR_growNumbers ∈ ck_T ∧ Cond.selects yR_growNumbers.cls yR_growNumbers yR_growNumbers ∈ ck_T := ⟨ck_T_mk (List.mem_of_getElem? (i := 1006) (by decide +kernel)) (by decide +kernel), ck_T_mk (List.mem_of_getElem? (i := 29) (by decide +kernel)) (by decide +kernel)⟩
theorem kR_compile : Cond.code yR_compile bR_compile 2 (some .int) ∈ ck_T := ck_T_mk (List.mem_of_getElem? (i := 988) (by decide +kernel)) (by decide +kernel)
theorem sR_compile : Cond.instanceMethod yR_compile ∈ ck_T ∧ Cond.selects yR_compile.cls yR_compile yR_compile ∈ ck_T := ⟨ck_T_mk (List.mem_of_getElem? (i := 986) (by decide +kernel)) (by decide +kernel), ck_T_mk (List.mem_of_getElem? (i := 987) (by decide +kernel)) (by decide +kernel)⟩
theorem kR_alike : Cond.code yR_alike bR_alike 6 (some .boolean) ∈ ck_T := ck_T_mk (List.mem_of_getElem? (i := 1037) (by decide +kernel)) (by decide +kernel)
theorem sR_alike : Cond.instanceMethod yR_alike ∈ ck_T ∧ Cond.selects yR_alike.cls yR_alike yR_alike ∈ ck_T := ⟨ck_T_mk (List.mem_of_getElem? (i := 1036) (by decide +kernel)) (by decide +kernel), ck_T_mk (List.mem_of_getElem? (i := 35) (by decide +kernel)) (by decide +kernel)⟩
theorem kR_kinds : Cond.code yR_kinds bR_kinds 4 (some .int) ∈ ck_T := ck_T_mk (List.mem_of_getElem? (i := 1033) (by decide +kernel)) (by decide +kernel)
theorem sR_kinds : Cond.instanceMethod yR_kinds ∈ ck_T ∧ Cond.selects yR_kinds.cls yR_kinds yR_kinds ∈ ck_T := ⟨ck_T_mk (List.mem_of_getElem? (i := 1031) (by decide +kernel)) (by decide +kernel), ck_T_mk (List.mem_of_getElem? (i := 1032) (by decide +kernel)) (by decide +kernel)⟩
theorem kR_longest : Cond.code yR_longest bR_longest 4 (some .int) ∈ ck_T := ck_T_mk (List.mem_of_getElem? (i := 1041) (by decide +kernel)) (by decide +kernel)
theorem sR_longest : Cond.instanceMethod yR_longest ∈ ck_T ∧ Cond.selects yR_longest.cls yR_longest yR_longest ∈ ck_T := ⟨ck_T_mk (List.mem_of_getElem? (i := 1039) (by decide +kernel)) (by decide +kernel), ck_T_mk (List.mem_of_getElem? (i := 1040) (by decide +kernel)) (by decide +kernel)⟩
theorem kR_useless : Cond.code yR_useless bR_useless 6 (some .int) ∈ ck_T := ck_T_mk (List.mem_of_getElem? (i := 1045) (by decide +kernel)) (by decide +kernel)
theorem sR_useless : Cond.instanceMethod yR_useless ∈ ck_T ∧ Cond.selects yR_useless.cls yR_useless yR_useless ∈ ck_T := ⟨ck_T_mk (List.mem_of_getElem? (i := 1043) (by decide +kernel)) (by decide +kernel), ck_T_mk (List.mem_of_getElem? (i := 1044) (by decide +kernel)) (by decide +kernel)⟩
theorem kR_hasBranch : Cond.code yR_hasBranch bR_hasBranch 5 (some .boolean) ∈ ck_T := ck_T_mk (List.mem_of_getElem? (i := 1025) (by decide +kernel)) (by decide +kernel)
theorem sR_hasBranch : Cond.instanceMethod yR_hasBranch ∈ ck_T ∧ Cond.selects yR_hasBranch.cls yR_hasBranch yR_hasBranch ∈ ck_T := ⟨ck_T_mk (List.mem_of_getElem? (i := 1024) (by decide +kernel)) (by decide +kernel), ck_T_mk (List.mem_of_getElem? (i := 33) (by decide +kernel)) (by decide +kernel)⟩
theorem kR_findWitness : Cond.code yR_findWitness bR_findWitness 4 none ∈ ck_T := ck_T_mk (List.mem_of_getElem? (i := 1021) (by decide +kernel)) (by decide +kernel)
theorem sR_findWitness : Cond.instanceMethod yR_findWitness ∈ ck_T ∧ Cond.selects yR_findWitness.cls yR_findWitness yR_findWitness ∈ ck_T := ⟨ck_T_mk (List.mem_of_getElem? (i := 1020) (by decide +kernel)) (by decide +kernel), ck_T_mk (List.mem_of_getElem? (i := 32) (by decide +kernel)) (by decide +kernel)⟩
theorem kR_writeWitness : Cond.code yR_writeWitness bR_writeWitness 5 none ∈ ck_T := ck_T_mk (List.mem_of_getElem? (i := 1029) (by decide +kernel)) (by decide +kernel)
theorem sR_writeWitness : Cond.instanceMethod yR_writeWitness ∈ ck_T ∧ Cond.selects yR_writeWitness.cls yR_writeWitness yR_writeWitness ∈ ck_T := ⟨ck_T_mk (List.mem_of_getElem? (i := 1028) (by decide +kernel)) (by decide +kernel), ck_T_mk (List.mem_of_getElem? (i := 34) (by decide +kernel)) (by decide +kernel)⟩
theorem kR_witnessLength : Cond.code yR_witnessLength bR_witnessLength 1 (some .int) ∈ ck_T := ck_T_mk (List.mem_of_getElem? (i := 1049) (by decide +kernel)) (by decide +kernel)
theorem sR_witnessLength : Cond.instanceMethod yR_witnessLength ∈ ck_T ∧ Cond.selects yR_witnessLength.cls yR_witnessLength yR_witnessLength ∈ ck_T := ⟨ck_T_mk (List.mem_of_getElem? (i := 1047) (by decide +kernel)) (by decide +kernel), ck_T_mk (List.mem_of_getElem? (i := 1048) (by decide +kernel)) (by decide +kernel)⟩
theorem kR_witnessKind : Cond.code yR_witnessKind bR_witnessKind 2 (some .int) ∈ ck_T := ck_T_mk (List.mem_of_getElem? (i := 1053) (by decide +kernel)) (by decide +kernel)
theorem sR_witnessKind : Cond.instanceMethod yR_witnessKind ∈ ck_T ∧ Cond.selects yR_witnessKind.cls yR_witnessKind yR_witnessKind ∈ ck_T := ⟨ck_T_mk (List.mem_of_getElem? (i := 1051) (by decide +kernel)) (by decide +kernel), ck_T_mk (List.mem_of_getElem? (i := 1052) (by decide +kernel)) (by decide +kernel)⟩
theorem kR_witness : Cond.code yR_witness bR_witness 2 (some .int) ∈ ck_T := ck_T_mk (List.mem_of_getElem? (i := 1057) (by decide +kernel)) (by decide +kernel)
theorem sR_witness : Cond.instanceMethod yR_witness ∈ ck_T ∧ Cond.selects yR_witness.cls yR_witness yR_witness ∈ ck_T := ⟨ck_T_mk (List.mem_of_getElem? (i := 1055) (by decide +kernel)) (by decide +kernel), ck_T_mk (List.mem_of_getElem? (i := 1056) (by decide +kernel)) (by decide +kernel)⟩
theorem kR_isValue : Cond.code yR_isValue bR_isValue 2 (some .boolean) ∈ ck_T := ck_T_mk (List.mem_of_getElem? (i := 1073) (by decide +kernel)) (by decide +kernel)
theorem sR_isValue : Cond.instanceMethod yR_isValue ∈ ck_T ∧ Cond.selects yR_isValue.cls yR_isValue yR_isValue ∈ ck_T := ⟨ck_T_mk (List.mem_of_getElem? (i := 1072) (by decide +kernel)) (by decide +kernel), ck_T_mk (List.mem_of_getElem? (i := 37) (by decide +kernel)) (by decide +kernel)⟩
theorem kR_typeOf : Cond.code yR_typeOf bR_typeOf 2 (some .int) ∈ ck_T := ck_T_mk (List.mem_of_getElem? (i := 1077) (by decide +kernel)) (by decide +kernel)
theorem sR_typeOf : Cond.instanceMethod yR_typeOf ∈ ck_T ∧ Cond.selects yR_typeOf.cls yR_typeOf yR_typeOf ∈ ck_T := ⟨ck_T_mk (List.mem_of_getElem? (i := 1076) (by decide +kernel)) (by decide +kernel), ck_T_mk (List.mem_of_getElem? (i := 38) (by decide +kernel)) (by decide +kernel)⟩
theorem kR_value : Cond.code yR_value bR_value 5 (some .int) ∈ ck_T := ck_T_mk (List.mem_of_getElem? (i := 1065) (by decide +kernel)) (by decide +kernel)
theorem sR_value : Cond.instanceMethod yR_value ∈ ck_T ∧ Cond.selects yR_value.cls yR_value yR_value ∈ ck_T := ⟨ck_T_mk (List.mem_of_getElem? (i := 1064) (by decide +kernel)) (by decide +kernel), ck_T_mk (List.mem_of_getElem? (i := 36) (by decide +kernel)) (by decide +kernel)⟩
theorem kR_valueNumber : Cond.code yR_valueNumber bR_valueNumber 2 (some .int) ∈ ck_T := ck_T_mk (List.mem_of_getElem? (i := 1061) (by decide +kernel)) (by decide +kernel)
theorem sR_valueNumber : Cond.instanceMethod yR_valueNumber ∈ ck_T ∧ Cond.selects yR_valueNumber.cls yR_valueNumber yR_valueNumber ∈ ck_T := ⟨ck_T_mk (List.mem_of_getElem? (i := 1059) (by decide +kernel)) (by decide +kernel), ck_T_mk (List.mem_of_getElem? (i := 1060) (by decide +kernel)) (by decide +kernel)⟩
theorem kR_valueOf : Cond.code yR_valueOf bR_valueOf 6 (some .int) ∈ ck_T := ck_T_mk (List.mem_of_getElem? (i := 1069) (by decide +kernel)) (by decide +kernel)
theorem sR_valueOf : Cond.instanceMethod yR_valueOf ∈ ck_T ∧ Cond.selects yR_valueOf.cls yR_valueOf yR_valueOf ∈ ck_T := ⟨ck_T_mk (List.mem_of_getElem? (i := 1067) (by decide +kernel)) (by decide +kernel), ck_T_mk (List.mem_of_getElem? (i := 1068) (by decide +kernel)) (by decide +kernel)⟩
theorem kR_part : Cond.code yR_part bR_part 6 (some .int) ∈ ck_T := ck_T_mk (List.mem_of_getElem? (i := 1089) (by decide +kernel)) (by decide +kernel)
theorem sR_part : Cond.instanceMethod yR_part ∈ ck_T ∧ Cond.selects yR_part.cls yR_part yR_part ∈ ck_T := ⟨ck_T_mk (List.mem_of_getElem? (i := 1088) (by decide +kernel)) (by decide +kernel), ck_T_mk (List.mem_of_getElem? (i := 40) (by decide +kernel)) (by decide +kernel)⟩
theorem kR_fits : Cond.code yR_fits bR_fits 5 (some .boolean) ∈ ck_T := ck_T_mk (List.mem_of_getElem? (i := 1093) (by decide +kernel)) (by decide +kernel)
theorem sR_fits : Cond.instanceMethod yR_fits ∈ ck_T ∧ Cond.selects yR_fits.cls yR_fits yR_fits ∈ ck_T := ⟨ck_T_mk (List.mem_of_getElem? (i := 1092) (by decide +kernel)) (by decide +kernel), ck_T_mk (List.mem_of_getElem? (i := 41) (by decide +kernel)) (by decide +kernel)⟩
theorem kR_walk : Cond.code yR_walk bR_walk 6 (some .int) ∈ ck_T := ck_T_mk (List.mem_of_getElem? (i := 1085) (by decide +kernel)) (by decide +kernel)
theorem sR_walk : Cond.instanceMethod yR_walk ∈ ck_T ∧ Cond.selects yR_walk.cls yR_walk yR_walk ∈ ck_T := ⟨ck_T_mk (List.mem_of_getElem? (i := 1084) (by decide +kernel)) (by decide +kernel), ck_T_mk (List.mem_of_getElem? (i := 39) (by decide +kernel)) (by decide +kernel)⟩
theorem kR_run : Cond.code yR_run bR_run 3 (some .int) ∈ ck_T := ck_T_mk (List.mem_of_getElem? (i := 1081) (by decide +kernel)) (by decide +kernel)
theorem sR_run : Cond.instanceMethod yR_run ∈ ck_T ∧ Cond.selects yR_run.cls yR_run yR_run ∈ ck_T := ⟨ck_T_mk (List.mem_of_getElem? (i := 1079) (by decide +kernel)) (by decide +kernel), ck_T_mk (List.mem_of_getElem? (i := 1080) (by decide +kernel)) (by decide +kernel)⟩
theorem kR_tests : Cond.code yR_tests bR_tests 1 (some .int) ∈ ck_T := ck_T_mk (List.mem_of_getElem? (i := 1097) (by decide +kernel)) (by decide +kernel)
theorem sR_tests : Cond.instanceMethod yR_tests ∈ ck_T ∧ Cond.selects yR_tests.cls yR_tests yR_tests ∈ ck_T := ⟨ck_T_mk (List.mem_of_getElem? (i := 1095) (by decide +kernel)) (by decide +kernel), ck_T_mk (List.mem_of_getElem? (i := 1096) (by decide +kernel)) (by decide +kernel)⟩
theorem kD_reset : Cond.code yD_reset bD_reset 1 none ∈ ck_T := ck_T_mk (List.mem_of_getElem? (i := 288) (by decide +kernel)) (by decide +kernel)
theorem sD_reset : Cond.instanceMethod yD_reset ∈ ck_T ∧ Cond.selects yD_reset.cls yD_reset yD_reset ∈ ck_T := ⟨ck_T_mk (List.mem_of_getElem? (i := 286) (by decide +kernel)) (by decide +kernel), ck_T_mk (List.mem_of_getElem? (i := 287) (by decide +kernel)) (by decide +kernel)⟩
theorem kD_addType : Cond.code yD_addType bD_addType 1 (some .int) ∈ ck_T := ck_T_mk (List.mem_of_getElem? (i := 319) (by decide +kernel)) (by decide +kernel)
theorem sD_addType : Cond.instanceMethod yD_addType ∈ ck_T ∧ Cond.selects yD_addType.cls yD_addType yD_addType ∈ ck_T := ⟨ck_T_mk (List.mem_of_getElem? (i := 317) (by decide +kernel)) (by decide +kernel), ck_T_mk (List.mem_of_getElem? (i := 318) (by decide +kernel)) (by decide +kernel)⟩
theorem kD_addConstructor : Cond.code yD_addConstructor bD_addConstructor 5 (some .int) ∈ ck_T := ck_T_mk (List.mem_of_getElem? (i := 339) (by decide +kernel)) (by decide +kernel)
theorem sD_addConstructor : Cond.instanceMethod yD_addConstructor ∈ ck_T ∧ Cond.selects yD_addConstructor.cls yD_addConstructor yD_addConstructor ∈ ck_T := ⟨ck_T_mk (List.mem_of_getElem? (i := 337) (by decide +kernel)) (by decide +kernel), ck_T_mk (List.mem_of_getElem? (i := 338) (by decide +kernel)) (by decide +kernel)⟩
theorem kD_countOfType : Cond.code yD_countOfType bD_countOfType 4 (some .int) ∈ ck_T := ck_T_mk (List.mem_of_getElem? (i := 343) (by decide +kernel)) (by decide +kernel)
theorem sD_countOfType : Cond.instanceMethod yD_countOfType ∈ ck_T ∧ Cond.selects yD_countOfType.cls yD_countOfType yD_countOfType ∈ ck_T := ⟨ck_T_mk (List.mem_of_getElem? (i := 342) (by decide +kernel)) (by decide +kernel), ck_T_mk (List.mem_of_getElem? (i := 0) (by decide +kernel)) (by decide +kernel)⟩
theorem kD_isType : Cond.code yD_isType bD_isType 2 (some .boolean) ∈ ck_T := ck_T_mk (List.mem_of_getElem? (i := 335) (by decide +kernel)) (by decide +kernel)
theorem sD_isType : Cond.instanceMethod yD_isType ∈ ck_T ∧ Cond.selects yD_isType.cls yD_isType yD_isType ∈ ck_T := ⟨ck_T_mk (List.mem_of_getElem? (i := 333) (by decide +kernel)) (by decide +kernel), ck_T_mk (List.mem_of_getElem? (i := 334) (by decide +kernel)) (by decide +kernel)⟩
theorem kD_isOwnType : Cond.code yD_isOwnType bD_isOwnType 2 (some .boolean) ∈ ck_T := ck_T_mk (List.mem_of_getElem? (i := 327) (by decide +kernel)) (by decide +kernel)
theorem sD_isOwnType : Cond.instanceMethod yD_isOwnType ∈ ck_T ∧ Cond.selects yD_isOwnType.cls yD_isOwnType yD_isOwnType ∈ ck_T := ⟨ck_T_mk (List.mem_of_getElem? (i := 325) (by decide +kernel)) (by decide +kernel), ck_T_mk (List.mem_of_getElem? (i := 326) (by decide +kernel)) (by decide +kernel)⟩
theorem kD_canBeArguments : Cond.code yD_canBeArguments bD_canBeArguments 3 (some .boolean) ∈ ck_T := ck_T_mk (List.mem_of_getElem? (i := 331) (by decide +kernel)) (by decide +kernel)
theorem sD_canBeArguments : Cond.instanceMethod yD_canBeArguments ∈ ck_T ∧ Cond.selects yD_canBeArguments.cls yD_canBeArguments yD_canBeArguments ∈ ck_T := ⟨ck_T_mk (List.mem_of_getElem? (i := 329) (by decide +kernel)) (by decide +kernel), ck_T_mk (List.mem_of_getElem? (i := 330) (by decide +kernel)) (by decide +kernel)⟩
theorem kD_isConstructor : Cond.code yD_isConstructor bD_isConstructor 2 (some .boolean) ∈ ck_T := ck_T_mk (List.mem_of_getElem? (i := 399) (by decide +kernel)) (by decide +kernel)
theorem sD_isConstructor : Cond.instanceMethod yD_isConstructor ∈ ck_T ∧ Cond.selects yD_isConstructor.cls yD_isConstructor yD_isConstructor ∈ ck_T := ⟨ck_T_mk (List.mem_of_getElem? (i := 397) (by decide +kernel)) (by decide +kernel), ck_T_mk (List.mem_of_getElem? (i := 398) (by decide +kernel)) (by decide +kernel)⟩
theorem kD_constructorCount : Cond.code yD_constructorCount bD_constructorCount 1 (some .int) ∈ ck_T := ck_T_mk (List.mem_of_getElem? (i := 562) (by decide +kernel)) (by decide +kernel)
theorem sD_constructorCount : Cond.instanceMethod yD_constructorCount ∈ ck_T ∧ Cond.selects yD_constructorCount.cls yD_constructorCount yD_constructorCount ∈ ck_T := ⟨ck_T_mk (List.mem_of_getElem? (i := 560) (by decide +kernel)) (by decide +kernel), ck_T_mk (List.mem_of_getElem? (i := 561) (by decide +kernel)) (by decide +kernel)⟩
theorem kD_ownerOf : Cond.code yD_ownerOf bD_ownerOf 2 (some .int) ∈ ck_T := ck_T_mk (List.mem_of_getElem? (i := 424) (by decide +kernel)) (by decide +kernel)
theorem sD_ownerOf : Cond.instanceMethod yD_ownerOf ∈ ck_T ∧ Cond.selects yD_ownerOf.cls yD_ownerOf yD_ownerOf ∈ ck_T := ⟨ck_T_mk (List.mem_of_getElem? (i := 422) (by decide +kernel)) (by decide +kernel), ck_T_mk (List.mem_of_getElem? (i := 423) (by decide +kernel)) (by decide +kernel)⟩
theorem kD_firstTypeOf : Cond.code yD_firstTypeOf bD_firstTypeOf 2 (some .int) ∈ ck_T := ck_T_mk (List.mem_of_getElem? (i := 403) (by decide +kernel)) (by decide +kernel)
theorem sD_firstTypeOf : Cond.instanceMethod yD_firstTypeOf ∈ ck_T ∧ Cond.selects yD_firstTypeOf.cls yD_firstTypeOf yD_firstTypeOf ∈ ck_T := ⟨ck_T_mk (List.mem_of_getElem? (i := 401) (by decide +kernel)) (by decide +kernel), ck_T_mk (List.mem_of_getElem? (i := 402) (by decide +kernel)) (by decide +kernel)⟩
theorem kD_secondTypeOf : Cond.code yD_secondTypeOf bD_secondTypeOf 2 (some .int) ∈ ck_T := ck_T_mk (List.mem_of_getElem? (i := 408) (by decide +kernel)) (by decide +kernel)
theorem sD_secondTypeOf : Cond.instanceMethod yD_secondTypeOf ∈ ck_T ∧ Cond.selects yD_secondTypeOf.cls yD_secondTypeOf yD_secondTypeOf ∈ ck_T := ⟨ck_T_mk (List.mem_of_getElem? (i := 406) (by decide +kernel)) (by decide +kernel), ck_T_mk (List.mem_of_getElem? (i := 407) (by decide +kernel)) (by decide +kernel)⟩
theorem kD_argumentPlaces : Cond.code yD_argumentPlaces bD_argumentPlaces 4 (some .int) ∈ ck_T := ck_T_mk (List.mem_of_getElem? (i := 567) (by decide +kernel)) (by decide +kernel)
theorem sD_argumentPlaces : Cond.instanceMethod yD_argumentPlaces ∈ ck_T ∧ Cond.selects yD_argumentPlaces.cls yD_argumentPlaces yD_argumentPlaces ∈ ck_T := ⟨ck_T_mk (List.mem_of_getElem? (i := 565) (by decide +kernel)) (by decide +kernel), ck_T_mk (List.mem_of_getElem? (i := 566) (by decide +kernel)) (by decide +kernel)⟩
theorem kD_everyTypeHasValues : Cond.code yD_everyTypeHasValues bD_everyTypeHasValues 3 (some .boolean) ∈ ck_T := ck_T_mk (List.mem_of_getElem? (i := 352) (by decide +kernel)) (by decide +kernel)
theorem sD_everyTypeHasValues : Cond.instanceMethod yD_everyTypeHasValues ∈ ck_T ∧ Cond.selects yD_everyTypeHasValues.cls yD_everyTypeHasValues yD_everyTypeHasValues ∈ ck_T := ⟨ck_T_mk (List.mem_of_getElem? (i := 350) (by decide +kernel)) (by decide +kernel), ck_T_mk (List.mem_of_getElem? (i := 351) (by decide +kernel)) (by decide +kernel)⟩
theorem kD_withTypesBuiltFrom : Cond.code yD_withTypesBuiltFrom bD_withTypesBuiltFrom 4 (some .int) ∈ ck_T := ck_T_mk (List.mem_of_getElem? (i := 356) (by decide +kernel)) (by decide +kernel)
theorem sD_withTypesBuiltFrom : Cond.instanceMethod yD_withTypesBuiltFrom ∈ ck_T ∧ Cond.selects yD_withTypesBuiltFrom.cls yD_withTypesBuiltFrom yD_withTypesBuiltFrom ∈ ck_T := ⟨ck_T_mk (List.mem_of_getElem? (i := 355) (by decide +kernel)) (by decide +kernel), ck_T_mk (List.mem_of_getElem? (i := 1) (by decide +kernel)) (by decide +kernel)⟩
theorem kD_canBeGiven : Cond.code yD_canBeGiven bD_canBeGiven 2 (some .boolean) ∈ ck_T := ck_T_mk (List.mem_of_getElem? (i := 359) (by decide +kernel)) (by decide +kernel)
theorem sD_canBeGiven : Cond.static yD_canBeGiven ∈ ck_T := ck_T_mk (List.mem_of_getElem? (i := 358) (by decide +kernel)) (by decide +kernel)
theorem kM_reset : Cond.code yM_reset bM_reset 1 none ∈ ck_T := ck_T_mk (List.mem_of_getElem? (i := 300) (by decide +kernel)) (by decide +kernel)
theorem sM_reset : Cond.instanceMethod yM_reset ∈ ck_T ∧ Cond.selects yM_reset.cls yM_reset yM_reset ∈ ck_T := ⟨ck_T_mk (List.mem_of_getElem? (i := 298) (by decide +kernel)) (by decide +kernel), ck_T_mk (List.mem_of_getElem? (i := 299) (by decide +kernel)) (by decide +kernel)⟩
theorem kM_isBegun : Cond.code yM_isBegun bM_isBegun 1 (some .boolean) ∈ ck_T := ck_T_mk (List.mem_of_getElem? (i := 315) (by decide +kernel)) (by decide +kernel)
theorem sM_isBegun : Cond.instanceMethod yM_isBegun ∈ ck_T ∧ Cond.selects yM_isBegun.cls yM_isBegun yM_isBegun ∈ ck_T := ⟨ck_T_mk (List.mem_of_getElem? (i := 313) (by decide +kernel)) (by decide +kernel), ck_T_mk (List.mem_of_getElem? (i := 314) (by decide +kernel)) (by decide +kernel)⟩
theorem kM_beginOver : Cond.code yM_beginOver bM_beginOver 2 none ∈ ck_T := ck_T_mk (List.mem_of_getElem? (i := 363) (by decide +kernel)) (by decide +kernel)
theorem sM_beginOver : Cond.instanceMethod yM_beginOver ∈ ck_T ∧ Cond.selects yM_beginOver.cls yM_beginOver yM_beginOver ∈ ck_T := ⟨ck_T_mk (List.mem_of_getElem? (i := 361) (by decide +kernel)) (by decide +kernel), ck_T_mk (List.mem_of_getElem? (i := 362) (by decide +kernel)) (by decide +kernel)⟩
theorem kM_typeOver : Cond.code yM_typeOver bM_typeOver 1 (some .int) ∈ ck_T := ck_T_mk (List.mem_of_getElem? (i := 460) (by decide +kernel)) (by decide +kernel)
theorem sM_typeOver : Cond.instanceMethod yM_typeOver ∈ ck_T ∧ Cond.selects yM_typeOver.cls yM_typeOver yM_typeOver ∈ ck_T := ⟨ck_T_mk (List.mem_of_getElem? (i := 458) (by decide +kernel)) (by decide +kernel), ck_T_mk (List.mem_of_getElem? (i := 459) (by decide +kernel)) (by decide +kernel)⟩
theorem kM_hasRow : Cond.code yM_hasRow bM_hasRow 2 (some .boolean) ∈ ck_T := ck_T_mk (List.mem_of_getElem? (i := 667) (by decide +kernel)) (by decide +kernel)
theorem sM_hasRow : Cond.instanceMethod yM_hasRow ∈ ck_T ∧ Cond.selects yM_hasRow.cls yM_hasRow yM_hasRow ∈ ck_T := ⟨ck_T_mk (List.mem_of_getElem? (i := 665) (by decide +kernel)) (by decide +kernel), ck_T_mk (List.mem_of_getElem? (i := 666) (by decide +kernel)) (by decide +kernel)⟩
theorem kM_addRow : Cond.code yM_addRow bM_addRow 5 (some .int) ∈ ck_T := ck_T_mk (List.mem_of_getElem? (i := 464) (by decide +kernel)) (by decide +kernel)
theorem sM_addRow : Cond.instanceMethod yM_addRow ∈ ck_T ∧ Cond.selects yM_addRow.cls yM_addRow yM_addRow ∈ ck_T := ⟨ck_T_mk (List.mem_of_getElem? (i := 462) (by decide +kernel)) (by decide +kernel), ck_T_mk (List.mem_of_getElem? (i := 463) (by decide +kernel)) (by decide +kernel)⟩
theorem kM_layOut : Cond.code yM_layOut bM_layOut 10 none ∈ ck_T := ck_T_mk (List.mem_of_getElem? (i := 469) (by decide +kernel)) (by decide +kernel)
theorem sM_layOut : Cond.instanceMethod yM_layOut ∈ ck_T ∧ Cond.selects yM_layOut.cls yM_layOut yM_layOut ∈ ck_T := ⟨ck_T_mk (List.mem_of_getElem? (i := 468) (by decide +kernel)) (by decide +kernel), ck_T_mk (List.mem_of_getElem? (i := 5) (by decide +kernel)) (by decide +kernel)⟩
theorem kM_allClauses : Cond.code yM_allClauses bM_allClauses 1 (some .int) ∈ ck_T := ck_T_mk (List.mem_of_getElem? (i := 503) (by decide +kernel)) (by decide +kernel)
theorem sM_allClauses : Cond.instanceMethod yM_allClauses ∈ ck_T ∧ Cond.selects yM_allClauses.cls yM_allClauses yM_allClauses ∈ ck_T := ⟨ck_T_mk (List.mem_of_getElem? (i := 501) (by decide +kernel)) (by decide +kernel), ck_T_mk (List.mem_of_getElem? (i := 502) (by decide +kernel)) (by decide +kernel)⟩
theorem kM_firstOf : Cond.code yM_firstOf bM_firstOf 3 (some .int) ∈ ck_T := ck_T_mk (List.mem_of_getElem? (i := 529) (by decide +kernel)) (by decide +kernel)
theorem sM_firstOf : Cond.instanceMethod yM_firstOf ∈ ck_T ∧ Cond.selects yM_firstOf.cls yM_firstOf yM_firstOf ∈ ck_T := ⟨ck_T_mk (List.mem_of_getElem? (i := 527) (by decide +kernel)) (by decide +kernel), ck_T_mk (List.mem_of_getElem? (i := 528) (by decide +kernel)) (by decide +kernel)⟩
theorem kM_rowOf : Cond.code yM_rowOf bM_rowOf 2 (some .int) ∈ ck_T := ck_T_mk (List.mem_of_getElem? (i := 764) (by decide +kernel)) (by decide +kernel)
theorem sM_rowOf : Cond.instanceMethod yM_rowOf ∈ ck_T ∧ Cond.selects yM_rowOf.cls yM_rowOf yM_rowOf ∈ ck_T := ⟨ck_T_mk (List.mem_of_getElem? (i := 762) (by decide +kernel)) (by decide +kernel), ck_T_mk (List.mem_of_getElem? (i := 763) (by decide +kernel)) (by decide +kernel)⟩
theorem kM_placeToTest : Cond.code yM_placeToTest bM_placeToTest 9 (some .int) ∈ ck_T := ck_T_mk (List.mem_of_getElem? (i := 515) (by decide +kernel)) (by decide +kernel)
theorem sM_placeToTest : Cond.instanceMethod yM_placeToTest ∈ ck_T ∧ Cond.selects yM_placeToTest.cls yM_placeToTest yM_placeToTest ∈ ck_T := ⟨ck_T_mk (List.mem_of_getElem? (i := 513) (by decide +kernel)) (by decide +kernel), ck_T_mk (List.mem_of_getElem? (i := 514) (by decide +kernel)) (by decide +kernel)⟩
theorem kM_typeAskedAt : Cond.code yM_typeAskedAt bM_typeAskedAt 4 (some .int) ∈ ck_T := ck_T_mk (List.mem_of_getElem? (i := 533) (by decide +kernel)) (by decide +kernel)
theorem sM_typeAskedAt : Cond.instanceMethod yM_typeAskedAt ∈ ck_T ∧ Cond.selects yM_typeAskedAt.cls yM_typeAskedAt yM_typeAskedAt ∈ ck_T := ⟨ck_T_mk (List.mem_of_getElem? (i := 531) (by decide +kernel)) (by decide +kernel), ck_T_mk (List.mem_of_getElem? (i := 532) (by decide +kernel)) (by decide +kernel)⟩
theorem kM_notAsking : Cond.code yM_notAsking bM_notAsking 3 (some .int) ∈ ck_T := ck_T_mk (List.mem_of_getElem? (i := 553) (by decide +kernel)) (by decide +kernel)
theorem sM_notAsking : Cond.instanceMethod yM_notAsking ∈ ck_T ∧ Cond.selects yM_notAsking.cls yM_notAsking yM_notAsking ∈ ck_T := ⟨ck_T_mk (List.mem_of_getElem? (i := 551) (by decide +kernel)) (by decide +kernel), ck_T_mk (List.mem_of_getElem? (i := 552) (by decide +kernel)) (by decide +kernel)⟩
theorem kM_notAskingElse : Cond.code yM_notAskingElse bM_notAskingElse 6 (some .int) ∈ ck_T := ck_T_mk (List.mem_of_getElem? (i := 549) (by decide +kernel)) (by decide +kernel)
theorem sM_notAskingElse : Cond.instanceMethod yM_notAskingElse ∈ ck_T ∧ Cond.selects yM_notAskingElse.cls yM_notAskingElse yM_notAskingElse ∈ ck_T := ⟨ck_T_mk (List.mem_of_getElem? (i := 547) (by decide +kernel)) (by decide +kernel), ck_T_mk (List.mem_of_getElem? (i := 548) (by decide +kernel)) (by decide +kernel)⟩
theorem kM_leastAbove : Cond.code yM_leastAbove bM_leastAbove 11 (some .long) ∈ ck_T := ck_T_mk (List.mem_of_getElem? (i := 543) (by decide +kernel)) (by decide +kernel)
theorem sM_leastAbove : Cond.instanceMethod yM_leastAbove ∈ ck_T ∧ Cond.selects yM_leastAbove.cls yM_leastAbove yM_leastAbove ∈ ck_T := ⟨ck_T_mk (List.mem_of_getElem? (i := 541) (by decide +kernel)) (by decide +kernel), ck_T_mk (List.mem_of_getElem? (i := 542) (by decide +kernel)) (by decide +kernel)⟩
theorem kM_alternativesOutside : Cond.code yM_alternativesOutside bM_alternativesOutside 4 (some .int) ∈ ck_T := ck_T_mk (List.mem_of_getElem? (i := 675) (by decide +kernel)) (by decide +kernel)
theorem sM_alternativesOutside : Cond.instanceMethod yM_alternativesOutside ∈ ck_T ∧ Cond.selects yM_alternativesOutside.cls yM_alternativesOutside yM_alternativesOutside ∈ ck_T := ⟨ck_T_mk (List.mem_of_getElem? (i := 673) (by decide +kernel)) (by decide +kernel), ck_T_mk (List.mem_of_getElem? (i := 674) (by decide +kernel)) (by decide +kernel)⟩
theorem kP_reset : Cond.code yP_reset bP_reset 1 none ∈ ck_T := ck_T_mk (List.mem_of_getElem? (i := 292) (by decide +kernel)) (by decide +kernel)
theorem sP_reset : Cond.instanceMethod yP_reset ∈ ck_T ∧ Cond.selects yP_reset.cls yP_reset yP_reset ∈ ck_T := ⟨ck_T_mk (List.mem_of_getElem? (i := 290) (by decide +kernel)) (by decide +kernel), ck_T_mk (List.mem_of_getElem? (i := 291) (by decide +kernel)) (by decide +kernel)⟩
theorem kP_has : Cond.code yP_has bP_has 2 (some .boolean) ∈ ck_T := ck_T_mk (List.mem_of_getElem? (i := 383) (by decide +kernel)) (by decide +kernel)
theorem sP_has : Cond.instanceMethod yP_has ∈ ck_T ∧ Cond.selects yP_has.cls yP_has yP_has ∈ ck_T := ⟨ck_T_mk (List.mem_of_getElem? (i := 381) (by decide +kernel)) (by decide +kernel), ck_T_mk (List.mem_of_getElem? (i := 382) (by decide +kernel)) (by decide +kernel)⟩
theorem kP_addAny : Cond.code yP_addAny bP_addAny 1 (some .int) ∈ ck_T := ck_T_mk (List.mem_of_getElem? (i := 371) (by decide +kernel)) (by decide +kernel)
theorem sP_addAny : Cond.instanceMethod yP_addAny ∈ ck_T ∧ Cond.selects yP_addAny.cls yP_addAny yP_addAny ∈ ck_T := ⟨ck_T_mk (List.mem_of_getElem? (i := 369) (by decide +kernel)) (by decide +kernel), ck_T_mk (List.mem_of_getElem? (i := 370) (by decide +kernel)) (by decide +kernel)⟩
theorem kP_addNumber : Cond.code yP_addNumber bP_addNumber 2 (some .int) ∈ ck_T := ck_T_mk (List.mem_of_getElem? (i := 391) (by decide +kernel)) (by decide +kernel)
theorem sP_addNumber : Cond.instanceMethod yP_addNumber ∈ ck_T ∧ Cond.selects yP_addNumber.cls yP_addNumber yP_addNumber ∈ ck_T := ⟨ck_T_mk (List.mem_of_getElem? (i := 389) (by decide +kernel)) (by decide +kernel), ck_T_mk (List.mem_of_getElem? (i := 390) (by decide +kernel)) (by decide +kernel)⟩
theorem kP_addBuild : Cond.code yP_addBuild bP_addBuild 7 (some .int) ∈ ck_T := ck_T_mk (List.mem_of_getElem? (i := 428) (by decide +kernel)) (by decide +kernel)
theorem sP_addBuild : Cond.instanceMethod yP_addBuild ∈ ck_T ∧ Cond.selects yP_addBuild.cls yP_addBuild yP_addBuild ∈ ck_T := ⟨ck_T_mk (List.mem_of_getElem? (i := 426) (by decide +kernel)) (by decide +kernel), ck_T_mk (List.mem_of_getElem? (i := 427) (by decide +kernel)) (by decide +kernel)⟩
theorem kP_addEither : Cond.code yP_addEither bP_addEither 6 (some .int) ∈ ck_T := ck_T_mk (List.mem_of_getElem? (i := 452) (by decide +kernel)) (by decide +kernel)
theorem sP_addEither : Cond.instanceMethod yP_addEither ∈ ck_T ∧ Cond.selects yP_addEither.cls yP_addEither yP_addEither ∈ ck_T := ⟨ck_T_mk (List.mem_of_getElem? (i := 450) (by decide +kernel)) (by decide +kernel), ck_T_mk (List.mem_of_getElem? (i := 451) (by decide +kernel)) (by decide +kernel)⟩
theorem kP_add : Cond.code yP_add bP_add 5 (some .int) ∈ ck_T := ck_T_mk (List.mem_of_getElem? (i := 375) (by decide +kernel)) (by decide +kernel)
theorem sP_add : Cond.instanceMethod yP_add ∈ ck_T ∧ Cond.selects yP_add.cls yP_add yP_add ∈ ck_T := ⟨ck_T_mk (List.mem_of_getElem? (i := 374) (by decide +kernel)) (by decide +kernel), ck_T_mk (List.mem_of_getElem? (i := 2) (by decide +kernel)) (by decide +kernel)⟩
theorem kP_withParts : Cond.code yP_withParts bP_withParts 6 (some .int) ∈ ck_T := ck_T_mk (List.mem_of_getElem? (i := 379) (by decide +kernel)) (by decide +kernel)
theorem sP_withParts : Cond.instanceMethod yP_withParts ∈ ck_T ∧ Cond.selects yP_withParts.cls yP_withParts yP_withParts ∈ ck_T := ⟨ck_T_mk (List.mem_of_getElem? (i := 378) (by decide +kernel)) (by decide +kernel), ck_T_mk (List.mem_of_getElem? (i := 3) (by decide +kernel)) (by decide +kernel)⟩
theorem kP_isOpen : Cond.code yP_isOpen bP_isOpen 2 (some .boolean) ∈ ck_T := ck_T_mk (List.mem_of_getElem? (i := 420) (by decide +kernel)) (by decide +kernel)
theorem sP_isOpen : Cond.instanceMethod yP_isOpen ∈ ck_T ∧ Cond.selects yP_isOpen.cls yP_isOpen yP_isOpen ∈ ck_T := ⟨ck_T_mk (List.mem_of_getElem? (i := 418) (by decide +kernel)) (by decide +kernel), ck_T_mk (List.mem_of_getElem? (i := 419) (by decide +kernel)) (by decide +kernel)⟩
theorem kP_fits : Cond.code yP_fits bP_fits 3 (some .boolean) ∈ ck_T := ck_T_mk (List.mem_of_getElem? (i := 416) (by decide +kernel)) (by decide +kernel)
theorem sP_fits : Cond.instanceMethod yP_fits ∈ ck_T ∧ Cond.selects yP_fits.cls yP_fits yP_fits ∈ ck_T := ⟨ck_T_mk (List.mem_of_getElem? (i := 414) (by decide +kernel)) (by decide +kernel), ck_T_mk (List.mem_of_getElem? (i := 415) (by decide +kernel)) (by decide +kernel)⟩
theorem kP_agree : Cond.code yP_agree bP_agree 3 (some .boolean) ∈ ck_T := ck_T_mk (List.mem_of_getElem? (i := 447) (by decide +kernel)) (by decide +kernel)
theorem sP_agree : Cond.instanceMethod yP_agree ∈ ck_T ∧ Cond.selects yP_agree.cls yP_agree yP_agree ∈ ck_T := ⟨ck_T_mk (List.mem_of_getElem? (i := 445) (by decide +kernel)) (by decide +kernel), ck_T_mk (List.mem_of_getElem? (i := 446) (by decide +kernel)) (by decide +kernel)⟩
theorem kP_isEither : Cond.code yP_isEither bP_isEither 2 (some .boolean) ∈ ck_T := ck_T_mk (List.mem_of_getElem? (i := 473) (by decide +kernel)) (by decide +kernel)
theorem sP_isEither : Cond.instanceMethod yP_isEither ∈ ck_T ∧ Cond.selects yP_isEither.cls yP_isEither yP_isEither ∈ ck_T := ⟨ck_T_mk (List.mem_of_getElem? (i := 471) (by decide +kernel)) (by decide +kernel), ck_T_mk (List.mem_of_getElem? (i := 472) (by decide +kernel)) (by decide +kernel)⟩
theorem kP_itsType : Cond.code yP_itsType bP_itsType 2 (some .int) ∈ ck_T := ck_T_mk (List.mem_of_getElem? (i := 491) (by decide +kernel)) (by decide +kernel)
theorem sP_itsType : Cond.instanceMethod yP_itsType ∈ ck_T ∧ Cond.selects yP_itsType.cls yP_itsType yP_itsType ∈ ck_T := ⟨ck_T_mk (List.mem_of_getElem? (i := 489) (by decide +kernel)) (by decide +kernel), ck_T_mk (List.mem_of_getElem? (i := 490) (by decide +kernel)) (by decide +kernel)⟩
theorem kP_symbolOf : Cond.code yP_symbolOf bP_symbolOf 2 (some .int) ∈ ck_T := ck_T_mk (List.mem_of_getElem? (i := 487) (by decide +kernel)) (by decide +kernel)
theorem sP_symbolOf : Cond.instanceMethod yP_symbolOf ∈ ck_T ∧ Cond.selects yP_symbolOf.cls yP_symbolOf yP_symbolOf ∈ ck_T := ⟨ck_T_mk (List.mem_of_getElem? (i := 485) (by decide +kernel)) (by decide +kernel), ck_T_mk (List.mem_of_getElem? (i := 486) (by decide +kernel)) (by decide +kernel)⟩
theorem kP_firstOf : Cond.code yP_firstOf bP_firstOf 2 (some .int) ∈ ck_T := ck_T_mk (List.mem_of_getElem? (i := 477) (by decide +kernel)) (by decide +kernel)
theorem sP_firstOf : Cond.instanceMethod yP_firstOf ∈ ck_T ∧ Cond.selects yP_firstOf.cls yP_firstOf yP_firstOf ∈ ck_T := ⟨ck_T_mk (List.mem_of_getElem? (i := 475) (by decide +kernel)) (by decide +kernel), ck_T_mk (List.mem_of_getElem? (i := 476) (by decide +kernel)) (by decide +kernel)⟩
theorem kP_secondOf : Cond.code yP_secondOf bP_secondOf 2 (some .int) ∈ ck_T := ck_T_mk (List.mem_of_getElem? (i := 481) (by decide +kernel)) (by decide +kernel)
theorem sP_secondOf : Cond.instanceMethod yP_secondOf ∈ ck_T ∧ Cond.selects yP_secondOf.cls yP_secondOf yP_secondOf ∈ ck_T := ⟨ck_T_mk (List.mem_of_getElem? (i := 479) (by decide +kernel)) (by decide +kernel), ck_T_mk (List.mem_of_getElem? (i := 480) (by decide +kernel)) (by decide +kernel)⟩
theorem kP_depthOf : Cond.code yP_depthOf bP_depthOf 2 (some .int) ∈ ck_T := ck_T_mk (List.mem_of_getElem? (i := 432) (by decide +kernel)) (by decide +kernel)
theorem sP_depthOf : Cond.instanceMethod yP_depthOf ∈ ck_T ∧ Cond.selects yP_depthOf.cls yP_depthOf yP_depthOf ∈ ck_T := ⟨ck_T_mk (List.mem_of_getElem? (i := 431) (by decide +kernel)) (by decide +kernel), ck_T_mk (List.mem_of_getElem? (i := 4) (by decide +kernel)) (by decide +kernel)⟩
theorem kP_choicesOf : Cond.code yP_choicesOf bP_choicesOf 2 (some .int) ∈ ck_T := ck_T_mk (List.mem_of_getElem? (i := 439) (by decide +kernel)) (by decide +kernel)
theorem sP_choicesOf : Cond.instanceMethod yP_choicesOf ∈ ck_T ∧ Cond.selects yP_choicesOf.cls yP_choicesOf yP_choicesOf ∈ ck_T := ⟨ck_T_mk (List.mem_of_getElem? (i := 437) (by decide +kernel)) (by decide +kernel), ck_T_mk (List.mem_of_getElem? (i := 438) (by decide +kernel)) (by decide +kernel)⟩
theorem kT_drop : Cond.code yT_drop bT_drop 1 none ∈ ck_T := ck_T_mk (List.mem_of_getElem? (i := 307) (by decide +kernel)) (by decide +kernel)
theorem sT_drop : Cond.instanceMethod yT_drop ∈ ck_T ∧ Cond.selects yT_drop.cls yT_drop yT_drop ∈ ck_T := ⟨ck_T_mk (List.mem_of_getElem? (i := 305) (by decide +kernel)) (by decide +kernel), ck_T_mk (List.mem_of_getElem? (i := 306) (by decide +kernel)) (by decide +kernel)⟩
theorem kT_isThere : Cond.code yT_isThere bT_isThere 1 (some .boolean) ∈ ck_T := ck_T_mk (List.mem_of_getElem? (i := 642) (by decide +kernel)) (by decide +kernel)
theorem sT_isThere : Cond.instanceMethod yT_isThere ∈ ck_T ∧ Cond.selects yT_isThere.cls yT_isThere yT_isThere ∈ ck_T := ⟨ck_T_mk (List.mem_of_getElem? (i := 640) (by decide +kernel)) (by decide +kernel), ck_T_mk (List.mem_of_getElem? (i := 641) (by decide +kernel)) (by decide +kernel)⟩
theorem kT_size : Cond.code yT_size bT_size 1 (some .int) ∈ ck_T := ck_T_mk (List.mem_of_getElem? (i := 634) (by decide +kernel)) (by decide +kernel)
theorem sT_size : Cond.instanceMethod yT_size ∈ ck_T ∧ Cond.selects yT_size.cls yT_size yT_size ∈ ck_T := ⟨ck_T_mk (List.mem_of_getElem? (i := 632) (by decide +kernel)) (by decide +kernel), ck_T_mk (List.mem_of_getElem? (i := 633) (by decide +kernel)) (by decide +kernel)⟩
theorem kT_caught : Cond.code yT_caught bT_caught 1 (some .int) ∈ ck_T := ck_T_mk (List.mem_of_getElem? (i := 671) (by decide +kernel)) (by decide +kernel)
theorem sT_caught : Cond.instanceMethod yT_caught ∈ ck_T ∧ Cond.selects yT_caught.cls yT_caught yT_caught ∈ ck_T := ⟨ck_T_mk (List.mem_of_getElem? (i := 669) (by decide +kernel)) (by decide +kernel), ck_T_mk (List.mem_of_getElem? (i := 670) (by decide +kernel)) (by decide +kernel)⟩
theorem kT_testsAbove : Cond.code yT_testsAbove bT_testsAbove 2 (some .int) ∈ ck_T := ck_T_mk (List.mem_of_getElem? (i := 756) (by decide +kernel)) (by decide +kernel)
theorem sT_testsAbove : Cond.instanceMethod yT_testsAbove ∈ ck_T ∧ Cond.selects yT_testsAbove.cls yT_testsAbove yT_testsAbove ∈ ck_T := ⟨ck_T_mk (List.mem_of_getElem? (i := 754) (by decide +kernel)) (by decide +kernel), ck_T_mk (List.mem_of_getElem? (i := 755) (by decide +kernel)) (by decide +kernel)⟩
theorem kT_clauseAt : Cond.code yT_clauseAt bT_clauseAt 2 (some .int) ∈ ck_T := ck_T_mk (List.mem_of_getElem? (i := 760) (by decide +kernel)) (by decide +kernel)
theorem sT_clauseAt : Cond.instanceMethod yT_clauseAt ∈ ck_T ∧ Cond.selects yT_clauseAt.cls yT_clauseAt yT_clauseAt ∈ ck_T := ⟨ck_T_mk (List.mem_of_getElem? (i := 758) (by decide +kernel)) (by decide +kernel), ck_T_mk (List.mem_of_getElem? (i := 759) (by decide +kernel)) (by decide +kernel)⟩
theorem kT_placeOf : Cond.code yT_placeOf bT_placeOf 2 (some .int) ∈ ck_T := ck_T_mk (List.mem_of_getElem? (i := 598) (by decide +kernel)) (by decide +kernel)
theorem sT_placeOf : Cond.instanceMethod yT_placeOf ∈ ck_T ∧ Cond.selects yT_placeOf.cls yT_placeOf yT_placeOf ∈ ck_T := ⟨ck_T_mk (List.mem_of_getElem? (i := 596) (by decide +kernel)) (by decide +kernel), ck_T_mk (List.mem_of_getElem? (i := 597) (by decide +kernel)) (by decide +kernel)⟩
theorem kT_typeOfTest : Cond.code yT_typeOfTest bT_typeOfTest 2 (some .int) ∈ ck_T := ck_T_mk (List.mem_of_getElem? (i := 607) (by decide +kernel)) (by decide +kernel)
theorem sT_typeOfTest : Cond.instanceMethod yT_typeOfTest ∈ ck_T ∧ Cond.selects yT_typeOfTest.cls yT_typeOfTest yT_typeOfTest ∈ ck_T := ⟨ck_T_mk (List.mem_of_getElem? (i := 605) (by decide +kernel)) (by decide +kernel), ck_T_mk (List.mem_of_getElem? (i := 606) (by decide +kernel)) (by decide +kernel)⟩
theorem kT_labelOf : Cond.code yT_labelOf bT_labelOf 2 (some .int) ∈ ck_T := ck_T_mk (List.mem_of_getElem? (i := 624) (by decide +kernel)) (by decide +kernel)
theorem sT_labelOf : Cond.instanceMethod yT_labelOf ∈ ck_T ∧ Cond.selects yT_labelOf.cls yT_labelOf yT_labelOf ∈ ck_T := ⟨ck_T_mk (List.mem_of_getElem? (i := 622) (by decide +kernel)) (by decide +kernel), ck_T_mk (List.mem_of_getElem? (i := 623) (by decide +kernel)) (by decide +kernel)⟩
theorem kT_has : Cond.code yT_has bT_has 2 (some .boolean) ∈ ck_T := ck_T_mk (List.mem_of_getElem? (i := 581) (by decide +kernel)) (by decide +kernel)
theorem sT_has : Cond.instanceMethod yT_has ∈ ck_T ∧ Cond.selects yT_has.cls yT_has yT_has ∈ ck_T := ⟨ck_T_mk (List.mem_of_getElem? (i := 580) (by decide +kernel)) (by decide +kernel), ck_T_mk (List.mem_of_getElem? (i := 12) (by decide +kernel)) (by decide +kernel)⟩
theorem kT_grow : Cond.code yT_grow bT_grow 3 (some .boolean) ∈ ck_T := ck_T_mk (List.mem_of_getElem? (i := 499) (by decide +kernel)) (by decide +kernel)
theorem sT_grow : Cond.instanceMethod yT_grow ∈ ck_T ∧ Cond.selects yT_grow.cls yT_grow yT_grow ∈ ck_T := ⟨ck_T_mk (List.mem_of_getElem? (i := 497) (by decide +kernel)) (by decide +kernel), ck_T_mk (List.mem_of_getElem? (i := 498) (by decide +kernel)) (by decide +kernel)⟩
theorem kT_addNode : Cond.code yT_addNode bT_addNode 5 (some .boolean) ∈ ck_T := ck_T_mk (List.mem_of_getElem? (i := 507) (by decide +kernel)) (by decide +kernel)
theorem sT_addNode : Cond.instanceMethod yT_addNode ∈ ck_T ∧ Cond.selects yT_addNode.cls yT_addNode yT_addNode ∈ ck_T := ⟨ck_T_mk (List.mem_of_getElem? (i := 506) (by decide +kernel)) (by decide +kernel), ck_T_mk (List.mem_of_getElem? (i := 6) (by decide +kernel)) (by decide +kernel)⟩
theorem kT_expand : Cond.code yT_expand bT_expand 3 (some .boolean) ∈ ck_T := ck_T_mk (List.mem_of_getElem? (i := 511) (by decide +kernel)) (by decide +kernel)
theorem sT_expand : Cond.instanceMethod yT_expand ∈ ck_T ∧ Cond.selects yT_expand.cls yT_expand yT_expand ∈ ck_T := ⟨ck_T_mk (List.mem_of_getElem? (i := 510) (by decide +kernel)) (by decide +kernel), ck_T_mk (List.mem_of_getElem? (i := 7) (by decide +kernel)) (by decide +kernel)⟩
theorem kT_makeLeaf : Cond.code yT_makeLeaf bT_makeLeaf 2 none ∈ ck_T := ck_T_mk (List.mem_of_getElem? (i := 525) (by decide +kernel)) (by decide +kernel)
theorem sT_makeLeaf : Cond.instanceMethod yT_makeLeaf ∈ ck_T ∧ Cond.selects yT_makeLeaf.cls yT_makeLeaf yT_makeLeaf ∈ ck_T := ⟨ck_T_mk (List.mem_of_getElem? (i := 524) (by decide +kernel)) (by decide +kernel), ck_T_mk (List.mem_of_getElem? (i := 8) (by decide +kernel)) (by decide +kernel)⟩
theorem kT_addNumbers : Cond.code yT_addNumbers bT_addNumbers 8 (some .boolean) ∈ ck_T := ck_T_mk (List.mem_of_getElem? (i := 538) (by decide +kernel)) (by decide +kernel)
theorem sT_addNumbers : Cond.instanceMethod yT_addNumbers ∈ ck_T ∧ Cond.selects yT_addNumbers.cls yT_addNumbers yT_addNumbers ∈ ck_T := ⟨ck_T_mk (List.mem_of_getElem? (i := 537) (by decide +kernel)) (by decide +kernel), ck_T_mk (List.mem_of_getElem? (i := 9) (by decide +kernel)) (by decide +kernel)⟩
theorem kT_addConstructors : Cond.code yT_addConstructors bT_addConstructors 7 (some .boolean) ∈ ck_T := ck_T_mk (List.mem_of_getElem? (i := 558) (by decide +kernel)) (by decide +kernel)
theorem sT_addConstructors : Cond.instanceMethod yT_addConstructors ∈ ck_T ∧ Cond.selects yT_addConstructors.cls yT_addConstructors yT_addConstructors ∈ ck_T := ⟨ck_T_mk (List.mem_of_getElem? (i := 557) (by decide +kernel)) (by decide +kernel), ck_T_mk (List.mem_of_getElem? (i := 10) (by decide +kernel)) (by decide +kernel)⟩
theorem kT_markFailing : Cond.code yT_markFailing bT_markFailing 3 none ∈ ck_T := ck_T_mk (List.mem_of_getElem? (i := 573) (by decide +kernel)) (by decide +kernel)
theorem sT_markFailing : Cond.instanceMethod yT_markFailing ∈ ck_T ∧ Cond.selects yT_markFailing.cls yT_markFailing yT_markFailing ∈ ck_T := ⟨ck_T_mk (List.mem_of_getElem? (i := 572) (by decide +kernel)) (by decide +kernel), ck_T_mk (List.mem_of_getElem? (i := 11) (by decide +kernel)) (by decide +kernel)⟩
theorem kT_failingBranch : Cond.code yT_failingBranch bT_failingBranch 3 (some .int) ∈ ck_T := ck_T_mk (List.mem_of_getElem? (i := 577) (by decide +kernel)) (by decide +kernel)
theorem sT_failingBranch : Cond.instanceMethod yT_failingBranch ∈ ck_T ∧ Cond.selects yT_failingBranch.cls yT_failingBranch yT_failingBranch ∈ ck_T := ⟨ck_T_mk (List.mem_of_getElem? (i := 575) (by decide +kernel)) (by decide +kernel), ck_T_mk (List.mem_of_getElem? (i := 576) (by decide +kernel)) (by decide +kernel)⟩
theorem kT_hasFailing : Cond.code yT_hasFailing bT_hasFailing 1 (some .boolean) ∈ ck_T := ck_T_mk (List.mem_of_getElem? (i := 589) (by decide +kernel)) (by decide +kernel)
theorem sT_hasFailing : Cond.instanceMethod yT_hasFailing ∈ ck_T ∧ Cond.selects yT_hasFailing.cls yT_hasFailing yT_hasFailing ∈ ck_T := ⟨ck_T_mk (List.mem_of_getElem? (i := 587) (by decide +kernel)) (by decide +kernel), ck_T_mk (List.mem_of_getElem? (i := 588) (by decide +kernel)) (by decide +kernel)⟩
theorem kT_mostTests : Cond.code yT_mostTests bT_mostTests 3 (some .int) ∈ ck_T := ck_T_mk (List.mem_of_getElem? (i := 658) (by decide +kernel)) (by decide +kernel)
theorem sT_mostTests : Cond.instanceMethod yT_mostTests ∈ ck_T ∧ Cond.selects yT_mostTests.cls yT_mostTests yT_mostTests ∈ ck_T := ⟨ck_T_mk (List.mem_of_getElem? (i := 656) (by decide +kernel)) (by decide +kernel), ck_T_mk (List.mem_of_getElem? (i := 657) (by decide +kernel)) (by decide +kernel)⟩
theorem kT_countKinds : Cond.code yT_countKinds bT_countKinds 4 (some .int) ∈ ck_T := ck_T_mk (List.mem_of_getElem? (i := 646) (by decide +kernel)) (by decide +kernel)
theorem sT_countKinds : Cond.instanceMethod yT_countKinds ∈ ck_T ∧ Cond.selects yT_countKinds.cls yT_countKinds yT_countKinds ∈ ck_T := ⟨ck_T_mk (List.mem_of_getElem? (i := 644) (by decide +kernel)) (by decide +kernel), ck_T_mk (List.mem_of_getElem? (i := 645) (by decide +kernel)) (by decide +kernel)⟩
theorem kT_alike : Cond.code yT_alike bT_alike 7 (some .boolean) ∈ ck_T := ck_T_mk (List.mem_of_getElem? (i := 650) (by decide +kernel)) (by decide +kernel)
theorem sT_alike : Cond.instanceMethod yT_alike ∈ ck_T ∧ Cond.selects yT_alike.cls yT_alike yT_alike ∈ ck_T := ⟨ck_T_mk (List.mem_of_getElem? (i := 649) (by decide +kernel)) (by decide +kernel), ck_T_mk (List.mem_of_getElem? (i := 17) (by decide +kernel)) (by decide +kernel)⟩
theorem kT_leafFor : Cond.code yT_leafFor bT_leafFor 7 (some .int) ∈ ck_T := ck_T_mk (List.mem_of_getElem? (i := 739) (by decide +kernel)) (by decide +kernel)
theorem sT_leafFor : Cond.instanceMethod yT_leafFor ∈ ck_T ∧ Cond.selects yT_leafFor.cls yT_leafFor yT_leafFor ∈ ck_T := ⟨ck_T_mk (List.mem_of_getElem? (i := 737) (by decide +kernel)) (by decide +kernel), ck_T_mk (List.mem_of_getElem? (i := 738) (by decide +kernel)) (by decide +kernel)⟩
theorem kT_branchFor : Cond.code yT_branchFor bT_branchFor 5 (some .int) ∈ ck_T := ck_T_mk (List.mem_of_getElem? (i := 620) (by decide +kernel)) (by decide +kernel)
theorem sT_branchFor : Cond.instanceMethod yT_branchFor ∈ ck_T ∧ Cond.selects yT_branchFor.cls yT_branchFor yT_branchFor ∈ ck_T := ⟨ck_T_mk (List.mem_of_getElem? (i := 619) (by decide +kernel)) (by decide +kernel), ck_T_mk (List.mem_of_getElem? (i := 15) (by decide +kernel)) (by decide +kernel)⟩
theorem kT_lastBranch : Cond.code yT_lastBranch bT_lastBranch 2 (some .int) ∈ ck_T := ck_T_mk (List.mem_of_getElem? (i := 611) (by decide +kernel)) (by decide +kernel)
theorem sT_lastBranch : Cond.instanceMethod yT_lastBranch ∈ ck_T ∧ Cond.selects yT_lastBranch.cls yT_lastBranch yT_lastBranch ∈ ck_T := ⟨ck_T_mk (List.mem_of_getElem? (i := 609) (by decide +kernel)) (by decide +kernel), ck_T_mk (List.mem_of_getElem? (i := 610) (by decide +kernel)) (by decide +kernel)⟩
theorem kT_leastWithoutBranch : Cond.code yT_leastWithoutBranch bT_leastWithoutBranch 5 (some .int) ∈ ck_T := ck_T_mk (List.mem_of_getElem? (i := 615) (by decide +kernel)) (by decide +kernel)
theorem sT_leastWithoutBranch : Cond.instanceMethod yT_leastWithoutBranch ∈ ck_T ∧ Cond.selects yT_leastWithoutBranch.cls yT_leastWithoutBranch yT_leastWithoutBranch ∈ ck_T := ⟨ck_T_mk (List.mem_of_getElem? (i := 613) (by decide +kernel)) (by decide +kernel), ck_T_mk (List.mem_of_getElem? (i := 614) (by decide +kernel)) (by decide +kernel)⟩
theorem kV_reset : Cond.code yV_reset bV_reset 1 none ∈ ck_T := ck_T_mk (List.mem_of_getElem? (i := 296) (by decide +kernel)) (by decide +kernel)
theorem sV_reset : Cond.instanceMethod yV_reset ∈ ck_T ∧ Cond.selects yV_reset.cls yV_reset yV_reset ∈ ck_T := ⟨ck_T_mk (List.mem_of_getElem? (i := 294) (by decide +kernel)) (by decide +kernel), ck_T_mk (List.mem_of_getElem? (i := 295) (by decide +kernel)) (by decide +kernel)⟩
theorem kV_has : Cond.code yV_has bV_has 2 (some .boolean) ∈ ck_T := ck_T_mk (List.mem_of_getElem? (i := 725) (by decide +kernel)) (by decide +kernel)
theorem sV_has : Cond.instanceMethod yV_has ∈ ck_T ∧ Cond.selects yV_has.cls yV_has yV_has ∈ ck_T := ⟨ck_T_mk (List.mem_of_getElem? (i := 723) (by decide +kernel)) (by decide +kernel), ck_T_mk (List.mem_of_getElem? (i := 724) (by decide +kernel)) (by decide +kernel)⟩
theorem kV_addInt : Cond.code yV_addInt bV_addInt 2 (some .int) ∈ ck_T := ck_T_mk (List.mem_of_getElem? (i := 713) (by decide +kernel)) (by decide +kernel)
theorem sV_addInt : Cond.instanceMethod yV_addInt ∈ ck_T ∧ Cond.selects yV_addInt.cls yV_addInt yV_addInt ∈ ck_T := ⟨ck_T_mk (List.mem_of_getElem? (i := 711) (by decide +kernel)) (by decide +kernel), ck_T_mk (List.mem_of_getElem? (i := 712) (by decide +kernel)) (by decide +kernel)⟩
theorem kV_addBuilt : Cond.code yV_addBuilt bV_addBuilt 6 (some .int) ∈ ck_T := ck_T_mk (List.mem_of_getElem? (i := 717) (by decide +kernel)) (by decide +kernel)
theorem sV_addBuilt : Cond.instanceMethod yV_addBuilt ∈ ck_T ∧ Cond.selects yV_addBuilt.cls yV_addBuilt yV_addBuilt ∈ ck_T := ⟨ck_T_mk (List.mem_of_getElem? (i := 715) (by decide +kernel)) (by decide +kernel), ck_T_mk (List.mem_of_getElem? (i := 716) (by decide +kernel)) (by decide +kernel)⟩
theorem kV_isOf : Cond.code yV_isOf bV_isOf 3 (some .boolean) ∈ ck_T := ck_T_mk (List.mem_of_getElem? (i := 729) (by decide +kernel)) (by decide +kernel)
theorem sV_isOf : Cond.instanceMethod yV_isOf ∈ ck_T ∧ Cond.selects yV_isOf.cls yV_isOf yV_isOf ∈ ck_T := ⟨ck_T_mk (List.mem_of_getElem? (i := 727) (by decide +kernel)) (by decide +kernel), ck_T_mk (List.mem_of_getElem? (i := 728) (by decide +kernel)) (by decide +kernel)⟩
theorem kV_symbolOf : Cond.code yV_symbolOf bV_symbolOf 2 (some .int) ∈ ck_T := ck_T_mk (List.mem_of_getElem? (i := 752) (by decide +kernel)) (by decide +kernel)
theorem sV_symbolOf : Cond.instanceMethod yV_symbolOf ∈ ck_T ∧ Cond.selects yV_symbolOf.cls yV_symbolOf yV_symbolOf ∈ ck_T := ⟨ck_T_mk (List.mem_of_getElem? (i := 750) (by decide +kernel)) (by decide +kernel), ck_T_mk (List.mem_of_getElem? (i := 751) (by decide +kernel)) (by decide +kernel)⟩
theorem kV_firstOf : Cond.code yV_firstOf bV_firstOf 2 (some .int) ∈ ck_T := ck_T_mk (List.mem_of_getElem? (i := 744) (by decide +kernel)) (by decide +kernel)
theorem sV_firstOf : Cond.instanceMethod yV_firstOf ∈ ck_T ∧ Cond.selects yV_firstOf.cls yV_firstOf yV_firstOf ∈ ck_T := ⟨ck_T_mk (List.mem_of_getElem? (i := 742) (by decide +kernel)) (by decide +kernel), ck_T_mk (List.mem_of_getElem? (i := 743) (by decide +kernel)) (by decide +kernel)⟩
theorem kV_secondOf : Cond.code yV_secondOf bV_secondOf 2 (some .int) ∈ ck_T := ck_T_mk (List.mem_of_getElem? (i := 748) (by decide +kernel)) (by decide +kernel)
theorem sV_secondOf : Cond.instanceMethod yV_secondOf ∈ ck_T ∧ Cond.selects yV_secondOf.cls yV_secondOf yV_secondOf ∈ ck_T := ⟨ck_T_mk (List.mem_of_getElem? (i := 746) (by decide +kernel)) (by decide +kernel), ck_T_mk (List.mem_of_getElem? (i := 747) (by decide +kernel)) (by decide +kernel)⟩
theorem kG_length : Cond.code yG_length bG_length 1 (some .int) ∈ ck_T := ck_T_mk (List.mem_of_getElem? (i := 684) (by decide +kernel)) (by decide +kernel)
theorem sG_length : Cond.instanceMethod yG_length ∈ ck_T ∧ Cond.selects yG_length.cls yG_length yG_length ∈ ck_T := ⟨ck_T_mk (List.mem_of_getElem? (i := 682) (by decide +kernel)) (by decide +kernel), ck_T_mk (List.mem_of_getElem? (i := 683) (by decide +kernel)) (by decide +kernel)⟩
theorem kG_has : Cond.code yG_has bG_has 2 (some .boolean) ∈ ck_T := ck_T_mk (List.mem_of_getElem? (i := 692) (by decide +kernel)) (by decide +kernel)
theorem sG_has : Cond.instanceMethod yG_has ∈ ck_T ∧ Cond.selects yG_has.cls yG_has yG_has ∈ ck_T := ⟨ck_T_mk (List.mem_of_getElem? (i := 690) (by decide +kernel)) (by decide +kernel), ck_T_mk (List.mem_of_getElem? (i := 691) (by decide +kernel)) (by decide +kernel)⟩
theorem kG_kindOf : Cond.code yG_kindOf bG_kindOf 2 (some .int) ∈ ck_T := ck_T_mk (List.mem_of_getElem? (i := 696) (by decide +kernel)) (by decide +kernel)
theorem sG_kindOf : Cond.instanceMethod yG_kindOf ∈ ck_T ∧ Cond.selects yG_kindOf.cls yG_kindOf yG_kindOf ∈ ck_T := ⟨ck_T_mk (List.mem_of_getElem? (i := 694) (by decide +kernel)) (by decide +kernel), ck_T_mk (List.mem_of_getElem? (i := 695) (by decide +kernel)) (by decide +kernel)⟩
theorem kG_symbolOf : Cond.code yG_symbolOf bG_symbolOf 2 (some .int) ∈ ck_T := ck_T_mk (List.mem_of_getElem? (i := 705) (by decide +kernel)) (by decide +kernel)
theorem sG_symbolOf : Cond.instanceMethod yG_symbolOf ∈ ck_T ∧ Cond.selects yG_symbolOf.cls yG_symbolOf yG_symbolOf ∈ ck_T := ⟨ck_T_mk (List.mem_of_getElem? (i := 703) (by decide +kernel)) (by decide +kernel), ck_T_mk (List.mem_of_getElem? (i := 704) (by decide +kernel)) (by decide +kernel)⟩
theorem kG_readFromTree : Cond.code yG_readFromTree bG_readFromTree 1 none ∈ ck_T := ck_T_mk (List.mem_of_getElem? (i := 585) (by decide +kernel)) (by decide +kernel)
theorem sG_readFromTree : Cond.instanceMethod yG_readFromTree ∈ ck_T ∧ Cond.selects yG_readFromTree.cls yG_readFromTree yG_readFromTree ∈ ck_T := ⟨ck_T_mk (List.mem_of_getElem? (i := 583) (by decide +kernel)) (by decide +kernel), ck_T_mk (List.mem_of_getElem? (i := 584) (by decide +kernel)) (by decide +kernel)⟩
theorem kG_followWayToFail : Cond.code yG_followWayToFail bG_followWayToFail 4 none ∈ ck_T := ck_T_mk (List.mem_of_getElem? (i := 594) (by decide +kernel)) (by decide +kernel)
theorem sG_followWayToFail : Cond.instanceMethod yG_followWayToFail ∈ ck_T ∧ Cond.selects yG_followWayToFail.cls yG_followWayToFail yG_followWayToFail ∈ ck_T := ⟨ck_T_mk (List.mem_of_getElem? (i := 593) (by decide +kernel)) (by decide +kernel), ck_T_mk (List.mem_of_getElem? (i := 13) (by decide +kernel)) (by decide +kernel)⟩
theorem kG_noteBranch : Cond.code yG_noteBranch bG_noteBranch 6 none ∈ ck_T := ck_T_mk (List.mem_of_getElem? (i := 603) (by decide +kernel)) (by decide +kernel)
theorem sG_noteBranch : Cond.instanceMethod yG_noteBranch ∈ ck_T ∧ Cond.selects yG_noteBranch.cls yG_noteBranch yG_noteBranch ∈ ck_T := ⟨ck_T_mk (List.mem_of_getElem? (i := 602) (by decide +kernel)) (by decide +kernel), ck_T_mk (List.mem_of_getElem? (i := 14) (by decide +kernel)) (by decide +kernel)⟩
theorem kG_write : Cond.code yG_write bG_write 2 none ∈ ck_T := ck_T_mk (List.mem_of_getElem? (i := 628) (by decide +kernel)) (by decide +kernel)
theorem sG_write : Cond.instanceMethod yG_write ∈ ck_T ∧ Cond.selects yG_write.cls yG_write yG_write ∈ ck_T := ⟨ck_T_mk (List.mem_of_getElem? (i := 627) (by decide +kernel)) (by decide +kernel), ck_T_mk (List.mem_of_getElem? (i := 16) (by decide +kernel)) (by decide +kernel)⟩
theorem kI_bitCount : Cond.code yI_bitCount bI_bitCount 1 (some .int) ∈ ck_T := ck_T_mk (List.mem_of_getElem? (i := 518) (by decide +kernel)) (by decide +kernel)
theorem sI_bitCount : Cond.static yI_bitCount ∈ ck_T := ck_T_mk (List.mem_of_getElem? (i := 517) (by decide +kernel)) (by decide +kernel)
theorem kJ_max : Cond.code yJ_max bJ_max 2 (some .int) ∈ ck_T := ck_T_mk (List.mem_of_getElem? (i := 435) (by decide +kernel)) (by decide +kernel)
theorem sJ_max : Cond.static yJ_max ∈ ck_T := ck_T_mk (List.mem_of_getElem? (i := 434) (by decide +kernel)) (by decide +kernel)
theorem kA_fill : Cond.code yA_fill bA_fill 4 none ∈ ck_T := ck_T_mk (List.mem_of_getElem? (i := 303) (by decide +kernel)) (by decide +kernel)
theorem sA_fill : Cond.static yA_fill ∈ ck_T := ck_T_mk (List.mem_of_getElem? (i := 302) (by decide +kernel)) (by decide +kernel)
theorem ini_C : Cond.initialized R_C ∈ ck_T := ck_T_mk (List.mem_of_getElem? (i := 43) (by decide +kernel)) (by decide +kernel)
theorem ini_D : Cond.initialized R_D ∈ ck_T := ck_T_mk (List.mem_of_getElem? (i := 44) (by decide +kernel)) (by decide +kernel)
theorem ini_P : Cond.initialized R_P ∈ ck_T := ck_T_mk (List.mem_of_getElem? (i := 45) (by decide +kernel)) (by decide +kernel)
theorem ini_V : Cond.initialized R_V ∈ ck_T := ck_T_mk (List.mem_of_getElem? (i := 46) (by decide +kernel)) (by decide +kernel)
theorem ini_M : Cond.initialized R_M ∈ ck_T := ck_T_mk (List.mem_of_getElem? (i := 47) (by decide +kernel)) (by decide +kernel)
theorem ini_T : Cond.initialized R_T ∈ ck_T := ck_T_mk (List.mem_of_getElem? (i := 48) (by decide +kernel)) (by decide +kernel)
theorem ini_G : Cond.initialized R_G ∈ ck_T := ck_T_mk (List.mem_of_getElem? (i := 49) (by decide +kernel)) (by decide +kernel)
theorem ini_R : Cond.initialized R_R ∈ ck_T := ck_T_mk (List.mem_of_getElem? (i := 50) (by decide +kernel)) (by decide +kernel)
theorem ini_I : Cond.initialized R_I ∈ ck_T := ck_T_mk (List.mem_of_getElem? (i := 53) (by decide +kernel)) (by decide +kernel)
theorem ini_J : Cond.initialized R_J ∈ ck_T := ck_T_mk (List.mem_of_getElem? (i := 52) (by decide +kernel)) (by decide +kernel)
theorem ini_A : Cond.initialized R_A ∈ ck_T := ck_T_mk (List.mem_of_getElem? (i := 51) (by decide +kernel)) (by decide +kernel)
theorem q_C : ∃ (ci N : Nat) (T0 : u_T) (fs : List (Option Nat)), sh_C[0]? = some (.inl (ci, fs)) ∧ cm_cl[ci]? = some (R_C, T0, N) := ⟨_, _, _, _, rfl, rfl⟩
theorem q_D : ∃ (ci N : Nat) (T0 : u_T) (fs : List (Option Nat)), sh_C[1]? = some (.inl (ci, fs)) ∧ cm_cl[ci]? = some (R_D, T0, N) := ⟨_, _, _, _, rfl, rfl⟩
theorem q_P : ∃ (ci N : Nat) (T0 : u_T) (fs : List (Option Nat)), sh_C[2]? = some (.inl (ci, fs)) ∧ cm_cl[ci]? = some (R_P, T0, N) := ⟨_, _, _, _, rfl, rfl⟩
theorem q_V : ∃ (ci N : Nat) (T0 : u_T) (fs : List (Option Nat)), sh_C[3]? = some (.inl (ci, fs)) ∧ cm_cl[ci]? = some (R_V, T0, N) := ⟨_, _, _, _, rfl, rfl⟩
theorem q_M : ∃ (ci N : Nat) (T0 : u_T) (fs : List (Option Nat)), sh_C[4]? = some (.inl (ci, fs)) ∧ cm_cl[ci]? = some (R_M, T0, N) := ⟨_, _, _, _, rfl, rfl⟩
theorem q_T : ∃ (ci N : Nat) (T0 : u_T) (fs : List (Option Nat)), sh_C[5]? = some (.inl (ci, fs)) ∧ cm_cl[ci]? = some (R_T, T0, N) := ⟨_, _, _, _, rfl, rfl⟩
theorem q_G : ∃ (ci N : Nat) (T0 : u_T) (fs : List (Option Nat)), sh_C[6]? = some (.inl (ci, fs)) ∧ cm_cl[ci]? = some (R_G, T0, N) := ⟨_, _, _, _, rfl, rfl⟩
theorem q_R : ∃ (ci N : Nat) (T0 : u_T) (fs : List (Option Nat)), sh_R[0]? = some (.inl (ci, fs)) ∧ cm_cl[ci]? = some (R_R, T0, N) := ⟨_, _, _, _, rfl, rfl⟩
theorem CC_D_reset : ck_C R_C 61 yD_reset bD_reset 1 none 0 := ⟨kD_reset, ck_T_mk (List.mem_of_getElem? (i := 285) (by decide +kernel)) (by decide +kernel), ini_D, by decide +kernel, by decide⟩
theorem CC_P_reset : ck_C R_C 64 yP_reset bP_reset 1 none 0 := ⟨kP_reset, ck_T_mk (List.mem_of_getElem? (i := 289) (by decide +kernel)) (by decide +kernel), ini_P, by decide +kernel, by decide⟩
theorem CC_V_reset : ck_C R_C 65 yV_reset bV_reset 1 none 0 := ⟨kV_reset, ck_T_mk (List.mem_of_getElem? (i := 293) (by decide +kernel)) (by decide +kernel), ini_V, by decide +kernel, by decide⟩
theorem CC_M_reset : ck_C R_C 66 yM_reset bM_reset 1 none 0 := ⟨kM_reset, ck_T_mk (List.mem_of_getElem? (i := 297) (by decide +kernel)) (by decide +kernel), ini_M, by decide +kernel, by decide⟩
theorem CC_T_drop : ck_C R_C 67 yT_drop bT_drop 1 none 0 := ⟨kT_drop, ck_T_mk (List.mem_of_getElem? (i := 304) (by decide +kernel)) (by decide +kernel), ini_T, by decide +kernel, by decide⟩
theorem CC_M_isBegun : ck_C R_C 70 yM_isBegun bM_isBegun 1 (some .boolean) 0 := ⟨kM_isBegun, ck_T_mk (List.mem_of_getElem? (i := 312) (by decide +kernel)) (by decide +kernel), ini_M, by decide +kernel, by decide⟩
theorem CC_D_addType : ck_C R_C 74 yD_addType bD_addType 1 (some .int) 0 := ⟨kD_addType, ck_T_mk (List.mem_of_getElem? (i := 316) (by decide +kernel)) (by decide +kernel), ini_D, by decide +kernel, by decide⟩
theorem CC_D_isOwnType : ck_C R_C 78 yD_isOwnType bD_isOwnType 2 (some .boolean) 1 := ⟨kD_isOwnType, ck_T_mk (List.mem_of_getElem? (i := 324) (by decide +kernel)) (by decide +kernel), ini_D, by decide +kernel, by decide⟩
theorem CC_D_canBeArguments : ck_C R_C 82 yD_canBeArguments bD_canBeArguments 3 (some .boolean) 2 := ⟨kD_canBeArguments, ck_T_mk (List.mem_of_getElem? (i := 328) (by decide +kernel)) (by decide +kernel), ini_D, by decide +kernel, by decide⟩
theorem CC_D_addConstructor : ck_C R_C 86 yD_addConstructor bD_addConstructor 5 (some .int) 3 := ⟨kD_addConstructor, ck_T_mk (List.mem_of_getElem? (i := 336) (by decide +kernel)) (by decide +kernel), ini_D, by decide +kernel, by decide⟩
theorem CC_D_isType : ck_C R_C 90 yD_isType bD_isType 2 (some .boolean) 1 := ⟨kD_isType, ck_T_mk (List.mem_of_getElem? (i := 348) (by decide +kernel)) (by decide +kernel), ini_D, by decide +kernel, by decide⟩
theorem CC_D_everyTypeHasValues : ck_C R_C 93 yD_everyTypeHasValues bD_everyTypeHasValues 3 (some .boolean) 0 := ⟨kD_everyTypeHasValues, ck_T_mk (List.mem_of_getElem? (i := 349) (by decide +kernel)) (by decide +kernel), ini_D, by decide +kernel, by decide⟩
theorem CC_M_beginOver : ck_C R_C 96 yM_beginOver bM_beginOver 2 none 1 := ⟨kM_beginOver, ck_T_mk (List.mem_of_getElem? (i := 360) (by decide +kernel)) (by decide +kernel), ini_M, by decide +kernel, by decide⟩
theorem CC_P_addAny : ck_C R_C 100 yP_addAny bP_addAny 1 (some .int) 0 := ⟨kP_addAny, ck_T_mk (List.mem_of_getElem? (i := 368) (by decide +kernel)) (by decide +kernel), ini_P, by decide +kernel, by decide⟩
theorem CC_P_addNumber : ck_C R_C 103 yP_addNumber bP_addNumber 2 (some .int) 1 := ⟨kP_addNumber, ck_T_mk (List.mem_of_getElem? (i := 388) (by decide +kernel)) (by decide +kernel), ini_P, by decide +kernel, by decide⟩
theorem CC_D_isConstructor : ck_C R_C 107 yD_isConstructor bD_isConstructor 2 (some .boolean) 1 := ⟨kD_isConstructor, ck_T_mk (List.mem_of_getElem? (i := 396) (by decide +kernel)) (by decide +kernel), ini_D, by decide +kernel, by decide⟩
theorem CC_D_firstTypeOf : ck_C R_C 110 yD_firstTypeOf bD_firstTypeOf 2 (some .int) 1 := ⟨kD_firstTypeOf, ck_T_mk (List.mem_of_getElem? (i := 400) (by decide +kernel)) (by decide +kernel), ini_D, by decide +kernel, by decide⟩
theorem CC_D_secondTypeOf : ck_C R_C 113 yD_secondTypeOf bD_secondTypeOf 2 (some .int) 1 := ⟨kD_secondTypeOf, ck_T_mk (List.mem_of_getElem? (i := 405) (by decide +kernel)) (by decide +kernel), ini_D, by decide +kernel, by decide⟩
theorem CC_P_has : ck_C R_C 116 yP_has bP_has 2 (some .boolean) 1 := ⟨kP_has, ck_T_mk (List.mem_of_getElem? (i := 409) (by decide +kernel)) (by decide +kernel), ini_P, by decide +kernel, by decide⟩
theorem CC_C_standsFor : ck_C R_C 119 yC_standsFor bC_standsFor 3 (some .boolean) 3 := ⟨kC_standsFor, ck_T_mk (List.mem_of_getElem? (i := 410) (by decide +kernel)) (by decide +kernel), ini_C, by decide +kernel, by decide⟩
theorem CC_P_fits : ck_C R_C 123 yP_fits bP_fits 3 (some .boolean) 2 := ⟨kP_fits, ck_T_mk (List.mem_of_getElem? (i := 413) (by decide +kernel)) (by decide +kernel), ini_P, by decide +kernel, by decide⟩
theorem CC_D_ownerOf : ck_C R_C 126 yD_ownerOf bD_ownerOf 2 (some .int) 1 := ⟨kD_ownerOf, ck_T_mk (List.mem_of_getElem? (i := 421) (by decide +kernel)) (by decide +kernel), ini_D, by decide +kernel, by decide⟩
theorem CC_P_addBuild : ck_C R_C 129 yP_addBuild bP_addBuild 7 (some .int) 4 := ⟨kP_addBuild, ck_T_mk (List.mem_of_getElem? (i := 425) (by decide +kernel)) (by decide +kernel), ini_P, by decide +kernel, by decide⟩
theorem CC_P_agree : ck_C R_C 133 yP_agree bP_agree 3 (some .boolean) 2 := ⟨kP_agree, ck_T_mk (List.mem_of_getElem? (i := 444) (by decide +kernel)) (by decide +kernel), ini_P, by decide +kernel, by decide⟩
theorem CC_P_addEither : ck_C R_C 136 yP_addEither bP_addEither 6 (some .int) 2 := ⟨kP_addEither, ck_T_mk (List.mem_of_getElem? (i := 449) (by decide +kernel)) (by decide +kernel), ini_P, by decide +kernel, by decide⟩
theorem CC_M_typeOver : ck_C R_C 140 yM_typeOver bM_typeOver 1 (some .int) 0 := ⟨kM_typeOver, ck_T_mk (List.mem_of_getElem? (i := 457) (by decide +kernel)) (by decide +kernel), ini_M, by decide +kernel, by decide⟩
theorem CC_M_addRow : ck_C R_C 143 yM_addRow bM_addRow 5 (some .int) 1 := ⟨kM_addRow, ck_T_mk (List.mem_of_getElem? (i := 461) (by decide +kernel)) (by decide +kernel), ini_M, by decide +kernel, by decide⟩
theorem CC_T_grow : ck_C R_C 146 yT_grow bT_grow 3 (some .boolean) 0 := ⟨kT_grow, ck_T_mk (List.mem_of_getElem? (i := 496) (by decide +kernel)) (by decide +kernel), ini_T, by decide +kernel, by decide⟩
theorem CC_G_readFromTree : ck_C R_C 149 yG_readFromTree bG_readFromTree 1 none 0 := ⟨kG_readFromTree, ck_T_mk (List.mem_of_getElem? (i := 582) (by decide +kernel)) (by decide +kernel), ini_G, by decide +kernel, by decide⟩
theorem CC_T_size : ck_C R_C 152 yT_size bT_size 1 (some .int) 0 := ⟨kT_size, ck_T_mk (List.mem_of_getElem? (i := 631) (by decide +kernel)) (by decide +kernel), ini_T, by decide +kernel, by decide⟩
theorem CC_T_isThere : ck_C R_C 155 yT_isThere bT_isThere 1 (some .boolean) 0 := ⟨kT_isThere, ck_T_mk (List.mem_of_getElem? (i := 639) (by decide +kernel)) (by decide +kernel), ini_T, by decide +kernel, by decide⟩
theorem CC_T_countKinds : ck_C R_C 158 yT_countKinds bT_countKinds 4 (some .int) 0 := ⟨kT_countKinds, ck_T_mk (List.mem_of_getElem? (i := 643) (by decide +kernel)) (by decide +kernel), ini_T, by decide +kernel, by decide⟩
theorem CC_T_mostTests : ck_C R_C 161 yT_mostTests bT_mostTests 3 (some .int) 0 := ⟨kT_mostTests, ck_T_mk (List.mem_of_getElem? (i := 655) (by decide +kernel)) (by decide +kernel), ini_T, by decide +kernel, by decide⟩
theorem CC_M_hasRow : ck_C R_C 164 yM_hasRow bM_hasRow 2 (some .boolean) 1 := ⟨kM_hasRow, ck_T_mk (List.mem_of_getElem? (i := 664) (by decide +kernel)) (by decide +kernel), ini_M, by decide +kernel, by decide⟩
theorem CC_T_caught : ck_C R_C 167 yT_caught bT_caught 1 (some .int) 0 := ⟨kT_caught, ck_T_mk (List.mem_of_getElem? (i := 668) (by decide +kernel)) (by decide +kernel), ini_T, by decide +kernel, by decide⟩
theorem CC_M_alternativesOutside : ck_C R_C 170 yM_alternativesOutside bM_alternativesOutside 4 (some .int) 2 := ⟨kM_alternativesOutside, ck_T_mk (List.mem_of_getElem? (i := 672) (by decide +kernel)) (by decide +kernel), ini_M, by decide +kernel, by decide⟩
theorem CC_G_length : ck_C R_C 173 yG_length bG_length 1 (some .int) 0 := ⟨kG_length, ck_T_mk (List.mem_of_getElem? (i := 681) (by decide +kernel)) (by decide +kernel), ini_G, by decide +kernel, by decide⟩
theorem CC_G_has : ck_C R_C 176 yG_has bG_has 2 (some .boolean) 1 := ⟨kG_has, ck_T_mk (List.mem_of_getElem? (i := 689) (by decide +kernel)) (by decide +kernel), ini_G, by decide +kernel, by decide⟩
theorem CC_G_kindOf : ck_C R_C 177 yG_kindOf bG_kindOf 2 (some .int) 1 := ⟨kG_kindOf, ck_T_mk (List.mem_of_getElem? (i := 693) (by decide +kernel)) (by decide +kernel), ini_G, by decide +kernel, by decide⟩
theorem CC_G_symbolOf : ck_C R_C 180 yG_symbolOf bG_symbolOf 2 (some .int) 1 := ⟨kG_symbolOf, ck_T_mk (List.mem_of_getElem? (i := 702) (by decide +kernel)) (by decide +kernel), ini_G, by decide +kernel, by decide⟩
theorem CC_V_addInt : ck_C R_C 183 yV_addInt bV_addInt 2 (some .int) 1 := ⟨kV_addInt, ck_T_mk (List.mem_of_getElem? (i := 710) (by decide +kernel)) (by decide +kernel), ini_V, by decide +kernel, by decide⟩
theorem CC_V_has : ck_C R_C 186 yV_has bV_has 2 (some .boolean) 1 := ⟨kV_has, ck_T_mk (List.mem_of_getElem? (i := 722) (by decide +kernel)) (by decide +kernel), ini_V, by decide +kernel, by decide⟩
theorem CC_V_isOf : ck_C R_C 187 yV_isOf bV_isOf 3 (some .boolean) 2 := ⟨kV_isOf, ck_T_mk (List.mem_of_getElem? (i := 726) (by decide +kernel)) (by decide +kernel), ini_V, by decide +kernel, by decide⟩
theorem CC_V_addBuilt : ck_C R_C 190 yV_addBuilt bV_addBuilt 6 (some .int) 4 := ⟨kV_addBuilt, ck_T_mk (List.mem_of_getElem? (i := 731) (by decide +kernel)) (by decide +kernel), ini_V, by decide +kernel, by decide⟩
theorem CC_T_leafFor : ck_C R_C 193 yT_leafFor bT_leafFor 7 (some .int) 2 := ⟨kT_leafFor, ck_T_mk (List.mem_of_getElem? (i := 736) (by decide +kernel)) (by decide +kernel), ini_T, by decide +kernel, by decide⟩
theorem CC_T_testsAbove : ck_C R_C 197 yT_testsAbove bT_testsAbove 2 (some .int) 1 := ⟨kT_testsAbove, ck_T_mk (List.mem_of_getElem? (i := 753) (by decide +kernel)) (by decide +kernel), ini_T, by decide +kernel, by decide⟩
theorem CC_T_clauseAt : ck_C R_C 200 yT_clauseAt bT_clauseAt 2 (some .int) 1 := ⟨kT_clauseAt, ck_T_mk (List.mem_of_getElem? (i := 757) (by decide +kernel)) (by decide +kernel), ini_T, by decide +kernel, by decide⟩
theorem CC_M_rowOf : ck_C R_C 203 yM_rowOf bM_rowOf 2 (some .int) 1 := ⟨kM_rowOf, ck_T_mk (List.mem_of_getElem? (i := 761) (by decide +kernel)) (by decide +kernel), ini_M, by decide +kernel, by decide⟩
theorem CR_R_isType : ck_C R_R 145 yR_isType bR_isType 2 (some .boolean) 1 := ⟨kR_isType, ck_T_mk (List.mem_of_getElem? (i := 929) (by decide +kernel)) (by decide +kernel), ini_R, by decide +kernel, by decide⟩
theorem CR_R_constructorsOf : ck_C R_R 149 yR_constructorsOf bR_constructorsOf 4 (some .int) 1 := ⟨kR_constructorsOf, ck_T_mk (List.mem_of_getElem? (i := 933) (by decide +kernel)) (by decide +kernel), ini_R, by decide +kernel, by decide⟩
theorem CR_R_inhabited : ck_C R_R 153 yR_inhabited bR_inhabited 6 (some .boolean) 0 := ⟨kR_inhabited, ck_T_mk (List.mem_of_getElem? (i := 941) (by decide +kernel)) (by decide +kernel), ini_R, by decide +kernel, by decide⟩
theorem CR_R_pattern : ck_C R_R 157 yR_pattern bR_pattern 8 (some .int) 7 := ⟨kR_pattern, ck_T_mk (List.mem_of_getElem? (i := 949) (by decide +kernel)) (by decide +kernel), ini_R, by decide +kernel, by decide⟩
theorem CR_R_isPattern : ck_C R_R 161 yR_isPattern bR_isPattern 2 (some .boolean) 1 := ⟨kR_isPattern, ck_T_mk (List.mem_of_getElem? (i := 961) (by decide +kernel)) (by decide +kernel), ini_R, by decide +kernel, by decide⟩
theorem CR_R_fitsType : ck_C R_R 164 yR_fitsType bR_fitsType 3 (some .boolean) 2 := ⟨kR_fitsType, ck_T_mk (List.mem_of_getElem? (i := 965) (by decide +kernel)) (by decide +kernel), ini_R, by decide +kernel, by decide⟩
theorem CR_R_writeOut : ck_C R_R 168 yR_writeOut bR_writeOut 5 none 3 := ⟨kR_writeOut, ck_T_mk (List.mem_of_getElem? (i := 977) (by decide +kernel)) (by decide +kernel), ini_R, by decide +kernel, by decide⟩
theorem CR_R_writeOne : ck_C R_R 172 yR_writeOne bR_writeOne 7 (some .int) 2 := ⟨kR_writeOne, ck_T_mk (List.mem_of_getElem? (i := 981) (by decide +kernel)) (by decide +kernel), ini_R, by decide +kernel, by decide⟩
theorem CR_R_lowest : ck_C R_R 176 yR_lowest bR_lowest 2 (some .int) 1 := ⟨kR_lowest, ck_T_mk (List.mem_of_getElem? (i := 997) (by decide +kernel)) (by decide +kernel), ini_R, by decide +kernel, by decide⟩
theorem CR_R_askers : ck_C R_R 179 yR_askers bR_askers 5 (some .int) 2 := ⟨kR_askers, ck_T_mk (List.mem_of_getElem? (i := 1000) (by decide +kernel)) (by decide +kernel), ini_R, by decide +kernel, by decide⟩
theorem CR_R_keep : ck_C R_R 188 yR_keep bR_keep 8 (some .int) 4 := ⟨kR_keep, ck_T_mk (List.mem_of_getElem? (i := 1014) (by decide +kernel)) (by decide +kernel), ini_R, by decide +kernel, by decide⟩
theorem CR_R_choose : ck_C R_R 192 yR_choose bR_choose 7 (some .int) 2 := ⟨kR_choose, ck_T_mk (List.mem_of_getElem? (i := 993) (by decide +kernel)) (by decide +kernel), ini_R, by decide +kernel, by decide⟩
theorem CR_R_growNumbers : ck_C R_R 195 yR_growNumbers bR_growNumbers 11 none 3 := ⟨kR_growNumbers, ck_T_mk (List.mem_of_getElem? (i := 1004) (by decide +kernel)) (by decide +kernel), ini_R, by decide +kernel, by decide⟩
theorem CR_R_branch : ck_C R_R 198 yR_branch bR_branch 5 none 4 := ⟨kR_branch, ck_T_mk (List.mem_of_getElem? (i := 1010) (by decide +kernel)) (by decide +kernel), ini_R, by decide +kernel, by decide⟩
theorem CR_R_grow : ck_C R_R 206 yR_grow bR_grow 7 none 1 := ⟨kR_grow, ck_T_mk (List.mem_of_getElem? (i := 989) (by decide +kernel)) (by decide +kernel), ini_R, by decide +kernel, by decide⟩
theorem CR_R_findWitness : ck_C R_R 210 yR_findWitness bR_findWitness 4 none 0 := ⟨kR_findWitness, ck_T_mk (List.mem_of_getElem? (i := 1018) (by decide +kernel)) (by decide +kernel), ini_R, by decide +kernel, by decide⟩
theorem CR_R_alike : ck_C R_R 213 yR_alike bR_alike 6 (some .boolean) 2 := ⟨kR_alike, ck_T_mk (List.mem_of_getElem? (i := 1034) (by decide +kernel)) (by decide +kernel), ini_R, by decide +kernel, by decide⟩
theorem CR_R_hasBranch : ck_C R_R 219 yR_hasBranch bR_hasBranch 5 (some .boolean) 2 := ⟨kR_hasBranch, ck_T_mk (List.mem_of_getElem? (i := 1022) (by decide +kernel)) (by decide +kernel), ini_R, by decide +kernel, by decide⟩
theorem CR_R_writeWitness : ck_C R_R 222 yR_writeWitness bR_writeWitness 5 none 0 := ⟨kR_writeWitness, ck_T_mk (List.mem_of_getElem? (i := 1026) (by decide +kernel)) (by decide +kernel), ini_R, by decide +kernel, by decide⟩
theorem CR_R_value : ck_C R_R 225 yR_value bR_value 5 (some .int) 4 := ⟨kR_value, ck_T_mk (List.mem_of_getElem? (i := 1062) (by decide +kernel)) (by decide +kernel), ini_R, by decide +kernel, by decide⟩
theorem CR_R_isValue : ck_C R_R 229 yR_isValue bR_isValue 2 (some .boolean) 1 := ⟨kR_isValue, ck_T_mk (List.mem_of_getElem? (i := 1070) (by decide +kernel)) (by decide +kernel), ini_R, by decide +kernel, by decide⟩
theorem CR_R_typeOf : ck_C R_R 232 yR_typeOf bR_typeOf 2 (some .int) 1 := ⟨kR_typeOf, ck_T_mk (List.mem_of_getElem? (i := 1074) (by decide +kernel)) (by decide +kernel), ini_R, by decide +kernel, by decide⟩
theorem CR_R_part : ck_C R_R 235 yR_part bR_part 6 (some .int) 2 := ⟨kR_part, ck_T_mk (List.mem_of_getElem? (i := 1086) (by decide +kernel)) (by decide +kernel), ini_R, by decide +kernel, by decide⟩
theorem CR_R_walk : ck_C R_R 238 yR_walk bR_walk 6 (some .int) 1 := ⟨kR_walk, ck_T_mk (List.mem_of_getElem? (i := 1082) (by decide +kernel)) (by decide +kernel), ini_R, by decide +kernel, by decide⟩
theorem CR_R_fits : ck_C R_R 241 yR_fits bR_fits 5 (some .boolean) 2 := ⟨kR_fits, ck_T_mk (List.mem_of_getElem? (i := 1090) (by decide +kernel)) (by decide +kernel), ini_R, by decide +kernel, by decide⟩
theorem CD_D_countOfType : ck_C R_D 28 yD_countOfType bD_countOfType 4 (some .int) 1 := ⟨kD_countOfType, ck_T_mk (List.mem_of_getElem? (i := 340) (by decide +kernel)) (by decide +kernel), ini_D, by decide +kernel, by decide⟩
theorem CD_D_isType : ck_C R_D 32 yD_isType bD_isType 2 (some .boolean) 1 := ⟨kD_isType, ck_T_mk (List.mem_of_getElem? (i := 332) (by decide +kernel)) (by decide +kernel), ini_D, by decide +kernel, by decide⟩
theorem CD_D_isConstructor : ck_C R_D 36 yD_isConstructor bD_isConstructor 2 (some .boolean) 1 := ⟨kD_isConstructor, ck_T_mk (List.mem_of_getElem? (i := 404) (by decide +kernel)) (by decide +kernel), ini_D, by decide +kernel, by decide⟩
theorem CD_D_firstTypeOf : ck_C R_D 39 yD_firstTypeOf bD_firstTypeOf 2 (some .int) 1 := ⟨kD_firstTypeOf, ck_T_mk (List.mem_of_getElem? (i := 568) (by decide +kernel)) (by decide +kernel), ini_D, by decide +kernel, by decide⟩
theorem CD_D_secondTypeOf : ck_C R_D 42 yD_secondTypeOf bD_secondTypeOf 2 (some .int) 1 := ⟨kD_secondTypeOf, ck_T_mk (List.mem_of_getElem? (i := 569) (by decide +kernel)) (by decide +kernel), ini_D, by decide +kernel, by decide⟩
theorem CD_D_withTypesBuiltFrom : ck_C R_D 45 yD_withTypesBuiltFrom bD_withTypesBuiltFrom 4 (some .int) 1 := ⟨kD_withTypesBuiltFrom, ck_T_mk (List.mem_of_getElem? (i := 353) (by decide +kernel)) (by decide +kernel), ini_D, by decide +kernel, by decide⟩
theorem CD_D_canBeGiven : ck_C R_D 48 yD_canBeGiven bD_canBeGiven 2 (some .boolean) 2 := ⟨kD_canBeGiven, ck_T_mk (List.mem_of_getElem? (i := 357) (by decide +kernel)) (by decide +kernel), ini_D, by decide +kernel, by decide⟩
theorem CM_A_fill : ck_C R_M 41 yA_fill bA_fill 4 none 2 := ⟨kA_fill, ck_T_mk (List.mem_of_getElem? (i := 301) (by decide +kernel)) (by decide +kernel), ini_A, by decide +kernel, by decide⟩
theorem CM_P_choicesOf : ck_C R_M 47 yP_choicesOf bP_choicesOf 2 (some .int) 1 := ⟨kP_choicesOf, ck_T_mk (List.mem_of_getElem? (i := 465) (by decide +kernel)) (by decide +kernel), ini_P, by decide +kernel, by decide⟩
theorem CM_M_layOut : ck_C R_M 53 yM_layOut bM_layOut 10 none 4 := ⟨kM_layOut, ck_T_mk (List.mem_of_getElem? (i := 466) (by decide +kernel)) (by decide +kernel), ini_M, by decide +kernel, by decide⟩
theorem CM_P_isEither : ck_C R_M 57 yP_isEither bP_isEither 2 (some .boolean) 1 := ⟨kP_isEither, ck_T_mk (List.mem_of_getElem? (i := 470) (by decide +kernel)) (by decide +kernel), ini_P, by decide +kernel, by decide⟩
theorem CM_P_firstOf : ck_C R_M 61 yP_firstOf bP_firstOf 2 (some .int) 1 := ⟨kP_firstOf, ck_T_mk (List.mem_of_getElem? (i := 474) (by decide +kernel)) (by decide +kernel), ini_P, by decide +kernel, by decide⟩
theorem CM_P_secondOf : ck_C R_M 64 yP_secondOf bP_secondOf 2 (some .int) 1 := ⟨kP_secondOf, ck_T_mk (List.mem_of_getElem? (i := 478) (by decide +kernel)) (by decide +kernel), ini_P, by decide +kernel, by decide⟩
theorem CM_P_has : ck_C R_M 67 yP_has bP_has 2 (some .boolean) 1 := ⟨kP_has, ck_T_mk (List.mem_of_getElem? (i := 482) (by decide +kernel)) (by decide +kernel), ini_P, by decide +kernel, by decide⟩
theorem CM_P_isOpen : ck_C R_M 70 yP_isOpen bP_isOpen 2 (some .boolean) 1 := ⟨kP_isOpen, ck_T_mk (List.mem_of_getElem? (i := 483) (by decide +kernel)) (by decide +kernel), ini_P, by decide +kernel, by decide⟩
theorem CM_P_symbolOf : ck_C R_M 73 yP_symbolOf bP_symbolOf 2 (some .int) 1 := ⟨kP_symbolOf, ck_T_mk (List.mem_of_getElem? (i := 484) (by decide +kernel)) (by decide +kernel), ini_P, by decide +kernel, by decide⟩
theorem CM_P_itsType : ck_C R_M 76 yP_itsType bP_itsType 2 (some .int) 1 := ⟨kP_itsType, ck_T_mk (List.mem_of_getElem? (i := 488) (by decide +kernel)) (by decide +kernel), ini_P, by decide +kernel, by decide⟩
theorem CM_I_bitCount : ck_C R_M 79 yI_bitCount bI_bitCount 1 (some .int) 1 := ⟨kI_bitCount, ck_T_mk (List.mem_of_getElem? (i := 516) (by decide +kernel)) (by decide +kernel), ini_I, by decide +kernel, by decide⟩
theorem CM_M_firstOf : ck_C R_M 84 yM_firstOf bM_firstOf 3 (some .int) 1 := ⟨kM_firstOf, ck_T_mk (List.mem_of_getElem? (i := 534) (by decide +kernel)) (by decide +kernel), ini_M, by decide +kernel, by decide⟩
theorem CM_M_notAsking : ck_C R_M 85 yM_notAsking bM_notAsking 3 (some .int) 2 := ⟨kM_notAsking, ck_T_mk (List.mem_of_getElem? (i := 550) (by decide +kernel)) (by decide +kernel), ini_M, by decide +kernel, by decide⟩
theorem CM_M_hasRow : ck_C R_M 91 yM_hasRow bM_hasRow 2 (some .boolean) 1 := ⟨kM_hasRow, ck_T_mk (List.mem_of_getElem? (i := 676) (by decide +kernel)) (by decide +kernel), ini_M, by decide +kernel, by decide⟩
theorem CP_P_add : ck_C R_P 38 yP_add bP_add 5 (some .int) 3 := ⟨kP_add, ck_T_mk (List.mem_of_getElem? (i := 372) (by decide +kernel)) (by decide +kernel), ini_P, by decide +kernel, by decide⟩
theorem CP_P_depthOf : ck_C R_P 42 yP_depthOf bP_depthOf 2 (some .int) 1 := ⟨kP_depthOf, ck_T_mk (List.mem_of_getElem? (i := 429) (by decide +kernel)) (by decide +kernel), ini_P, by decide +kernel, by decide⟩
theorem CP_P_choicesOf : ck_C R_P 52 yP_choicesOf bP_choicesOf 2 (some .int) 1 := ⟨kP_choicesOf, ck_T_mk (List.mem_of_getElem? (i := 436) (by decide +kernel)) (by decide +kernel), ini_P, by decide +kernel, by decide⟩
theorem CP_P_withParts : ck_C R_P 55 yP_withParts bP_withParts 6 (some .int) 5 := ⟨kP_withParts, ck_T_mk (List.mem_of_getElem? (i := 376) (by decide +kernel)) (by decide +kernel), ini_P, by decide +kernel, by decide⟩
theorem CP_P_isOpen : ck_C R_P 59 yP_isOpen bP_isOpen 2 (some .boolean) 1 := ⟨kP_isOpen, ck_T_mk (List.mem_of_getElem? (i := 417) (by decide +kernel)) (by decide +kernel), ini_P, by decide +kernel, by decide⟩
theorem CP_P_has : ck_C R_P 63 yP_has bP_has 2 (some .boolean) 1 := ⟨kP_has, ck_T_mk (List.mem_of_getElem? (i := 380) (by decide +kernel)) (by decide +kernel), ini_P, by decide +kernel, by decide⟩
theorem CP_P_fits : ck_C R_P 66 yP_fits bP_fits 3 (some .boolean) 2 := ⟨kP_fits, ck_T_mk (List.mem_of_getElem? (i := 448) (by decide +kernel)) (by decide +kernel), ini_P, by decide +kernel, by decide⟩
theorem CT_T_has : ck_C R_T 68 yT_has bT_has 2 (some .boolean) 1 := ⟨kT_has, ck_T_mk (List.mem_of_getElem? (i := 578) (by decide +kernel)) (by decide +kernel), ini_T, by decide +kernel, by decide⟩
theorem CT_M_allClauses : ck_C R_T 72 yM_allClauses bM_allClauses 1 (some .int) 0 := ⟨kM_allClauses, ck_T_mk (List.mem_of_getElem? (i := 500) (by decide +kernel)) (by decide +kernel), ini_M, by decide +kernel, by decide⟩
theorem CT_T_addNode : ck_C R_T 78 yT_addNode bT_addNode 5 (some .boolean) 4 := ⟨kT_addNode, ck_T_mk (List.mem_of_getElem? (i := 504) (by decide +kernel)) (by decide +kernel), ini_T, by decide +kernel, by decide⟩
theorem CT_T_expand : ck_C R_T 82 yT_expand bT_expand 3 (some .boolean) 1 := ⟨kT_expand, ck_T_mk (List.mem_of_getElem? (i := 508) (by decide +kernel)) (by decide +kernel), ini_T, by decide +kernel, by decide⟩
theorem CT_T_markFailing : ck_C R_T 85 yT_markFailing bT_markFailing 3 none 0 := ⟨kT_markFailing, ck_T_mk (List.mem_of_getElem? (i := 570) (by decide +kernel)) (by decide +kernel), ini_T, by decide +kernel, by decide⟩
theorem CT_M_placeToTest : ck_C R_T 88 yM_placeToTest bM_placeToTest 9 (some .int) 2 := ⟨kM_placeToTest, ck_T_mk (List.mem_of_getElem? (i := 512) (by decide +kernel)) (by decide +kernel), ini_M, by decide +kernel, by decide⟩
theorem CT_T_makeLeaf : ck_C R_T 92 yT_makeLeaf bT_makeLeaf 2 none 1 := ⟨kT_makeLeaf, ck_T_mk (List.mem_of_getElem? (i := 522) (by decide +kernel)) (by decide +kernel), ini_T, by decide +kernel, by decide⟩
theorem CT_M_typeAskedAt : ck_C R_T 96 yM_typeAskedAt bM_typeAskedAt 4 (some .int) 2 := ⟨kM_typeAskedAt, ck_T_mk (List.mem_of_getElem? (i := 530) (by decide +kernel)) (by decide +kernel), ini_M, by decide +kernel, by decide⟩
theorem CT_T_addNumbers : ck_C R_T 99 yT_addNumbers bT_addNumbers 8 (some .boolean) 1 := ⟨kT_addNumbers, ck_T_mk (List.mem_of_getElem? (i := 535) (by decide +kernel)) (by decide +kernel), ini_T, by decide +kernel, by decide⟩
theorem CT_T_addConstructors : ck_C R_T 102 yT_addConstructors bT_addConstructors 7 (some .boolean) 1 := ⟨kT_addConstructors, ck_T_mk (List.mem_of_getElem? (i := 555) (by decide +kernel)) (by decide +kernel), ini_T, by decide +kernel, by decide⟩
theorem CT_M_firstOf : ck_C R_T 105 yM_firstOf bM_firstOf 3 (some .int) 1 := ⟨kM_firstOf, ck_T_mk (List.mem_of_getElem? (i := 526) (by decide +kernel)) (by decide +kernel), ini_M, by decide +kernel, by decide⟩
theorem CT_M_leastAbove : ck_C R_T 111 yM_leastAbove bM_leastAbove 11 (some .long) 3 := ⟨kM_leastAbove, ck_T_mk (List.mem_of_getElem? (i := 540) (by decide +kernel)) (by decide +kernel), ini_M, by decide +kernel, by decide⟩
theorem CT_M_notAskingElse : ck_C R_T 117 yM_notAskingElse bM_notAskingElse 6 (some .int) 3 := ⟨kM_notAskingElse, ck_T_mk (List.mem_of_getElem? (i := 546) (by decide +kernel)) (by decide +kernel), ini_M, by decide +kernel, by decide⟩
theorem CT_M_notAsking : ck_C R_T 121 yM_notAsking bM_notAsking 3 (some .int) 2 := ⟨kM_notAsking, ck_T_mk (List.mem_of_getElem? (i := 554) (by decide +kernel)) (by decide +kernel), ini_M, by decide +kernel, by decide⟩
theorem CT_D_constructorCount : ck_C R_T 124 yD_constructorCount bD_constructorCount 1 (some .int) 0 := ⟨kD_constructorCount, ck_T_mk (List.mem_of_getElem? (i := 559) (by decide +kernel)) (by decide +kernel), ini_D, by decide +kernel, by decide⟩
theorem CT_D_ownerOf : ck_C R_T 129 yD_ownerOf bD_ownerOf 2 (some .int) 1 := ⟨kD_ownerOf, ck_T_mk (List.mem_of_getElem? (i := 563) (by decide +kernel)) (by decide +kernel), ini_D, by decide +kernel, by decide⟩
theorem CT_D_argumentPlaces : ck_C R_T 132 yD_argumentPlaces bD_argumentPlaces 4 (some .int) 2 := ⟨kD_argumentPlaces, ck_T_mk (List.mem_of_getElem? (i := 564) (by decide +kernel)) (by decide +kernel), ini_D, by decide +kernel, by decide⟩
theorem CT_T_failingBranch : ck_C R_T 135 yT_failingBranch bT_failingBranch 3 (some .int) 1 := ⟨kT_failingBranch, ck_T_mk (List.mem_of_getElem? (i := 574) (by decide +kernel)) (by decide +kernel), ini_T, by decide +kernel, by decide⟩
theorem CT_T_alike : ck_C R_T 143 yT_alike bT_alike 7 (some .boolean) 2 := ⟨kT_alike, ck_T_mk (List.mem_of_getElem? (i := 647) (by decide +kernel)) (by decide +kernel), ini_T, by decide +kernel, by decide⟩
theorem CT_T_placeOf : ck_C R_T 147 yT_placeOf bT_placeOf 2 (some .int) 1 := ⟨kT_placeOf, ck_T_mk (List.mem_of_getElem? (i := 740) (by decide +kernel)) (by decide +kernel), ini_T, by decide +kernel, by decide⟩
theorem CT_V_firstOf : ck_C R_T 150 yV_firstOf bV_firstOf 2 (some .int) 1 := ⟨kV_firstOf, ck_T_mk (List.mem_of_getElem? (i := 741) (by decide +kernel)) (by decide +kernel), ini_V, by decide +kernel, by decide⟩
theorem CT_V_secondOf : ck_C R_T 153 yV_secondOf bV_secondOf 2 (some .int) 1 := ⟨kV_secondOf, ck_T_mk (List.mem_of_getElem? (i := 745) (by decide +kernel)) (by decide +kernel), ini_V, by decide +kernel, by decide⟩
theorem CT_V_symbolOf : ck_C R_T 156 yV_symbolOf bV_symbolOf 2 (some .int) 1 := ⟨kV_symbolOf, ck_T_mk (List.mem_of_getElem? (i := 749) (by decide +kernel)) (by decide +kernel), ini_V, by decide +kernel, by decide⟩
theorem CT_T_branchFor : ck_C R_T 159 yT_branchFor bT_branchFor 5 (some .int) 2 := ⟨kT_branchFor, ck_T_mk (List.mem_of_getElem? (i := 617) (by decide +kernel)) (by decide +kernel), ini_T, by decide +kernel, by decide⟩
theorem CT_T_lastBranch : ck_C R_T 162 yT_lastBranch bT_lastBranch 2 (some .int) 1 := ⟨kT_lastBranch, ck_T_mk (List.mem_of_getElem? (i := 616) (by decide +kernel)) (by decide +kernel), ini_T, by decide +kernel, by decide⟩
theorem CV_V_addBuilt : ck_C R_V 28 yV_addBuilt bV_addBuilt 6 (some .int) 4 := ⟨kV_addBuilt, ck_T_mk (List.mem_of_getElem? (i := 714) (by decide +kernel)) (by decide +kernel), ini_V, by decide +kernel, by decide⟩
theorem CV_V_has : ck_C R_V 32 yV_has bV_has 2 (some .boolean) 1 := ⟨kV_has, ck_T_mk (List.mem_of_getElem? (i := 730) (by decide +kernel)) (by decide +kernel), ini_V, by decide +kernel, by decide⟩
theorem CG_G_has : ck_C R_G 36 yG_has bG_has 2 (some .boolean) 1 := ⟨kG_has, ck_T_mk (List.mem_of_getElem? (i := 697) (by decide +kernel)) (by decide +kernel), ini_G, by decide +kernel, by decide⟩
theorem CG_T_hasFailing : ck_C R_G 40 yT_hasFailing bT_hasFailing 1 (some .boolean) 0 := ⟨kT_hasFailing, ck_T_mk (List.mem_of_getElem? (i := 586) (by decide +kernel)) (by decide +kernel), ini_T, by decide +kernel, by decide⟩
theorem CG_A_fill : ck_C R_G 46 yA_fill bA_fill 4 none 2 := ⟨kA_fill, ck_T_mk (List.mem_of_getElem? (i := 590) (by decide +kernel)) (by decide +kernel), ini_A, by decide +kernel, by decide⟩
theorem CG_G_followWayToFail : ck_C R_G 52 yG_followWayToFail bG_followWayToFail 4 none 0 := ⟨kG_followWayToFail, ck_T_mk (List.mem_of_getElem? (i := 591) (by decide +kernel)) (by decide +kernel), ini_G, by decide +kernel, by decide⟩
theorem CG_G_write : ck_C R_G 55 yG_write bG_write 2 none 1 := ⟨kG_write, ck_T_mk (List.mem_of_getElem? (i := 625) (by decide +kernel)) (by decide +kernel), ini_G, by decide +kernel, by decide⟩
theorem CG_T_placeOf : ck_C R_G 59 yT_placeOf bT_placeOf 2 (some .int) 1 := ⟨kT_placeOf, ck_T_mk (List.mem_of_getElem? (i := 595) (by decide +kernel)) (by decide +kernel), ini_T, by decide +kernel, by decide⟩
theorem CG_T_failingBranch : ck_C R_G 63 yT_failingBranch bT_failingBranch 3 (some .int) 1 := ⟨kT_failingBranch, ck_T_mk (List.mem_of_getElem? (i := 599) (by decide +kernel)) (by decide +kernel), ini_T, by decide +kernel, by decide⟩
theorem CG_G_noteBranch : ck_C R_G 66 yG_noteBranch bG_noteBranch 6 none 2 := ⟨kG_noteBranch, ck_T_mk (List.mem_of_getElem? (i := 600) (by decide +kernel)) (by decide +kernel), ini_G, by decide +kernel, by decide⟩
theorem CG_T_typeOfTest : ck_C R_G 70 yT_typeOfTest bT_typeOfTest 2 (some .int) 1 := ⟨kT_typeOfTest, ck_T_mk (List.mem_of_getElem? (i := 604) (by decide +kernel)) (by decide +kernel), ini_T, by decide +kernel, by decide⟩
theorem CG_T_lastBranch : ck_C R_G 73 yT_lastBranch bT_lastBranch 2 (some .int) 1 := ⟨kT_lastBranch, ck_T_mk (List.mem_of_getElem? (i := 608) (by decide +kernel)) (by decide +kernel), ini_T, by decide +kernel, by decide⟩
theorem CG_T_leastWithoutBranch : ck_C R_G 76 yT_leastWithoutBranch bT_leastWithoutBranch 5 (some .int) 1 := ⟨kT_leastWithoutBranch, ck_T_mk (List.mem_of_getElem? (i := 612) (by decide +kernel)) (by decide +kernel), ini_T, by decide +kernel, by decide⟩
theorem CG_T_labelOf : ck_C R_G 79 yT_labelOf bT_labelOf 2 (some .int) 1 := ⟨kT_labelOf, ck_T_mk (List.mem_of_getElem? (i := 621) (by decide +kernel)) (by decide +kernel), ini_T, by decide +kernel, by decide⟩
theorem CG_D_firstTypeOf : ck_C R_G 82 yD_firstTypeOf bD_firstTypeOf 2 (some .int) 1 := ⟨kD_firstTypeOf, ck_T_mk (List.mem_of_getElem? (i := 629) (by decide +kernel)) (by decide +kernel), ini_D, by decide +kernel, by decide⟩
theorem CG_D_secondTypeOf : ck_C R_G 87 yD_secondTypeOf bD_secondTypeOf 2 (some .int) 1 := ⟨kD_secondTypeOf, ck_T_mk (List.mem_of_getElem? (i := 630) (by decide +kernel)) (by decide +kernel), ini_D, by decide +kernel, by decide⟩
end
section
theorem dI_bitCount_0 : decode bI_bitCount 0 = .ok (.iload_n 0, 1) := by decide +kernel
theorem dI_bitCount_1 : decode bI_bitCount 1 = .ok (.iload_n 0, 1) := by decide +kernel
theorem dI_bitCount_2 : decode bI_bitCount 2 = .ok (.iconst 1, 1) := by decide +kernel
theorem dI_bitCount_3 : decode bI_bitCount 3 = .ok (.iushr, 1) := by decide +kernel
theorem dI_bitCount_4 : decode bI_bitCount 4 = .ok (.ldc_w 265, 3) := by decide +kernel
theorem dI_bitCount_7 : decode bI_bitCount 7 = .ok (.iand, 1) := by decide +kernel
theorem dI_bitCount_8 : decode bI_bitCount 8 = .ok (.isub, 1) := by decide +kernel
theorem dI_bitCount_9 : decode bI_bitCount 9 = .ok (.istore_n 0, 1) := by decide +kernel
theorem dI_bitCount_10 : decode bI_bitCount 10 = .ok (.iload_n 0, 1) := by decide +kernel
theorem dI_bitCount_11 : decode bI_bitCount 11 = .ok (.ldc_w 266, 3) := by decide +kernel
theorem dI_bitCount_14 : decode bI_bitCount 14 = .ok (.iand, 1) := by decide +kernel
theorem dI_bitCount_15 : decode bI_bitCount 15 = .ok (.iload_n 0, 1) := by decide +kernel
theorem dI_bitCount_16 : decode bI_bitCount 16 = .ok (.iconst 2, 1) := by decide +kernel
theorem dI_bitCount_17 : decode bI_bitCount 17 = .ok (.iushr, 1) := by decide +kernel
theorem dI_bitCount_18 : decode bI_bitCount 18 = .ok (.ldc_w 266, 3) := by decide +kernel
theorem dI_bitCount_21 : decode bI_bitCount 21 = .ok (.iand, 1) := by decide +kernel
theorem dI_bitCount_22 : decode bI_bitCount 22 = .ok (.iadd, 1) := by decide +kernel
theorem dI_bitCount_23 : decode bI_bitCount 23 = .ok (.istore_n 0, 1) := by decide +kernel
theorem dI_bitCount_24 : decode bI_bitCount 24 = .ok (.iload_n 0, 1) := by decide +kernel
theorem dI_bitCount_25 : decode bI_bitCount 25 = .ok (.iload_n 0, 1) := by decide +kernel
theorem dI_bitCount_26 : decode bI_bitCount 26 = .ok (.iconst 4, 1) := by decide +kernel
theorem dI_bitCount_27 : decode bI_bitCount 27 = .ok (.iushr, 1) := by decide +kernel
theorem dI_bitCount_28 : decode bI_bitCount 28 = .ok (.iadd, 1) := by decide +kernel
theorem dI_bitCount_29 : decode bI_bitCount 29 = .ok (.ldc_w 267, 3) := by decide +kernel
theorem dI_bitCount_32 : decode bI_bitCount 32 = .ok (.iand, 1) := by decide +kernel
theorem dI_bitCount_33 : decode bI_bitCount 33 = .ok (.istore_n 0, 1) := by decide +kernel
theorem dI_bitCount_34 : decode bI_bitCount 34 = .ok (.iload_n 0, 1) := by decide +kernel
theorem dI_bitCount_35 : decode bI_bitCount 35 = .ok (.iload_n 0, 1) := by decide +kernel
theorem dI_bitCount_36 : decode bI_bitCount 36 = .ok (.bipush 8, 2) := by decide +kernel
theorem dI_bitCount_38 : decode bI_bitCount 38 = .ok (.iushr, 1) := by decide +kernel
theorem dI_bitCount_39 : decode bI_bitCount 39 = .ok (.iadd, 1) := by decide +kernel
theorem dI_bitCount_40 : decode bI_bitCount 40 = .ok (.istore_n 0, 1) := by decide +kernel
theorem dI_bitCount_41 : decode bI_bitCount 41 = .ok (.iload_n 0, 1) := by decide +kernel
theorem dI_bitCount_42 : decode bI_bitCount 42 = .ok (.iload_n 0, 1) := by decide +kernel
theorem dI_bitCount_43 : decode bI_bitCount 43 = .ok (.bipush 16, 2) := by decide +kernel
theorem dI_bitCount_45 : decode bI_bitCount 45 = .ok (.iushr, 1) := by decide +kernel
theorem dI_bitCount_46 : decode bI_bitCount 46 = .ok (.iadd, 1) := by decide +kernel
theorem dI_bitCount_47 : decode bI_bitCount 47 = .ok (.istore_n 0, 1) := by decide +kernel
theorem dI_bitCount_48 : decode bI_bitCount 48 = .ok (.iload_n 0, 1) := by decide +kernel
theorem dI_bitCount_49 : decode bI_bitCount 49 = .ok (.bipush 63, 2) := by decide +kernel
theorem dI_bitCount_51 : decode bI_bitCount 51 = .ok (.iand, 1) := by decide +kernel
theorem dI_bitCount_52 : decode bI_bitCount 52 = .ok (.ireturn, 1) := by decide +kernel
theorem dJ_max_0 : decode bJ_max 0 = .ok (.iload_n 0, 1) := by decide +kernel
theorem dJ_max_1 : decode bJ_max 1 = .ok (.iload_n 1, 1) := by decide +kernel
theorem dJ_max_2 : decode bJ_max 2 = .ok (.if_icmp .lt 7, 3) := by decide +kernel
theorem dJ_max_5 : decode bJ_max 5 = .ok (.iload_n 0, 1) := by decide +kernel
theorem dJ_max_6 : decode bJ_max 6 = .ok (.goto 4, 3) := by decide +kernel
theorem dJ_max_9 : decode bJ_max 9 = .ok (.iload_n 1, 1) := by decide +kernel
theorem dJ_max_10 : decode bJ_max 10 = .ok (.ireturn, 1) := by decide +kernel
theorem dA_fill_0 : decode bA_fill 0 = .ok (.iconst 0, 1) := by decide +kernel
theorem dA_fill_1 : decode bA_fill 1 = .ok (.istore_n 2, 1) := by decide +kernel
theorem dA_fill_2 : decode bA_fill 2 = .ok (.aload_n 0, 1) := by decide +kernel
theorem dA_fill_3 : decode bA_fill 3 = .ok (.arraylength, 1) := by decide +kernel
theorem dA_fill_4 : decode bA_fill 4 = .ok (.istore_n 3, 1) := by decide +kernel
theorem dA_fill_5 : decode bA_fill 5 = .ok (.iload_n 2, 1) := by decide +kernel
theorem dA_fill_6 : decode bA_fill 6 = .ok (.iload_n 3, 1) := by decide +kernel
theorem dA_fill_7 : decode bA_fill 7 = .ok (.if_icmp .ge 13, 3) := by decide +kernel
theorem dA_fill_10 : decode bA_fill 10 = .ok (.aload_n 0, 1) := by decide +kernel
theorem dA_fill_11 : decode bA_fill 11 = .ok (.iload_n 2, 1) := by decide +kernel
theorem dA_fill_12 : decode bA_fill 12 = .ok (.iload_n 1, 1) := by decide +kernel
theorem dA_fill_13 : decode bA_fill 13 = .ok (.iastore, 1) := by decide +kernel
theorem dA_fill_14 : decode bA_fill 14 = .ok (.iinc 2 1, 3) := by decide +kernel
theorem dA_fill_17 : decode bA_fill 17 = .ok (.goto (-12), 3) := by decide +kernel
theorem dA_fill_20 : decode bA_fill 20 = .ok (.return_, 1) := by decide +kernel
section SJdk
variable {p : Program} {l : Launch} {e : Env} {R : Room} {s : State} {m : MethodId} {args : Array Value} {below : List Frame} {meth : Method} {c : Code} {Q : State → Prop} {D : va_G} {cA : Nat → ClassId} {ad : Nat → Nat} {H0 : Heap}
def ck_mxv (x y : Int32) : Int32 := if x < y then y else x
theorem ck_mx1 : Cond.static Lib.Math.max.name ∈ ck_T := ck_T_mk (List.mem_of_getElem? (i := 434) (by decide +kernel)) (by decide +kernel)
theorem ck_mx2 : Cond.initialized "java/lang/Math" ∈ ck_T := ck_T_mk (List.mem_of_getElem? (i := 52) (by decide +kernel)) (by decide +kernel)
theorem ck_mx3 : Cond.code Lib.Math.max.name Lib.Math.max.code 2 (some .int) ∈ ck_T := ck_T_mk (List.mem_of_getElem? (i := 435) (by decide +kernel)) (by decide +kernel)
theorem ck_mx {H : Heap} {locs : List Loc} {cl : List vw_C} {cc : ByteArray} {own : String} {pc nL v idx : Nat} {x y : Int32} {ls : Array Slot} {rest : List Value} {L : List (Nat × Value)} (C : ck_X cl D cA cc nL own v p R s m args c) (hl : lv_has ls nL L) (hlink : Cond.methodLink own idx Lib.Math.max.name ∈ ck_T) (hv : 1 ≤ v) (hr : (rest.map fun v => v.category).sum ≤ 8) (hd : decode cc pc = .ok (.invokestatic idx, 3))
    (kk : W p l e R s m args below meth c H locs 0 0 Q (F0 m (pc + 3) ls (.int (ck_mxv x y) :: rest))) : W p l e R s m args below meth c H locs 0 0 Q (F0 m pc ls (.int y :: .int x :: rest)) := by
  obtain ⟨hx, hb, hml, hown, hts, hK, hlv, hlo⟩ := C
  exact va_mmax hx hb (hml.trans hl.1.symm) hown (hts _ hlink) (hts _ ck_mx1) (hts _ ck_mx2) (hts _ ck_mx3) (by omega) (by omega) (Nat.zero_le _) (Nat.zero_le _) hd kk
def fI_bitCount_C (x0 : Int32) (st : ck_S) : Option (Int32 × ck_S) := (some (((((((((x0 - ((ck_us x0 (1 : Int32)) &&& (1431655765 : Int32))) &&& (858993459 : Int32)) + ((ck_us (x0 - ((ck_us x0 (1 : Int32)) &&& (1431655765 : Int32))) (2 : Int32)) &&& (858993459 : Int32))) + (ck_us (((x0 - ((ck_us x0 (1 : Int32)) &&& (1431655765 : Int32))) &&& (858993459 : Int32)) + ((ck_us (x0 - ((ck_us x0 (1 : Int32)) &&& (1431655765 : Int32))) (2 : Int32)) &&& (858993459 : Int32))) (4 : Int32))) &&& (252645135 : Int32)) + (ck_us (((((x0 - ((ck_us x0 (1 : Int32)) &&& (1431655765 : Int32))) &&& (858993459 : Int32)) + ((ck_us (x0 - ((ck_us x0 (1 : Int32)) &&& (1431655765 : Int32))) (2 : Int32)) &&& (858993459 : Int32))) + (ck_us (((x0 - ((ck_us x0 (1 : Int32)) &&& (1431655765 : Int32))) &&& (858993459 : Int32)) + ((ck_us (x0 - ((ck_us x0 (1 : Int32)) &&& (1431655765 : Int32))) (2 : Int32)) &&& (858993459 : Int32))) (4 : Int32))) &&& (252645135 : Int32)) (8 : Int32))) + (ck_us ((((((x0 - ((ck_us x0 (1 : Int32)) &&& (1431655765 : Int32))) &&& (858993459 : Int32)) + ((ck_us (x0 - ((ck_us x0 (1 : Int32)) &&& (1431655765 : Int32))) (2 : Int32)) &&& (858993459 : Int32))) + (ck_us (((x0 - ((ck_us x0 (1 : Int32)) &&& (1431655765 : Int32))) &&& (858993459 : Int32)) + ((ck_us (x0 - ((ck_us x0 (1 : Int32)) &&& (1431655765 : Int32))) (2 : Int32)) &&& (858993459 : Int32))) (4 : Int32))) &&& (252645135 : Int32)) + (ck_us (((((x0 - ((ck_us x0 (1 : Int32)) &&& (1431655765 : Int32))) &&& (858993459 : Int32)) + ((ck_us (x0 - ((ck_us x0 (1 : Int32)) &&& (1431655765 : Int32))) (2 : Int32)) &&& (858993459 : Int32))) + (ck_us (((x0 - ((ck_us x0 (1 : Int32)) &&& (1431655765 : Int32))) &&& (858993459 : Int32)) + ((ck_us (x0 - ((ck_us x0 (1 : Int32)) &&& (1431655765 : Int32))) (2 : Int32)) &&& (858993459 : Int32))) (4 : Int32))) &&& (252645135 : Int32)) (8 : Int32))) (16 : Int32))) &&& (63 : Int32)), st))
set_option maxRecDepth 100000 in
set_option maxHeartbeats 4000000 in
theorem cI_bitCount_C (l : Launch) (D : va_G) (cA : Nat → ClassId) (ad : Nat → Nat) {x0 : Int32} {st : ck_S} {r0 : Int32} {st0 : ck_S} (hf : fI_bitCount_C x0 st = some (r0, st0)) : Met l yI_bitCount (.code yI_bitCount bI_bitCount 1 (some .int) :: ck_T) (ck_R 0) (va_Pc [.int x0] (ck_P sh_C cm_cl D cA ad st)) (va_Qi (fun a u => a = r0 ∧ u = st0) (ck_P sh_C cm_cl D cA ad) (ck_A ad sh_C.length)) 0 0 (ck_A ad sh_C.length) := by
  refine ck_met_i (own := R_I) (by decide +kernel) rfl (Nat.le_of_ble_eq_true rfl) (fun p e R s m args below meth c H0 Q ls C hret h hl => ?_)
  have C1 := C
  obtain ⟨hx, hb, hml, hown, hts, hK, hlv, hlo⟩ := C1
  have hl : lv_has ls 1 [(0, .int x0)] := hl
  unfold fI_bitCount_C at hf
  refine lv_iload_n hx hb dI_bitCount_0 rfl (lv_at hl 0 rfl) ?_
  refine lv_iload_n hx hb dI_bitCount_1 rfl (lv_at hl 0 rfl) ?_
  refine lv_iconst (v := 1) hx hb dI_bitCount_2 (by decide) ?_
  refine lv_iushr (v := (ck_us x0 (1 : Int32))) hx hb dI_bitCount_3 rfl ?_
  refine lv_ldcw (v := 1431655765) hx hb hown (hts _ (ck_T_mk (List.mem_of_getElem? (i := 519) (by decide +kernel)) (by decide +kernel))) dI_bitCount_4 ?_
  refine lv_iand hx hb dI_bitCount_7 ?_
  refine lv_isub hx hb dI_bitCount_8 ?_
  refine lv_istore_n (lv' := [(0, .int (x0 - ((ck_us x0 (1 : Int32)) &&& (1431655765 : Int32))))]) hx hb dI_bitCount_9 rfl hl (by decide) rfl (fun ls hl => ?_)
  refine lv_iload_n hx hb dI_bitCount_10 rfl (lv_at hl 0 rfl) ?_
  refine lv_ldcw (v := 858993459) hx hb hown (hts _ (ck_T_mk (List.mem_of_getElem? (i := 520) (by decide +kernel)) (by decide +kernel))) dI_bitCount_11 ?_
  refine lv_iand hx hb dI_bitCount_14 ?_
  refine lv_iload_n hx hb dI_bitCount_15 rfl (lv_at hl 0 rfl) ?_
  refine lv_iconst (v := 2) hx hb dI_bitCount_16 (by decide) ?_
  refine lv_iushr (v := (ck_us (x0 - ((ck_us x0 (1 : Int32)) &&& (1431655765 : Int32))) (2 : Int32))) hx hb dI_bitCount_17 rfl ?_
  refine lv_ldcw (v := 858993459) hx hb hown (hts _ (ck_T_mk (List.mem_of_getElem? (i := 520) (by decide +kernel)) (by decide +kernel))) dI_bitCount_18 ?_
  refine lv_iand hx hb dI_bitCount_21 ?_
  refine lv_iadd hx hb dI_bitCount_22 ?_
  refine lv_istore_n (lv' := [(0, .int (((x0 - ((ck_us x0 (1 : Int32)) &&& (1431655765 : Int32))) &&& (858993459 : Int32)) + ((ck_us (x0 - ((ck_us x0 (1 : Int32)) &&& (1431655765 : Int32))) (2 : Int32)) &&& (858993459 : Int32))))]) hx hb dI_bitCount_23 rfl hl (by decide) rfl (fun ls hl => ?_)
  refine lv_iload_n hx hb dI_bitCount_24 rfl (lv_at hl 0 rfl) ?_
  refine lv_iload_n hx hb dI_bitCount_25 rfl (lv_at hl 0 rfl) ?_
  refine lv_iconst (v := 4) hx hb dI_bitCount_26 (by decide) ?_
  refine lv_iushr (v := (ck_us (((x0 - ((ck_us x0 (1 : Int32)) &&& (1431655765 : Int32))) &&& (858993459 : Int32)) + ((ck_us (x0 - ((ck_us x0 (1 : Int32)) &&& (1431655765 : Int32))) (2 : Int32)) &&& (858993459 : Int32))) (4 : Int32))) hx hb dI_bitCount_27 rfl ?_
  refine lv_iadd hx hb dI_bitCount_28 ?_
  refine lv_ldcw (v := 252645135) hx hb hown (hts _ (ck_T_mk (List.mem_of_getElem? (i := 521) (by decide +kernel)) (by decide +kernel))) dI_bitCount_29 ?_
  refine lv_iand hx hb dI_bitCount_32 ?_
  refine lv_istore_n (lv' := [(0, .int (((((x0 - ((ck_us x0 (1 : Int32)) &&& (1431655765 : Int32))) &&& (858993459 : Int32)) + ((ck_us (x0 - ((ck_us x0 (1 : Int32)) &&& (1431655765 : Int32))) (2 : Int32)) &&& (858993459 : Int32))) + (ck_us (((x0 - ((ck_us x0 (1 : Int32)) &&& (1431655765 : Int32))) &&& (858993459 : Int32)) + ((ck_us (x0 - ((ck_us x0 (1 : Int32)) &&& (1431655765 : Int32))) (2 : Int32)) &&& (858993459 : Int32))) (4 : Int32))) &&& (252645135 : Int32)))]) hx hb dI_bitCount_33 rfl hl (by decide) rfl (fun ls hl => ?_)
  refine lv_iload_n hx hb dI_bitCount_34 rfl (lv_at hl 0 rfl) ?_
  refine lv_iload_n hx hb dI_bitCount_35 rfl (lv_at hl 0 rfl) ?_
  refine lv_bipush (v := 8) hx hb dI_bitCount_36 (by decide) ?_
  refine lv_iushr (v := (ck_us (((((x0 - ((ck_us x0 (1 : Int32)) &&& (1431655765 : Int32))) &&& (858993459 : Int32)) + ((ck_us (x0 - ((ck_us x0 (1 : Int32)) &&& (1431655765 : Int32))) (2 : Int32)) &&& (858993459 : Int32))) + (ck_us (((x0 - ((ck_us x0 (1 : Int32)) &&& (1431655765 : Int32))) &&& (858993459 : Int32)) + ((ck_us (x0 - ((ck_us x0 (1 : Int32)) &&& (1431655765 : Int32))) (2 : Int32)) &&& (858993459 : Int32))) (4 : Int32))) &&& (252645135 : Int32)) (8 : Int32))) hx hb dI_bitCount_38 rfl ?_
  refine lv_iadd hx hb dI_bitCount_39 ?_
  refine lv_istore_n (lv' := [(0, .int ((((((x0 - ((ck_us x0 (1 : Int32)) &&& (1431655765 : Int32))) &&& (858993459 : Int32)) + ((ck_us (x0 - ((ck_us x0 (1 : Int32)) &&& (1431655765 : Int32))) (2 : Int32)) &&& (858993459 : Int32))) + (ck_us (((x0 - ((ck_us x0 (1 : Int32)) &&& (1431655765 : Int32))) &&& (858993459 : Int32)) + ((ck_us (x0 - ((ck_us x0 (1 : Int32)) &&& (1431655765 : Int32))) (2 : Int32)) &&& (858993459 : Int32))) (4 : Int32))) &&& (252645135 : Int32)) + (ck_us (((((x0 - ((ck_us x0 (1 : Int32)) &&& (1431655765 : Int32))) &&& (858993459 : Int32)) + ((ck_us (x0 - ((ck_us x0 (1 : Int32)) &&& (1431655765 : Int32))) (2 : Int32)) &&& (858993459 : Int32))) + (ck_us (((x0 - ((ck_us x0 (1 : Int32)) &&& (1431655765 : Int32))) &&& (858993459 : Int32)) + ((ck_us (x0 - ((ck_us x0 (1 : Int32)) &&& (1431655765 : Int32))) (2 : Int32)) &&& (858993459 : Int32))) (4 : Int32))) &&& (252645135 : Int32)) (8 : Int32))))]) hx hb dI_bitCount_40 rfl hl (by decide) rfl (fun ls hl => ?_)
  refine lv_iload_n hx hb dI_bitCount_41 rfl (lv_at hl 0 rfl) ?_
  refine lv_iload_n hx hb dI_bitCount_42 rfl (lv_at hl 0 rfl) ?_
  refine lv_bipush (v := 16) hx hb dI_bitCount_43 (by decide) ?_
  refine lv_iushr (v := (ck_us ((((((x0 - ((ck_us x0 (1 : Int32)) &&& (1431655765 : Int32))) &&& (858993459 : Int32)) + ((ck_us (x0 - ((ck_us x0 (1 : Int32)) &&& (1431655765 : Int32))) (2 : Int32)) &&& (858993459 : Int32))) + (ck_us (((x0 - ((ck_us x0 (1 : Int32)) &&& (1431655765 : Int32))) &&& (858993459 : Int32)) + ((ck_us (x0 - ((ck_us x0 (1 : Int32)) &&& (1431655765 : Int32))) (2 : Int32)) &&& (858993459 : Int32))) (4 : Int32))) &&& (252645135 : Int32)) + (ck_us (((((x0 - ((ck_us x0 (1 : Int32)) &&& (1431655765 : Int32))) &&& (858993459 : Int32)) + ((ck_us (x0 - ((ck_us x0 (1 : Int32)) &&& (1431655765 : Int32))) (2 : Int32)) &&& (858993459 : Int32))) + (ck_us (((x0 - ((ck_us x0 (1 : Int32)) &&& (1431655765 : Int32))) &&& (858993459 : Int32)) + ((ck_us (x0 - ((ck_us x0 (1 : Int32)) &&& (1431655765 : Int32))) (2 : Int32)) &&& (858993459 : Int32))) (4 : Int32))) &&& (252645135 : Int32)) (8 : Int32))) (16 : Int32))) hx hb dI_bitCount_45 rfl ?_
  refine lv_iadd hx hb dI_bitCount_46 ?_
  refine lv_istore_n (lv' := [(0, .int (((((((x0 - ((ck_us x0 (1 : Int32)) &&& (1431655765 : Int32))) &&& (858993459 : Int32)) + ((ck_us (x0 - ((ck_us x0 (1 : Int32)) &&& (1431655765 : Int32))) (2 : Int32)) &&& (858993459 : Int32))) + (ck_us (((x0 - ((ck_us x0 (1 : Int32)) &&& (1431655765 : Int32))) &&& (858993459 : Int32)) + ((ck_us (x0 - ((ck_us x0 (1 : Int32)) &&& (1431655765 : Int32))) (2 : Int32)) &&& (858993459 : Int32))) (4 : Int32))) &&& (252645135 : Int32)) + (ck_us (((((x0 - ((ck_us x0 (1 : Int32)) &&& (1431655765 : Int32))) &&& (858993459 : Int32)) + ((ck_us (x0 - ((ck_us x0 (1 : Int32)) &&& (1431655765 : Int32))) (2 : Int32)) &&& (858993459 : Int32))) + (ck_us (((x0 - ((ck_us x0 (1 : Int32)) &&& (1431655765 : Int32))) &&& (858993459 : Int32)) + ((ck_us (x0 - ((ck_us x0 (1 : Int32)) &&& (1431655765 : Int32))) (2 : Int32)) &&& (858993459 : Int32))) (4 : Int32))) &&& (252645135 : Int32)) (8 : Int32))) + (ck_us ((((((x0 - ((ck_us x0 (1 : Int32)) &&& (1431655765 : Int32))) &&& (858993459 : Int32)) + ((ck_us (x0 - ((ck_us x0 (1 : Int32)) &&& (1431655765 : Int32))) (2 : Int32)) &&& (858993459 : Int32))) + (ck_us (((x0 - ((ck_us x0 (1 : Int32)) &&& (1431655765 : Int32))) &&& (858993459 : Int32)) + ((ck_us (x0 - ((ck_us x0 (1 : Int32)) &&& (1431655765 : Int32))) (2 : Int32)) &&& (858993459 : Int32))) (4 : Int32))) &&& (252645135 : Int32)) + (ck_us (((((x0 - ((ck_us x0 (1 : Int32)) &&& (1431655765 : Int32))) &&& (858993459 : Int32)) + ((ck_us (x0 - ((ck_us x0 (1 : Int32)) &&& (1431655765 : Int32))) (2 : Int32)) &&& (858993459 : Int32))) + (ck_us (((x0 - ((ck_us x0 (1 : Int32)) &&& (1431655765 : Int32))) &&& (858993459 : Int32)) + ((ck_us (x0 - ((ck_us x0 (1 : Int32)) &&& (1431655765 : Int32))) (2 : Int32)) &&& (858993459 : Int32))) (4 : Int32))) &&& (252645135 : Int32)) (8 : Int32))) (16 : Int32))))]) hx hb dI_bitCount_47 rfl hl (by decide) rfl (fun ls hl => ?_)
  refine lv_iload_n hx hb dI_bitCount_48 rfl (lv_at hl 0 rfl) ?_
  refine lv_bipush (v := 63) hx hb dI_bitCount_49 (by decide) ?_
  refine lv_iand hx hb dI_bitCount_51 ?_
  exact ck_ri hf hret h dI_bitCount_52
def fA_fill_23_C_l5 : Nat → Int32 → Int32 → Int32 → ck_S → Option ck_S
  | 0, _, _, _, _ => none
  | n + 1, x1, x2, x3, st => (if x3 ≤ x2 then (some st) else (ck_gd x2 16 (fA_fill_23_C_l5 n x1 (x2 + 1) x3 (ck_u st 23 (x2).toNatClampNeg x1))))
set_option maxRecDepth 100000 in
set_option maxHeartbeats 4000000 in
theorem BA_fill_23_C_5 (C : ck_X cm_cl D cA bA_fill 4 R_A 0 p R s m args c) {st0 : ck_S} (hret : ∀ (pc : Nat) (H : Heap) (locs : List Loc) (ls : Array Slot), decode bA_fill pc = .ok (.return_, 1) → ck_AT sh_C cm_cl D cA ad H0 st0 H locs → W p l e R s m args below meth c H locs 0 0 Q (F0 m pc ls [])) : ∀ (n : Nat) (x1 : Int32) (x2 : Int32) (x3 : Int32) (st : ck_S) (H : Heap) (locs : List Loc) (ls : Array Slot), ck_AT sh_C cm_cl D cA ad H0 st H locs → lv_has ls 4 [(0, .ref (ad 23)), (1, .int x1), (2, .int x2), (3, .int x3)] → fA_fill_23_C_l5  n x1 x2 x3 st = some st0 → W p l e R s m args below meth c H locs 0 0 Q (F0 m 5 ls []) := by
  have C1 := C
  obtain ⟨hx, hb, hml, hown, hts, hK, hlv, hlo⟩ := C1
  intro n
  induction n with
  | zero => intro _ _ _ _ _ _ _ _ _ hf; cases hf
  | succ n ih =>
    intro x1 x2 x3 st H locs ls h hl hf
    rw [fA_fill_23_C_l5] at hf
    refine lv_iload_n hx hb dA_fill_5 rfl (lv_at hl 2 rfl) ?_
    refine lv_iload_n hx hb dA_fill_6 rfl (lv_at hl 3 rfl) ?_
    refine lv_icmp_ge (tgt := 20) hx hb dA_fill_7 rfl (fun hq => ?_) (fun hq => ?_)
    · have hf := ck_t hq hf
      exact ck_rv hf hret h dA_fill_20
    · have hf := ck_f hq hf
      refine lv_aload_n hx hb dA_fill_10 rfl (lv_at hl 0 rfl) ?_
      refine lv_iload_n hx hb dA_fill_11 rfl (lv_at hl 2 rfl) ?_
      refine lv_iload_n hx hb dA_fill_12 rfl (lv_at hl 1 rfl) ?_
      obtain ⟨hg, hf⟩ := ck_gd_e hf
      refine ck_si C h (show sh_C[23]? = some (.inr (0, 16)) from rfl) hg dA_fill_13 (fun H locs h => ?_)
      refine lv_iinc (k := 2) (v := (x2 + 1)) (lv' := [(2, .int (x2 + 1)), (0, .ref (ad 23)), (1, .int x1), (3, .int x3)]) hx hb dA_fill_14 hl rfl rfl (by decide) rfl (fun ls hl => ?_)
      refine lv_goto (tgt := 5) hx hb dA_fill_17 rfl ?_
      exact ih _ _ _ _ _ _ _ h (lv_sub hl [1, 2, 0, 3] rfl) hf
def fA_fill_23_C (x1 : Int32) (st : ck_S) : Option ck_S := (fA_fill_23_C_l5  4096 x1 (0 : Int32) (16 : Int32) st)
set_option maxRecDepth 100000 in
set_option maxHeartbeats 4000000 in
theorem cA_fill_23_C (l : Launch) (D : va_G) (cA : Nat → ClassId) (ad : Nat → Nat) {x1 : Int32} {st : ck_S} {st0 : ck_S} (hf : fA_fill_23_C x1 st = some st0) : Met l yA_fill (.code yA_fill bA_fill 4 none :: ck_T) (ck_R 0) (va_Pc [.ref (ad 23), .int x1] (ck_P sh_C cm_cl D cA ad st)) (va_Qv (fun u => u = st0) (ck_P sh_C cm_cl D cA ad) (ck_A ad sh_C.length)) 0 0 (ck_A ad sh_C.length) := by
  refine ck_met_v (own := R_A) (by decide +kernel) rfl (Nat.le_of_ble_eq_true rfl) (fun p e R s m args below meth c H0 Q ls C hret h hl => ?_)
  have C1 := C
  obtain ⟨hx, hb, hml, hown, hts, hK, hlv, hlo⟩ := C1
  have hl : lv_has ls 4 [(0, .ref (ad 23)), (1, .int x1)] := hl
  unfold fA_fill_23_C at hf
  refine lv_iconst (v := 0) hx hb dA_fill_0 (by decide) ?_
  refine lv_istore_n (lv' := [(2, .int (0 : Int32)), (0, .ref (ad 23)), (1, .int x1)]) hx hb dA_fill_1 rfl hl (by decide) rfl (fun ls hl => ?_)
  refine lv_aload_n hx hb dA_fill_2 rfl (lv_at hl 1 rfl) ?_
  refine ck_an (x := 16) C h (show sh_C[23]? = some (.inr (0, 16)) from rfl) (by decide) dA_fill_3 ?_
  refine lv_istore_n (lv' := [(3, .int (16 : Int32)), (2, .int (0 : Int32)), (0, .ref (ad 23)), (1, .int x1)]) hx hb dA_fill_4 rfl hl (by decide) rfl (fun ls hl => ?_)
  exact BA_fill_23_C_5 C hret  4096 _ _ _ _ _ _ _ h (lv_sub hl [2, 3, 1, 0] rfl) hf
def fA_fill_38_C_l5 : Nat → Int32 → Int32 → Int32 → ck_S → Option ck_S
  | 0, _, _, _, _ => none
  | n + 1, x1, x2, x3, st => (if x3 ≤ x2 then (some st) else (ck_gd x2 32 (fA_fill_38_C_l5 n x1 (x2 + 1) x3 (ck_u st 38 (x2).toNatClampNeg x1))))
set_option maxRecDepth 100000 in
set_option maxHeartbeats 4000000 in
theorem BA_fill_38_C_5 (C : ck_X cm_cl D cA bA_fill 4 R_A 0 p R s m args c) {st0 : ck_S} (hret : ∀ (pc : Nat) (H : Heap) (locs : List Loc) (ls : Array Slot), decode bA_fill pc = .ok (.return_, 1) → ck_AT sh_C cm_cl D cA ad H0 st0 H locs → W p l e R s m args below meth c H locs 0 0 Q (F0 m pc ls [])) : ∀ (n : Nat) (x1 : Int32) (x2 : Int32) (x3 : Int32) (st : ck_S) (H : Heap) (locs : List Loc) (ls : Array Slot), ck_AT sh_C cm_cl D cA ad H0 st H locs → lv_has ls 4 [(0, .ref (ad 38)), (1, .int x1), (2, .int x2), (3, .int x3)] → fA_fill_38_C_l5  n x1 x2 x3 st = some st0 → W p l e R s m args below meth c H locs 0 0 Q (F0 m 5 ls []) := by
  have C1 := C
  obtain ⟨hx, hb, hml, hown, hts, hK, hlv, hlo⟩ := C1
  intro n
  induction n with
  | zero => intro _ _ _ _ _ _ _ _ _ hf; cases hf
  | succ n ih =>
    intro x1 x2 x3 st H locs ls h hl hf
    rw [fA_fill_38_C_l5] at hf
    refine lv_iload_n hx hb dA_fill_5 rfl (lv_at hl 2 rfl) ?_
    refine lv_iload_n hx hb dA_fill_6 rfl (lv_at hl 3 rfl) ?_
    refine lv_icmp_ge (tgt := 20) hx hb dA_fill_7 rfl (fun hq => ?_) (fun hq => ?_)
    · have hf := ck_t hq hf
      exact ck_rv hf hret h dA_fill_20
    · have hf := ck_f hq hf
      refine lv_aload_n hx hb dA_fill_10 rfl (lv_at hl 0 rfl) ?_
      refine lv_iload_n hx hb dA_fill_11 rfl (lv_at hl 2 rfl) ?_
      refine lv_iload_n hx hb dA_fill_12 rfl (lv_at hl 1 rfl) ?_
      obtain ⟨hg, hf⟩ := ck_gd_e hf
      refine ck_si C h (show sh_C[38]? = some (.inr (0, 32)) from rfl) hg dA_fill_13 (fun H locs h => ?_)
      refine lv_iinc (k := 2) (v := (x2 + 1)) (lv' := [(2, .int (x2 + 1)), (0, .ref (ad 38)), (1, .int x1), (3, .int x3)]) hx hb dA_fill_14 hl rfl rfl (by decide) rfl (fun ls hl => ?_)
      refine lv_goto (tgt := 5) hx hb dA_fill_17 rfl ?_
      exact ih _ _ _ _ _ _ _ h (lv_sub hl [1, 2, 0, 3] rfl) hf
def fA_fill_38_C (x1 : Int32) (st : ck_S) : Option ck_S := (fA_fill_38_C_l5  4096 x1 (0 : Int32) (32 : Int32) st)
set_option maxRecDepth 100000 in
set_option maxHeartbeats 4000000 in
theorem cA_fill_38_C (l : Launch) (D : va_G) (cA : Nat → ClassId) (ad : Nat → Nat) {x1 : Int32} {st : ck_S} {st0 : ck_S} (hf : fA_fill_38_C x1 st = some st0) : Met l yA_fill (.code yA_fill bA_fill 4 none :: ck_T) (ck_R 0) (va_Pc [.ref (ad 38), .int x1] (ck_P sh_C cm_cl D cA ad st)) (va_Qv (fun u => u = st0) (ck_P sh_C cm_cl D cA ad) (ck_A ad sh_C.length)) 0 0 (ck_A ad sh_C.length) := by
  refine ck_met_v (own := R_A) (by decide +kernel) rfl (Nat.le_of_ble_eq_true rfl) (fun p e R s m args below meth c H0 Q ls C hret h hl => ?_)
  have C1 := C
  obtain ⟨hx, hb, hml, hown, hts, hK, hlv, hlo⟩ := C1
  have hl : lv_has ls 4 [(0, .ref (ad 38)), (1, .int x1)] := hl
  unfold fA_fill_38_C at hf
  refine lv_iconst (v := 0) hx hb dA_fill_0 (by decide) ?_
  refine lv_istore_n (lv' := [(2, .int (0 : Int32)), (0, .ref (ad 38)), (1, .int x1)]) hx hb dA_fill_1 rfl hl (by decide) rfl (fun ls hl => ?_)
  refine lv_aload_n hx hb dA_fill_2 rfl (lv_at hl 1 rfl) ?_
  refine ck_an (x := 32) C h (show sh_C[38]? = some (.inr (0, 32)) from rfl) (by decide) dA_fill_3 ?_
  refine lv_istore_n (lv' := [(3, .int (32 : Int32)), (2, .int (0 : Int32)), (0, .ref (ad 38)), (1, .int x1)]) hx hb dA_fill_4 rfl hl (by decide) rfl (fun ls hl => ?_)
  exact BA_fill_38_C_5 C hret  4096 _ _ _ _ _ _ _ h (lv_sub hl [2, 3, 1, 0] rfl) hf
def fA_fill_39_C_l5 : Nat → Int32 → Int32 → Int32 → ck_S → Option ck_S
  | 0, _, _, _, _ => none
  | n + 1, x1, x2, x3, st => (if x3 ≤ x2 then (some st) else (ck_gd x2 32 (fA_fill_39_C_l5 n x1 (x2 + 1) x3 (ck_u st 39 (x2).toNatClampNeg x1))))
set_option maxRecDepth 100000 in
set_option maxHeartbeats 4000000 in
theorem BA_fill_39_C_5 (C : ck_X cm_cl D cA bA_fill 4 R_A 0 p R s m args c) {st0 : ck_S} (hret : ∀ (pc : Nat) (H : Heap) (locs : List Loc) (ls : Array Slot), decode bA_fill pc = .ok (.return_, 1) → ck_AT sh_C cm_cl D cA ad H0 st0 H locs → W p l e R s m args below meth c H locs 0 0 Q (F0 m pc ls [])) : ∀ (n : Nat) (x1 : Int32) (x2 : Int32) (x3 : Int32) (st : ck_S) (H : Heap) (locs : List Loc) (ls : Array Slot), ck_AT sh_C cm_cl D cA ad H0 st H locs → lv_has ls 4 [(0, .ref (ad 39)), (1, .int x1), (2, .int x2), (3, .int x3)] → fA_fill_39_C_l5  n x1 x2 x3 st = some st0 → W p l e R s m args below meth c H locs 0 0 Q (F0 m 5 ls []) := by
  have C1 := C
  obtain ⟨hx, hb, hml, hown, hts, hK, hlv, hlo⟩ := C1
  intro n
  induction n with
  | zero => intro _ _ _ _ _ _ _ _ _ hf; cases hf
  | succ n ih =>
    intro x1 x2 x3 st H locs ls h hl hf
    rw [fA_fill_39_C_l5] at hf
    refine lv_iload_n hx hb dA_fill_5 rfl (lv_at hl 2 rfl) ?_
    refine lv_iload_n hx hb dA_fill_6 rfl (lv_at hl 3 rfl) ?_
    refine lv_icmp_ge (tgt := 20) hx hb dA_fill_7 rfl (fun hq => ?_) (fun hq => ?_)
    · have hf := ck_t hq hf
      exact ck_rv hf hret h dA_fill_20
    · have hf := ck_f hq hf
      refine lv_aload_n hx hb dA_fill_10 rfl (lv_at hl 0 rfl) ?_
      refine lv_iload_n hx hb dA_fill_11 rfl (lv_at hl 2 rfl) ?_
      refine lv_iload_n hx hb dA_fill_12 rfl (lv_at hl 1 rfl) ?_
      obtain ⟨hg, hf⟩ := ck_gd_e hf
      refine ck_si C h (show sh_C[39]? = some (.inr (0, 32)) from rfl) hg dA_fill_13 (fun H locs h => ?_)
      refine lv_iinc (k := 2) (v := (x2 + 1)) (lv' := [(2, .int (x2 + 1)), (0, .ref (ad 39)), (1, .int x1), (3, .int x3)]) hx hb dA_fill_14 hl rfl rfl (by decide) rfl (fun ls hl => ?_)
      refine lv_goto (tgt := 5) hx hb dA_fill_17 rfl ?_
      exact ih _ _ _ _ _ _ _ h (lv_sub hl [1, 2, 0, 3] rfl) hf
def fA_fill_39_C (x1 : Int32) (st : ck_S) : Option ck_S := (fA_fill_39_C_l5  4096 x1 (0 : Int32) (32 : Int32) st)
set_option maxRecDepth 100000 in
set_option maxHeartbeats 4000000 in
theorem cA_fill_39_C (l : Launch) (D : va_G) (cA : Nat → ClassId) (ad : Nat → Nat) {x1 : Int32} {st : ck_S} {st0 : ck_S} (hf : fA_fill_39_C x1 st = some st0) : Met l yA_fill (.code yA_fill bA_fill 4 none :: ck_T) (ck_R 0) (va_Pc [.ref (ad 39), .int x1] (ck_P sh_C cm_cl D cA ad st)) (va_Qv (fun u => u = st0) (ck_P sh_C cm_cl D cA ad) (ck_A ad sh_C.length)) 0 0 (ck_A ad sh_C.length) := by
  refine ck_met_v (own := R_A) (by decide +kernel) rfl (Nat.le_of_ble_eq_true rfl) (fun p e R s m args below meth c H0 Q ls C hret h hl => ?_)
  have C1 := C
  obtain ⟨hx, hb, hml, hown, hts, hK, hlv, hlo⟩ := C1
  have hl : lv_has ls 4 [(0, .ref (ad 39)), (1, .int x1)] := hl
  unfold fA_fill_39_C at hf
  refine lv_iconst (v := 0) hx hb dA_fill_0 (by decide) ?_
  refine lv_istore_n (lv' := [(2, .int (0 : Int32)), (0, .ref (ad 39)), (1, .int x1)]) hx hb dA_fill_1 rfl hl (by decide) rfl (fun ls hl => ?_)
  refine lv_aload_n hx hb dA_fill_2 rfl (lv_at hl 1 rfl) ?_
  refine ck_an (x := 32) C h (show sh_C[39]? = some (.inr (0, 32)) from rfl) (by decide) dA_fill_3 ?_
  refine lv_istore_n (lv' := [(3, .int (32 : Int32)), (2, .int (0 : Int32)), (0, .ref (ad 39)), (1, .int x1)]) hx hb dA_fill_4 rfl hl (by decide) rfl (fun ls hl => ?_)
  exact BA_fill_39_C_5 C hret  4096 _ _ _ _ _ _ _ h (lv_sub hl [2, 3, 1, 0] rfl) hf
end SJdk
end
section
theorem dD_reset_0 : decode bD_reset 0 = .ok (.aload_n 0, 1) := by decide +kernel
theorem dD_reset_1 : decode bD_reset 1 = .ok (.iconst 0, 1) := by decide +kernel
theorem dD_reset_2 : decode bD_reset 2 = .ok (.putfield 21, 3) := by decide +kernel
theorem dD_reset_5 : decode bD_reset 5 = .ok (.aload_n 0, 1) := by decide +kernel
theorem dD_reset_6 : decode bD_reset 6 = .ok (.iconst 0, 1) := by decide +kernel
theorem dD_reset_7 : decode bD_reset 7 = .ok (.putfield 25, 3) := by decide +kernel
theorem dD_reset_10 : decode bD_reset 10 = .ok (.return_, 1) := by decide +kernel
theorem dD_addType_0 : decode bD_addType 0 = .ok (.aload_n 0, 1) := by decide +kernel
theorem dD_addType_1 : decode bD_addType 1 = .ok (.getfield 21, 3) := by decide +kernel
theorem dD_addType_4 : decode bD_addType 4 = .ok (.iconst 5, 1) := by decide +kernel
theorem dD_addType_5 : decode bD_addType 5 = .ok (.if_icmp .lt 6, 3) := by decide +kernel
theorem dD_addType_8 : decode bD_addType 8 = .ok (.bipush (-8), 2) := by decide +kernel
theorem dD_addType_10 : decode bD_addType 10 = .ok (.ireturn, 1) := by decide +kernel
theorem dD_addType_11 : decode bD_addType 11 = .ok (.aload_n 0, 1) := by decide +kernel
theorem dD_addType_12 : decode bD_addType 12 = .ok (.dup, 1) := by decide +kernel
theorem dD_addType_13 : decode bD_addType 13 = .ok (.getfield 21, 3) := by decide +kernel
theorem dD_addType_16 : decode bD_addType 16 = .ok (.iconst 1, 1) := by decide +kernel
theorem dD_addType_17 : decode bD_addType 17 = .ok (.iadd, 1) := by decide +kernel
theorem dD_addType_18 : decode bD_addType 18 = .ok (.putfield 21, 3) := by decide +kernel
theorem dD_addType_21 : decode bD_addType 21 = .ok (.aload_n 0, 1) := by decide +kernel
theorem dD_addType_22 : decode bD_addType 22 = .ok (.getfield 21, 3) := by decide +kernel
theorem dD_addType_25 : decode bD_addType 25 = .ok (.ireturn, 1) := by decide +kernel
theorem dD_countOfType_0 : decode bD_countOfType 0 = .ok (.iconst 0, 1) := by decide +kernel
theorem dD_countOfType_1 : decode bD_countOfType 1 = .ok (.istore_n 2, 1) := by decide +kernel
theorem dD_countOfType_2 : decode bD_countOfType 2 = .ok (.iconst 0, 1) := by decide +kernel
theorem dD_countOfType_3 : decode bD_countOfType 3 = .ok (.istore_n 3, 1) := by decide +kernel
theorem dD_countOfType_4 : decode bD_countOfType 4 = .ok (.iload_n 3, 1) := by decide +kernel
theorem dD_countOfType_5 : decode bD_countOfType 5 = .ok (.aload_n 0, 1) := by decide +kernel
theorem dD_countOfType_6 : decode bD_countOfType 6 = .ok (.getfield 25, 3) := by decide +kernel
theorem dD_countOfType_9 : decode bD_countOfType 9 = .ok (.if_icmp .ge 22, 3) := by decide +kernel
theorem dD_countOfType_12 : decode bD_countOfType 12 = .ok (.aload_n 0, 1) := by decide +kernel
theorem dD_countOfType_13 : decode bD_countOfType 13 = .ok (.getfield 9, 3) := by decide +kernel
theorem dD_countOfType_16 : decode bD_countOfType 16 = .ok (.iload_n 3, 1) := by decide +kernel
theorem dD_countOfType_17 : decode bD_countOfType 17 = .ok (.iaload, 1) := by decide +kernel
theorem dD_countOfType_18 : decode bD_countOfType 18 = .ok (.iload_n 1, 1) := by decide +kernel
theorem dD_countOfType_19 : decode bD_countOfType 19 = .ok (.if_icmp .ne 6, 3) := by decide +kernel
theorem dD_countOfType_22 : decode bD_countOfType 22 = .ok (.iinc 2 1, 3) := by decide +kernel
theorem dD_countOfType_25 : decode bD_countOfType 25 = .ok (.iinc 3 1, 3) := by decide +kernel
theorem dD_countOfType_28 : decode bD_countOfType 28 = .ok (.goto (-24), 3) := by decide +kernel
theorem dD_countOfType_31 : decode bD_countOfType 31 = .ok (.iload_n 2, 1) := by decide +kernel
theorem dD_countOfType_32 : decode bD_countOfType 32 = .ok (.ireturn, 1) := by decide +kernel
theorem dD_addConstructor_0 : decode bD_addConstructor 0 = .ok (.aload_n 0, 1) := by decide +kernel
theorem dD_addConstructor_1 : decode bD_addConstructor 1 = .ok (.getfield 25, 3) := by decide +kernel
theorem dD_addConstructor_4 : decode bD_addConstructor 4 = .ok (.bipush 12, 2) := by decide +kernel
theorem dD_addConstructor_6 : decode bD_addConstructor 6 = .ok (.if_icmp .ge 12, 3) := by decide +kernel
theorem dD_addConstructor_9 : decode bD_addConstructor 9 = .ok (.aload_n 0, 1) := by decide +kernel
theorem dD_addConstructor_10 : decode bD_addConstructor 10 = .ok (.iload_n 1, 1) := by decide +kernel
theorem dD_addConstructor_11 : decode bD_addConstructor 11 = .ok (.invokevirtual 28, 3) := by decide +kernel
theorem dD_addConstructor_14 : decode bD_addConstructor 14 = .ok (.iconst 4, 1) := by decide +kernel
theorem dD_addConstructor_15 : decode bD_addConstructor 15 = .ok (.if_icmp .lt 6, 3) := by decide +kernel
theorem dD_addConstructor_18 : decode bD_addConstructor 18 = .ok (.bipush (-8), 2) := by decide +kernel
theorem dD_addConstructor_20 : decode bD_addConstructor 20 = .ok (.ireturn, 1) := by decide +kernel
theorem dD_addConstructor_21 : decode bD_addConstructor 21 = .ok (.aload_n 0, 1) := by decide +kernel
theorem dD_addConstructor_22 : decode bD_addConstructor 22 = .ok (.getfield 25, 3) := by decide +kernel
theorem dD_addConstructor_25 : decode bD_addConstructor 25 = .ok (.istore 4, 2) := by decide +kernel
theorem dD_addConstructor_27 : decode bD_addConstructor 27 = .ok (.aload_n 0, 1) := by decide +kernel
theorem dD_addConstructor_28 : decode bD_addConstructor 28 = .ok (.getfield 9, 3) := by decide +kernel
theorem dD_addConstructor_31 : decode bD_addConstructor 31 = .ok (.iload 4, 2) := by decide +kernel
theorem dD_addConstructor_33 : decode bD_addConstructor 33 = .ok (.iload_n 1, 1) := by decide +kernel
theorem dD_addConstructor_34 : decode bD_addConstructor 34 = .ok (.iastore, 1) := by decide +kernel
theorem dD_addConstructor_35 : decode bD_addConstructor 35 = .ok (.aload_n 0, 1) := by decide +kernel
theorem dD_addConstructor_36 : decode bD_addConstructor 36 = .ok (.getfield 15, 3) := by decide +kernel
theorem dD_addConstructor_39 : decode bD_addConstructor 39 = .ok (.iload 4, 2) := by decide +kernel
theorem dD_addConstructor_41 : decode bD_addConstructor 41 = .ok (.iload_n 2, 1) := by decide +kernel
theorem dD_addConstructor_42 : decode bD_addConstructor 42 = .ok (.iastore, 1) := by decide +kernel
theorem dD_addConstructor_43 : decode bD_addConstructor 43 = .ok (.aload_n 0, 1) := by decide +kernel
theorem dD_addConstructor_44 : decode bD_addConstructor 44 = .ok (.getfield 18, 3) := by decide +kernel
theorem dD_addConstructor_47 : decode bD_addConstructor 47 = .ok (.iload 4, 2) := by decide +kernel
theorem dD_addConstructor_49 : decode bD_addConstructor 49 = .ok (.iload_n 3, 1) := by decide +kernel
theorem dD_addConstructor_50 : decode bD_addConstructor 50 = .ok (.iastore, 1) := by decide +kernel
theorem dD_addConstructor_51 : decode bD_addConstructor 51 = .ok (.aload_n 0, 1) := by decide +kernel
theorem dD_addConstructor_52 : decode bD_addConstructor 52 = .ok (.dup, 1) := by decide +kernel
theorem dD_addConstructor_53 : decode bD_addConstructor 53 = .ok (.getfield 25, 3) := by decide +kernel
theorem dD_addConstructor_56 : decode bD_addConstructor 56 = .ok (.iconst 1, 1) := by decide +kernel
theorem dD_addConstructor_57 : decode bD_addConstructor 57 = .ok (.iadd, 1) := by decide +kernel
theorem dD_addConstructor_58 : decode bD_addConstructor 58 = .ok (.putfield 25, 3) := by decide +kernel
theorem dD_addConstructor_61 : decode bD_addConstructor 61 = .ok (.iload 4, 2) := by decide +kernel
theorem dD_addConstructor_63 : decode bD_addConstructor 63 = .ok (.ireturn, 1) := by decide +kernel
theorem dD_isType_0 : decode bD_isType 0 = .ok (.iload_n 1, 1) := by decide +kernel
theorem dD_isType_1 : decode bD_isType 1 = .ok (.ifCond .lt 15, 3) := by decide +kernel
theorem dD_isType_4 : decode bD_isType 4 = .ok (.iload_n 1, 1) := by decide +kernel
theorem dD_isType_5 : decode bD_isType 5 = .ok (.aload_n 0, 1) := by decide +kernel
theorem dD_isType_6 : decode bD_isType 6 = .ok (.getfield 21, 3) := by decide +kernel
theorem dD_isType_9 : decode bD_isType 9 = .ok (.if_icmp .gt 7, 3) := by decide +kernel
theorem dD_isType_12 : decode bD_isType 12 = .ok (.iconst 1, 1) := by decide +kernel
theorem dD_isType_13 : decode bD_isType 13 = .ok (.goto 4, 3) := by decide +kernel
theorem dD_isType_16 : decode bD_isType 16 = .ok (.iconst 0, 1) := by decide +kernel
theorem dD_isType_17 : decode bD_isType 17 = .ok (.ireturn, 1) := by decide +kernel
theorem dD_isOwnType_0 : decode bD_isOwnType 0 = .ok (.iload_n 1, 1) := by decide +kernel
theorem dD_isOwnType_1 : decode bD_isOwnType 1 = .ok (.ifCond .le 15, 3) := by decide +kernel
theorem dD_isOwnType_4 : decode bD_isOwnType 4 = .ok (.iload_n 1, 1) := by decide +kernel
theorem dD_isOwnType_5 : decode bD_isOwnType 5 = .ok (.aload_n 0, 1) := by decide +kernel
theorem dD_isOwnType_6 : decode bD_isOwnType 6 = .ok (.getfield 21, 3) := by decide +kernel
theorem dD_isOwnType_9 : decode bD_isOwnType 9 = .ok (.if_icmp .gt 7, 3) := by decide +kernel
theorem dD_isOwnType_12 : decode bD_isOwnType 12 = .ok (.iconst 1, 1) := by decide +kernel
theorem dD_isOwnType_13 : decode bD_isOwnType 13 = .ok (.goto 4, 3) := by decide +kernel
theorem dD_isOwnType_16 : decode bD_isOwnType 16 = .ok (.iconst 0, 1) := by decide +kernel
theorem dD_isOwnType_17 : decode bD_isOwnType 17 = .ok (.ireturn, 1) := by decide +kernel
theorem dD_canBeArguments_0 : decode bD_canBeArguments 0 = .ok (.iload_n 1, 1) := by decide +kernel
theorem dD_canBeArguments_1 : decode bD_canBeArguments 1 = .ok (.iconst (-1), 1) := by decide +kernel
theorem dD_canBeArguments_2 : decode bD_canBeArguments 2 = .ok (.if_icmp .ne 14, 3) := by decide +kernel
theorem dD_canBeArguments_5 : decode bD_canBeArguments 5 = .ok (.iload_n 2, 1) := by decide +kernel
theorem dD_canBeArguments_6 : decode bD_canBeArguments 6 = .ok (.iconst (-1), 1) := by decide +kernel
theorem dD_canBeArguments_7 : decode bD_canBeArguments 7 = .ok (.if_icmp .ne 7, 3) := by decide +kernel
theorem dD_canBeArguments_10 : decode bD_canBeArguments 10 = .ok (.iconst 1, 1) := by decide +kernel
theorem dD_canBeArguments_11 : decode bD_canBeArguments 11 = .ok (.goto 4, 3) := by decide +kernel
theorem dD_canBeArguments_14 : decode bD_canBeArguments 14 = .ok (.iconst 0, 1) := by decide +kernel
theorem dD_canBeArguments_15 : decode bD_canBeArguments 15 = .ok (.ireturn, 1) := by decide +kernel
theorem dD_canBeArguments_16 : decode bD_canBeArguments 16 = .ok (.aload_n 0, 1) := by decide +kernel
theorem dD_canBeArguments_17 : decode bD_canBeArguments 17 = .ok (.iload_n 1, 1) := by decide +kernel
theorem dD_canBeArguments_18 : decode bD_canBeArguments 18 = .ok (.invokevirtual 32, 3) := by decide +kernel
theorem dD_canBeArguments_21 : decode bD_canBeArguments 21 = .ok (.ifCond .eq 20, 3) := by decide +kernel
theorem dD_canBeArguments_24 : decode bD_canBeArguments 24 = .ok (.iload_n 2, 1) := by decide +kernel
theorem dD_canBeArguments_25 : decode bD_canBeArguments 25 = .ok (.iconst (-1), 1) := by decide +kernel
theorem dD_canBeArguments_26 : decode bD_canBeArguments 26 = .ok (.if_icmp .eq 11, 3) := by decide +kernel
theorem dD_canBeArguments_29 : decode bD_canBeArguments 29 = .ok (.aload_n 0, 1) := by decide +kernel
theorem dD_canBeArguments_30 : decode bD_canBeArguments 30 = .ok (.iload_n 2, 1) := by decide +kernel
theorem dD_canBeArguments_31 : decode bD_canBeArguments 31 = .ok (.invokevirtual 32, 3) := by decide +kernel
theorem dD_canBeArguments_34 : decode bD_canBeArguments 34 = .ok (.ifCond .eq 7, 3) := by decide +kernel
theorem dD_canBeArguments_37 : decode bD_canBeArguments 37 = .ok (.iconst 1, 1) := by decide +kernel
theorem dD_canBeArguments_38 : decode bD_canBeArguments 38 = .ok (.goto 4, 3) := by decide +kernel
theorem dD_canBeArguments_41 : decode bD_canBeArguments 41 = .ok (.iconst 0, 1) := by decide +kernel
theorem dD_canBeArguments_42 : decode bD_canBeArguments 42 = .ok (.ireturn, 1) := by decide +kernel
theorem dD_isConstructor_0 : decode bD_isConstructor 0 = .ok (.iload_n 1, 1) := by decide +kernel
theorem dD_isConstructor_1 : decode bD_isConstructor 1 = .ok (.ifCond .lt 15, 3) := by decide +kernel
theorem dD_isConstructor_4 : decode bD_isConstructor 4 = .ok (.iload_n 1, 1) := by decide +kernel
theorem dD_isConstructor_5 : decode bD_isConstructor 5 = .ok (.aload_n 0, 1) := by decide +kernel
theorem dD_isConstructor_6 : decode bD_isConstructor 6 = .ok (.getfield 25, 3) := by decide +kernel
theorem dD_isConstructor_9 : decode bD_isConstructor 9 = .ok (.if_icmp .ge 7, 3) := by decide +kernel
theorem dD_isConstructor_12 : decode bD_isConstructor 12 = .ok (.iconst 1, 1) := by decide +kernel
theorem dD_isConstructor_13 : decode bD_isConstructor 13 = .ok (.goto 4, 3) := by decide +kernel
theorem dD_isConstructor_16 : decode bD_isConstructor 16 = .ok (.iconst 0, 1) := by decide +kernel
theorem dD_isConstructor_17 : decode bD_isConstructor 17 = .ok (.ireturn, 1) := by decide +kernel
theorem dD_constructorCount_0 : decode bD_constructorCount 0 = .ok (.aload_n 0, 1) := by decide +kernel
theorem dD_constructorCount_1 : decode bD_constructorCount 1 = .ok (.getfield 25, 3) := by decide +kernel
theorem dD_constructorCount_4 : decode bD_constructorCount 4 = .ok (.ireturn, 1) := by decide +kernel
theorem dD_ownerOf_0 : decode bD_ownerOf 0 = .ok (.aload_n 0, 1) := by decide +kernel
theorem dD_ownerOf_1 : decode bD_ownerOf 1 = .ok (.iload_n 1, 1) := by decide +kernel
theorem dD_ownerOf_2 : decode bD_ownerOf 2 = .ok (.invokevirtual 36, 3) := by decide +kernel
theorem dD_ownerOf_5 : decode bD_ownerOf 5 = .ok (.ifCond .eq 12, 3) := by decide +kernel
theorem dD_ownerOf_8 : decode bD_ownerOf 8 = .ok (.aload_n 0, 1) := by decide +kernel
theorem dD_ownerOf_9 : decode bD_ownerOf 9 = .ok (.getfield 9, 3) := by decide +kernel
theorem dD_ownerOf_12 : decode bD_ownerOf 12 = .ok (.iload_n 1, 1) := by decide +kernel
theorem dD_ownerOf_13 : decode bD_ownerOf 13 = .ok (.iaload, 1) := by decide +kernel
theorem dD_ownerOf_14 : decode bD_ownerOf 14 = .ok (.goto 4, 3) := by decide +kernel
theorem dD_ownerOf_17 : decode bD_ownerOf 17 = .ok (.iconst (-1), 1) := by decide +kernel
theorem dD_ownerOf_18 : decode bD_ownerOf 18 = .ok (.ireturn, 1) := by decide +kernel
theorem dD_firstTypeOf_0 : decode bD_firstTypeOf 0 = .ok (.aload_n 0, 1) := by decide +kernel
theorem dD_firstTypeOf_1 : decode bD_firstTypeOf 1 = .ok (.iload_n 1, 1) := by decide +kernel
theorem dD_firstTypeOf_2 : decode bD_firstTypeOf 2 = .ok (.invokevirtual 36, 3) := by decide +kernel
theorem dD_firstTypeOf_5 : decode bD_firstTypeOf 5 = .ok (.ifCond .eq 12, 3) := by decide +kernel
theorem dD_firstTypeOf_8 : decode bD_firstTypeOf 8 = .ok (.aload_n 0, 1) := by decide +kernel
theorem dD_firstTypeOf_9 : decode bD_firstTypeOf 9 = .ok (.getfield 15, 3) := by decide +kernel
theorem dD_firstTypeOf_12 : decode bD_firstTypeOf 12 = .ok (.iload_n 1, 1) := by decide +kernel
theorem dD_firstTypeOf_13 : decode bD_firstTypeOf 13 = .ok (.iaload, 1) := by decide +kernel
theorem dD_firstTypeOf_14 : decode bD_firstTypeOf 14 = .ok (.goto 4, 3) := by decide +kernel
theorem dD_firstTypeOf_17 : decode bD_firstTypeOf 17 = .ok (.iconst (-1), 1) := by decide +kernel
theorem dD_firstTypeOf_18 : decode bD_firstTypeOf 18 = .ok (.ireturn, 1) := by decide +kernel
theorem dD_secondTypeOf_0 : decode bD_secondTypeOf 0 = .ok (.aload_n 0, 1) := by decide +kernel
theorem dD_secondTypeOf_1 : decode bD_secondTypeOf 1 = .ok (.iload_n 1, 1) := by decide +kernel
theorem dD_secondTypeOf_2 : decode bD_secondTypeOf 2 = .ok (.invokevirtual 36, 3) := by decide +kernel
theorem dD_secondTypeOf_5 : decode bD_secondTypeOf 5 = .ok (.ifCond .eq 12, 3) := by decide +kernel
theorem dD_secondTypeOf_8 : decode bD_secondTypeOf 8 = .ok (.aload_n 0, 1) := by decide +kernel
theorem dD_secondTypeOf_9 : decode bD_secondTypeOf 9 = .ok (.getfield 18, 3) := by decide +kernel
theorem dD_secondTypeOf_12 : decode bD_secondTypeOf 12 = .ok (.iload_n 1, 1) := by decide +kernel
theorem dD_secondTypeOf_13 : decode bD_secondTypeOf 13 = .ok (.iaload, 1) := by decide +kernel
theorem dD_secondTypeOf_14 : decode bD_secondTypeOf 14 = .ok (.goto 4, 3) := by decide +kernel
theorem dD_secondTypeOf_17 : decode bD_secondTypeOf 17 = .ok (.iconst (-1), 1) := by decide +kernel
theorem dD_secondTypeOf_18 : decode bD_secondTypeOf 18 = .ok (.ireturn, 1) := by decide +kernel
theorem dD_argumentPlaces_0 : decode bD_argumentPlaces 0 = .ok (.iconst 0, 1) := by decide +kernel
theorem dD_argumentPlaces_1 : decode bD_argumentPlaces 1 = .ok (.istore_n 3, 1) := by decide +kernel
theorem dD_argumentPlaces_2 : decode bD_argumentPlaces 2 = .ok (.aload_n 0, 1) := by decide +kernel
theorem dD_argumentPlaces_3 : decode bD_argumentPlaces 3 = .ok (.iload_n 1, 1) := by decide +kernel
theorem dD_argumentPlaces_4 : decode bD_argumentPlaces 4 = .ok (.invokevirtual 39, 3) := by decide +kernel
theorem dD_argumentPlaces_7 : decode bD_argumentPlaces 7 = .ok (.iconst (-1), 1) := by decide +kernel
theorem dD_argumentPlaces_8 : decode bD_argumentPlaces 8 = .ok (.if_icmp .eq 11, 3) := by decide +kernel
theorem dD_argumentPlaces_11 : decode bD_argumentPlaces 11 = .ok (.iload_n 3, 1) := by decide +kernel
theorem dD_argumentPlaces_12 : decode bD_argumentPlaces 12 = .ok (.iconst 1, 1) := by decide +kernel
theorem dD_argumentPlaces_13 : decode bD_argumentPlaces 13 = .ok (.iconst 2, 1) := by decide +kernel
theorem dD_argumentPlaces_14 : decode bD_argumentPlaces 14 = .ok (.iload_n 2, 1) := by decide +kernel
theorem dD_argumentPlaces_15 : decode bD_argumentPlaces 15 = .ok (.imul, 1) := by decide +kernel
theorem dD_argumentPlaces_16 : decode bD_argumentPlaces 16 = .ok (.ishl, 1) := by decide +kernel
theorem dD_argumentPlaces_17 : decode bD_argumentPlaces 17 = .ok (.ior, 1) := by decide +kernel
theorem dD_argumentPlaces_18 : decode bD_argumentPlaces 18 = .ok (.istore_n 3, 1) := by decide +kernel
theorem dD_argumentPlaces_19 : decode bD_argumentPlaces 19 = .ok (.aload_n 0, 1) := by decide +kernel
theorem dD_argumentPlaces_20 : decode bD_argumentPlaces 20 = .ok (.iload_n 1, 1) := by decide +kernel
theorem dD_argumentPlaces_21 : decode bD_argumentPlaces 21 = .ok (.invokevirtual 42, 3) := by decide +kernel
theorem dD_argumentPlaces_24 : decode bD_argumentPlaces 24 = .ok (.iconst (-1), 1) := by decide +kernel
theorem dD_argumentPlaces_25 : decode bD_argumentPlaces 25 = .ok (.if_icmp .eq 13, 3) := by decide +kernel
theorem dD_argumentPlaces_28 : decode bD_argumentPlaces 28 = .ok (.iload_n 3, 1) := by decide +kernel
theorem dD_argumentPlaces_29 : decode bD_argumentPlaces 29 = .ok (.iconst 1, 1) := by decide +kernel
theorem dD_argumentPlaces_30 : decode bD_argumentPlaces 30 = .ok (.iconst 2, 1) := by decide +kernel
theorem dD_argumentPlaces_31 : decode bD_argumentPlaces 31 = .ok (.iload_n 2, 1) := by decide +kernel
theorem dD_argumentPlaces_32 : decode bD_argumentPlaces 32 = .ok (.imul, 1) := by decide +kernel
theorem dD_argumentPlaces_33 : decode bD_argumentPlaces 33 = .ok (.iconst 1, 1) := by decide +kernel
theorem dD_argumentPlaces_34 : decode bD_argumentPlaces 34 = .ok (.iadd, 1) := by decide +kernel
theorem dD_argumentPlaces_35 : decode bD_argumentPlaces 35 = .ok (.ishl, 1) := by decide +kernel
theorem dD_argumentPlaces_36 : decode bD_argumentPlaces 36 = .ok (.ior, 1) := by decide +kernel
theorem dD_argumentPlaces_37 : decode bD_argumentPlaces 37 = .ok (.istore_n 3, 1) := by decide +kernel
theorem dD_argumentPlaces_38 : decode bD_argumentPlaces 38 = .ok (.iload_n 3, 1) := by decide +kernel
theorem dD_argumentPlaces_39 : decode bD_argumentPlaces 39 = .ok (.ireturn, 1) := by decide +kernel
theorem dD_canBeGiven_0 : decode bD_canBeGiven 0 = .ok (.iload_n 0, 1) := by decide +kernel
theorem dD_canBeGiven_1 : decode bD_canBeGiven 1 = .ok (.iconst (-1), 1) := by decide +kernel
theorem dD_canBeGiven_2 : decode bD_canBeGiven 2 = .ok (.if_icmp .eq 12, 3) := by decide +kernel
theorem dD_canBeGiven_5 : decode bD_canBeGiven 5 = .ok (.iload_n 1, 1) := by decide +kernel
theorem dD_canBeGiven_6 : decode bD_canBeGiven 6 = .ok (.iload_n 0, 1) := by decide +kernel
theorem dD_canBeGiven_7 : decode bD_canBeGiven 7 = .ok (.ishr, 1) := by decide +kernel
theorem dD_canBeGiven_8 : decode bD_canBeGiven 8 = .ok (.iconst 1, 1) := by decide +kernel
theorem dD_canBeGiven_9 : decode bD_canBeGiven 9 = .ok (.iand, 1) := by decide +kernel
theorem dD_canBeGiven_10 : decode bD_canBeGiven 10 = .ok (.iconst 1, 1) := by decide +kernel
theorem dD_canBeGiven_11 : decode bD_canBeGiven 11 = .ok (.if_icmp .ne 7, 3) := by decide +kernel
theorem dD_canBeGiven_14 : decode bD_canBeGiven 14 = .ok (.iconst 1, 1) := by decide +kernel
theorem dD_canBeGiven_15 : decode bD_canBeGiven 15 = .ok (.goto 4, 3) := by decide +kernel
theorem dD_canBeGiven_18 : decode bD_canBeGiven 18 = .ok (.iconst 0, 1) := by decide +kernel
theorem dD_canBeGiven_19 : decode bD_canBeGiven 19 = .ok (.ireturn, 1) := by decide +kernel
theorem dD_withTypesBuiltFrom_0 : decode bD_withTypesBuiltFrom 0 = .ok (.iload_n 1, 1) := by decide +kernel
theorem dD_withTypesBuiltFrom_1 : decode bD_withTypesBuiltFrom 1 = .ok (.istore_n 2, 1) := by decide +kernel
theorem dD_withTypesBuiltFrom_2 : decode bD_withTypesBuiltFrom 2 = .ok (.iconst 0, 1) := by decide +kernel
theorem dD_withTypesBuiltFrom_3 : decode bD_withTypesBuiltFrom 3 = .ok (.istore_n 3, 1) := by decide +kernel
theorem dD_withTypesBuiltFrom_4 : decode bD_withTypesBuiltFrom 4 = .ok (.iload_n 3, 1) := by decide +kernel
theorem dD_withTypesBuiltFrom_5 : decode bD_withTypesBuiltFrom 5 = .ok (.aload_n 0, 1) := by decide +kernel
theorem dD_withTypesBuiltFrom_6 : decode bD_withTypesBuiltFrom 6 = .ok (.getfield 25, 3) := by decide +kernel
theorem dD_withTypesBuiltFrom_9 : decode bD_withTypesBuiltFrom 9 = .ok (.if_icmp .ge 46, 3) := by decide +kernel
theorem dD_withTypesBuiltFrom_12 : decode bD_withTypesBuiltFrom 12 = .ok (.aload_n 0, 1) := by decide +kernel
theorem dD_withTypesBuiltFrom_13 : decode bD_withTypesBuiltFrom 13 = .ok (.getfield 15, 3) := by decide +kernel
theorem dD_withTypesBuiltFrom_16 : decode bD_withTypesBuiltFrom 16 = .ok (.iload_n 3, 1) := by decide +kernel
theorem dD_withTypesBuiltFrom_17 : decode bD_withTypesBuiltFrom 17 = .ok (.iaload, 1) := by decide +kernel
theorem dD_withTypesBuiltFrom_18 : decode bD_withTypesBuiltFrom 18 = .ok (.iload_n 2, 1) := by decide +kernel
theorem dD_withTypesBuiltFrom_19 : decode bD_withTypesBuiltFrom 19 = .ok (.invokestatic 48, 3) := by decide +kernel
theorem dD_withTypesBuiltFrom_22 : decode bD_withTypesBuiltFrom 22 = .ok (.ifCond .eq 27, 3) := by decide +kernel
theorem dD_withTypesBuiltFrom_25 : decode bD_withTypesBuiltFrom 25 = .ok (.aload_n 0, 1) := by decide +kernel
theorem dD_withTypesBuiltFrom_26 : decode bD_withTypesBuiltFrom 26 = .ok (.getfield 18, 3) := by decide +kernel
theorem dD_withTypesBuiltFrom_29 : decode bD_withTypesBuiltFrom 29 = .ok (.iload_n 3, 1) := by decide +kernel
theorem dD_withTypesBuiltFrom_30 : decode bD_withTypesBuiltFrom 30 = .ok (.iaload, 1) := by decide +kernel
theorem dD_withTypesBuiltFrom_31 : decode bD_withTypesBuiltFrom 31 = .ok (.iload_n 2, 1) := by decide +kernel
theorem dD_withTypesBuiltFrom_32 : decode bD_withTypesBuiltFrom 32 = .ok (.invokestatic 48, 3) := by decide +kernel
theorem dD_withTypesBuiltFrom_35 : decode bD_withTypesBuiltFrom 35 = .ok (.ifCond .eq 14, 3) := by decide +kernel
theorem dD_withTypesBuiltFrom_38 : decode bD_withTypesBuiltFrom 38 = .ok (.iload_n 2, 1) := by decide +kernel
theorem dD_withTypesBuiltFrom_39 : decode bD_withTypesBuiltFrom 39 = .ok (.iconst 1, 1) := by decide +kernel
theorem dD_withTypesBuiltFrom_40 : decode bD_withTypesBuiltFrom 40 = .ok (.aload_n 0, 1) := by decide +kernel
theorem dD_withTypesBuiltFrom_41 : decode bD_withTypesBuiltFrom 41 = .ok (.getfield 9, 3) := by decide +kernel
theorem dD_withTypesBuiltFrom_44 : decode bD_withTypesBuiltFrom 44 = .ok (.iload_n 3, 1) := by decide +kernel
theorem dD_withTypesBuiltFrom_45 : decode bD_withTypesBuiltFrom 45 = .ok (.iaload, 1) := by decide +kernel
theorem dD_withTypesBuiltFrom_46 : decode bD_withTypesBuiltFrom 46 = .ok (.ishl, 1) := by decide +kernel
theorem dD_withTypesBuiltFrom_47 : decode bD_withTypesBuiltFrom 47 = .ok (.ior, 1) := by decide +kernel
theorem dD_withTypesBuiltFrom_48 : decode bD_withTypesBuiltFrom 48 = .ok (.istore_n 2, 1) := by decide +kernel
theorem dD_withTypesBuiltFrom_49 : decode bD_withTypesBuiltFrom 49 = .ok (.iinc 3 1, 3) := by decide +kernel
theorem dD_withTypesBuiltFrom_52 : decode bD_withTypesBuiltFrom 52 = .ok (.goto (-48), 3) := by decide +kernel
theorem dD_withTypesBuiltFrom_55 : decode bD_withTypesBuiltFrom 55 = .ok (.iload_n 2, 1) := by decide +kernel
theorem dD_withTypesBuiltFrom_56 : decode bD_withTypesBuiltFrom 56 = .ok (.ireturn, 1) := by decide +kernel
theorem dD_everyTypeHasValues_0 : decode bD_everyTypeHasValues 0 = .ok (.iconst 1, 1) := by decide +kernel
theorem dD_everyTypeHasValues_1 : decode bD_everyTypeHasValues 1 = .ok (.istore_n 1, 1) := by decide +kernel
theorem dD_everyTypeHasValues_2 : decode bD_everyTypeHasValues 2 = .ok (.iconst 0, 1) := by decide +kernel
theorem dD_everyTypeHasValues_3 : decode bD_everyTypeHasValues 3 = .ok (.istore_n 2, 1) := by decide +kernel
theorem dD_everyTypeHasValues_4 : decode bD_everyTypeHasValues 4 = .ok (.iload_n 2, 1) := by decide +kernel
theorem dD_everyTypeHasValues_5 : decode bD_everyTypeHasValues 5 = .ok (.aload_n 0, 1) := by decide +kernel
theorem dD_everyTypeHasValues_6 : decode bD_everyTypeHasValues 6 = .ok (.getfield 21, 3) := by decide +kernel
theorem dD_everyTypeHasValues_9 : decode bD_everyTypeHasValues 9 = .ok (.if_icmp .ge 15, 3) := by decide +kernel
theorem dD_everyTypeHasValues_12 : decode bD_everyTypeHasValues 12 = .ok (.aload_n 0, 1) := by decide +kernel
theorem dD_everyTypeHasValues_13 : decode bD_everyTypeHasValues 13 = .ok (.iload_n 1, 1) := by decide +kernel
theorem dD_everyTypeHasValues_14 : decode bD_everyTypeHasValues 14 = .ok (.invokevirtual 45, 3) := by decide +kernel
theorem dD_everyTypeHasValues_17 : decode bD_everyTypeHasValues 17 = .ok (.istore_n 1, 1) := by decide +kernel
theorem dD_everyTypeHasValues_18 : decode bD_everyTypeHasValues 18 = .ok (.iinc 2 1, 3) := by decide +kernel
theorem dD_everyTypeHasValues_21 : decode bD_everyTypeHasValues 21 = .ok (.goto (-17), 3) := by decide +kernel
theorem dD_everyTypeHasValues_24 : decode bD_everyTypeHasValues 24 = .ok (.iload_n 1, 1) := by decide +kernel
theorem dD_everyTypeHasValues_25 : decode bD_everyTypeHasValues 25 = .ok (.iconst 1, 1) := by decide +kernel
theorem dD_everyTypeHasValues_26 : decode bD_everyTypeHasValues 26 = .ok (.aload_n 0, 1) := by decide +kernel
theorem dD_everyTypeHasValues_27 : decode bD_everyTypeHasValues 27 = .ok (.getfield 21, 3) := by decide +kernel
theorem dD_everyTypeHasValues_30 : decode bD_everyTypeHasValues 30 = .ok (.iconst 1, 1) := by decide +kernel
theorem dD_everyTypeHasValues_31 : decode bD_everyTypeHasValues 31 = .ok (.iadd, 1) := by decide +kernel
theorem dD_everyTypeHasValues_32 : decode bD_everyTypeHasValues 32 = .ok (.ishl, 1) := by decide +kernel
theorem dD_everyTypeHasValues_33 : decode bD_everyTypeHasValues 33 = .ok (.iconst 1, 1) := by decide +kernel
theorem dD_everyTypeHasValues_34 : decode bD_everyTypeHasValues 34 = .ok (.isub, 1) := by decide +kernel
theorem dD_everyTypeHasValues_35 : decode bD_everyTypeHasValues 35 = .ok (.if_icmp .ne 7, 3) := by decide +kernel
theorem dD_everyTypeHasValues_38 : decode bD_everyTypeHasValues 38 = .ok (.iconst 1, 1) := by decide +kernel
theorem dD_everyTypeHasValues_39 : decode bD_everyTypeHasValues 39 = .ok (.goto 4, 3) := by decide +kernel
theorem dD_everyTypeHasValues_42 : decode bD_everyTypeHasValues 42 = .ok (.iconst 0, 1) := by decide +kernel
theorem dD_everyTypeHasValues_43 : decode bD_everyTypeHasValues 43 = .ok (.ireturn, 1) := by decide +kernel
section Sdecl
variable {p : Program} {l : Launch} {e : Env} {R : Room} {s : State} {m : MethodId} {args : Array Value} {below : List Frame} {meth : Method} {c : Code} {Q : State → Prop} {D : va_G} {cA : Nat → ClassId} {ad : Nat → Nat} {H0 : Heap}
def fD_reset (st : ck_S) : Option ck_S := (some (ck_u (ck_u st 1 3 (0 : Int32)) 1 4 (0 : Int32)))
set_option maxRecDepth 100000 in
set_option maxHeartbeats 4000000 in
theorem cD_reset (l : Launch) (D : va_G) (cA : Nat → ClassId) (ad : Nat → Nat) {st : ck_S} {st0 : ck_S} (hf : fD_reset st = some st0) : Met l yD_reset (.code yD_reset bD_reset 1 none :: ck_T) (ck_R 0) (va_Pc [.ref (ad 1)] (ck_P sh_C cm_cl D cA ad st)) (va_Qv (fun u => u = st0) (ck_P sh_C cm_cl D cA ad) (ck_A ad sh_C.length)) 0 0 (ck_A ad sh_C.length) := by
  refine ck_met_v (own := R_D) (by decide +kernel) rfl (Nat.le_of_ble_eq_true rfl) (fun p e R s m args below meth c H0 Q ls C hret h hl => ?_)
  have C1 := C
  obtain ⟨hx, hb, hml, hown, hts, hK, hlv, hlo⟩ := C1
  have hl : lv_has ls 1 [(0, .ref (ad 1))] := hl
  unfold fD_reset at hf
  refine lv_aload_n hx hb dD_reset_0 rfl (lv_at hl 0 rfl) ?_
  refine lv_iconst (v := 0) hx hb dD_reset_1 (by decide) ?_
  refine ck_pi C h GD_ownTypes rfl rfl dD_reset_2 (fun H locs h => ?_)
  refine lv_aload_n hx hb dD_reset_5 rfl (lv_at hl 0 rfl) ?_
  refine lv_iconst (v := 0) hx hb dD_reset_6 (by decide) ?_
  refine ck_pi C h GD_constructors rfl rfl dD_reset_7 (fun H locs h => ?_)
  exact ck_rv hf hret h dD_reset_10
def fD_addType (st : ck_S) : Option (Int32 × ck_S) := (if (st 1 3) < (5 : Int32) then (some (((st 1 3) + (1 : Int32)), (ck_u st 1 3 ((st 1 3) + (1 : Int32))))) else (some ((-8 : Int32), st)))
set_option maxRecDepth 100000 in
set_option maxHeartbeats 4000000 in
theorem cD_addType (l : Launch) (D : va_G) (cA : Nat → ClassId) (ad : Nat → Nat) {st : ck_S} {r0 : Int32} {st0 : ck_S} (hf : fD_addType st = some (r0, st0)) : Met l yD_addType (.code yD_addType bD_addType 1 (some .int) :: ck_T) (ck_R 0) (va_Pc [.ref (ad 1)] (ck_P sh_C cm_cl D cA ad st)) (va_Qi (fun a u => a = r0 ∧ u = st0) (ck_P sh_C cm_cl D cA ad) (ck_A ad sh_C.length)) 0 0 (ck_A ad sh_C.length) := by
  refine ck_met_i (own := R_D) (by decide +kernel) rfl (Nat.le_of_ble_eq_true rfl) (fun p e R s m args below meth c H0 Q ls C hret h hl => ?_)
  have C1 := C
  obtain ⟨hx, hb, hml, hown, hts, hK, hlv, hlo⟩ := C1
  have hl : lv_has ls 1 [(0, .ref (ad 1))] := hl
  unfold fD_addType at hf
  refine lv_aload_n hx hb dD_addType_0 rfl (lv_at hl 0 rfl) ?_
  refine ck_gi (x := (st 1 3)) C h FD_ownTypes rfl dD_addType_1 ?_
  refine lv_iconst (v := 5) hx hb dD_addType_4 (by decide) ?_
  refine lv_icmp_lt (tgt := 11) hx hb dD_addType_5 rfl (fun hq => ?_) (fun hq => ?_)
  · have hf := ck_t hq hf
    refine lv_aload_n hx hb dD_addType_11 rfl (lv_at hl 0 rfl) ?_
    refine lv_dup hx hb dD_addType_12 rfl ?_
    refine ck_gi (x := (st 1 3)) C h FD_ownTypes rfl dD_addType_13 ?_
    refine lv_iconst (v := 1) hx hb dD_addType_16 (by decide) ?_
    refine lv_iadd hx hb dD_addType_17 ?_
    refine ck_pi C h GD_ownTypes rfl rfl dD_addType_18 (fun H locs h => ?_)
    refine lv_aload_n hx hb dD_addType_21 rfl (lv_at hl 0 rfl) ?_
    refine ck_gi (x := ((st 1 3) + (1 : Int32))) C h FD_ownTypes rfl dD_addType_22 ?_
    exact ck_ri hf hret h dD_addType_25
  · have hf := ck_f hq hf
    refine lv_bipush (v := (-8)) hx hb dD_addType_8 (by decide) ?_
    exact ck_ri hf hret h dD_addType_10
def fD_countOfType_l4 : Nat → Int32 → Int32 → Int32 → ck_S → Option (Int32 × ck_S)
  | 0, _, _, _, _ => none
  | n + 1, x1, x2, x3, st => (if (st 1 4) ≤ x3 then (some (x2, st)) else (ck_gd x3 12 (if (st 7 (x3).toNatClampNeg) = x1 then (fD_countOfType_l4 n x1 (x2 + 1) (x3 + 1) st) else (fD_countOfType_l4 n x1 x2 (x3 + 1) st))))
set_option maxRecDepth 100000 in
set_option maxHeartbeats 4000000 in
theorem BD_countOfType_4 (C : ck_X cm_cl D cA bD_countOfType 4 R_D 0 p R s m args c) {r0 : Int32} {st0 : ck_S} (hret : ∀ (pc : Nat) (H : Heap) (locs : List Loc) (ls : Array Slot), decode bD_countOfType pc = .ok (.ireturn, 1) → ck_AT sh_C cm_cl D cA ad H0 st0 H locs → W p l e R s m args below meth c H locs 0 0 Q (F0 m pc ls [.int r0])) : ∀ (n : Nat) (x1 : Int32) (x2 : Int32) (x3 : Int32) (st : ck_S) (H : Heap) (locs : List Loc) (ls : Array Slot), ck_AT sh_C cm_cl D cA ad H0 st H locs → lv_has ls 4 [(0, .ref (ad 1)), (1, .int x1), (2, .int x2), (3, .int x3)] → fD_countOfType_l4  n x1 x2 x3 st = some (r0, st0) → W p l e R s m args below meth c H locs 0 0 Q (F0 m 4 ls []) := by
  have C1 := C
  obtain ⟨hx, hb, hml, hown, hts, hK, hlv, hlo⟩ := C1
  intro n
  induction n with
  | zero => intro _ _ _ _ _ _ _ _ _ hf; cases hf
  | succ n ih =>
    intro x1 x2 x3 st H locs ls h hl hf
    rw [fD_countOfType_l4] at hf
    refine lv_iload_n hx hb dD_countOfType_4 rfl (lv_at hl 3 rfl) ?_
    refine lv_aload_n hx hb dD_countOfType_5 rfl (lv_at hl 0 rfl) ?_
    refine ck_gi (x := (st 1 4)) C h FD_constructors rfl dD_countOfType_6 ?_
    refine lv_icmp_ge (tgt := 31) hx hb dD_countOfType_9 rfl (fun hq => ?_) (fun hq => ?_)
    · have hf := ck_t hq hf
      refine lv_iload_n hx hb dD_countOfType_31 rfl (lv_at hl 2 rfl) ?_
      exact ck_ri hf hret h dD_countOfType_32
    · have hf := ck_f hq hf
      refine lv_aload_n hx hb dD_countOfType_12 rfl (lv_at hl 0 rfl) ?_
      refine ck_gr C h FD_owner dD_countOfType_13 ?_
      refine lv_iload_n hx hb dD_countOfType_16 rfl (lv_at hl 3 rfl) ?_
      obtain ⟨hg, hf⟩ := ck_gd_e hf
      refine ck_ai (x := (st 7 (x3).toNatClampNeg)) C h (show sh_C[7]? = some (.inr (0, 12)) from rfl) hg rfl dD_countOfType_17 ?_
      refine lv_iload_n hx hb dD_countOfType_18 rfl (lv_at hl 1 rfl) ?_
      refine lv_icmp_ne (tgt := 25) hx hb dD_countOfType_19 rfl (fun hq => ?_) (fun hq => ?_)
      · have hf := ck_f hq hf
        refine lv_iinc (k := 3) (v := (x3 + 1)) (lv' := [(3, .int (x3 + 1)), (0, .ref (ad 1)), (1, .int x1), (2, .int x2)]) hx hb dD_countOfType_25 hl rfl rfl (by decide) rfl (fun ls hl => ?_)
        refine lv_goto (tgt := 4) hx hb dD_countOfType_28 rfl ?_
        exact ih _ _ _ _ _ _ _ h (lv_sub hl [1, 2, 3, 0] rfl) hf
      · have hf := ck_t hq hf
        refine lv_iinc (k := 2) (v := (x2 + 1)) (lv' := [(2, .int (x2 + 1)), (0, .ref (ad 1)), (1, .int x1), (3, .int x3)]) hx hb dD_countOfType_22 hl rfl rfl (by decide) rfl (fun ls hl => ?_)
        refine lv_iinc (k := 3) (v := (x3 + 1)) (lv' := [(3, .int (x3 + 1)), (2, .int (x2 + 1)), (0, .ref (ad 1)), (1, .int x1)]) hx hb dD_countOfType_25 hl rfl rfl (by decide) rfl (fun ls hl => ?_)
        refine lv_goto (tgt := 4) hx hb dD_countOfType_28 rfl ?_
        exact ih _ _ _ _ _ _ _ h (lv_sub hl [2, 3, 1, 0] rfl) hf
def fD_countOfType (x1 : Int32) (st : ck_S) : Option (Int32 × ck_S) := (fD_countOfType_l4  4096 x1 (0 : Int32) (0 : Int32) st)
set_option maxRecDepth 100000 in
set_option maxHeartbeats 4000000 in
theorem cD_countOfType (l : Launch) (D : va_G) (cA : Nat → ClassId) (ad : Nat → Nat) {x1 : Int32} {st : ck_S} {r0 : Int32} {st0 : ck_S} (hf : fD_countOfType x1 st = some (r0, st0)) : Met l yD_countOfType (.code yD_countOfType bD_countOfType 4 (some .int) :: ck_T) (ck_R 0) (va_Pc [.ref (ad 1), .int x1] (ck_P sh_C cm_cl D cA ad st)) (va_Qi (fun a u => a = r0 ∧ u = st0) (ck_P sh_C cm_cl D cA ad) (ck_A ad sh_C.length)) 0 0 (ck_A ad sh_C.length) := by
  refine ck_met_i (own := R_D) (by decide +kernel) rfl (Nat.le_of_ble_eq_true rfl) (fun p e R s m args below meth c H0 Q ls C hret h hl => ?_)
  have C1 := C
  obtain ⟨hx, hb, hml, hown, hts, hK, hlv, hlo⟩ := C1
  have hl : lv_has ls 4 [(0, .ref (ad 1)), (1, .int x1)] := hl
  unfold fD_countOfType at hf
  refine lv_iconst (v := 0) hx hb dD_countOfType_0 (by decide) ?_
  refine lv_istore_n (lv' := [(2, .int (0 : Int32)), (0, .ref (ad 1)), (1, .int x1)]) hx hb dD_countOfType_1 rfl hl (by decide) rfl (fun ls hl => ?_)
  refine lv_iconst (v := 0) hx hb dD_countOfType_2 (by decide) ?_
  refine lv_istore_n (lv' := [(3, .int (0 : Int32)), (2, .int (0 : Int32)), (0, .ref (ad 1)), (1, .int x1)]) hx hb dD_countOfType_3 rfl hl (by decide) rfl (fun ls hl => ?_)
  exact BD_countOfType_4 C hret  4096 _ _ _ _ _ _ _ h (lv_sub hl [2, 3, 1, 0] rfl) hf
def fD_addConstructor (x1 : Int32) (x2 : Int32) (x3 : Int32) (st : ck_S) : Option (Int32 × ck_S) := (if (12 : Int32) ≤ (st 1 4) then (some ((-8 : Int32), st)) else (ck_b (fD_countOfType x1 st) fun v2 st1 => (if v2 < (4 : Int32) then (ck_gd (st1 1 4) 12 (ck_gd (st1 1 4) 12 (ck_gd (st1 1 4) 12 (some ((st1 1 4), (ck_u (ck_u (ck_u (ck_u st1 7 ((st1 1 4)).toNatClampNeg x1) 8 ((st1 1 4)).toNatClampNeg x2) 9 ((st1 1 4)).toNatClampNeg x3) 1 4 ((st1 1 4) + (1 : Int32)))))))) else (some ((-8 : Int32), st1)))))
set_option maxRecDepth 100000 in
set_option maxHeartbeats 4000000 in
theorem cD_addConstructor (l : Launch) (D : va_G) (cA : Nat → ClassId) (ad : Nat → Nat) {x1 : Int32} {x2 : Int32} {x3 : Int32} {st : ck_S} {r0 : Int32} {st0 : ck_S} (hf : fD_addConstructor x1 x2 x3 st = some (r0, st0)) : Met l yD_addConstructor (.code yD_addConstructor bD_addConstructor 5 (some .int) :: ck_T) (ck_R 1) (va_Pc [.ref (ad 1), .int x1, .int x2, .int x3] (ck_P sh_C cm_cl D cA ad st)) (va_Qi (fun a u => a = r0 ∧ u = st0) (ck_P sh_C cm_cl D cA ad) (ck_A ad sh_C.length)) 0 0 (ck_A ad sh_C.length) := by
  refine ck_met_i (own := R_D) (by decide +kernel) rfl (Nat.le_of_ble_eq_true rfl) (fun p e R s m args below meth c H0 Q ls C hret h hl => ?_)
  have C1 := C
  obtain ⟨hx, hb, hml, hown, hts, hK, hlv, hlo⟩ := C1
  have hl : lv_has ls 5 [(0, .ref (ad 1)), (1, .int x1), (2, .int x2), (3, .int x3)] := hl
  unfold fD_addConstructor at hf
  refine lv_aload_n hx hb dD_addConstructor_0 rfl (lv_at hl 0 rfl) ?_
  refine ck_gi (x := (st 1 4)) C h FD_constructors rfl dD_addConstructor_1 ?_
  refine lv_bipush (v := 12) hx hb dD_addConstructor_4 (by decide) ?_
  refine lv_icmp_ge (tgt := 18) hx hb dD_addConstructor_6 rfl (fun hq => ?_) (fun hq => ?_)
  · have hf := ck_t hq hf
    refine lv_bipush (v := (-8)) hx hb dD_addConstructor_18 (by decide) ?_
    exact ck_ri hf hret h dD_addConstructor_20
  · have hf := ck_f hq hf
    refine lv_aload_n hx hb dD_addConstructor_9 rfl (lv_at hl 0 rfl) ?_
    refine lv_iload_n hx hb dD_addConstructor_10 rfl (lv_at hl 1 rfl) ?_
    obtain ⟨v2, st1, hc, hf⟩ := ck_b_e hf
    refine ck_vi (As := [.int x1]) (rest := []) (q := 1) C h hl CD_D_countOfType sD_countOfType q_D (cD_countOfType l D cA ad hc) (Nat.le_of_ble_eq_true rfl) rfl rfl (Nat.le_of_ble_eq_true rfl) dD_addConstructor_11 (fun H locs h => ?_)
    refine lv_iconst (v := 4) hx hb dD_addConstructor_14 (by decide) ?_
    refine lv_icmp_lt (tgt := 21) hx hb dD_addConstructor_15 rfl (fun hq => ?_) (fun hq => ?_)
    · have hf := ck_t hq hf
      refine lv_aload_n hx hb dD_addConstructor_21 rfl (lv_at hl 0 rfl) ?_
      refine ck_gi (x := (st1 1 4)) C h FD_constructors rfl dD_addConstructor_22 ?_
      refine lv_istore (lv' := [(4, .int (st1 1 4)), (0, .ref (ad 1)), (1, .int x1), (2, .int x2), (3, .int x3)]) hx hb dD_addConstructor_25 hl (by decide) rfl (fun ls hl => ?_)
      refine lv_aload_n hx hb dD_addConstructor_27 rfl (lv_at hl 1 rfl) ?_
      refine ck_gr C h FD_owner dD_addConstructor_28 ?_
      refine lv_iload hx hb dD_addConstructor_31 (lv_at hl 0 rfl) ?_
      refine lv_iload_n hx hb dD_addConstructor_33 rfl (lv_at hl 2 rfl) ?_
      obtain ⟨hg, hf⟩ := ck_gd_e hf
      refine ck_si C h (show sh_C[7]? = some (.inr (0, 12)) from rfl) hg dD_addConstructor_34 (fun H locs h => ?_)
      refine lv_aload_n hx hb dD_addConstructor_35 rfl (lv_at hl 1 rfl) ?_
      refine ck_gr C h FD_firstType dD_addConstructor_36 ?_
      refine lv_iload hx hb dD_addConstructor_39 (lv_at hl 0 rfl) ?_
      refine lv_iload_n hx hb dD_addConstructor_41 rfl (lv_at hl 3 rfl) ?_
      obtain ⟨hg, hf⟩ := ck_gd_e hf
      refine ck_si C h (show sh_C[8]? = some (.inr (0, 12)) from rfl) hg dD_addConstructor_42 (fun H locs h => ?_)
      refine lv_aload_n hx hb dD_addConstructor_43 rfl (lv_at hl 1 rfl) ?_
      refine ck_gr C h FD_secondType dD_addConstructor_44 ?_
      refine lv_iload hx hb dD_addConstructor_47 (lv_at hl 0 rfl) ?_
      refine lv_iload_n hx hb dD_addConstructor_49 rfl (lv_at hl 4 rfl) ?_
      obtain ⟨hg, hf⟩ := ck_gd_e hf
      refine ck_si C h (show sh_C[9]? = some (.inr (0, 12)) from rfl) hg dD_addConstructor_50 (fun H locs h => ?_)
      refine lv_aload_n hx hb dD_addConstructor_51 rfl (lv_at hl 1 rfl) ?_
      refine lv_dup hx hb dD_addConstructor_52 rfl ?_
      refine ck_gi (x := (st1 1 4)) C h FD_constructors rfl dD_addConstructor_53 ?_
      refine lv_iconst (v := 1) hx hb dD_addConstructor_56 (by decide) ?_
      refine lv_iadd hx hb dD_addConstructor_57 ?_
      refine ck_pi C h GD_constructors rfl rfl dD_addConstructor_58 (fun H locs h => ?_)
      refine lv_iload hx hb dD_addConstructor_61 (lv_at hl 0 rfl) ?_
      exact ck_ri hf hret h dD_addConstructor_63
    · have hf := ck_f hq hf
      refine lv_bipush (v := (-8)) hx hb dD_addConstructor_18 (by decide) ?_
      exact ck_ri hf hret h dD_addConstructor_20
def fD_isType (x1 : Int32) (st : ck_S) : Option (Int32 × ck_S) := (if x1 < 0 then (some ((0 : Int32), st)) else (if (st 1 3) < x1 then (some ((0 : Int32), st)) else (some ((1 : Int32), st))))
set_option maxRecDepth 100000 in
set_option maxHeartbeats 4000000 in
theorem cD_isType (l : Launch) (D : va_G) (cA : Nat → ClassId) (ad : Nat → Nat) {x1 : Int32} {st : ck_S} {r0 : Int32} {st0 : ck_S} (hf : fD_isType x1 st = some (r0, st0)) : Met l yD_isType (.code yD_isType bD_isType 2 (some .boolean) :: ck_T) (ck_R 0) (va_Pc [.ref (ad 1), .int x1] (ck_P sh_C cm_cl D cA ad st)) (va_Qi (fun a u => a = r0 ∧ u = st0) (ck_P sh_C cm_cl D cA ad) (ck_A ad sh_C.length)) 0 0 (ck_A ad sh_C.length) := by
  refine ck_met_z (own := R_D) (by decide +kernel) rfl (Nat.le_of_ble_eq_true rfl) (fun p e R s m args below meth c H0 Q ls C hret h hl => ?_)
  have C1 := C
  obtain ⟨hx, hb, hml, hown, hts, hK, hlv, hlo⟩ := C1
  have hl : lv_has ls 2 [(0, .ref (ad 1)), (1, .int x1)] := hl
  unfold fD_isType at hf
  refine lv_iload_n hx hb dD_isType_0 rfl (lv_at hl 1 rfl) ?_
  refine lv_if_lt (tgt := 16) hx hb dD_isType_1 rfl (fun hq => ?_) (fun hq => ?_)
  · have hf := ck_t hq hf
    refine lv_iconst (v := 0) hx hb dD_isType_16 (by decide) ?_
    exact ck_rz hf hret ck_z0 h dD_isType_17
  · have hf := ck_f hq hf
    refine lv_iload_n hx hb dD_isType_4 rfl (lv_at hl 1 rfl) ?_
    refine lv_aload_n hx hb dD_isType_5 rfl (lv_at hl 0 rfl) ?_
    refine ck_gi (x := (st 1 3)) C h FD_ownTypes rfl dD_isType_6 ?_
    refine lv_icmp_gt (tgt := 16) hx hb dD_isType_9 rfl (fun hq => ?_) (fun hq => ?_)
    · have hf := ck_t hq hf
      refine lv_iconst (v := 0) hx hb dD_isType_16 (by decide) ?_
      exact ck_rz hf hret ck_z0 h dD_isType_17
    · have hf := ck_f hq hf
      refine lv_iconst (v := 1) hx hb dD_isType_12 (by decide) ?_
      refine lv_goto (tgt := 17) hx hb dD_isType_13 rfl ?_
      exact ck_rz hf hret ck_z1 h dD_isType_17
def fD_isOwnType (x1 : Int32) (st : ck_S) : Option (Int32 × ck_S) := (if x1 ≤ 0 then (some ((0 : Int32), st)) else (if (st 1 3) < x1 then (some ((0 : Int32), st)) else (some ((1 : Int32), st))))
set_option maxRecDepth 100000 in
set_option maxHeartbeats 4000000 in
theorem cD_isOwnType (l : Launch) (D : va_G) (cA : Nat → ClassId) (ad : Nat → Nat) {x1 : Int32} {st : ck_S} {r0 : Int32} {st0 : ck_S} (hf : fD_isOwnType x1 st = some (r0, st0)) : Met l yD_isOwnType (.code yD_isOwnType bD_isOwnType 2 (some .boolean) :: ck_T) (ck_R 0) (va_Pc [.ref (ad 1), .int x1] (ck_P sh_C cm_cl D cA ad st)) (va_Qi (fun a u => a = r0 ∧ u = st0) (ck_P sh_C cm_cl D cA ad) (ck_A ad sh_C.length)) 0 0 (ck_A ad sh_C.length) := by
  refine ck_met_z (own := R_D) (by decide +kernel) rfl (Nat.le_of_ble_eq_true rfl) (fun p e R s m args below meth c H0 Q ls C hret h hl => ?_)
  have C1 := C
  obtain ⟨hx, hb, hml, hown, hts, hK, hlv, hlo⟩ := C1
  have hl : lv_has ls 2 [(0, .ref (ad 1)), (1, .int x1)] := hl
  unfold fD_isOwnType at hf
  refine lv_iload_n hx hb dD_isOwnType_0 rfl (lv_at hl 1 rfl) ?_
  refine lv_if_le (tgt := 16) hx hb dD_isOwnType_1 rfl (fun hq => ?_) (fun hq => ?_)
  · have hf := ck_t hq hf
    refine lv_iconst (v := 0) hx hb dD_isOwnType_16 (by decide) ?_
    exact ck_rz hf hret ck_z0 h dD_isOwnType_17
  · have hf := ck_f hq hf
    refine lv_iload_n hx hb dD_isOwnType_4 rfl (lv_at hl 1 rfl) ?_
    refine lv_aload_n hx hb dD_isOwnType_5 rfl (lv_at hl 0 rfl) ?_
    refine ck_gi (x := (st 1 3)) C h FD_ownTypes rfl dD_isOwnType_6 ?_
    refine lv_icmp_gt (tgt := 16) hx hb dD_isOwnType_9 rfl (fun hq => ?_) (fun hq => ?_)
    · have hf := ck_t hq hf
      refine lv_iconst (v := 0) hx hb dD_isOwnType_16 (by decide) ?_
      exact ck_rz hf hret ck_z0 h dD_isOwnType_17
    · have hf := ck_f hq hf
      refine lv_iconst (v := 1) hx hb dD_isOwnType_12 (by decide) ?_
      refine lv_goto (tgt := 17) hx hb dD_isOwnType_13 rfl ?_
      exact ck_rz hf hret ck_z1 h dD_isOwnType_17
def fD_canBeArguments (x1 : Int32) (x2 : Int32) (st : ck_S) : Option (Int32 × ck_S) := (if x1 = (-1 : Int32) then (if x2 = (-1 : Int32) then (some ((1 : Int32), st)) else (some ((0 : Int32), st))) else (ck_b (fD_isType x1 st) fun v2 st1 => (if v2 = 0 then (some ((0 : Int32), st1)) else (if x2 = (-1 : Int32) then (some ((1 : Int32), st1)) else (ck_b (fD_isType x2 st1) fun v4 st3 => (if v4 = 0 then (some ((0 : Int32), st3)) else (some ((1 : Int32), st3))))))))
set_option maxRecDepth 100000 in
set_option maxHeartbeats 4000000 in
theorem cD_canBeArguments (l : Launch) (D : va_G) (cA : Nat → ClassId) (ad : Nat → Nat) {x1 : Int32} {x2 : Int32} {st : ck_S} {r0 : Int32} {st0 : ck_S} (hf : fD_canBeArguments x1 x2 st = some (r0, st0)) : Met l yD_canBeArguments (.code yD_canBeArguments bD_canBeArguments 3 (some .boolean) :: ck_T) (ck_R 1) (va_Pc [.ref (ad 1), .int x1, .int x2] (ck_P sh_C cm_cl D cA ad st)) (va_Qi (fun a u => a = r0 ∧ u = st0) (ck_P sh_C cm_cl D cA ad) (ck_A ad sh_C.length)) 0 0 (ck_A ad sh_C.length) := by
  refine ck_met_z (own := R_D) (by decide +kernel) rfl (Nat.le_of_ble_eq_true rfl) (fun p e R s m args below meth c H0 Q ls C hret h hl => ?_)
  have C1 := C
  obtain ⟨hx, hb, hml, hown, hts, hK, hlv, hlo⟩ := C1
  have hl : lv_has ls 3 [(0, .ref (ad 1)), (1, .int x1), (2, .int x2)] := hl
  unfold fD_canBeArguments at hf
  refine lv_iload_n hx hb dD_canBeArguments_0 rfl (lv_at hl 1 rfl) ?_
  refine lv_iconst (v := (-1)) hx hb dD_canBeArguments_1 (by decide) ?_
  refine lv_icmp_ne (tgt := 16) hx hb dD_canBeArguments_2 rfl (fun hq => ?_) (fun hq => ?_)
  · have hf := ck_f hq hf
    refine lv_aload_n hx hb dD_canBeArguments_16 rfl (lv_at hl 0 rfl) ?_
    refine lv_iload_n hx hb dD_canBeArguments_17 rfl (lv_at hl 1 rfl) ?_
    obtain ⟨v2, st1, hc, hf⟩ := ck_b_e hf
    refine ck_vi (As := [.int x1]) (rest := []) (q := 1) C h hl CD_D_isType sD_isType q_D (cD_isType l D cA ad hc) (Nat.le_of_ble_eq_true rfl) rfl rfl (Nat.le_of_ble_eq_true rfl) dD_canBeArguments_18 (fun H locs h => ?_)
    refine lv_if_eq (tgt := 41) hx hb dD_canBeArguments_21 rfl (fun hq => ?_) (fun hq => ?_)
    · have hf := ck_t hq hf
      refine lv_iconst (v := 0) hx hb dD_canBeArguments_41 (by decide) ?_
      exact ck_rz hf hret ck_z0 h dD_canBeArguments_42
    · have hf := ck_f hq hf
      refine lv_iload_n hx hb dD_canBeArguments_24 rfl (lv_at hl 2 rfl) ?_
      refine lv_iconst (v := (-1)) hx hb dD_canBeArguments_25 (by decide) ?_
      refine lv_icmp_eq (tgt := 37) hx hb dD_canBeArguments_26 rfl (fun hq => ?_) (fun hq => ?_)
      · have hf := ck_t hq hf
        refine lv_iconst (v := 1) hx hb dD_canBeArguments_37 (by decide) ?_
        refine lv_goto (tgt := 42) hx hb dD_canBeArguments_38 rfl ?_
        exact ck_rz hf hret ck_z1 h dD_canBeArguments_42
      · have hf := ck_f hq hf
        refine lv_aload_n hx hb dD_canBeArguments_29 rfl (lv_at hl 0 rfl) ?_
        refine lv_iload_n hx hb dD_canBeArguments_30 rfl (lv_at hl 2 rfl) ?_
        obtain ⟨v4, st3, hc, hf⟩ := ck_b_e hf
        refine ck_vi (As := [.int x2]) (rest := []) (q := 1) C h hl CD_D_isType sD_isType q_D (cD_isType l D cA ad hc) (Nat.le_of_ble_eq_true rfl) rfl rfl (Nat.le_of_ble_eq_true rfl) dD_canBeArguments_31 (fun H locs h => ?_)
        refine lv_if_eq (tgt := 41) hx hb dD_canBeArguments_34 rfl (fun hq => ?_) (fun hq => ?_)
        · have hf := ck_t hq hf
          refine lv_iconst (v := 0) hx hb dD_canBeArguments_41 (by decide) ?_
          exact ck_rz hf hret ck_z0 h dD_canBeArguments_42
        · have hf := ck_f hq hf
          refine lv_iconst (v := 1) hx hb dD_canBeArguments_37 (by decide) ?_
          refine lv_goto (tgt := 42) hx hb dD_canBeArguments_38 rfl ?_
          exact ck_rz hf hret ck_z1 h dD_canBeArguments_42
  · have hf := ck_t hq hf
    refine lv_iload_n hx hb dD_canBeArguments_5 rfl (lv_at hl 2 rfl) ?_
    refine lv_iconst (v := (-1)) hx hb dD_canBeArguments_6 (by decide) ?_
    refine lv_icmp_ne (tgt := 14) hx hb dD_canBeArguments_7 rfl (fun hq => ?_) (fun hq => ?_)
    · have hf := ck_f hq hf
      refine lv_iconst (v := 0) hx hb dD_canBeArguments_14 (by decide) ?_
      exact ck_rz hf hret ck_z0 h dD_canBeArguments_15
    · have hf := ck_t hq hf
      refine lv_iconst (v := 1) hx hb dD_canBeArguments_10 (by decide) ?_
      refine lv_goto (tgt := 15) hx hb dD_canBeArguments_11 rfl ?_
      exact ck_rz hf hret ck_z1 h dD_canBeArguments_15
def fD_isConstructor (x1 : Int32) (st : ck_S) : Option (Int32 × ck_S) := (if x1 < 0 then (some ((0 : Int32), st)) else (if (st 1 4) ≤ x1 then (some ((0 : Int32), st)) else (some ((1 : Int32), st))))
set_option maxRecDepth 100000 in
set_option maxHeartbeats 4000000 in
theorem cD_isConstructor (l : Launch) (D : va_G) (cA : Nat → ClassId) (ad : Nat → Nat) {x1 : Int32} {st : ck_S} {r0 : Int32} {st0 : ck_S} (hf : fD_isConstructor x1 st = some (r0, st0)) : Met l yD_isConstructor (.code yD_isConstructor bD_isConstructor 2 (some .boolean) :: ck_T) (ck_R 0) (va_Pc [.ref (ad 1), .int x1] (ck_P sh_C cm_cl D cA ad st)) (va_Qi (fun a u => a = r0 ∧ u = st0) (ck_P sh_C cm_cl D cA ad) (ck_A ad sh_C.length)) 0 0 (ck_A ad sh_C.length) := by
  refine ck_met_z (own := R_D) (by decide +kernel) rfl (Nat.le_of_ble_eq_true rfl) (fun p e R s m args below meth c H0 Q ls C hret h hl => ?_)
  have C1 := C
  obtain ⟨hx, hb, hml, hown, hts, hK, hlv, hlo⟩ := C1
  have hl : lv_has ls 2 [(0, .ref (ad 1)), (1, .int x1)] := hl
  unfold fD_isConstructor at hf
  refine lv_iload_n hx hb dD_isConstructor_0 rfl (lv_at hl 1 rfl) ?_
  refine lv_if_lt (tgt := 16) hx hb dD_isConstructor_1 rfl (fun hq => ?_) (fun hq => ?_)
  · have hf := ck_t hq hf
    refine lv_iconst (v := 0) hx hb dD_isConstructor_16 (by decide) ?_
    exact ck_rz hf hret ck_z0 h dD_isConstructor_17
  · have hf := ck_f hq hf
    refine lv_iload_n hx hb dD_isConstructor_4 rfl (lv_at hl 1 rfl) ?_
    refine lv_aload_n hx hb dD_isConstructor_5 rfl (lv_at hl 0 rfl) ?_
    refine ck_gi (x := (st 1 4)) C h FD_constructors rfl dD_isConstructor_6 ?_
    refine lv_icmp_ge (tgt := 16) hx hb dD_isConstructor_9 rfl (fun hq => ?_) (fun hq => ?_)
    · have hf := ck_t hq hf
      refine lv_iconst (v := 0) hx hb dD_isConstructor_16 (by decide) ?_
      exact ck_rz hf hret ck_z0 h dD_isConstructor_17
    · have hf := ck_f hq hf
      refine lv_iconst (v := 1) hx hb dD_isConstructor_12 (by decide) ?_
      refine lv_goto (tgt := 17) hx hb dD_isConstructor_13 rfl ?_
      exact ck_rz hf hret ck_z1 h dD_isConstructor_17
def fD_constructorCount (st : ck_S) : Option (Int32 × ck_S) := (some ((st 1 4), st))
set_option maxRecDepth 100000 in
set_option maxHeartbeats 4000000 in
theorem cD_constructorCount (l : Launch) (D : va_G) (cA : Nat → ClassId) (ad : Nat → Nat) {st : ck_S} {r0 : Int32} {st0 : ck_S} (hf : fD_constructorCount st = some (r0, st0)) : Met l yD_constructorCount (.code yD_constructorCount bD_constructorCount 1 (some .int) :: ck_T) (ck_R 0) (va_Pc [.ref (ad 1)] (ck_P sh_C cm_cl D cA ad st)) (va_Qi (fun a u => a = r0 ∧ u = st0) (ck_P sh_C cm_cl D cA ad) (ck_A ad sh_C.length)) 0 0 (ck_A ad sh_C.length) := by
  refine ck_met_i (own := R_D) (by decide +kernel) rfl (Nat.le_of_ble_eq_true rfl) (fun p e R s m args below meth c H0 Q ls C hret h hl => ?_)
  have C1 := C
  obtain ⟨hx, hb, hml, hown, hts, hK, hlv, hlo⟩ := C1
  have hl : lv_has ls 1 [(0, .ref (ad 1))] := hl
  unfold fD_constructorCount at hf
  refine lv_aload_n hx hb dD_constructorCount_0 rfl (lv_at hl 0 rfl) ?_
  refine ck_gi (x := (st 1 4)) C h FD_constructors rfl dD_constructorCount_1 ?_
  exact ck_ri hf hret h dD_constructorCount_4
def fD_ownerOf (x1 : Int32) (st : ck_S) : Option (Int32 × ck_S) := (ck_b (fD_isConstructor x1 st) fun v2 st1 => (if v2 = 0 then (some ((-1 : Int32), st1)) else (ck_gd x1 12 (some ((st1 7 (x1).toNatClampNeg), st1)))))
set_option maxRecDepth 100000 in
set_option maxHeartbeats 4000000 in
theorem cD_ownerOf (l : Launch) (D : va_G) (cA : Nat → ClassId) (ad : Nat → Nat) {x1 : Int32} {st : ck_S} {r0 : Int32} {st0 : ck_S} (hf : fD_ownerOf x1 st = some (r0, st0)) : Met l yD_ownerOf (.code yD_ownerOf bD_ownerOf 2 (some .int) :: ck_T) (ck_R 1) (va_Pc [.ref (ad 1), .int x1] (ck_P sh_C cm_cl D cA ad st)) (va_Qi (fun a u => a = r0 ∧ u = st0) (ck_P sh_C cm_cl D cA ad) (ck_A ad sh_C.length)) 0 0 (ck_A ad sh_C.length) := by
  refine ck_met_i (own := R_D) (by decide +kernel) rfl (Nat.le_of_ble_eq_true rfl) (fun p e R s m args below meth c H0 Q ls C hret h hl => ?_)
  have C1 := C
  obtain ⟨hx, hb, hml, hown, hts, hK, hlv, hlo⟩ := C1
  have hl : lv_has ls 2 [(0, .ref (ad 1)), (1, .int x1)] := hl
  unfold fD_ownerOf at hf
  refine lv_aload_n hx hb dD_ownerOf_0 rfl (lv_at hl 0 rfl) ?_
  refine lv_iload_n hx hb dD_ownerOf_1 rfl (lv_at hl 1 rfl) ?_
  obtain ⟨v2, st1, hc, hf⟩ := ck_b_e hf
  refine ck_vi (As := [.int x1]) (rest := []) (q := 1) C h hl CD_D_isConstructor sD_isConstructor q_D (cD_isConstructor l D cA ad hc) (Nat.le_of_ble_eq_true rfl) rfl rfl (Nat.le_of_ble_eq_true rfl) dD_ownerOf_2 (fun H locs h => ?_)
  refine lv_if_eq (tgt := 17) hx hb dD_ownerOf_5 rfl (fun hq => ?_) (fun hq => ?_)
  · have hf := ck_t hq hf
    refine lv_iconst (v := (-1)) hx hb dD_ownerOf_17 (by decide) ?_
    exact ck_ri hf hret h dD_ownerOf_18
  · have hf := ck_f hq hf
    refine lv_aload_n hx hb dD_ownerOf_8 rfl (lv_at hl 0 rfl) ?_
    refine ck_gr C h FD_owner dD_ownerOf_9 ?_
    refine lv_iload_n hx hb dD_ownerOf_12 rfl (lv_at hl 1 rfl) ?_
    obtain ⟨hg, hf⟩ := ck_gd_e hf
    refine ck_ai (x := (st1 7 (x1).toNatClampNeg)) C h (show sh_C[7]? = some (.inr (0, 12)) from rfl) hg rfl dD_ownerOf_13 ?_
    refine lv_goto (tgt := 18) hx hb dD_ownerOf_14 rfl ?_
    exact ck_ri hf hret h dD_ownerOf_18
def fD_firstTypeOf (x1 : Int32) (st : ck_S) : Option (Int32 × ck_S) := (ck_b (fD_isConstructor x1 st) fun v2 st1 => (if v2 = 0 then (some ((-1 : Int32), st1)) else (ck_gd x1 12 (some ((st1 8 (x1).toNatClampNeg), st1)))))
set_option maxRecDepth 100000 in
set_option maxHeartbeats 4000000 in
theorem cD_firstTypeOf (l : Launch) (D : va_G) (cA : Nat → ClassId) (ad : Nat → Nat) {x1 : Int32} {st : ck_S} {r0 : Int32} {st0 : ck_S} (hf : fD_firstTypeOf x1 st = some (r0, st0)) : Met l yD_firstTypeOf (.code yD_firstTypeOf bD_firstTypeOf 2 (some .int) :: ck_T) (ck_R 1) (va_Pc [.ref (ad 1), .int x1] (ck_P sh_C cm_cl D cA ad st)) (va_Qi (fun a u => a = r0 ∧ u = st0) (ck_P sh_C cm_cl D cA ad) (ck_A ad sh_C.length)) 0 0 (ck_A ad sh_C.length) := by
  refine ck_met_i (own := R_D) (by decide +kernel) rfl (Nat.le_of_ble_eq_true rfl) (fun p e R s m args below meth c H0 Q ls C hret h hl => ?_)
  have C1 := C
  obtain ⟨hx, hb, hml, hown, hts, hK, hlv, hlo⟩ := C1
  have hl : lv_has ls 2 [(0, .ref (ad 1)), (1, .int x1)] := hl
  unfold fD_firstTypeOf at hf
  refine lv_aload_n hx hb dD_firstTypeOf_0 rfl (lv_at hl 0 rfl) ?_
  refine lv_iload_n hx hb dD_firstTypeOf_1 rfl (lv_at hl 1 rfl) ?_
  obtain ⟨v2, st1, hc, hf⟩ := ck_b_e hf
  refine ck_vi (As := [.int x1]) (rest := []) (q := 1) C h hl CD_D_isConstructor sD_isConstructor q_D (cD_isConstructor l D cA ad hc) (Nat.le_of_ble_eq_true rfl) rfl rfl (Nat.le_of_ble_eq_true rfl) dD_firstTypeOf_2 (fun H locs h => ?_)
  refine lv_if_eq (tgt := 17) hx hb dD_firstTypeOf_5 rfl (fun hq => ?_) (fun hq => ?_)
  · have hf := ck_t hq hf
    refine lv_iconst (v := (-1)) hx hb dD_firstTypeOf_17 (by decide) ?_
    exact ck_ri hf hret h dD_firstTypeOf_18
  · have hf := ck_f hq hf
    refine lv_aload_n hx hb dD_firstTypeOf_8 rfl (lv_at hl 0 rfl) ?_
    refine ck_gr C h FD_firstType dD_firstTypeOf_9 ?_
    refine lv_iload_n hx hb dD_firstTypeOf_12 rfl (lv_at hl 1 rfl) ?_
    obtain ⟨hg, hf⟩ := ck_gd_e hf
    refine ck_ai (x := (st1 8 (x1).toNatClampNeg)) C h (show sh_C[8]? = some (.inr (0, 12)) from rfl) hg rfl dD_firstTypeOf_13 ?_
    refine lv_goto (tgt := 18) hx hb dD_firstTypeOf_14 rfl ?_
    exact ck_ri hf hret h dD_firstTypeOf_18
def fD_secondTypeOf (x1 : Int32) (st : ck_S) : Option (Int32 × ck_S) := (ck_b (fD_isConstructor x1 st) fun v2 st1 => (if v2 = 0 then (some ((-1 : Int32), st1)) else (ck_gd x1 12 (some ((st1 9 (x1).toNatClampNeg), st1)))))
set_option maxRecDepth 100000 in
set_option maxHeartbeats 4000000 in
theorem cD_secondTypeOf (l : Launch) (D : va_G) (cA : Nat → ClassId) (ad : Nat → Nat) {x1 : Int32} {st : ck_S} {r0 : Int32} {st0 : ck_S} (hf : fD_secondTypeOf x1 st = some (r0, st0)) : Met l yD_secondTypeOf (.code yD_secondTypeOf bD_secondTypeOf 2 (some .int) :: ck_T) (ck_R 1) (va_Pc [.ref (ad 1), .int x1] (ck_P sh_C cm_cl D cA ad st)) (va_Qi (fun a u => a = r0 ∧ u = st0) (ck_P sh_C cm_cl D cA ad) (ck_A ad sh_C.length)) 0 0 (ck_A ad sh_C.length) := by
  refine ck_met_i (own := R_D) (by decide +kernel) rfl (Nat.le_of_ble_eq_true rfl) (fun p e R s m args below meth c H0 Q ls C hret h hl => ?_)
  have C1 := C
  obtain ⟨hx, hb, hml, hown, hts, hK, hlv, hlo⟩ := C1
  have hl : lv_has ls 2 [(0, .ref (ad 1)), (1, .int x1)] := hl
  unfold fD_secondTypeOf at hf
  refine lv_aload_n hx hb dD_secondTypeOf_0 rfl (lv_at hl 0 rfl) ?_
  refine lv_iload_n hx hb dD_secondTypeOf_1 rfl (lv_at hl 1 rfl) ?_
  obtain ⟨v2, st1, hc, hf⟩ := ck_b_e hf
  refine ck_vi (As := [.int x1]) (rest := []) (q := 1) C h hl CD_D_isConstructor sD_isConstructor q_D (cD_isConstructor l D cA ad hc) (Nat.le_of_ble_eq_true rfl) rfl rfl (Nat.le_of_ble_eq_true rfl) dD_secondTypeOf_2 (fun H locs h => ?_)
  refine lv_if_eq (tgt := 17) hx hb dD_secondTypeOf_5 rfl (fun hq => ?_) (fun hq => ?_)
  · have hf := ck_t hq hf
    refine lv_iconst (v := (-1)) hx hb dD_secondTypeOf_17 (by decide) ?_
    exact ck_ri hf hret h dD_secondTypeOf_18
  · have hf := ck_f hq hf
    refine lv_aload_n hx hb dD_secondTypeOf_8 rfl (lv_at hl 0 rfl) ?_
    refine ck_gr C h FD_secondType dD_secondTypeOf_9 ?_
    refine lv_iload_n hx hb dD_secondTypeOf_12 rfl (lv_at hl 1 rfl) ?_
    obtain ⟨hg, hf⟩ := ck_gd_e hf
    refine ck_ai (x := (st1 9 (x1).toNatClampNeg)) C h (show sh_C[9]? = some (.inr (0, 12)) from rfl) hg rfl dD_secondTypeOf_13 ?_
    refine lv_goto (tgt := 18) hx hb dD_secondTypeOf_14 rfl ?_
    exact ck_ri hf hret h dD_secondTypeOf_18
def fD_argumentPlaces_b19 (x1 : Int32) (x2 : Int32) (x3 : Int32) (st : ck_S) : Option (Int32 × ck_S) := (ck_b (fD_secondTypeOf x1 st) fun v2 st1 => (if v2 = (-1 : Int32) then (some (x3, st1)) else (some ((x3 ||| ((1 : Int32) <<< ((((2 : Int32) * x2) + (1 : Int32)) &&& 31))), st1))))
set_option maxRecDepth 100000 in
set_option maxHeartbeats 4000000 in
theorem BD_argumentPlaces_19 (C : ck_X cm_cl D cA bD_argumentPlaces 4 R_D 2 p R s m args c) {r0 : Int32} {st0 : ck_S} (hret : ∀ (pc : Nat) (H : Heap) (locs : List Loc) (ls : Array Slot), decode bD_argumentPlaces pc = .ok (.ireturn, 1) → ck_AT sh_C cm_cl D cA ad H0 st0 H locs → W p l e R s m args below meth c H locs 0 0 Q (F0 m pc ls [.int r0])) (x1 : Int32) (x2 : Int32) (x3 : Int32) (st : ck_S) (H : Heap) (locs : List Loc) (ls : Array Slot) (h : ck_AT sh_C cm_cl D cA ad H0 st H locs) (hl : lv_has ls 4 [(0, .ref (ad 1)), (1, .int x1), (2, .int x2), (3, .int x3)]) (hf : fD_argumentPlaces_b19 x1 x2 x3 st = some (r0, st0)) : W p l e R s m args below meth c H locs 0 0 Q (F0 m 19 ls []) := by
  have C1 := C
  obtain ⟨hx, hb, hml, hown, hts, hK, hlv, hlo⟩ := C1
  unfold fD_argumentPlaces_b19 at hf
  refine lv_aload_n hx hb dD_argumentPlaces_19 rfl (lv_at hl 0 rfl) ?_
  refine lv_iload_n hx hb dD_argumentPlaces_20 rfl (lv_at hl 1 rfl) ?_
  obtain ⟨v2, st1, hc, hf⟩ := ck_b_e hf
  refine ck_vi (As := [.int x1]) (rest := []) (q := 1) C h hl CD_D_secondTypeOf sD_secondTypeOf q_D (cD_secondTypeOf l D cA ad hc) (Nat.le_of_ble_eq_true rfl) rfl rfl (Nat.le_of_ble_eq_true rfl) dD_argumentPlaces_21 (fun H locs h => ?_)
  refine lv_iconst (v := (-1)) hx hb dD_argumentPlaces_24 (by decide) ?_
  refine lv_icmp_eq (tgt := 38) hx hb dD_argumentPlaces_25 rfl (fun hq => ?_) (fun hq => ?_)
  · have hf := ck_t hq hf
    refine lv_iload_n hx hb dD_argumentPlaces_38 rfl (lv_at hl 3 rfl) ?_
    exact ck_ri hf hret h dD_argumentPlaces_39
  · have hf := ck_f hq hf
    refine lv_iload_n hx hb dD_argumentPlaces_28 rfl (lv_at hl 3 rfl) ?_
    refine lv_iconst (v := 1) hx hb dD_argumentPlaces_29 (by decide) ?_
    refine lv_iconst (v := 2) hx hb dD_argumentPlaces_30 (by decide) ?_
    refine lv_iload_n hx hb dD_argumentPlaces_31 rfl (lv_at hl 2 rfl) ?_
    refine lv_imul hx hb dD_argumentPlaces_32 ?_
    refine lv_iconst (v := 1) hx hb dD_argumentPlaces_33 (by decide) ?_
    refine lv_iadd hx hb dD_argumentPlaces_34 ?_
    refine lv_ishl hx hb dD_argumentPlaces_35 ?_
    refine lv_ior hx hb dD_argumentPlaces_36 ?_
    refine lv_istore_n (lv' := [(3, .int (x3 ||| ((1 : Int32) <<< ((((2 : Int32) * x2) + (1 : Int32)) &&& 31)))), (0, .ref (ad 1)), (1, .int x1), (2, .int x2)]) hx hb dD_argumentPlaces_37 rfl hl (by decide) rfl (fun ls hl => ?_)
    refine lv_iload_n hx hb dD_argumentPlaces_38 rfl (lv_at hl 0 rfl) ?_
    exact ck_ri hf hret h dD_argumentPlaces_39
def fD_argumentPlaces (x1 : Int32) (x2 : Int32) (st : ck_S) : Option (Int32 × ck_S) := (ck_b (fD_firstTypeOf x1 st) fun v2 st1 => (if v2 = (-1 : Int32) then (fD_argumentPlaces_b19 x1 x2 (0 : Int32) st1) else (fD_argumentPlaces_b19 x1 x2 ((0 : Int32) ||| ((1 : Int32) <<< (((2 : Int32) * x2) &&& 31))) st1)))
set_option maxRecDepth 100000 in
set_option maxHeartbeats 4000000 in
theorem cD_argumentPlaces (l : Launch) (D : va_G) (cA : Nat → ClassId) (ad : Nat → Nat) {x1 : Int32} {x2 : Int32} {st : ck_S} {r0 : Int32} {st0 : ck_S} (hf : fD_argumentPlaces x1 x2 st = some (r0, st0)) : Met l yD_argumentPlaces (.code yD_argumentPlaces bD_argumentPlaces 4 (some .int) :: ck_T) (ck_R 2) (va_Pc [.ref (ad 1), .int x1, .int x2] (ck_P sh_C cm_cl D cA ad st)) (va_Qi (fun a u => a = r0 ∧ u = st0) (ck_P sh_C cm_cl D cA ad) (ck_A ad sh_C.length)) 0 0 (ck_A ad sh_C.length) := by
  refine ck_met_i (own := R_D) (by decide +kernel) rfl (Nat.le_of_ble_eq_true rfl) (fun p e R s m args below meth c H0 Q ls C hret h hl => ?_)
  have C1 := C
  obtain ⟨hx, hb, hml, hown, hts, hK, hlv, hlo⟩ := C1
  have hl : lv_has ls 4 [(0, .ref (ad 1)), (1, .int x1), (2, .int x2)] := hl
  unfold fD_argumentPlaces at hf
  refine lv_iconst (v := 0) hx hb dD_argumentPlaces_0 (by decide) ?_
  refine lv_istore_n (lv' := [(3, .int (0 : Int32)), (0, .ref (ad 1)), (1, .int x1), (2, .int x2)]) hx hb dD_argumentPlaces_1 rfl hl (by decide) rfl (fun ls hl => ?_)
  refine lv_aload_n hx hb dD_argumentPlaces_2 rfl (lv_at hl 1 rfl) ?_
  refine lv_iload_n hx hb dD_argumentPlaces_3 rfl (lv_at hl 2 rfl) ?_
  obtain ⟨v2, st1, hc, hf⟩ := ck_b_e hf
  refine ck_vi (As := [.int x1]) (rest := []) (q := 1) C h hl CD_D_firstTypeOf sD_firstTypeOf q_D (cD_firstTypeOf l D cA ad hc) (Nat.le_of_ble_eq_true rfl) rfl rfl (Nat.le_of_ble_eq_true rfl) dD_argumentPlaces_4 (fun H locs h => ?_)
  refine lv_iconst (v := (-1)) hx hb dD_argumentPlaces_7 (by decide) ?_
  refine lv_icmp_eq (tgt := 19) hx hb dD_argumentPlaces_8 rfl (fun hq => ?_) (fun hq => ?_)
  · have hf := ck_t hq hf
    exact BD_argumentPlaces_19 C hret _ _ _ _ _ _ _ h (lv_sub hl [1, 2, 3, 0] rfl) hf
  · have hf := ck_f hq hf
    refine lv_iload_n hx hb dD_argumentPlaces_11 rfl (lv_at hl 0 rfl) ?_
    refine lv_iconst (v := 1) hx hb dD_argumentPlaces_12 (by decide) ?_
    refine lv_iconst (v := 2) hx hb dD_argumentPlaces_13 (by decide) ?_
    refine lv_iload_n hx hb dD_argumentPlaces_14 rfl (lv_at hl 3 rfl) ?_
    refine lv_imul hx hb dD_argumentPlaces_15 ?_
    refine lv_ishl hx hb dD_argumentPlaces_16 ?_
    refine lv_ior hx hb dD_argumentPlaces_17 ?_
    refine lv_istore_n (lv' := [(3, .int ((0 : Int32) ||| ((1 : Int32) <<< (((2 : Int32) * x2) &&& 31)))), (0, .ref (ad 1)), (1, .int x1), (2, .int x2)]) hx hb dD_argumentPlaces_18 rfl hl (by decide) rfl (fun ls hl => ?_)
    exact BD_argumentPlaces_19 C hret _ _ _ _ _ _ _ h (lv_sub hl [1, 2, 3, 0] rfl) hf
def fD_canBeGiven (x0 : Int32) (x1 : Int32) (st : ck_S) : Option (Int32 × ck_S) := (if x0 = (-1 : Int32) then (some ((1 : Int32), st)) else (if ((x1 >>> (x0 &&& 31)) &&& (1 : Int32)) = (1 : Int32) then (some ((1 : Int32), st)) else (some ((0 : Int32), st))))
set_option maxRecDepth 100000 in
set_option maxHeartbeats 4000000 in
theorem cD_canBeGiven (l : Launch) (D : va_G) (cA : Nat → ClassId) (ad : Nat → Nat) {x0 : Int32} {x1 : Int32} {st : ck_S} {r0 : Int32} {st0 : ck_S} (hf : fD_canBeGiven x0 x1 st = some (r0, st0)) : Met l yD_canBeGiven (.code yD_canBeGiven bD_canBeGiven 2 (some .boolean) :: ck_T) (ck_R 0) (va_Pc [.int x0, .int x1] (ck_P sh_C cm_cl D cA ad st)) (va_Qi (fun a u => a = r0 ∧ u = st0) (ck_P sh_C cm_cl D cA ad) (ck_A ad sh_C.length)) 0 0 (ck_A ad sh_C.length) := by
  refine ck_met_z (own := R_D) (by decide +kernel) rfl (Nat.le_of_ble_eq_true rfl) (fun p e R s m args below meth c H0 Q ls C hret h hl => ?_)
  have C1 := C
  obtain ⟨hx, hb, hml, hown, hts, hK, hlv, hlo⟩ := C1
  have hl : lv_has ls 2 [(0, .int x0), (1, .int x1)] := hl
  unfold fD_canBeGiven at hf
  refine lv_iload_n hx hb dD_canBeGiven_0 rfl (lv_at hl 0 rfl) ?_
  refine lv_iconst (v := (-1)) hx hb dD_canBeGiven_1 (by decide) ?_
  refine lv_icmp_eq (tgt := 14) hx hb dD_canBeGiven_2 rfl (fun hq => ?_) (fun hq => ?_)
  · have hf := ck_t hq hf
    refine lv_iconst (v := 1) hx hb dD_canBeGiven_14 (by decide) ?_
    refine lv_goto (tgt := 19) hx hb dD_canBeGiven_15 rfl ?_
    exact ck_rz hf hret ck_z1 h dD_canBeGiven_19
  · have hf := ck_f hq hf
    refine lv_iload_n hx hb dD_canBeGiven_5 rfl (lv_at hl 1 rfl) ?_
    refine lv_iload_n hx hb dD_canBeGiven_6 rfl (lv_at hl 0 rfl) ?_
    refine lv_ishr hx hb dD_canBeGiven_7 ?_
    refine lv_iconst (v := 1) hx hb dD_canBeGiven_8 (by decide) ?_
    refine lv_iand hx hb dD_canBeGiven_9 ?_
    refine lv_iconst (v := 1) hx hb dD_canBeGiven_10 (by decide) ?_
    refine lv_icmp_ne (tgt := 18) hx hb dD_canBeGiven_11 rfl (fun hq => ?_) (fun hq => ?_)
    · have hf := ck_f hq hf
      refine lv_iconst (v := 0) hx hb dD_canBeGiven_18 (by decide) ?_
      exact ck_rz hf hret ck_z0 h dD_canBeGiven_19
    · have hf := ck_t hq hf
      refine lv_iconst (v := 1) hx hb dD_canBeGiven_14 (by decide) ?_
      refine lv_goto (tgt := 19) hx hb dD_canBeGiven_15 rfl ?_
      exact ck_rz hf hret ck_z1 h dD_canBeGiven_19
def fD_withTypesBuiltFrom_l4 : Nat → Int32 → Int32 → ck_S → Option (Int32 × ck_S)
  | 0, _, _, _ => none
  | n + 1, x2, x3, st => (if (st 1 4) ≤ x3 then (some (x2, st)) else (ck_gd x3 12 (ck_b (fD_canBeGiven (st 8 (x3).toNatClampNeg) x2 st) fun v2 st1 => (if v2 = 0 then (fD_withTypesBuiltFrom_l4 n x2 (x3 + 1) st1) else (ck_gd x3 12 (ck_b (fD_canBeGiven (st1 9 (x3).toNatClampNeg) x2 st1) fun v4 st3 => (if v4 = 0 then (fD_withTypesBuiltFrom_l4 n x2 (x3 + 1) st3) else (ck_gd x3 12 (fD_withTypesBuiltFrom_l4 n (x2 ||| ((1 : Int32) <<< ((st3 7 (x3).toNatClampNeg) &&& 31))) (x3 + 1) st3)))))))))
set_option maxRecDepth 100000 in
set_option maxHeartbeats 4000000 in
theorem BD_withTypesBuiltFrom_4 (C : ck_X cm_cl D cA bD_withTypesBuiltFrom 4 R_D 1 p R s m args c) {r0 : Int32} {st0 : ck_S} (hret : ∀ (pc : Nat) (H : Heap) (locs : List Loc) (ls : Array Slot), decode bD_withTypesBuiltFrom pc = .ok (.ireturn, 1) → ck_AT sh_C cm_cl D cA ad H0 st0 H locs → W p l e R s m args below meth c H locs 0 0 Q (F0 m pc ls [.int r0])) : ∀ (n : Nat) (x2 : Int32) (x3 : Int32) (st : ck_S) (H : Heap) (locs : List Loc) (ls : Array Slot), ck_AT sh_C cm_cl D cA ad H0 st H locs → lv_has ls 4 [(0, .ref (ad 1)), (2, .int x2), (3, .int x3)] → fD_withTypesBuiltFrom_l4  n x2 x3 st = some (r0, st0) → W p l e R s m args below meth c H locs 0 0 Q (F0 m 4 ls []) := by
  have C1 := C
  obtain ⟨hx, hb, hml, hown, hts, hK, hlv, hlo⟩ := C1
  intro n
  induction n with
  | zero => intro _ _ _ _ _ _ _ _ hf; cases hf
  | succ n ih =>
    intro x2 x3 st H locs ls h hl hf
    rw [fD_withTypesBuiltFrom_l4] at hf
    refine lv_iload_n hx hb dD_withTypesBuiltFrom_4 rfl (lv_at hl 2 rfl) ?_
    refine lv_aload_n hx hb dD_withTypesBuiltFrom_5 rfl (lv_at hl 0 rfl) ?_
    refine ck_gi (x := (st 1 4)) C h FD_constructors rfl dD_withTypesBuiltFrom_6 ?_
    refine lv_icmp_ge (tgt := 55) hx hb dD_withTypesBuiltFrom_9 rfl (fun hq => ?_) (fun hq => ?_)
    · have hf := ck_t hq hf
      refine lv_iload_n hx hb dD_withTypesBuiltFrom_55 rfl (lv_at hl 1 rfl) ?_
      exact ck_ri hf hret h dD_withTypesBuiltFrom_56
    · have hf := ck_f hq hf
      refine lv_aload_n hx hb dD_withTypesBuiltFrom_12 rfl (lv_at hl 0 rfl) ?_
      refine ck_gr C h FD_firstType dD_withTypesBuiltFrom_13 ?_
      refine lv_iload_n hx hb dD_withTypesBuiltFrom_16 rfl (lv_at hl 2 rfl) ?_
      obtain ⟨hg, hf⟩ := ck_gd_e hf
      refine ck_ai (x := (st 8 (x3).toNatClampNeg)) C h (show sh_C[8]? = some (.inr (0, 12)) from rfl) hg rfl dD_withTypesBuiltFrom_17 ?_
      refine lv_iload_n hx hb dD_withTypesBuiltFrom_18 rfl (lv_at hl 1 rfl) ?_
      obtain ⟨v2, st1, hc, hf⟩ := ck_b_e hf
      refine ck_ti (As := [.int (st 8 (x3).toNatClampNeg), .int x2]) (rest := []) C h hl CD_D_canBeGiven sD_canBeGiven (cD_canBeGiven l D cA ad hc) (Nat.le_of_ble_eq_true rfl) rfl rfl (Nat.le_of_ble_eq_true rfl) dD_withTypesBuiltFrom_19 (fun H locs h => ?_)
      refine lv_if_eq (tgt := 49) hx hb dD_withTypesBuiltFrom_22 rfl (fun hq => ?_) (fun hq => ?_)
      · have hf := ck_t hq hf
        refine lv_iinc (k := 2) (v := (x3 + 1)) (lv' := [(3, .int (x3 + 1)), (0, .ref (ad 1)), (2, .int x2)]) hx hb dD_withTypesBuiltFrom_49 hl rfl rfl (by decide) rfl (fun ls hl => ?_)
        refine lv_goto (tgt := 4) hx hb dD_withTypesBuiltFrom_52 rfl ?_
        exact ih _ _ _ _ _ _ h (lv_sub hl [1, 2, 0] rfl) hf
      · have hf := ck_f hq hf
        refine lv_aload_n hx hb dD_withTypesBuiltFrom_25 rfl (lv_at hl 0 rfl) ?_
        refine ck_gr C h FD_secondType dD_withTypesBuiltFrom_26 ?_
        refine lv_iload_n hx hb dD_withTypesBuiltFrom_29 rfl (lv_at hl 2 rfl) ?_
        obtain ⟨hg, hf⟩ := ck_gd_e hf
        refine ck_ai (x := (st1 9 (x3).toNatClampNeg)) C h (show sh_C[9]? = some (.inr (0, 12)) from rfl) hg rfl dD_withTypesBuiltFrom_30 ?_
        refine lv_iload_n hx hb dD_withTypesBuiltFrom_31 rfl (lv_at hl 1 rfl) ?_
        obtain ⟨v4, st3, hc, hf⟩ := ck_b_e hf
        refine ck_ti (As := [.int (st1 9 (x3).toNatClampNeg), .int x2]) (rest := []) C h hl CD_D_canBeGiven sD_canBeGiven (cD_canBeGiven l D cA ad hc) (Nat.le_of_ble_eq_true rfl) rfl rfl (Nat.le_of_ble_eq_true rfl) dD_withTypesBuiltFrom_32 (fun H locs h => ?_)
        refine lv_if_eq (tgt := 49) hx hb dD_withTypesBuiltFrom_35 rfl (fun hq => ?_) (fun hq => ?_)
        · have hf := ck_t hq hf
          refine lv_iinc (k := 2) (v := (x3 + 1)) (lv' := [(3, .int (x3 + 1)), (0, .ref (ad 1)), (2, .int x2)]) hx hb dD_withTypesBuiltFrom_49 hl rfl rfl (by decide) rfl (fun ls hl => ?_)
          refine lv_goto (tgt := 4) hx hb dD_withTypesBuiltFrom_52 rfl ?_
          exact ih _ _ _ _ _ _ h (lv_sub hl [1, 2, 0] rfl) hf
        · have hf := ck_f hq hf
          refine lv_iload_n hx hb dD_withTypesBuiltFrom_38 rfl (lv_at hl 1 rfl) ?_
          refine lv_iconst (v := 1) hx hb dD_withTypesBuiltFrom_39 (by decide) ?_
          refine lv_aload_n hx hb dD_withTypesBuiltFrom_40 rfl (lv_at hl 0 rfl) ?_
          refine ck_gr C h FD_owner dD_withTypesBuiltFrom_41 ?_
          refine lv_iload_n hx hb dD_withTypesBuiltFrom_44 rfl (lv_at hl 2 rfl) ?_
          obtain ⟨hg, hf⟩ := ck_gd_e hf
          refine ck_ai (x := (st3 7 (x3).toNatClampNeg)) C h (show sh_C[7]? = some (.inr (0, 12)) from rfl) hg rfl dD_withTypesBuiltFrom_45 ?_
          refine lv_ishl hx hb dD_withTypesBuiltFrom_46 ?_
          refine lv_ior hx hb dD_withTypesBuiltFrom_47 ?_
          refine lv_istore_n (lv' := [(2, .int (x2 ||| ((1 : Int32) <<< ((st3 7 (x3).toNatClampNeg) &&& 31)))), (0, .ref (ad 1)), (3, .int x3)]) hx hb dD_withTypesBuiltFrom_48 rfl hl (by decide) rfl (fun ls hl => ?_)
          refine lv_iinc (k := 2) (v := (x3 + 1)) (lv' := [(3, .int (x3 + 1)), (2, .int (x2 ||| ((1 : Int32) <<< ((st3 7 (x3).toNatClampNeg) &&& 31)))), (0, .ref (ad 1))]) hx hb dD_withTypesBuiltFrom_49 hl rfl rfl (by decide) rfl (fun ls hl => ?_)
          refine lv_goto (tgt := 4) hx hb dD_withTypesBuiltFrom_52 rfl ?_
          exact ih _ _ _ _ _ _ h (lv_sub hl [2, 1, 0] rfl) hf
def fD_withTypesBuiltFrom (x1 : Int32) (st : ck_S) : Option (Int32 × ck_S) := (fD_withTypesBuiltFrom_l4  4096 x1 (0 : Int32) st)
set_option maxRecDepth 100000 in
set_option maxHeartbeats 4000000 in
theorem cD_withTypesBuiltFrom (l : Launch) (D : va_G) (cA : Nat → ClassId) (ad : Nat → Nat) {x1 : Int32} {st : ck_S} {r0 : Int32} {st0 : ck_S} (hf : fD_withTypesBuiltFrom x1 st = some (r0, st0)) : Met l yD_withTypesBuiltFrom (.code yD_withTypesBuiltFrom bD_withTypesBuiltFrom 4 (some .int) :: ck_T) (ck_R 1) (va_Pc [.ref (ad 1), .int x1] (ck_P sh_C cm_cl D cA ad st)) (va_Qi (fun a u => a = r0 ∧ u = st0) (ck_P sh_C cm_cl D cA ad) (ck_A ad sh_C.length)) 0 0 (ck_A ad sh_C.length) := by
  refine ck_met_i (own := R_D) (by decide +kernel) rfl (Nat.le_of_ble_eq_true rfl) (fun p e R s m args below meth c H0 Q ls C hret h hl => ?_)
  have C1 := C
  obtain ⟨hx, hb, hml, hown, hts, hK, hlv, hlo⟩ := C1
  have hl : lv_has ls 4 [(0, .ref (ad 1)), (1, .int x1)] := hl
  unfold fD_withTypesBuiltFrom at hf
  refine lv_iload_n hx hb dD_withTypesBuiltFrom_0 rfl (lv_at hl 1 rfl) ?_
  refine lv_istore_n (lv' := [(2, .int x1), (0, .ref (ad 1)), (1, .int x1)]) hx hb dD_withTypesBuiltFrom_1 rfl hl (by decide) rfl (fun ls hl => ?_)
  refine lv_iconst (v := 0) hx hb dD_withTypesBuiltFrom_2 (by decide) ?_
  refine lv_istore_n (lv' := [(3, .int (0 : Int32)), (2, .int x1), (0, .ref (ad 1)), (1, .int x1)]) hx hb dD_withTypesBuiltFrom_3 rfl hl (by decide) rfl (fun ls hl => ?_)
  exact BD_withTypesBuiltFrom_4 C hret  4096 _ _ _ _ _ _ h (lv_sub hl [2, 1, 0] rfl) hf
def fD_everyTypeHasValues_l4 (k24 : Int32 → ck_S → Option (Int32 × ck_S)) : Nat → Int32 → Int32 → ck_S → Option (Int32 × ck_S)
  | 0, _, _, _ => none
  | n + 1, x1, x2, st => (if (st 1 3) ≤ x2 then (k24 x1 st) else (ck_b (fD_withTypesBuiltFrom x1 st) fun v2 st1 => (fD_everyTypeHasValues_l4 k24 n v2 (x2 + 1) st1)))
set_option maxRecDepth 100000 in
set_option maxHeartbeats 4000000 in
theorem BD_everyTypeHasValues_4 (C : ck_X cm_cl D cA bD_everyTypeHasValues 3 R_D 2 p R s m args c) {r0 : Int32} {st0 : ck_S} (hret : ∀ (pc : Nat) (H : Heap) (locs : List Loc) (ls : Array Slot), decode bD_everyTypeHasValues pc = .ok (.ireturn, 1) → (r0 = 0 ∨ r0 = 1) → ck_AT sh_C cm_cl D cA ad H0 st0 H locs → W p l e R s m args below meth c H locs 0 0 Q (F0 m pc ls [.int r0])) {k24 : Int32 → ck_S → Option (Int32 × ck_S)} (hk24 : ∀ (x1 : Int32) (st : ck_S) (H : Heap) (locs : List Loc) (ls : Array Slot), ck_AT sh_C cm_cl D cA ad H0 st H locs → lv_has ls 3 [(0, .ref (ad 1)), (1, .int x1)] → k24 x1 st = some (r0, st0) → W p l e R s m args below meth c H locs 0 0 Q (F0 m 24 ls [])) : ∀ (n : Nat) (x1 : Int32) (x2 : Int32) (st : ck_S) (H : Heap) (locs : List Loc) (ls : Array Slot), ck_AT sh_C cm_cl D cA ad H0 st H locs → lv_has ls 3 [(0, .ref (ad 1)), (1, .int x1), (2, .int x2)] → fD_everyTypeHasValues_l4 k24 n x1 x2 st = some (r0, st0) → W p l e R s m args below meth c H locs 0 0 Q (F0 m 4 ls []) := by
  have C1 := C
  obtain ⟨hx, hb, hml, hown, hts, hK, hlv, hlo⟩ := C1
  intro n
  induction n with
  | zero => intro _ _ _ _ _ _ _ _ hf; cases hf
  | succ n ih =>
    intro x1 x2 st H locs ls h hl hf
    rw [fD_everyTypeHasValues_l4] at hf
    refine lv_iload_n hx hb dD_everyTypeHasValues_4 rfl (lv_at hl 2 rfl) ?_
    refine lv_aload_n hx hb dD_everyTypeHasValues_5 rfl (lv_at hl 0 rfl) ?_
    refine ck_gi (x := (st 1 3)) C h FD_ownTypes rfl dD_everyTypeHasValues_6 ?_
    refine lv_icmp_ge (tgt := 24) hx hb dD_everyTypeHasValues_9 rfl (fun hq => ?_) (fun hq => ?_)
    · have hf := ck_t hq hf
      exact hk24 _ _ _ _ _ h (lv_sub hl [0, 1] rfl) hf
    · have hf := ck_f hq hf
      refine lv_aload_n hx hb dD_everyTypeHasValues_12 rfl (lv_at hl 0 rfl) ?_
      refine lv_iload_n hx hb dD_everyTypeHasValues_13 rfl (lv_at hl 1 rfl) ?_
      obtain ⟨v2, st1, hc, hf⟩ := ck_b_e hf
      refine ck_vi (As := [.int x1]) (rest := []) (q := 1) C h hl CD_D_withTypesBuiltFrom sD_withTypesBuiltFrom q_D (cD_withTypesBuiltFrom l D cA ad hc) (Nat.le_of_ble_eq_true rfl) rfl rfl (Nat.le_of_ble_eq_true rfl) dD_everyTypeHasValues_14 (fun H locs h => ?_)
      refine lv_istore_n (lv' := [(1, .int v2), (0, .ref (ad 1)), (2, .int x2)]) hx hb dD_everyTypeHasValues_17 rfl hl (by decide) rfl (fun ls hl => ?_)
      refine lv_iinc (k := 2) (v := (x2 + 1)) (lv' := [(2, .int (x2 + 1)), (1, .int v2), (0, .ref (ad 1))]) hx hb dD_everyTypeHasValues_18 hl rfl rfl (by decide) rfl (fun ls hl => ?_)
      refine lv_goto (tgt := 4) hx hb dD_everyTypeHasValues_21 rfl ?_
      exact ih _ _ _ _ _ _ h (lv_sub hl [2, 1, 0] rfl) hf
def fD_everyTypeHasValues_b24 (x1 : Int32) (st : ck_S) : Option (Int32 × ck_S) := (if x1 = (((1 : Int32) <<< (((st 1 3) + (1 : Int32)) &&& 31)) - (1 : Int32)) then (some ((1 : Int32), st)) else (some ((0 : Int32), st)))
set_option maxRecDepth 100000 in
set_option maxHeartbeats 4000000 in
theorem BD_everyTypeHasValues_24 (C : ck_X cm_cl D cA bD_everyTypeHasValues 3 R_D 2 p R s m args c) {r0 : Int32} {st0 : ck_S} (hret : ∀ (pc : Nat) (H : Heap) (locs : List Loc) (ls : Array Slot), decode bD_everyTypeHasValues pc = .ok (.ireturn, 1) → (r0 = 0 ∨ r0 = 1) → ck_AT sh_C cm_cl D cA ad H0 st0 H locs → W p l e R s m args below meth c H locs 0 0 Q (F0 m pc ls [.int r0])) (x1 : Int32) (st : ck_S) (H : Heap) (locs : List Loc) (ls : Array Slot) (h : ck_AT sh_C cm_cl D cA ad H0 st H locs) (hl : lv_has ls 3 [(0, .ref (ad 1)), (1, .int x1)]) (hf : fD_everyTypeHasValues_b24 x1 st = some (r0, st0)) : W p l e R s m args below meth c H locs 0 0 Q (F0 m 24 ls []) := by
  have C1 := C
  obtain ⟨hx, hb, hml, hown, hts, hK, hlv, hlo⟩ := C1
  unfold fD_everyTypeHasValues_b24 at hf
  refine lv_iload_n hx hb dD_everyTypeHasValues_24 rfl (lv_at hl 1 rfl) ?_
  refine lv_iconst (v := 1) hx hb dD_everyTypeHasValues_25 (by decide) ?_
  refine lv_aload_n hx hb dD_everyTypeHasValues_26 rfl (lv_at hl 0 rfl) ?_
  refine ck_gi (x := (st 1 3)) C h FD_ownTypes rfl dD_everyTypeHasValues_27 ?_
  refine lv_iconst (v := 1) hx hb dD_everyTypeHasValues_30 (by decide) ?_
  refine lv_iadd hx hb dD_everyTypeHasValues_31 ?_
  refine lv_ishl hx hb dD_everyTypeHasValues_32 ?_
  refine lv_iconst (v := 1) hx hb dD_everyTypeHasValues_33 (by decide) ?_
  refine lv_isub hx hb dD_everyTypeHasValues_34 ?_
  refine lv_icmp_ne (tgt := 42) hx hb dD_everyTypeHasValues_35 rfl (fun hq => ?_) (fun hq => ?_)
  · have hf := ck_f hq hf
    refine lv_iconst (v := 0) hx hb dD_everyTypeHasValues_42 (by decide) ?_
    exact ck_rz hf hret ck_z0 h dD_everyTypeHasValues_43
  · have hf := ck_t hq hf
    refine lv_iconst (v := 1) hx hb dD_everyTypeHasValues_38 (by decide) ?_
    refine lv_goto (tgt := 43) hx hb dD_everyTypeHasValues_39 rfl ?_
    exact ck_rz hf hret ck_z1 h dD_everyTypeHasValues_43
def fD_everyTypeHasValues (st : ck_S) : Option (Int32 × ck_S) := (fD_everyTypeHasValues_l4 (fun x1 st => (fD_everyTypeHasValues_b24 x1 st)) 4096 (1 : Int32) (0 : Int32) st)
set_option maxRecDepth 100000 in
set_option maxHeartbeats 4000000 in
theorem cD_everyTypeHasValues (l : Launch) (D : va_G) (cA : Nat → ClassId) (ad : Nat → Nat) {st : ck_S} {r0 : Int32} {st0 : ck_S} (hf : fD_everyTypeHasValues st = some (r0, st0)) : Met l yD_everyTypeHasValues (.code yD_everyTypeHasValues bD_everyTypeHasValues 3 (some .boolean) :: ck_T) (ck_R 2) (va_Pc [.ref (ad 1)] (ck_P sh_C cm_cl D cA ad st)) (va_Qi (fun a u => a = r0 ∧ u = st0) (ck_P sh_C cm_cl D cA ad) (ck_A ad sh_C.length)) 0 0 (ck_A ad sh_C.length) := by
  refine ck_met_z (own := R_D) (by decide +kernel) rfl (Nat.le_of_ble_eq_true rfl) (fun p e R s m args below meth c H0 Q ls C hret h hl => ?_)
  have C1 := C
  obtain ⟨hx, hb, hml, hown, hts, hK, hlv, hlo⟩ := C1
  have hl : lv_has ls 3 [(0, .ref (ad 1))] := hl
  unfold fD_everyTypeHasValues at hf
  refine lv_iconst (v := 1) hx hb dD_everyTypeHasValues_0 (by decide) ?_
  refine lv_istore_n (lv' := [(1, .int (1 : Int32)), (0, .ref (ad 1))]) hx hb dD_everyTypeHasValues_1 rfl hl (by decide) rfl (fun ls hl => ?_)
  refine lv_iconst (v := 0) hx hb dD_everyTypeHasValues_2 (by decide) ?_
  refine lv_istore_n (lv' := [(2, .int (0 : Int32)), (1, .int (1 : Int32)), (0, .ref (ad 1))]) hx hb dD_everyTypeHasValues_3 rfl hl (by decide) rfl (fun ls hl => ?_)
  exact BD_everyTypeHasValues_4 C hret (fun x1 st H locs ls h hl hf => by
      exact BD_everyTypeHasValues_24 C hret _ _ _ _ _ h (lv_sub hl [0, 1] rfl) hf) 4096 _ _ _ _ _ _ h (lv_sub hl [2, 1, 0] rfl) hf
end Sdecl
end
section
theorem dP_reset_0 : decode bP_reset 0 = .ok (.aload_n 0, 1) := by decide +kernel
theorem dP_reset_1 : decode bP_reset 1 = .ok (.iconst 0, 1) := by decide +kernel
theorem dP_reset_2 : decode bP_reset 2 = .ok (.putfield 34, 3) := by decide +kernel
theorem dP_reset_5 : decode bP_reset 5 = .ok (.return_, 1) := by decide +kernel
theorem dP_has_0 : decode bP_has 0 = .ok (.iload_n 1, 1) := by decide +kernel
theorem dP_has_1 : decode bP_has 1 = .ok (.ifCond .lt 15, 3) := by decide +kernel
theorem dP_has_4 : decode bP_has 4 = .ok (.iload_n 1, 1) := by decide +kernel
theorem dP_has_5 : decode bP_has 5 = .ok (.aload_n 0, 1) := by decide +kernel
theorem dP_has_6 : decode bP_has 6 = .ok (.getfield 34, 3) := by decide +kernel
theorem dP_has_9 : decode bP_has 9 = .ok (.if_icmp .ge 7, 3) := by decide +kernel
theorem dP_has_12 : decode bP_has 12 = .ok (.iconst 1, 1) := by decide +kernel
theorem dP_has_13 : decode bP_has 13 = .ok (.goto 4, 3) := by decide +kernel
theorem dP_has_16 : decode bP_has 16 = .ok (.iconst 0, 1) := by decide +kernel
theorem dP_has_17 : decode bP_has 17 = .ok (.ireturn, 1) := by decide +kernel
theorem dP_withParts_0 : decode bP_withParts 0 = .ok (.aload_n 0, 1) := by decide +kernel
theorem dP_withParts_1 : decode bP_withParts 1 = .ok (.iload_n 1, 1) := by decide +kernel
theorem dP_withParts_2 : decode bP_withParts 2 = .ok (.invokevirtual 63, 3) := by decide +kernel
theorem dP_withParts_5 : decode bP_withParts 5 = .ok (.ifCond .ne 5, 3) := by decide +kernel
theorem dP_withParts_8 : decode bP_withParts 8 = .ok (.iload_n 1, 1) := by decide +kernel
theorem dP_withParts_9 : decode bP_withParts 9 = .ok (.ireturn, 1) := by decide +kernel
theorem dP_withParts_10 : decode bP_withParts 10 = .ok (.aload_n 0, 1) := by decide +kernel
theorem dP_withParts_11 : decode bP_withParts 11 = .ok (.getfield 22, 3) := by decide +kernel
theorem dP_withParts_14 : decode bP_withParts 14 = .ok (.iload_n 1, 1) := by decide +kernel
theorem dP_withParts_15 : decode bP_withParts 15 = .ok (.iload_n 2, 1) := by decide +kernel
theorem dP_withParts_16 : decode bP_withParts 16 = .ok (.iastore, 1) := by decide +kernel
theorem dP_withParts_17 : decode bP_withParts 17 = .ok (.aload_n 0, 1) := by decide +kernel
theorem dP_withParts_18 : decode bP_withParts 18 = .ok (.getfield 25, 3) := by decide +kernel
theorem dP_withParts_21 : decode bP_withParts 21 = .ok (.iload_n 1, 1) := by decide +kernel
theorem dP_withParts_22 : decode bP_withParts 22 = .ok (.iload_n 3, 1) := by decide +kernel
theorem dP_withParts_23 : decode bP_withParts 23 = .ok (.iastore, 1) := by decide +kernel
theorem dP_withParts_24 : decode bP_withParts 24 = .ok (.aload_n 0, 1) := by decide +kernel
theorem dP_withParts_25 : decode bP_withParts 25 = .ok (.getfield 28, 3) := by decide +kernel
theorem dP_withParts_28 : decode bP_withParts 28 = .ok (.iload_n 1, 1) := by decide +kernel
theorem dP_withParts_29 : decode bP_withParts 29 = .ok (.iload 4, 2) := by decide +kernel
theorem dP_withParts_31 : decode bP_withParts 31 = .ok (.iastore, 1) := by decide +kernel
theorem dP_withParts_32 : decode bP_withParts 32 = .ok (.aload_n 0, 1) := by decide +kernel
theorem dP_withParts_33 : decode bP_withParts 33 = .ok (.getfield 31, 3) := by decide +kernel
theorem dP_withParts_36 : decode bP_withParts 36 = .ok (.iload_n 1, 1) := by decide +kernel
theorem dP_withParts_37 : decode bP_withParts 37 = .ok (.iload 5, 2) := by decide +kernel
theorem dP_withParts_39 : decode bP_withParts 39 = .ok (.iastore, 1) := by decide +kernel
theorem dP_withParts_40 : decode bP_withParts 40 = .ok (.iload_n 1, 1) := by decide +kernel
theorem dP_withParts_41 : decode bP_withParts 41 = .ok (.ireturn, 1) := by decide +kernel
theorem dP_add_0 : decode bP_add 0 = .ok (.aload_n 0, 1) := by decide +kernel
theorem dP_add_1 : decode bP_add 1 = .ok (.getfield 34, 3) := by decide +kernel
theorem dP_add_4 : decode bP_add 4 = .ok (.bipush 60, 2) := by decide +kernel
theorem dP_add_6 : decode bP_add 6 = .ok (.if_icmp .lt 6, 3) := by decide +kernel
theorem dP_add_9 : decode bP_add 9 = .ok (.bipush (-8), 2) := by decide +kernel
theorem dP_add_11 : decode bP_add 11 = .ok (.ireturn, 1) := by decide +kernel
theorem dP_add_12 : decode bP_add 12 = .ok (.aload_n 0, 1) := by decide +kernel
theorem dP_add_13 : decode bP_add 13 = .ok (.getfield 34, 3) := by decide +kernel
theorem dP_add_16 : decode bP_add 16 = .ok (.istore 4, 2) := by decide +kernel
theorem dP_add_18 : decode bP_add 18 = .ok (.aload_n 0, 1) := by decide +kernel
theorem dP_add_19 : decode bP_add 19 = .ok (.dup, 1) := by decide +kernel
theorem dP_add_20 : decode bP_add 20 = .ok (.getfield 34, 3) := by decide +kernel
theorem dP_add_23 : decode bP_add 23 = .ok (.iconst 1, 1) := by decide +kernel
theorem dP_add_24 : decode bP_add 24 = .ok (.iadd, 1) := by decide +kernel
theorem dP_add_25 : decode bP_add 25 = .ok (.putfield 34, 3) := by decide +kernel
theorem dP_add_28 : decode bP_add 28 = .ok (.aload_n 0, 1) := by decide +kernel
theorem dP_add_29 : decode bP_add 29 = .ok (.getfield 9, 3) := by decide +kernel
theorem dP_add_32 : decode bP_add 32 = .ok (.iload 4, 2) := by decide +kernel
theorem dP_add_34 : decode bP_add 34 = .ok (.iload_n 1, 1) := by decide +kernel
theorem dP_add_35 : decode bP_add 35 = .ok (.bastore, 1) := by decide +kernel
theorem dP_add_36 : decode bP_add 36 = .ok (.aload_n 0, 1) := by decide +kernel
theorem dP_add_37 : decode bP_add 37 = .ok (.getfield 15, 3) := by decide +kernel
theorem dP_add_40 : decode bP_add 40 = .ok (.iload 4, 2) := by decide +kernel
theorem dP_add_42 : decode bP_add 42 = .ok (.iload_n 2, 1) := by decide +kernel
theorem dP_add_43 : decode bP_add 43 = .ok (.iastore, 1) := by decide +kernel
theorem dP_add_44 : decode bP_add 44 = .ok (.aload_n 0, 1) := by decide +kernel
theorem dP_add_45 : decode bP_add 45 = .ok (.getfield 19, 3) := by decide +kernel
theorem dP_add_48 : decode bP_add 48 = .ok (.iload 4, 2) := by decide +kernel
theorem dP_add_50 : decode bP_add 50 = .ok (.iload_n 3, 1) := by decide +kernel
theorem dP_add_51 : decode bP_add 51 = .ok (.iastore, 1) := by decide +kernel
theorem dP_add_52 : decode bP_add 52 = .ok (.aload_n 0, 1) := by decide +kernel
theorem dP_add_53 : decode bP_add 53 = .ok (.iload 4, 2) := by decide +kernel
theorem dP_add_55 : decode bP_add 55 = .ok (.iconst (-1), 1) := by decide +kernel
theorem dP_add_56 : decode bP_add 56 = .ok (.iconst (-1), 1) := by decide +kernel
theorem dP_add_57 : decode bP_add 57 = .ok (.iconst 1, 1) := by decide +kernel
theorem dP_add_58 : decode bP_add 58 = .ok (.iconst 1, 1) := by decide +kernel
theorem dP_add_59 : decode bP_add 59 = .ok (.invokevirtual 55, 3) := by decide +kernel
theorem dP_add_62 : decode bP_add 62 = .ok (.ireturn, 1) := by decide +kernel
theorem dP_addAny_0 : decode bP_addAny 0 = .ok (.aload_n 0, 1) := by decide +kernel
theorem dP_addAny_1 : decode bP_addAny 1 = .ok (.iconst 0, 1) := by decide +kernel
theorem dP_addAny_2 : decode bP_addAny 2 = .ok (.iconst (-1), 1) := by decide +kernel
theorem dP_addAny_3 : decode bP_addAny 3 = .ok (.iconst 0, 1) := by decide +kernel
theorem dP_addAny_4 : decode bP_addAny 4 = .ok (.invokevirtual 38, 3) := by decide +kernel
theorem dP_addAny_7 : decode bP_addAny 7 = .ok (.ireturn, 1) := by decide +kernel
theorem dP_addNumber_0 : decode bP_addNumber 0 = .ok (.aload_n 0, 1) := by decide +kernel
theorem dP_addNumber_1 : decode bP_addNumber 1 = .ok (.iconst 0, 1) := by decide +kernel
theorem dP_addNumber_2 : decode bP_addNumber 2 = .ok (.iconst 0, 1) := by decide +kernel
theorem dP_addNumber_3 : decode bP_addNumber 3 = .ok (.iload_n 1, 1) := by decide +kernel
theorem dP_addNumber_4 : decode bP_addNumber 4 = .ok (.invokevirtual 38, 3) := by decide +kernel
theorem dP_addNumber_7 : decode bP_addNumber 7 = .ok (.ireturn, 1) := by decide +kernel
theorem dP_depthOf_0 : decode bP_depthOf 0 = .ok (.aload_n 0, 1) := by decide +kernel
theorem dP_depthOf_1 : decode bP_depthOf 1 = .ok (.iload_n 1, 1) := by decide +kernel
theorem dP_depthOf_2 : decode bP_depthOf 2 = .ok (.invokevirtual 63, 3) := by decide +kernel
theorem dP_depthOf_5 : decode bP_depthOf 5 = .ok (.ifCond .eq 12, 3) := by decide +kernel
theorem dP_depthOf_8 : decode bP_depthOf 8 = .ok (.aload_n 0, 1) := by decide +kernel
theorem dP_depthOf_9 : decode bP_depthOf 9 = .ok (.getfield 28, 3) := by decide +kernel
theorem dP_depthOf_12 : decode bP_depthOf 12 = .ok (.iload_n 1, 1) := by decide +kernel
theorem dP_depthOf_13 : decode bP_depthOf 13 = .ok (.iaload, 1) := by decide +kernel
theorem dP_depthOf_14 : decode bP_depthOf 14 = .ok (.goto 4, 3) := by decide +kernel
theorem dP_depthOf_17 : decode bP_depthOf 17 = .ok (.iconst 0, 1) := by decide +kernel
theorem dP_depthOf_18 : decode bP_depthOf 18 = .ok (.ireturn, 1) := by decide +kernel
theorem dP_choicesOf_0 : decode bP_choicesOf 0 = .ok (.aload_n 0, 1) := by decide +kernel
theorem dP_choicesOf_1 : decode bP_choicesOf 1 = .ok (.iload_n 1, 1) := by decide +kernel
theorem dP_choicesOf_2 : decode bP_choicesOf 2 = .ok (.invokevirtual 63, 3) := by decide +kernel
theorem dP_choicesOf_5 : decode bP_choicesOf 5 = .ok (.ifCond .eq 16, 3) := by decide +kernel
theorem dP_choicesOf_8 : decode bP_choicesOf 8 = .ok (.iconst 1, 1) := by decide +kernel
theorem dP_choicesOf_9 : decode bP_choicesOf 9 = .ok (.aload_n 0, 1) := by decide +kernel
theorem dP_choicesOf_10 : decode bP_choicesOf 10 = .ok (.getfield 31, 3) := by decide +kernel
theorem dP_choicesOf_13 : decode bP_choicesOf 13 = .ok (.iload_n 1, 1) := by decide +kernel
theorem dP_choicesOf_14 : decode bP_choicesOf 14 = .ok (.iaload, 1) := by decide +kernel
theorem dP_choicesOf_15 : decode bP_choicesOf 15 = .ok (.invokestatic 46, 3) := by decide +kernel
theorem dP_choicesOf_18 : decode bP_choicesOf 18 = .ok (.goto 4, 3) := by decide +kernel
theorem dP_choicesOf_21 : decode bP_choicesOf 21 = .ok (.iconst 1, 1) := by decide +kernel
theorem dP_choicesOf_22 : decode bP_choicesOf 22 = .ok (.ireturn, 1) := by decide +kernel
theorem dP_addBuild_0 : decode bP_addBuild 0 = .ok (.iconst 1, 1) := by decide +kernel
theorem dP_addBuild_1 : decode bP_addBuild 1 = .ok (.aload_n 0, 1) := by decide +kernel
theorem dP_addBuild_2 : decode bP_addBuild 2 = .ok (.iload_n 3, 1) := by decide +kernel
theorem dP_addBuild_3 : decode bP_addBuild 3 = .ok (.invokevirtual 42, 3) := by decide +kernel
theorem dP_addBuild_6 : decode bP_addBuild 6 = .ok (.aload_n 0, 1) := by decide +kernel
theorem dP_addBuild_7 : decode bP_addBuild 7 = .ok (.iload 4, 2) := by decide +kernel
theorem dP_addBuild_9 : decode bP_addBuild 9 = .ok (.invokevirtual 42, 3) := by decide +kernel
theorem dP_addBuild_12 : decode bP_addBuild 12 = .ok (.invokestatic 46, 3) := by decide +kernel
theorem dP_addBuild_15 : decode bP_addBuild 15 = .ok (.iadd, 1) := by decide +kernel
theorem dP_addBuild_16 : decode bP_addBuild 16 = .ok (.istore 5, 2) := by decide +kernel
theorem dP_addBuild_18 : decode bP_addBuild 18 = .ok (.iload 5, 2) := by decide +kernel
theorem dP_addBuild_20 : decode bP_addBuild 20 = .ok (.iconst 4, 1) := by decide +kernel
theorem dP_addBuild_21 : decode bP_addBuild 21 = .ok (.if_icmp .le 6, 3) := by decide +kernel
theorem dP_addBuild_24 : decode bP_addBuild 24 = .ok (.bipush (-9), 2) := by decide +kernel
theorem dP_addBuild_26 : decode bP_addBuild 26 = .ok (.ireturn, 1) := by decide +kernel
theorem dP_addBuild_27 : decode bP_addBuild 27 = .ok (.aload_n 0, 1) := by decide +kernel
theorem dP_addBuild_28 : decode bP_addBuild 28 = .ok (.iload_n 3, 1) := by decide +kernel
theorem dP_addBuild_29 : decode bP_addBuild 29 = .ok (.invokevirtual 52, 3) := by decide +kernel
theorem dP_addBuild_32 : decode bP_addBuild 32 = .ok (.aload_n 0, 1) := by decide +kernel
theorem dP_addBuild_33 : decode bP_addBuild 33 = .ok (.iload 4, 2) := by decide +kernel
theorem dP_addBuild_35 : decode bP_addBuild 35 = .ok (.invokevirtual 52, 3) := by decide +kernel
theorem dP_addBuild_38 : decode bP_addBuild 38 = .ok (.imul, 1) := by decide +kernel
theorem dP_addBuild_39 : decode bP_addBuild 39 = .ok (.istore 6, 2) := by decide +kernel
theorem dP_addBuild_41 : decode bP_addBuild 41 = .ok (.iload 6, 2) := by decide +kernel
theorem dP_addBuild_43 : decode bP_addBuild 43 = .ok (.bipush 8, 2) := by decide +kernel
theorem dP_addBuild_45 : decode bP_addBuild 45 = .ok (.if_icmp .le 6, 3) := by decide +kernel
theorem dP_addBuild_48 : decode bP_addBuild 48 = .ok (.bipush (-10), 2) := by decide +kernel
theorem dP_addBuild_50 : decode bP_addBuild 50 = .ok (.ireturn, 1) := by decide +kernel
theorem dP_addBuild_51 : decode bP_addBuild 51 = .ok (.aload_n 0, 1) := by decide +kernel
theorem dP_addBuild_52 : decode bP_addBuild 52 = .ok (.aload_n 0, 1) := by decide +kernel
theorem dP_addBuild_53 : decode bP_addBuild 53 = .ok (.iconst 0, 1) := by decide +kernel
theorem dP_addBuild_54 : decode bP_addBuild 54 = .ok (.iload_n 2, 1) := by decide +kernel
theorem dP_addBuild_55 : decode bP_addBuild 55 = .ok (.iload_n 1, 1) := by decide +kernel
theorem dP_addBuild_56 : decode bP_addBuild 56 = .ok (.invokevirtual 38, 3) := by decide +kernel
theorem dP_addBuild_59 : decode bP_addBuild 59 = .ok (.iload_n 3, 1) := by decide +kernel
theorem dP_addBuild_60 : decode bP_addBuild 60 = .ok (.iload 4, 2) := by decide +kernel
theorem dP_addBuild_62 : decode bP_addBuild 62 = .ok (.iload 5, 2) := by decide +kernel
theorem dP_addBuild_64 : decode bP_addBuild 64 = .ok (.iload 6, 2) := by decide +kernel
theorem dP_addBuild_66 : decode bP_addBuild 66 = .ok (.invokevirtual 55, 3) := by decide +kernel
theorem dP_addBuild_69 : decode bP_addBuild 69 = .ok (.ireturn, 1) := by decide +kernel
theorem dP_isOpen_0 : decode bP_isOpen 0 = .ok (.aload_n 0, 1) := by decide +kernel
theorem dP_isOpen_1 : decode bP_isOpen 1 = .ok (.iload_n 1, 1) := by decide +kernel
theorem dP_isOpen_2 : decode bP_isOpen 2 = .ok (.invokevirtual 63, 3) := by decide +kernel
theorem dP_isOpen_5 : decode bP_isOpen 5 = .ok (.ifCond .eq 17, 3) := by decide +kernel
theorem dP_isOpen_8 : decode bP_isOpen 8 = .ok (.aload_n 0, 1) := by decide +kernel
theorem dP_isOpen_9 : decode bP_isOpen 9 = .ok (.getfield 15, 3) := by decide +kernel
theorem dP_isOpen_12 : decode bP_isOpen 12 = .ok (.iload_n 1, 1) := by decide +kernel
theorem dP_isOpen_13 : decode bP_isOpen 13 = .ok (.iaload, 1) := by decide +kernel
theorem dP_isOpen_14 : decode bP_isOpen 14 = .ok (.iconst (-1), 1) := by decide +kernel
theorem dP_isOpen_15 : decode bP_isOpen 15 = .ok (.if_icmp .ne 7, 3) := by decide +kernel
theorem dP_isOpen_18 : decode bP_isOpen 18 = .ok (.iconst 1, 1) := by decide +kernel
theorem dP_isOpen_19 : decode bP_isOpen 19 = .ok (.goto 4, 3) := by decide +kernel
theorem dP_isOpen_22 : decode bP_isOpen 22 = .ok (.iconst 0, 1) := by decide +kernel
theorem dP_isOpen_23 : decode bP_isOpen 23 = .ok (.ireturn, 1) := by decide +kernel
theorem dP_addEither_0 : decode bP_addEither 0 = .ok (.aload_n 0, 1) := by decide +kernel
theorem dP_addEither_1 : decode bP_addEither 1 = .ok (.iload_n 1, 1) := by decide +kernel
theorem dP_addEither_2 : decode bP_addEither 2 = .ok (.invokevirtual 52, 3) := by decide +kernel
theorem dP_addEither_5 : decode bP_addEither 5 = .ok (.aload_n 0, 1) := by decide +kernel
theorem dP_addEither_6 : decode bP_addEither 6 = .ok (.iload_n 2, 1) := by decide +kernel
theorem dP_addEither_7 : decode bP_addEither 7 = .ok (.invokevirtual 52, 3) := by decide +kernel
theorem dP_addEither_10 : decode bP_addEither 10 = .ok (.iadd, 1) := by decide +kernel
theorem dP_addEither_11 : decode bP_addEither 11 = .ok (.istore_n 3, 1) := by decide +kernel
theorem dP_addEither_12 : decode bP_addEither 12 = .ok (.iload_n 3, 1) := by decide +kernel
theorem dP_addEither_13 : decode bP_addEither 13 = .ok (.bipush 8, 2) := by decide +kernel
theorem dP_addEither_15 : decode bP_addEither 15 = .ok (.if_icmp .le 6, 3) := by decide +kernel
theorem dP_addEither_18 : decode bP_addEither 18 = .ok (.bipush (-10), 2) := by decide +kernel
theorem dP_addEither_20 : decode bP_addEither 20 = .ok (.ireturn, 1) := by decide +kernel
theorem dP_addEither_21 : decode bP_addEither 21 = .ok (.aload_n 0, 1) := by decide +kernel
theorem dP_addEither_22 : decode bP_addEither 22 = .ok (.iload_n 1, 1) := by decide +kernel
theorem dP_addEither_23 : decode bP_addEither 23 = .ok (.invokevirtual 59, 3) := by decide +kernel
theorem dP_addEither_26 : decode bP_addEither 26 = .ok (.ifCond .eq 12, 3) := by decide +kernel
theorem dP_addEither_29 : decode bP_addEither 29 = .ok (.aload_n 0, 1) := by decide +kernel
theorem dP_addEither_30 : decode bP_addEither 30 = .ok (.getfield 15, 3) := by decide +kernel
theorem dP_addEither_33 : decode bP_addEither 33 = .ok (.iload_n 2, 1) := by decide +kernel
theorem dP_addEither_34 : decode bP_addEither 34 = .ok (.iaload, 1) := by decide +kernel
theorem dP_addEither_35 : decode bP_addEither 35 = .ok (.goto 9, 3) := by decide +kernel
theorem dP_addEither_38 : decode bP_addEither 38 = .ok (.aload_n 0, 1) := by decide +kernel
theorem dP_addEither_39 : decode bP_addEither 39 = .ok (.getfield 15, 3) := by decide +kernel
theorem dP_addEither_42 : decode bP_addEither 42 = .ok (.iload_n 1, 1) := by decide +kernel
theorem dP_addEither_43 : decode bP_addEither 43 = .ok (.iaload, 1) := by decide +kernel
theorem dP_addEither_44 : decode bP_addEither 44 = .ok (.istore 4, 2) := by decide +kernel
theorem dP_addEither_46 : decode bP_addEither 46 = .ok (.aload_n 0, 1) := by decide +kernel
theorem dP_addEither_47 : decode bP_addEither 47 = .ok (.iload_n 1, 1) := by decide +kernel
theorem dP_addEither_48 : decode bP_addEither 48 = .ok (.invokevirtual 42, 3) := by decide +kernel
theorem dP_addEither_51 : decode bP_addEither 51 = .ok (.aload_n 0, 1) := by decide +kernel
theorem dP_addEither_52 : decode bP_addEither 52 = .ok (.iload_n 2, 1) := by decide +kernel
theorem dP_addEither_53 : decode bP_addEither 53 = .ok (.invokevirtual 42, 3) := by decide +kernel
theorem dP_addEither_56 : decode bP_addEither 56 = .ok (.invokestatic 46, 3) := by decide +kernel
theorem dP_addEither_59 : decode bP_addEither 59 = .ok (.istore 5, 2) := by decide +kernel
theorem dP_addEither_61 : decode bP_addEither 61 = .ok (.aload_n 0, 1) := by decide +kernel
theorem dP_addEither_62 : decode bP_addEither 62 = .ok (.aload_n 0, 1) := by decide +kernel
theorem dP_addEither_63 : decode bP_addEither 63 = .ok (.iconst 1, 1) := by decide +kernel
theorem dP_addEither_64 : decode bP_addEither 64 = .ok (.iload 4, 2) := by decide +kernel
theorem dP_addEither_66 : decode bP_addEither 66 = .ok (.iconst 0, 1) := by decide +kernel
theorem dP_addEither_67 : decode bP_addEither 67 = .ok (.invokevirtual 38, 3) := by decide +kernel
theorem dP_addEither_70 : decode bP_addEither 70 = .ok (.iload_n 1, 1) := by decide +kernel
theorem dP_addEither_71 : decode bP_addEither 71 = .ok (.iload_n 2, 1) := by decide +kernel
theorem dP_addEither_72 : decode bP_addEither 72 = .ok (.iload 5, 2) := by decide +kernel
theorem dP_addEither_74 : decode bP_addEither 74 = .ok (.iload_n 3, 1) := by decide +kernel
theorem dP_addEither_75 : decode bP_addEither 75 = .ok (.invokevirtual 55, 3) := by decide +kernel
theorem dP_addEither_78 : decode bP_addEither 78 = .ok (.ireturn, 1) := by decide +kernel
theorem dP_fits_0 : decode bP_fits 0 = .ok (.aload_n 0, 1) := by decide +kernel
theorem dP_fits_1 : decode bP_fits 1 = .ok (.iload_n 1, 1) := by decide +kernel
theorem dP_fits_2 : decode bP_fits 2 = .ok (.invokevirtual 63, 3) := by decide +kernel
theorem dP_fits_5 : decode bP_fits 5 = .ok (.ifCond .eq 29, 3) := by decide +kernel
theorem dP_fits_8 : decode bP_fits 8 = .ok (.aload_n 0, 1) := by decide +kernel
theorem dP_fits_9 : decode bP_fits 9 = .ok (.iload_n 1, 1) := by decide +kernel
theorem dP_fits_10 : decode bP_fits 10 = .ok (.invokevirtual 59, 3) := by decide +kernel
theorem dP_fits_13 : decode bP_fits 13 = .ok (.ifCond .ne 13, 3) := by decide +kernel
theorem dP_fits_16 : decode bP_fits 16 = .ok (.aload_n 0, 1) := by decide +kernel
theorem dP_fits_17 : decode bP_fits 17 = .ok (.getfield 15, 3) := by decide +kernel
theorem dP_fits_20 : decode bP_fits 20 = .ok (.iload_n 1, 1) := by decide +kernel
theorem dP_fits_21 : decode bP_fits 21 = .ok (.iaload, 1) := by decide +kernel
theorem dP_fits_22 : decode bP_fits 22 = .ok (.iload_n 2, 1) := by decide +kernel
theorem dP_fits_23 : decode bP_fits 23 = .ok (.if_icmp .ne 7, 3) := by decide +kernel
theorem dP_fits_26 : decode bP_fits 26 = .ok (.iconst 1, 1) := by decide +kernel
theorem dP_fits_27 : decode bP_fits 27 = .ok (.goto 17, 3) := by decide +kernel
theorem dP_fits_30 : decode bP_fits 30 = .ok (.iconst 0, 1) := by decide +kernel
theorem dP_fits_31 : decode bP_fits 31 = .ok (.goto 13, 3) := by decide +kernel
theorem dP_fits_34 : decode bP_fits 34 = .ok (.iload_n 2, 1) := by decide +kernel
theorem dP_fits_35 : decode bP_fits 35 = .ok (.iconst (-1), 1) := by decide +kernel
theorem dP_fits_36 : decode bP_fits 36 = .ok (.if_icmp .ne 7, 3) := by decide +kernel
theorem dP_fits_39 : decode bP_fits 39 = .ok (.iconst 1, 1) := by decide +kernel
theorem dP_fits_40 : decode bP_fits 40 = .ok (.goto 4, 3) := by decide +kernel
theorem dP_fits_43 : decode bP_fits 43 = .ok (.iconst 0, 1) := by decide +kernel
theorem dP_fits_44 : decode bP_fits 44 = .ok (.ireturn, 1) := by decide +kernel
theorem dP_agree_0 : decode bP_agree 0 = .ok (.aload_n 0, 1) := by decide +kernel
theorem dP_agree_1 : decode bP_agree 1 = .ok (.iload_n 2, 1) := by decide +kernel
theorem dP_agree_2 : decode bP_agree 2 = .ok (.invokevirtual 59, 3) := by decide +kernel
theorem dP_agree_5 : decode bP_agree 5 = .ok (.ifCond .ne 25, 3) := by decide +kernel
theorem dP_agree_8 : decode bP_agree 8 = .ok (.aload_n 0, 1) := by decide +kernel
theorem dP_agree_9 : decode bP_agree 9 = .ok (.iload_n 2, 1) := by decide +kernel
theorem dP_agree_10 : decode bP_agree 10 = .ok (.invokevirtual 63, 3) := by decide +kernel
theorem dP_agree_13 : decode bP_agree 13 = .ok (.ifCond .eq 21, 3) := by decide +kernel
theorem dP_agree_16 : decode bP_agree 16 = .ok (.aload_n 0, 1) := by decide +kernel
theorem dP_agree_17 : decode bP_agree 17 = .ok (.iload_n 1, 1) := by decide +kernel
theorem dP_agree_18 : decode bP_agree 18 = .ok (.aload_n 0, 1) := by decide +kernel
theorem dP_agree_19 : decode bP_agree 19 = .ok (.getfield 15, 3) := by decide +kernel
theorem dP_agree_22 : decode bP_agree 22 = .ok (.iload_n 2, 1) := by decide +kernel
theorem dP_agree_23 : decode bP_agree 23 = .ok (.iaload, 1) := by decide +kernel
theorem dP_agree_24 : decode bP_agree 24 = .ok (.invokevirtual 66, 3) := by decide +kernel
theorem dP_agree_27 : decode bP_agree 27 = .ok (.ifCond .eq 7, 3) := by decide +kernel
theorem dP_agree_30 : decode bP_agree 30 = .ok (.iconst 1, 1) := by decide +kernel
theorem dP_agree_31 : decode bP_agree 31 = .ok (.goto 4, 3) := by decide +kernel
theorem dP_agree_34 : decode bP_agree 34 = .ok (.iconst 0, 1) := by decide +kernel
theorem dP_agree_35 : decode bP_agree 35 = .ok (.ireturn, 1) := by decide +kernel
theorem dP_isEither_0 : decode bP_isEither 0 = .ok (.aload_n 0, 1) := by decide +kernel
theorem dP_isEither_1 : decode bP_isEither 1 = .ok (.iload_n 1, 1) := by decide +kernel
theorem dP_isEither_2 : decode bP_isEither 2 = .ok (.invokevirtual 63, 3) := by decide +kernel
theorem dP_isEither_5 : decode bP_isEither 5 = .ok (.ifCond .eq 16, 3) := by decide +kernel
theorem dP_isEither_8 : decode bP_isEither 8 = .ok (.aload_n 0, 1) := by decide +kernel
theorem dP_isEither_9 : decode bP_isEither 9 = .ok (.getfield 9, 3) := by decide +kernel
theorem dP_isEither_12 : decode bP_isEither 12 = .ok (.iload_n 1, 1) := by decide +kernel
theorem dP_isEither_13 : decode bP_isEither 13 = .ok (.baload, 1) := by decide +kernel
theorem dP_isEither_14 : decode bP_isEither 14 = .ok (.ifCond .eq 7, 3) := by decide +kernel
theorem dP_isEither_17 : decode bP_isEither 17 = .ok (.iconst 1, 1) := by decide +kernel
theorem dP_isEither_18 : decode bP_isEither 18 = .ok (.goto 4, 3) := by decide +kernel
theorem dP_isEither_21 : decode bP_isEither 21 = .ok (.iconst 0, 1) := by decide +kernel
theorem dP_isEither_22 : decode bP_isEither 22 = .ok (.ireturn, 1) := by decide +kernel
theorem dP_itsType_0 : decode bP_itsType 0 = .ok (.aload_n 0, 1) := by decide +kernel
theorem dP_itsType_1 : decode bP_itsType 1 = .ok (.iload_n 1, 1) := by decide +kernel
theorem dP_itsType_2 : decode bP_itsType 2 = .ok (.invokevirtual 63, 3) := by decide +kernel
theorem dP_itsType_5 : decode bP_itsType 5 = .ok (.ifCond .eq 12, 3) := by decide +kernel
theorem dP_itsType_8 : decode bP_itsType 8 = .ok (.aload_n 0, 1) := by decide +kernel
theorem dP_itsType_9 : decode bP_itsType 9 = .ok (.getfield 15, 3) := by decide +kernel
theorem dP_itsType_12 : decode bP_itsType 12 = .ok (.iload_n 1, 1) := by decide +kernel
theorem dP_itsType_13 : decode bP_itsType 13 = .ok (.iaload, 1) := by decide +kernel
theorem dP_itsType_14 : decode bP_itsType 14 = .ok (.goto 4, 3) := by decide +kernel
theorem dP_itsType_17 : decode bP_itsType 17 = .ok (.iconst (-1), 1) := by decide +kernel
theorem dP_itsType_18 : decode bP_itsType 18 = .ok (.ireturn, 1) := by decide +kernel
theorem dP_symbolOf_0 : decode bP_symbolOf 0 = .ok (.aload_n 0, 1) := by decide +kernel
theorem dP_symbolOf_1 : decode bP_symbolOf 1 = .ok (.iload_n 1, 1) := by decide +kernel
theorem dP_symbolOf_2 : decode bP_symbolOf 2 = .ok (.invokevirtual 63, 3) := by decide +kernel
theorem dP_symbolOf_5 : decode bP_symbolOf 5 = .ok (.ifCond .eq 12, 3) := by decide +kernel
theorem dP_symbolOf_8 : decode bP_symbolOf 8 = .ok (.aload_n 0, 1) := by decide +kernel
theorem dP_symbolOf_9 : decode bP_symbolOf 9 = .ok (.getfield 19, 3) := by decide +kernel
theorem dP_symbolOf_12 : decode bP_symbolOf 12 = .ok (.iload_n 1, 1) := by decide +kernel
theorem dP_symbolOf_13 : decode bP_symbolOf 13 = .ok (.iaload, 1) := by decide +kernel
theorem dP_symbolOf_14 : decode bP_symbolOf 14 = .ok (.goto 4, 3) := by decide +kernel
theorem dP_symbolOf_17 : decode bP_symbolOf 17 = .ok (.iconst 0, 1) := by decide +kernel
theorem dP_symbolOf_18 : decode bP_symbolOf 18 = .ok (.ireturn, 1) := by decide +kernel
theorem dP_firstOf_0 : decode bP_firstOf 0 = .ok (.aload_n 0, 1) := by decide +kernel
theorem dP_firstOf_1 : decode bP_firstOf 1 = .ok (.iload_n 1, 1) := by decide +kernel
theorem dP_firstOf_2 : decode bP_firstOf 2 = .ok (.invokevirtual 63, 3) := by decide +kernel
theorem dP_firstOf_5 : decode bP_firstOf 5 = .ok (.ifCond .eq 12, 3) := by decide +kernel
theorem dP_firstOf_8 : decode bP_firstOf 8 = .ok (.aload_n 0, 1) := by decide +kernel
theorem dP_firstOf_9 : decode bP_firstOf 9 = .ok (.getfield 22, 3) := by decide +kernel
theorem dP_firstOf_12 : decode bP_firstOf 12 = .ok (.iload_n 1, 1) := by decide +kernel
theorem dP_firstOf_13 : decode bP_firstOf 13 = .ok (.iaload, 1) := by decide +kernel
theorem dP_firstOf_14 : decode bP_firstOf 14 = .ok (.goto 4, 3) := by decide +kernel
theorem dP_firstOf_17 : decode bP_firstOf 17 = .ok (.iconst (-1), 1) := by decide +kernel
theorem dP_firstOf_18 : decode bP_firstOf 18 = .ok (.ireturn, 1) := by decide +kernel
theorem dP_secondOf_0 : decode bP_secondOf 0 = .ok (.aload_n 0, 1) := by decide +kernel
theorem dP_secondOf_1 : decode bP_secondOf 1 = .ok (.iload_n 1, 1) := by decide +kernel
theorem dP_secondOf_2 : decode bP_secondOf 2 = .ok (.invokevirtual 63, 3) := by decide +kernel
theorem dP_secondOf_5 : decode bP_secondOf 5 = .ok (.ifCond .eq 12, 3) := by decide +kernel
theorem dP_secondOf_8 : decode bP_secondOf 8 = .ok (.aload_n 0, 1) := by decide +kernel
theorem dP_secondOf_9 : decode bP_secondOf 9 = .ok (.getfield 25, 3) := by decide +kernel
theorem dP_secondOf_12 : decode bP_secondOf 12 = .ok (.iload_n 1, 1) := by decide +kernel
theorem dP_secondOf_13 : decode bP_secondOf 13 = .ok (.iaload, 1) := by decide +kernel
theorem dP_secondOf_14 : decode bP_secondOf 14 = .ok (.goto 4, 3) := by decide +kernel
theorem dP_secondOf_17 : decode bP_secondOf 17 = .ok (.iconst (-1), 1) := by decide +kernel
theorem dP_secondOf_18 : decode bP_secondOf 18 = .ok (.ireturn, 1) := by decide +kernel
section Spatt
variable {p : Program} {l : Launch} {e : Env} {R : Room} {s : State} {m : MethodId} {args : Array Value} {below : List Frame} {meth : Method} {c : Code} {Q : State → Prop} {D : va_G} {cA : Nat → ClassId} {ad : Nat → Nat} {H0 : Heap}
def fP_reset (st : ck_S) : Option ck_S := (some (ck_u st 2 7 (0 : Int32)))
set_option maxRecDepth 100000 in
set_option maxHeartbeats 4000000 in
theorem cP_reset (l : Launch) (D : va_G) (cA : Nat → ClassId) (ad : Nat → Nat) {st : ck_S} {st0 : ck_S} (hf : fP_reset st = some st0) : Met l yP_reset (.code yP_reset bP_reset 1 none :: ck_T) (ck_R 0) (va_Pc [.ref (ad 2)] (ck_P sh_C cm_cl D cA ad st)) (va_Qv (fun u => u = st0) (ck_P sh_C cm_cl D cA ad) (ck_A ad sh_C.length)) 0 0 (ck_A ad sh_C.length) := by
  refine ck_met_v (own := R_P) (by decide +kernel) rfl (Nat.le_of_ble_eq_true rfl) (fun p e R s m args below meth c H0 Q ls C hret h hl => ?_)
  have C1 := C
  obtain ⟨hx, hb, hml, hown, hts, hK, hlv, hlo⟩ := C1
  have hl : lv_has ls 1 [(0, .ref (ad 2))] := hl
  unfold fP_reset at hf
  refine lv_aload_n hx hb dP_reset_0 rfl (lv_at hl 0 rfl) ?_
  refine lv_iconst (v := 0) hx hb dP_reset_1 (by decide) ?_
  refine ck_pi C h GP_count rfl rfl dP_reset_2 (fun H locs h => ?_)
  exact ck_rv hf hret h dP_reset_5
def fP_has (x1 : Int32) (st : ck_S) : Option (Int32 × ck_S) := (if x1 < 0 then (some ((0 : Int32), st)) else (if (st 2 7) ≤ x1 then (some ((0 : Int32), st)) else (some ((1 : Int32), st))))
set_option maxRecDepth 100000 in
set_option maxHeartbeats 4000000 in
theorem cP_has (l : Launch) (D : va_G) (cA : Nat → ClassId) (ad : Nat → Nat) {x1 : Int32} {st : ck_S} {r0 : Int32} {st0 : ck_S} (hf : fP_has x1 st = some (r0, st0)) : Met l yP_has (.code yP_has bP_has 2 (some .boolean) :: ck_T) (ck_R 0) (va_Pc [.ref (ad 2), .int x1] (ck_P sh_C cm_cl D cA ad st)) (va_Qi (fun a u => a = r0 ∧ u = st0) (ck_P sh_C cm_cl D cA ad) (ck_A ad sh_C.length)) 0 0 (ck_A ad sh_C.length) := by
  refine ck_met_z (own := R_P) (by decide +kernel) rfl (Nat.le_of_ble_eq_true rfl) (fun p e R s m args below meth c H0 Q ls C hret h hl => ?_)
  have C1 := C
  obtain ⟨hx, hb, hml, hown, hts, hK, hlv, hlo⟩ := C1
  have hl : lv_has ls 2 [(0, .ref (ad 2)), (1, .int x1)] := hl
  unfold fP_has at hf
  refine lv_iload_n hx hb dP_has_0 rfl (lv_at hl 1 rfl) ?_
  refine lv_if_lt (tgt := 16) hx hb dP_has_1 rfl (fun hq => ?_) (fun hq => ?_)
  · have hf := ck_t hq hf
    refine lv_iconst (v := 0) hx hb dP_has_16 (by decide) ?_
    exact ck_rz hf hret ck_z0 h dP_has_17
  · have hf := ck_f hq hf
    refine lv_iload_n hx hb dP_has_4 rfl (lv_at hl 1 rfl) ?_
    refine lv_aload_n hx hb dP_has_5 rfl (lv_at hl 0 rfl) ?_
    refine ck_gi (x := (st 2 7)) C h FP_count rfl dP_has_6 ?_
    refine lv_icmp_ge (tgt := 16) hx hb dP_has_9 rfl (fun hq => ?_) (fun hq => ?_)
    · have hf := ck_t hq hf
      refine lv_iconst (v := 0) hx hb dP_has_16 (by decide) ?_
      exact ck_rz hf hret ck_z0 h dP_has_17
    · have hf := ck_f hq hf
      refine lv_iconst (v := 1) hx hb dP_has_12 (by decide) ?_
      refine lv_goto (tgt := 17) hx hb dP_has_13 rfl ?_
      exact ck_rz hf hret ck_z1 h dP_has_17
def fP_withParts (x1 : Int32) (x2 : Int32) (x3 : Int32) (x4 : Int32) (x5 : Int32) (st : ck_S) : Option (Int32 × ck_S) := (ck_b (fP_has x1 st) fun v2 st1 => (if v2 = 0 then (some (x1, st1)) else (ck_gd x1 60 (ck_gd x1 60 (ck_gd x1 60 (ck_gd x1 60 (some (x1, (ck_u (ck_u (ck_u (ck_u st1 13 (x1).toNatClampNeg x2) 14 (x1).toNatClampNeg x3) 15 (x1).toNatClampNeg x4) 16 (x1).toNatClampNeg x5)))))))))
set_option maxRecDepth 100000 in
set_option maxHeartbeats 4000000 in
theorem cP_withParts (l : Launch) (D : va_G) (cA : Nat → ClassId) (ad : Nat → Nat) {x1 : Int32} {x2 : Int32} {x3 : Int32} {x4 : Int32} {x5 : Int32} {st : ck_S} {r0 : Int32} {st0 : ck_S} (hf : fP_withParts x1 x2 x3 x4 x5 st = some (r0, st0)) : Met l yP_withParts (.code yP_withParts bP_withParts 6 (some .int) :: ck_T) (ck_R 1) (va_Pc [.ref (ad 2), .int x1, .int x2, .int x3, .int x4, .int x5] (ck_P sh_C cm_cl D cA ad st)) (va_Qi (fun a u => a = r0 ∧ u = st0) (ck_P sh_C cm_cl D cA ad) (ck_A ad sh_C.length)) 0 0 (ck_A ad sh_C.length) := by
  refine ck_met_i (own := R_P) (by decide +kernel) rfl (Nat.le_of_ble_eq_true rfl) (fun p e R s m args below meth c H0 Q ls C hret h hl => ?_)
  have C1 := C
  obtain ⟨hx, hb, hml, hown, hts, hK, hlv, hlo⟩ := C1
  have hl : lv_has ls 6 [(0, .ref (ad 2)), (1, .int x1), (2, .int x2), (3, .int x3), (4, .int x4), (5, .int x5)] := hl
  unfold fP_withParts at hf
  refine lv_aload_n hx hb dP_withParts_0 rfl (lv_at hl 0 rfl) ?_
  refine lv_iload_n hx hb dP_withParts_1 rfl (lv_at hl 1 rfl) ?_
  obtain ⟨v2, st1, hc, hf⟩ := ck_b_e hf
  refine ck_vi (As := [.int x1]) (rest := []) (q := 2) C h hl CP_P_has sP_has q_P (cP_has l D cA ad hc) (Nat.le_of_ble_eq_true rfl) rfl rfl (Nat.le_of_ble_eq_true rfl) dP_withParts_2 (fun H locs h => ?_)
  refine lv_if_ne (tgt := 10) hx hb dP_withParts_5 rfl (fun hq => ?_) (fun hq => ?_)
  · have hf := ck_f hq hf
    refine lv_aload_n hx hb dP_withParts_10 rfl (lv_at hl 0 rfl) ?_
    refine ck_gr C h FP_first dP_withParts_11 ?_
    refine lv_iload_n hx hb dP_withParts_14 rfl (lv_at hl 1 rfl) ?_
    refine lv_iload_n hx hb dP_withParts_15 rfl (lv_at hl 2 rfl) ?_
    obtain ⟨hg, hf⟩ := ck_gd_e hf
    refine ck_si C h (show sh_C[13]? = some (.inr (0, 60)) from rfl) hg dP_withParts_16 (fun H locs h => ?_)
    refine lv_aload_n hx hb dP_withParts_17 rfl (lv_at hl 0 rfl) ?_
    refine ck_gr C h FP_second dP_withParts_18 ?_
    refine lv_iload_n hx hb dP_withParts_21 rfl (lv_at hl 1 rfl) ?_
    refine lv_iload_n hx hb dP_withParts_22 rfl (lv_at hl 3 rfl) ?_
    obtain ⟨hg, hf⟩ := ck_gd_e hf
    refine ck_si C h (show sh_C[14]? = some (.inr (0, 60)) from rfl) hg dP_withParts_23 (fun H locs h => ?_)
    refine lv_aload_n hx hb dP_withParts_24 rfl (lv_at hl 0 rfl) ?_
    refine ck_gr C h FP_depth dP_withParts_25 ?_
    refine lv_iload_n hx hb dP_withParts_28 rfl (lv_at hl 1 rfl) ?_
    refine lv_iload hx hb dP_withParts_29 (lv_at hl 4 rfl) ?_
    obtain ⟨hg, hf⟩ := ck_gd_e hf
    refine ck_si C h (show sh_C[15]? = some (.inr (0, 60)) from rfl) hg dP_withParts_31 (fun H locs h => ?_)
    refine lv_aload_n hx hb dP_withParts_32 rfl (lv_at hl 0 rfl) ?_
    refine ck_gr C h FP_alternatives dP_withParts_33 ?_
    refine lv_iload_n hx hb dP_withParts_36 rfl (lv_at hl 1 rfl) ?_
    refine lv_iload hx hb dP_withParts_37 (lv_at hl 5 rfl) ?_
    obtain ⟨hg, hf⟩ := ck_gd_e hf
    refine ck_si C h (show sh_C[16]? = some (.inr (0, 60)) from rfl) hg dP_withParts_39 (fun H locs h => ?_)
    refine lv_iload_n hx hb dP_withParts_40 rfl (lv_at hl 1 rfl) ?_
    exact ck_ri hf hret h dP_withParts_41
  · have hf := ck_t hq hf
    refine lv_iload_n hx hb dP_withParts_8 rfl (lv_at hl 1 rfl) ?_
    exact ck_ri hf hret h dP_withParts_9
def fP_add (x1 : Int32) (x2 : Int32) (x3 : Int32) (st : ck_S) : Option (Int32 × ck_S) := (if (st 2 7) < (60 : Int32) then (ck_gd (st 2 7) 60 (ck_gd (st 2 7) 60 (ck_gd (st 2 7) 60 (ck_b (fP_withParts (st 2 7) (-1 : Int32) (-1 : Int32) (1 : Int32) (1 : Int32) (ck_u (ck_u (ck_u (ck_u st 2 7 ((st 2 7) + (1 : Int32))) 10 ((st 2 7)).toNatClampNeg (vp_nar .boolean x1)) 11 ((st 2 7)).toNatClampNeg x2) 12 ((st 2 7)).toNatClampNeg x3)) fun v2 st1 => (some (v2, st1)))))) else (some ((-8 : Int32), st)))
set_option maxRecDepth 100000 in
set_option maxHeartbeats 4000000 in
theorem cP_add (l : Launch) (D : va_G) (cA : Nat → ClassId) (ad : Nat → Nat) {x1 : Int32} {x2 : Int32} {x3 : Int32} {st : ck_S} {r0 : Int32} {st0 : ck_S} (hf : fP_add x1 x2 x3 st = some (r0, st0)) : Met l yP_add (.code yP_add bP_add 5 (some .int) :: ck_T) (ck_R 2) (va_Pc [.ref (ad 2), .int x1, .int x2, .int x3] (ck_P sh_C cm_cl D cA ad st)) (va_Qi (fun a u => a = r0 ∧ u = st0) (ck_P sh_C cm_cl D cA ad) (ck_A ad sh_C.length)) 0 0 (ck_A ad sh_C.length) := by
  refine ck_met_i (own := R_P) (by decide +kernel) rfl (Nat.le_of_ble_eq_true rfl) (fun p e R s m args below meth c H0 Q ls C hret h hl => ?_)
  have C1 := C
  obtain ⟨hx, hb, hml, hown, hts, hK, hlv, hlo⟩ := C1
  have hl : lv_has ls 5 [(0, .ref (ad 2)), (1, .int x1), (2, .int x2), (3, .int x3)] := hl
  unfold fP_add at hf
  refine lv_aload_n hx hb dP_add_0 rfl (lv_at hl 0 rfl) ?_
  refine ck_gi (x := (st 2 7)) C h FP_count rfl dP_add_1 ?_
  refine lv_bipush (v := 60) hx hb dP_add_4 (by decide) ?_
  refine lv_icmp_lt (tgt := 12) hx hb dP_add_6 rfl (fun hq => ?_) (fun hq => ?_)
  · have hf := ck_t hq hf
    refine lv_aload_n hx hb dP_add_12 rfl (lv_at hl 0 rfl) ?_
    refine ck_gi (x := (st 2 7)) C h FP_count rfl dP_add_13 ?_
    refine lv_istore (lv' := [(4, .int (st 2 7)), (0, .ref (ad 2)), (1, .int x1), (2, .int x2), (3, .int x3)]) hx hb dP_add_16 hl (by decide) rfl (fun ls hl => ?_)
    refine lv_aload_n hx hb dP_add_18 rfl (lv_at hl 1 rfl) ?_
    refine lv_dup hx hb dP_add_19 rfl ?_
    refine ck_gi (x := (st 2 7)) C h FP_count rfl dP_add_20 ?_
    refine lv_iconst (v := 1) hx hb dP_add_23 (by decide) ?_
    refine lv_iadd hx hb dP_add_24 ?_
    refine ck_pi C h GP_count rfl rfl dP_add_25 (fun H locs h => ?_)
    refine lv_aload_n hx hb dP_add_28 rfl (lv_at hl 1 rfl) ?_
    refine ck_gr C h FP_twofold dP_add_29 ?_
    refine lv_iload hx hb dP_add_32 (lv_at hl 0 rfl) ?_
    refine lv_iload_n hx hb dP_add_34 rfl (lv_at hl 2 rfl) ?_
    obtain ⟨hg, hf⟩ := ck_gd_e hf
    refine ck_sz C h (show sh_C[10]? = some (.inr (1, 60)) from rfl) hg dP_add_35 (fun H locs h => ?_)
    refine lv_aload_n hx hb dP_add_36 rfl (lv_at hl 1 rfl) ?_
    refine ck_gr C h FP_typeOf dP_add_37 ?_
    refine lv_iload hx hb dP_add_40 (lv_at hl 0 rfl) ?_
    refine lv_iload_n hx hb dP_add_42 rfl (lv_at hl 3 rfl) ?_
    obtain ⟨hg, hf⟩ := ck_gd_e hf
    refine ck_si C h (show sh_C[11]? = some (.inr (0, 60)) from rfl) hg dP_add_43 (fun H locs h => ?_)
    refine lv_aload_n hx hb dP_add_44 rfl (lv_at hl 1 rfl) ?_
    refine ck_gr C h FP_symbol dP_add_45 ?_
    refine lv_iload hx hb dP_add_48 (lv_at hl 0 rfl) ?_
    refine lv_iload_n hx hb dP_add_50 rfl (lv_at hl 4 rfl) ?_
    obtain ⟨hg, hf⟩ := ck_gd_e hf
    refine ck_si C h (show sh_C[12]? = some (.inr (0, 60)) from rfl) hg dP_add_51 (fun H locs h => ?_)
    refine lv_aload_n hx hb dP_add_52 rfl (lv_at hl 1 rfl) ?_
    refine lv_iload hx hb dP_add_53 (lv_at hl 0 rfl) ?_
    refine lv_iconst (v := (-1)) hx hb dP_add_55 (by decide) ?_
    refine lv_iconst (v := (-1)) hx hb dP_add_56 (by decide) ?_
    refine lv_iconst (v := 1) hx hb dP_add_57 (by decide) ?_
    refine lv_iconst (v := 1) hx hb dP_add_58 (by decide) ?_
    obtain ⟨v2, st1, hc, hf⟩ := ck_b_e hf
    refine ck_vi (As := [.int (st 2 7), .int (-1 : Int32), .int (-1 : Int32), .int (1 : Int32), .int (1 : Int32)]) (rest := []) (q := 2) C h hl CP_P_withParts sP_withParts q_P (cP_withParts l D cA ad hc) (Nat.le_of_ble_eq_true rfl) rfl rfl (Nat.le_of_ble_eq_true rfl) dP_add_59 (fun H locs h => ?_)
    exact ck_ri hf hret h dP_add_62
  · have hf := ck_f hq hf
    refine lv_bipush (v := (-8)) hx hb dP_add_9 (by decide) ?_
    exact ck_ri hf hret h dP_add_11
def fP_addAny (st : ck_S) : Option (Int32 × ck_S) := (ck_b (fP_add (0 : Int32) (-1 : Int32) (0 : Int32) st) fun v2 st1 => (some (v2, st1)))
set_option maxRecDepth 100000 in
set_option maxHeartbeats 4000000 in
theorem cP_addAny (l : Launch) (D : va_G) (cA : Nat → ClassId) (ad : Nat → Nat) {st : ck_S} {r0 : Int32} {st0 : ck_S} (hf : fP_addAny st = some (r0, st0)) : Met l yP_addAny (.code yP_addAny bP_addAny 1 (some .int) :: ck_T) (ck_R 3) (va_Pc [.ref (ad 2)] (ck_P sh_C cm_cl D cA ad st)) (va_Qi (fun a u => a = r0 ∧ u = st0) (ck_P sh_C cm_cl D cA ad) (ck_A ad sh_C.length)) 0 0 (ck_A ad sh_C.length) := by
  refine ck_met_i (own := R_P) (by decide +kernel) rfl (Nat.le_of_ble_eq_true rfl) (fun p e R s m args below meth c H0 Q ls C hret h hl => ?_)
  have C1 := C
  obtain ⟨hx, hb, hml, hown, hts, hK, hlv, hlo⟩ := C1
  have hl : lv_has ls 1 [(0, .ref (ad 2))] := hl
  unfold fP_addAny at hf
  refine lv_aload_n hx hb dP_addAny_0 rfl (lv_at hl 0 rfl) ?_
  refine lv_iconst (v := 0) hx hb dP_addAny_1 (by decide) ?_
  refine lv_iconst (v := (-1)) hx hb dP_addAny_2 (by decide) ?_
  refine lv_iconst (v := 0) hx hb dP_addAny_3 (by decide) ?_
  obtain ⟨v2, st1, hc, hf⟩ := ck_b_e hf
  refine ck_vi (As := [.int (0 : Int32), .int (-1 : Int32), .int (0 : Int32)]) (rest := []) (q := 2) C h hl CP_P_add sP_add q_P (cP_add l D cA ad hc) (Nat.le_of_ble_eq_true rfl) rfl rfl (Nat.le_of_ble_eq_true rfl) dP_addAny_4 (fun H locs h => ?_)
  exact ck_ri hf hret h dP_addAny_7
def fP_addNumber (x1 : Int32) (st : ck_S) : Option (Int32 × ck_S) := (ck_b (fP_add (0 : Int32) (0 : Int32) x1 st) fun v2 st1 => (some (v2, st1)))
set_option maxRecDepth 100000 in
set_option maxHeartbeats 4000000 in
theorem cP_addNumber (l : Launch) (D : va_G) (cA : Nat → ClassId) (ad : Nat → Nat) {x1 : Int32} {st : ck_S} {r0 : Int32} {st0 : ck_S} (hf : fP_addNumber x1 st = some (r0, st0)) : Met l yP_addNumber (.code yP_addNumber bP_addNumber 2 (some .int) :: ck_T) (ck_R 3) (va_Pc [.ref (ad 2), .int x1] (ck_P sh_C cm_cl D cA ad st)) (va_Qi (fun a u => a = r0 ∧ u = st0) (ck_P sh_C cm_cl D cA ad) (ck_A ad sh_C.length)) 0 0 (ck_A ad sh_C.length) := by
  refine ck_met_i (own := R_P) (by decide +kernel) rfl (Nat.le_of_ble_eq_true rfl) (fun p e R s m args below meth c H0 Q ls C hret h hl => ?_)
  have C1 := C
  obtain ⟨hx, hb, hml, hown, hts, hK, hlv, hlo⟩ := C1
  have hl : lv_has ls 2 [(0, .ref (ad 2)), (1, .int x1)] := hl
  unfold fP_addNumber at hf
  refine lv_aload_n hx hb dP_addNumber_0 rfl (lv_at hl 0 rfl) ?_
  refine lv_iconst (v := 0) hx hb dP_addNumber_1 (by decide) ?_
  refine lv_iconst (v := 0) hx hb dP_addNumber_2 (by decide) ?_
  refine lv_iload_n hx hb dP_addNumber_3 rfl (lv_at hl 1 rfl) ?_
  obtain ⟨v2, st1, hc, hf⟩ := ck_b_e hf
  refine ck_vi (As := [.int (0 : Int32), .int (0 : Int32), .int x1]) (rest := []) (q := 2) C h hl CP_P_add sP_add q_P (cP_add l D cA ad hc) (Nat.le_of_ble_eq_true rfl) rfl rfl (Nat.le_of_ble_eq_true rfl) dP_addNumber_4 (fun H locs h => ?_)
  exact ck_ri hf hret h dP_addNumber_7
def fP_depthOf (x1 : Int32) (st : ck_S) : Option (Int32 × ck_S) := (ck_b (fP_has x1 st) fun v2 st1 => (if v2 = 0 then (some ((0 : Int32), st1)) else (ck_gd x1 60 (some ((st1 15 (x1).toNatClampNeg), st1)))))
set_option maxRecDepth 100000 in
set_option maxHeartbeats 4000000 in
theorem cP_depthOf (l : Launch) (D : va_G) (cA : Nat → ClassId) (ad : Nat → Nat) {x1 : Int32} {st : ck_S} {r0 : Int32} {st0 : ck_S} (hf : fP_depthOf x1 st = some (r0, st0)) : Met l yP_depthOf (.code yP_depthOf bP_depthOf 2 (some .int) :: ck_T) (ck_R 1) (va_Pc [.ref (ad 2), .int x1] (ck_P sh_C cm_cl D cA ad st)) (va_Qi (fun a u => a = r0 ∧ u = st0) (ck_P sh_C cm_cl D cA ad) (ck_A ad sh_C.length)) 0 0 (ck_A ad sh_C.length) := by
  refine ck_met_i (own := R_P) (by decide +kernel) rfl (Nat.le_of_ble_eq_true rfl) (fun p e R s m args below meth c H0 Q ls C hret h hl => ?_)
  have C1 := C
  obtain ⟨hx, hb, hml, hown, hts, hK, hlv, hlo⟩ := C1
  have hl : lv_has ls 2 [(0, .ref (ad 2)), (1, .int x1)] := hl
  unfold fP_depthOf at hf
  refine lv_aload_n hx hb dP_depthOf_0 rfl (lv_at hl 0 rfl) ?_
  refine lv_iload_n hx hb dP_depthOf_1 rfl (lv_at hl 1 rfl) ?_
  obtain ⟨v2, st1, hc, hf⟩ := ck_b_e hf
  refine ck_vi (As := [.int x1]) (rest := []) (q := 2) C h hl CP_P_has sP_has q_P (cP_has l D cA ad hc) (Nat.le_of_ble_eq_true rfl) rfl rfl (Nat.le_of_ble_eq_true rfl) dP_depthOf_2 (fun H locs h => ?_)
  refine lv_if_eq (tgt := 17) hx hb dP_depthOf_5 rfl (fun hq => ?_) (fun hq => ?_)
  · have hf := ck_t hq hf
    refine lv_iconst (v := 0) hx hb dP_depthOf_17 (by decide) ?_
    exact ck_ri hf hret h dP_depthOf_18
  · have hf := ck_f hq hf
    refine lv_aload_n hx hb dP_depthOf_8 rfl (lv_at hl 0 rfl) ?_
    refine ck_gr C h FP_depth dP_depthOf_9 ?_
    refine lv_iload_n hx hb dP_depthOf_12 rfl (lv_at hl 1 rfl) ?_
    obtain ⟨hg, hf⟩ := ck_gd_e hf
    refine ck_ai (x := (st1 15 (x1).toNatClampNeg)) C h (show sh_C[15]? = some (.inr (0, 60)) from rfl) hg rfl dP_depthOf_13 ?_
    refine lv_goto (tgt := 18) hx hb dP_depthOf_14 rfl ?_
    exact ck_ri hf hret h dP_depthOf_18
def fP_choicesOf (x1 : Int32) (st : ck_S) : Option (Int32 × ck_S) := (ck_b (fP_has x1 st) fun v2 st1 => (if v2 = 0 then (some ((1 : Int32), st1)) else (ck_gd x1 60 (some ((ck_mxv (1 : Int32) (st1 16 (x1).toNatClampNeg)), st1)))))
set_option maxRecDepth 100000 in
set_option maxHeartbeats 4000000 in
theorem cP_choicesOf (l : Launch) (D : va_G) (cA : Nat → ClassId) (ad : Nat → Nat) {x1 : Int32} {st : ck_S} {r0 : Int32} {st0 : ck_S} (hf : fP_choicesOf x1 st = some (r0, st0)) : Met l yP_choicesOf (.code yP_choicesOf bP_choicesOf 2 (some .int) :: ck_T) (ck_R 1) (va_Pc [.ref (ad 2), .int x1] (ck_P sh_C cm_cl D cA ad st)) (va_Qi (fun a u => a = r0 ∧ u = st0) (ck_P sh_C cm_cl D cA ad) (ck_A ad sh_C.length)) 0 0 (ck_A ad sh_C.length) := by
  refine ck_met_i (own := R_P) (by decide +kernel) rfl (Nat.le_of_ble_eq_true rfl) (fun p e R s m args below meth c H0 Q ls C hret h hl => ?_)
  have C1 := C
  obtain ⟨hx, hb, hml, hown, hts, hK, hlv, hlo⟩ := C1
  have hl : lv_has ls 2 [(0, .ref (ad 2)), (1, .int x1)] := hl
  unfold fP_choicesOf at hf
  refine lv_aload_n hx hb dP_choicesOf_0 rfl (lv_at hl 0 rfl) ?_
  refine lv_iload_n hx hb dP_choicesOf_1 rfl (lv_at hl 1 rfl) ?_
  obtain ⟨v2, st1, hc, hf⟩ := ck_b_e hf
  refine ck_vi (As := [.int x1]) (rest := []) (q := 2) C h hl CP_P_has sP_has q_P (cP_has l D cA ad hc) (Nat.le_of_ble_eq_true rfl) rfl rfl (Nat.le_of_ble_eq_true rfl) dP_choicesOf_2 (fun H locs h => ?_)
  refine lv_if_eq (tgt := 21) hx hb dP_choicesOf_5 rfl (fun hq => ?_) (fun hq => ?_)
  · have hf := ck_t hq hf
    refine lv_iconst (v := 1) hx hb dP_choicesOf_21 (by decide) ?_
    exact ck_ri hf hret h dP_choicesOf_22
  · have hf := ck_f hq hf
    refine lv_iconst (v := 1) hx hb dP_choicesOf_8 (by decide) ?_
    refine lv_aload_n hx hb dP_choicesOf_9 rfl (lv_at hl 0 rfl) ?_
    refine ck_gr C h FP_alternatives dP_choicesOf_10 ?_
    refine lv_iload_n hx hb dP_choicesOf_13 rfl (lv_at hl 1 rfl) ?_
    obtain ⟨hg, hf⟩ := ck_gd_e hf
    refine ck_ai (x := (st1 16 (x1).toNatClampNeg)) C h (show sh_C[16]? = some (.inr (0, 60)) from rfl) hg rfl dP_choicesOf_14 ?_
    refine ck_mx C hl (ck_T_mk (List.mem_of_getElem? (i := 433) (by decide +kernel)) (by decide +kernel)) (Nat.le_of_ble_eq_true rfl) (Nat.le_of_ble_eq_true rfl) dP_choicesOf_15 ?_
    refine lv_goto (tgt := 22) hx hb dP_choicesOf_18 rfl ?_
    exact ck_ri hf hret h dP_choicesOf_22
def fP_addBuild (x1 : Int32) (x2 : Int32) (x3 : Int32) (x4 : Int32) (st : ck_S) : Option (Int32 × ck_S) := (ck_b (fP_depthOf x3 st) fun v2 st1 => (ck_b (fP_depthOf x4 st1) fun v4 st3 => (if ((1 : Int32) + (ck_mxv v2 v4)) ≤ (4 : Int32) then (ck_b (fP_choicesOf x3 st3) fun v6 st5 => (ck_b (fP_choicesOf x4 st5) fun v8 st7 => (if (v6 * v8) ≤ (8 : Int32) then (ck_b (fP_add (0 : Int32) x2 x1 st7) fun v10 st9 => (ck_b (fP_withParts v10 x3 x4 ((1 : Int32) + (ck_mxv v2 v4)) (v6 * v8) st9) fun v12 st11 => (some (v12, st11)))) else (some ((-10 : Int32), st7))))) else (some ((-9 : Int32), st3)))))
set_option maxRecDepth 100000 in
set_option maxHeartbeats 4000000 in
theorem cP_addBuild (l : Launch) (D : va_G) (cA : Nat → ClassId) (ad : Nat → Nat) {x1 : Int32} {x2 : Int32} {x3 : Int32} {x4 : Int32} {st : ck_S} {r0 : Int32} {st0 : ck_S} (hf : fP_addBuild x1 x2 x3 x4 st = some (r0, st0)) : Met l yP_addBuild (.code yP_addBuild bP_addBuild 7 (some .int) :: ck_T) (ck_R 3) (va_Pc [.ref (ad 2), .int x1, .int x2, .int x3, .int x4] (ck_P sh_C cm_cl D cA ad st)) (va_Qi (fun a u => a = r0 ∧ u = st0) (ck_P sh_C cm_cl D cA ad) (ck_A ad sh_C.length)) 0 0 (ck_A ad sh_C.length) := by
  refine ck_met_i (own := R_P) (by decide +kernel) rfl (Nat.le_of_ble_eq_true rfl) (fun p e R s m args below meth c H0 Q ls C hret h hl => ?_)
  have C1 := C
  obtain ⟨hx, hb, hml, hown, hts, hK, hlv, hlo⟩ := C1
  have hl : lv_has ls 7 [(0, .ref (ad 2)), (1, .int x1), (2, .int x2), (3, .int x3), (4, .int x4)] := hl
  unfold fP_addBuild at hf
  refine lv_iconst (v := 1) hx hb dP_addBuild_0 (by decide) ?_
  refine lv_aload_n hx hb dP_addBuild_1 rfl (lv_at hl 0 rfl) ?_
  refine lv_iload_n hx hb dP_addBuild_2 rfl (lv_at hl 3 rfl) ?_
  obtain ⟨v2, st1, hc, hf⟩ := ck_b_e hf
  refine ck_vi (As := [.int x3]) (rest := [.int (1 : Int32)]) (q := 2) C h hl CP_P_depthOf sP_depthOf q_P (cP_depthOf l D cA ad hc) (Nat.le_of_ble_eq_true rfl) rfl rfl (Nat.le_of_ble_eq_true rfl) dP_addBuild_3 (fun H locs h => ?_)
  refine lv_aload_n hx hb dP_addBuild_6 rfl (lv_at hl 0 rfl) ?_
  refine lv_iload hx hb dP_addBuild_7 (lv_at hl 4 rfl) ?_
  obtain ⟨v4, st3, hc, hf⟩ := ck_b_e hf
  refine ck_vi (As := [.int x4]) (rest := [.int v2, .int (1 : Int32)]) (q := 2) C h hl CP_P_depthOf sP_depthOf q_P (cP_depthOf l D cA ad hc) (Nat.le_of_ble_eq_true rfl) rfl rfl (Nat.le_of_ble_eq_true rfl) dP_addBuild_9 (fun H locs h => ?_)
  refine ck_mx C hl (ck_T_mk (List.mem_of_getElem? (i := 433) (by decide +kernel)) (by decide +kernel)) (Nat.le_of_ble_eq_true rfl) (Nat.le_of_ble_eq_true rfl) dP_addBuild_12 ?_
  refine lv_iadd hx hb dP_addBuild_15 ?_
  refine lv_istore (lv' := [(5, .int ((1 : Int32) + (ck_mxv v2 v4))), (0, .ref (ad 2)), (1, .int x1), (2, .int x2), (3, .int x3), (4, .int x4)]) hx hb dP_addBuild_16 hl (by decide) rfl (fun ls hl => ?_)
  refine lv_iload hx hb dP_addBuild_18 (lv_at hl 0 rfl) ?_
  refine lv_iconst (v := 4) hx hb dP_addBuild_20 (by decide) ?_
  refine lv_icmp_le (tgt := 27) hx hb dP_addBuild_21 rfl (fun hq => ?_) (fun hq => ?_)
  · have hf := ck_t hq hf
    refine lv_aload_n hx hb dP_addBuild_27 rfl (lv_at hl 1 rfl) ?_
    refine lv_iload_n hx hb dP_addBuild_28 rfl (lv_at hl 4 rfl) ?_
    obtain ⟨v6, st5, hc, hf⟩ := ck_b_e hf
    refine ck_vi (As := [.int x3]) (rest := []) (q := 2) C h hl CP_P_choicesOf sP_choicesOf q_P (cP_choicesOf l D cA ad hc) (Nat.le_of_ble_eq_true rfl) rfl rfl (Nat.le_of_ble_eq_true rfl) dP_addBuild_29 (fun H locs h => ?_)
    refine lv_aload_n hx hb dP_addBuild_32 rfl (lv_at hl 1 rfl) ?_
    refine lv_iload hx hb dP_addBuild_33 (lv_at hl 5 rfl) ?_
    obtain ⟨v8, st7, hc, hf⟩ := ck_b_e hf
    refine ck_vi (As := [.int x4]) (rest := [.int v6]) (q := 2) C h hl CP_P_choicesOf sP_choicesOf q_P (cP_choicesOf l D cA ad hc) (Nat.le_of_ble_eq_true rfl) rfl rfl (Nat.le_of_ble_eq_true rfl) dP_addBuild_35 (fun H locs h => ?_)
    refine lv_imul hx hb dP_addBuild_38 ?_
    refine lv_istore (lv' := [(6, .int (v6 * v8)), (5, .int ((1 : Int32) + (ck_mxv v2 v4))), (0, .ref (ad 2)), (1, .int x1), (2, .int x2), (3, .int x3), (4, .int x4)]) hx hb dP_addBuild_39 hl (by decide) rfl (fun ls hl => ?_)
    refine lv_iload hx hb dP_addBuild_41 (lv_at hl 0 rfl) ?_
    refine lv_bipush (v := 8) hx hb dP_addBuild_43 (by decide) ?_
    refine lv_icmp_le (tgt := 51) hx hb dP_addBuild_45 rfl (fun hq => ?_) (fun hq => ?_)
    · have hf := ck_t hq hf
      refine lv_aload_n hx hb dP_addBuild_51 rfl (lv_at hl 2 rfl) ?_
      refine lv_aload_n hx hb dP_addBuild_52 rfl (lv_at hl 2 rfl) ?_
      refine lv_iconst (v := 0) hx hb dP_addBuild_53 (by decide) ?_
      refine lv_iload_n hx hb dP_addBuild_54 rfl (lv_at hl 4 rfl) ?_
      refine lv_iload_n hx hb dP_addBuild_55 rfl (lv_at hl 3 rfl) ?_
      obtain ⟨v10, st9, hc, hf⟩ := ck_b_e hf
      refine ck_vi (As := [.int (0 : Int32), .int x2, .int x1]) (rest := [.ref (ad 2)]) (q := 2) C h hl CP_P_add sP_add q_P (cP_add l D cA ad hc) (Nat.le_of_ble_eq_true rfl) rfl rfl (Nat.le_of_ble_eq_true rfl) dP_addBuild_56 (fun H locs h => ?_)
      refine lv_iload_n hx hb dP_addBuild_59 rfl (lv_at hl 5 rfl) ?_
      refine lv_iload hx hb dP_addBuild_60 (lv_at hl 6 rfl) ?_
      refine lv_iload hx hb dP_addBuild_62 (lv_at hl 1 rfl) ?_
      refine lv_iload hx hb dP_addBuild_64 (lv_at hl 0 rfl) ?_
      obtain ⟨v12, st11, hc, hf⟩ := ck_b_e hf
      refine ck_vi (As := [.int v10, .int x3, .int x4, .int ((1 : Int32) + (ck_mxv v2 v4)), .int (v6 * v8)]) (rest := []) (q := 2) C h hl CP_P_withParts sP_withParts q_P (cP_withParts l D cA ad hc) (Nat.le_of_ble_eq_true rfl) rfl rfl (Nat.le_of_ble_eq_true rfl) dP_addBuild_66 (fun H locs h => ?_)
      exact ck_ri hf hret h dP_addBuild_69
    · have hf := ck_f hq hf
      refine lv_bipush (v := (-10)) hx hb dP_addBuild_48 (by decide) ?_
      exact ck_ri hf hret h dP_addBuild_50
  · have hf := ck_f hq hf
    refine lv_bipush (v := (-9)) hx hb dP_addBuild_24 (by decide) ?_
    exact ck_ri hf hret h dP_addBuild_26
def fP_isOpen (x1 : Int32) (st : ck_S) : Option (Int32 × ck_S) := (ck_b (fP_has x1 st) fun v2 st1 => (if v2 = 0 then (some ((0 : Int32), st1)) else (ck_gd x1 60 (if (st1 11 (x1).toNatClampNeg) = (-1 : Int32) then (some ((1 : Int32), st1)) else (some ((0 : Int32), st1))))))
set_option maxRecDepth 100000 in
set_option maxHeartbeats 4000000 in
theorem cP_isOpen (l : Launch) (D : va_G) (cA : Nat → ClassId) (ad : Nat → Nat) {x1 : Int32} {st : ck_S} {r0 : Int32} {st0 : ck_S} (hf : fP_isOpen x1 st = some (r0, st0)) : Met l yP_isOpen (.code yP_isOpen bP_isOpen 2 (some .boolean) :: ck_T) (ck_R 1) (va_Pc [.ref (ad 2), .int x1] (ck_P sh_C cm_cl D cA ad st)) (va_Qi (fun a u => a = r0 ∧ u = st0) (ck_P sh_C cm_cl D cA ad) (ck_A ad sh_C.length)) 0 0 (ck_A ad sh_C.length) := by
  refine ck_met_z (own := R_P) (by decide +kernel) rfl (Nat.le_of_ble_eq_true rfl) (fun p e R s m args below meth c H0 Q ls C hret h hl => ?_)
  have C1 := C
  obtain ⟨hx, hb, hml, hown, hts, hK, hlv, hlo⟩ := C1
  have hl : lv_has ls 2 [(0, .ref (ad 2)), (1, .int x1)] := hl
  unfold fP_isOpen at hf
  refine lv_aload_n hx hb dP_isOpen_0 rfl (lv_at hl 0 rfl) ?_
  refine lv_iload_n hx hb dP_isOpen_1 rfl (lv_at hl 1 rfl) ?_
  obtain ⟨v2, st1, hc, hf⟩ := ck_b_e hf
  refine ck_vi (As := [.int x1]) (rest := []) (q := 2) C h hl CP_P_has sP_has q_P (cP_has l D cA ad hc) (Nat.le_of_ble_eq_true rfl) rfl rfl (Nat.le_of_ble_eq_true rfl) dP_isOpen_2 (fun H locs h => ?_)
  refine lv_if_eq (tgt := 22) hx hb dP_isOpen_5 rfl (fun hq => ?_) (fun hq => ?_)
  · have hf := ck_t hq hf
    refine lv_iconst (v := 0) hx hb dP_isOpen_22 (by decide) ?_
    exact ck_rz hf hret ck_z0 h dP_isOpen_23
  · have hf := ck_f hq hf
    refine lv_aload_n hx hb dP_isOpen_8 rfl (lv_at hl 0 rfl) ?_
    refine ck_gr C h FP_typeOf dP_isOpen_9 ?_
    refine lv_iload_n hx hb dP_isOpen_12 rfl (lv_at hl 1 rfl) ?_
    obtain ⟨hg, hf⟩ := ck_gd_e hf
    refine ck_ai (x := (st1 11 (x1).toNatClampNeg)) C h (show sh_C[11]? = some (.inr (0, 60)) from rfl) hg rfl dP_isOpen_13 ?_
    refine lv_iconst (v := (-1)) hx hb dP_isOpen_14 (by decide) ?_
    refine lv_icmp_ne (tgt := 22) hx hb dP_isOpen_15 rfl (fun hq => ?_) (fun hq => ?_)
    · have hf := ck_f hq hf
      refine lv_iconst (v := 0) hx hb dP_isOpen_22 (by decide) ?_
      exact ck_rz hf hret ck_z0 h dP_isOpen_23
    · have hf := ck_t hq hf
      refine lv_iconst (v := 1) hx hb dP_isOpen_18 (by decide) ?_
      refine lv_goto (tgt := 23) hx hb dP_isOpen_19 rfl ?_
      exact ck_rz hf hret ck_z1 h dP_isOpen_23
def fP_addEither_b44 (y0 : Int32) (x1 : Int32) (x2 : Int32) (x3 : Int32) (st : ck_S) : Option (Int32 × ck_S) := (ck_b (fP_depthOf x1 st) fun v2 st1 => (ck_b (fP_depthOf x2 st1) fun v4 st3 => (ck_b (fP_add (1 : Int32) y0 (0 : Int32) st3) fun v6 st5 => (ck_b (fP_withParts v6 x1 x2 (ck_mxv v2 v4) x3 st5) fun v8 st7 => (some (v8, st7))))))
set_option maxRecDepth 100000 in
set_option maxHeartbeats 4000000 in
theorem BP_addEither_44 (C : ck_X cm_cl D cA bP_addEither 6 R_P 3 p R s m args c) {r0 : Int32} {st0 : ck_S} (hret : ∀ (pc : Nat) (H : Heap) (locs : List Loc) (ls : Array Slot), decode bP_addEither pc = .ok (.ireturn, 1) → ck_AT sh_C cm_cl D cA ad H0 st0 H locs → W p l e R s m args below meth c H locs 0 0 Q (F0 m pc ls [.int r0])) (y0 : Int32) (x1 : Int32) (x2 : Int32) (x3 : Int32) (st : ck_S) (H : Heap) (locs : List Loc) (ls : Array Slot) (h : ck_AT sh_C cm_cl D cA ad H0 st H locs) (hl : lv_has ls 6 [(0, .ref (ad 2)), (1, .int x1), (2, .int x2), (3, .int x3)]) (hf : fP_addEither_b44 y0 x1 x2 x3 st = some (r0, st0)) : W p l e R s m args below meth c H locs 0 0 Q (F0 m 44 ls [.int y0]) := by
  have C1 := C
  obtain ⟨hx, hb, hml, hown, hts, hK, hlv, hlo⟩ := C1
  unfold fP_addEither_b44 at hf
  refine lv_istore (lv' := [(4, .int y0), (0, .ref (ad 2)), (1, .int x1), (2, .int x2), (3, .int x3)]) hx hb dP_addEither_44 hl (by decide) rfl (fun ls hl => ?_)
  refine lv_aload_n hx hb dP_addEither_46 rfl (lv_at hl 1 rfl) ?_
  refine lv_iload_n hx hb dP_addEither_47 rfl (lv_at hl 2 rfl) ?_
  obtain ⟨v2, st1, hc, hf⟩ := ck_b_e hf
  refine ck_vi (As := [.int x1]) (rest := []) (q := 2) C h hl CP_P_depthOf sP_depthOf q_P (cP_depthOf l D cA ad hc) (Nat.le_of_ble_eq_true rfl) rfl rfl (Nat.le_of_ble_eq_true rfl) dP_addEither_48 (fun H locs h => ?_)
  refine lv_aload_n hx hb dP_addEither_51 rfl (lv_at hl 1 rfl) ?_
  refine lv_iload_n hx hb dP_addEither_52 rfl (lv_at hl 3 rfl) ?_
  obtain ⟨v4, st3, hc, hf⟩ := ck_b_e hf
  refine ck_vi (As := [.int x2]) (rest := [.int v2]) (q := 2) C h hl CP_P_depthOf sP_depthOf q_P (cP_depthOf l D cA ad hc) (Nat.le_of_ble_eq_true rfl) rfl rfl (Nat.le_of_ble_eq_true rfl) dP_addEither_53 (fun H locs h => ?_)
  refine ck_mx C hl (ck_T_mk (List.mem_of_getElem? (i := 433) (by decide +kernel)) (by decide +kernel)) (Nat.le_of_ble_eq_true rfl) (Nat.le_of_ble_eq_true rfl) dP_addEither_56 ?_
  refine lv_istore (lv' := [(5, .int (ck_mxv v2 v4)), (4, .int y0), (0, .ref (ad 2)), (1, .int x1), (2, .int x2), (3, .int x3)]) hx hb dP_addEither_59 hl (by decide) rfl (fun ls hl => ?_)
  refine lv_aload_n hx hb dP_addEither_61 rfl (lv_at hl 2 rfl) ?_
  refine lv_aload_n hx hb dP_addEither_62 rfl (lv_at hl 2 rfl) ?_
  refine lv_iconst (v := 1) hx hb dP_addEither_63 (by decide) ?_
  refine lv_iload hx hb dP_addEither_64 (lv_at hl 1 rfl) ?_
  refine lv_iconst (v := 0) hx hb dP_addEither_66 (by decide) ?_
  obtain ⟨v6, st5, hc, hf⟩ := ck_b_e hf
  refine ck_vi (As := [.int (1 : Int32), .int y0, .int (0 : Int32)]) (rest := [.ref (ad 2)]) (q := 2) C h hl CP_P_add sP_add q_P (cP_add l D cA ad hc) (Nat.le_of_ble_eq_true rfl) rfl rfl (Nat.le_of_ble_eq_true rfl) dP_addEither_67 (fun H locs h => ?_)
  refine lv_iload_n hx hb dP_addEither_70 rfl (lv_at hl 3 rfl) ?_
  refine lv_iload_n hx hb dP_addEither_71 rfl (lv_at hl 4 rfl) ?_
  refine lv_iload hx hb dP_addEither_72 (lv_at hl 0 rfl) ?_
  refine lv_iload_n hx hb dP_addEither_74 rfl (lv_at hl 5 rfl) ?_
  obtain ⟨v8, st7, hc, hf⟩ := ck_b_e hf
  refine ck_vi (As := [.int v6, .int x1, .int x2, .int (ck_mxv v2 v4), .int x3]) (rest := []) (q := 2) C h hl CP_P_withParts sP_withParts q_P (cP_withParts l D cA ad hc) (Nat.le_of_ble_eq_true rfl) rfl rfl (Nat.le_of_ble_eq_true rfl) dP_addEither_75 (fun H locs h => ?_)
  exact ck_ri hf hret h dP_addEither_78
def fP_addEither (x1 : Int32) (x2 : Int32) (st : ck_S) : Option (Int32 × ck_S) := (ck_b (fP_choicesOf x1 st) fun v2 st1 => (ck_b (fP_choicesOf x2 st1) fun v4 st3 => (if (v2 + v4) ≤ (8 : Int32) then (ck_b (fP_isOpen x1 st3) fun v6 st5 => (if v6 = 0 then (ck_gd x1 60 (fP_addEither_b44 (st5 11 (x1).toNatClampNeg) x1 x2 (v2 + v4) st5)) else (ck_gd x2 60 (fP_addEither_b44 (st5 11 (x2).toNatClampNeg) x1 x2 (v2 + v4) st5)))) else (some ((-10 : Int32), st3)))))
set_option maxRecDepth 100000 in
set_option maxHeartbeats 4000000 in
theorem cP_addEither (l : Launch) (D : va_G) (cA : Nat → ClassId) (ad : Nat → Nat) {x1 : Int32} {x2 : Int32} {st : ck_S} {r0 : Int32} {st0 : ck_S} (hf : fP_addEither x1 x2 st = some (r0, st0)) : Met l yP_addEither (.code yP_addEither bP_addEither 6 (some .int) :: ck_T) (ck_R 3) (va_Pc [.ref (ad 2), .int x1, .int x2] (ck_P sh_C cm_cl D cA ad st)) (va_Qi (fun a u => a = r0 ∧ u = st0) (ck_P sh_C cm_cl D cA ad) (ck_A ad sh_C.length)) 0 0 (ck_A ad sh_C.length) := by
  refine ck_met_i (own := R_P) (by decide +kernel) rfl (Nat.le_of_ble_eq_true rfl) (fun p e R s m args below meth c H0 Q ls C hret h hl => ?_)
  have C1 := C
  obtain ⟨hx, hb, hml, hown, hts, hK, hlv, hlo⟩ := C1
  have hl : lv_has ls 6 [(0, .ref (ad 2)), (1, .int x1), (2, .int x2)] := hl
  unfold fP_addEither at hf
  refine lv_aload_n hx hb dP_addEither_0 rfl (lv_at hl 0 rfl) ?_
  refine lv_iload_n hx hb dP_addEither_1 rfl (lv_at hl 1 rfl) ?_
  obtain ⟨v2, st1, hc, hf⟩ := ck_b_e hf
  refine ck_vi (As := [.int x1]) (rest := []) (q := 2) C h hl CP_P_choicesOf sP_choicesOf q_P (cP_choicesOf l D cA ad hc) (Nat.le_of_ble_eq_true rfl) rfl rfl (Nat.le_of_ble_eq_true rfl) dP_addEither_2 (fun H locs h => ?_)
  refine lv_aload_n hx hb dP_addEither_5 rfl (lv_at hl 0 rfl) ?_
  refine lv_iload_n hx hb dP_addEither_6 rfl (lv_at hl 2 rfl) ?_
  obtain ⟨v4, st3, hc, hf⟩ := ck_b_e hf
  refine ck_vi (As := [.int x2]) (rest := [.int v2]) (q := 2) C h hl CP_P_choicesOf sP_choicesOf q_P (cP_choicesOf l D cA ad hc) (Nat.le_of_ble_eq_true rfl) rfl rfl (Nat.le_of_ble_eq_true rfl) dP_addEither_7 (fun H locs h => ?_)
  refine lv_iadd hx hb dP_addEither_10 ?_
  refine lv_istore_n (lv' := [(3, .int (v2 + v4)), (0, .ref (ad 2)), (1, .int x1), (2, .int x2)]) hx hb dP_addEither_11 rfl hl (by decide) rfl (fun ls hl => ?_)
  refine lv_iload_n hx hb dP_addEither_12 rfl (lv_at hl 0 rfl) ?_
  refine lv_bipush (v := 8) hx hb dP_addEither_13 (by decide) ?_
  refine lv_icmp_le (tgt := 21) hx hb dP_addEither_15 rfl (fun hq => ?_) (fun hq => ?_)
  · have hf := ck_t hq hf
    refine lv_aload_n hx hb dP_addEither_21 rfl (lv_at hl 1 rfl) ?_
    refine lv_iload_n hx hb dP_addEither_22 rfl (lv_at hl 2 rfl) ?_
    obtain ⟨v6, st5, hc, hf⟩ := ck_b_e hf
    refine ck_vi (As := [.int x1]) (rest := []) (q := 2) C h hl CP_P_isOpen sP_isOpen q_P (cP_isOpen l D cA ad hc) (Nat.le_of_ble_eq_true rfl) rfl rfl (Nat.le_of_ble_eq_true rfl) dP_addEither_23 (fun H locs h => ?_)
    refine lv_if_eq (tgt := 38) hx hb dP_addEither_26 rfl (fun hq => ?_) (fun hq => ?_)
    · have hf := ck_t hq hf
      refine lv_aload_n hx hb dP_addEither_38 rfl (lv_at hl 1 rfl) ?_
      refine ck_gr C h FP_typeOf dP_addEither_39 ?_
      refine lv_iload_n hx hb dP_addEither_42 rfl (lv_at hl 2 rfl) ?_
      obtain ⟨hg, hf⟩ := ck_gd_e hf
      refine ck_ai (x := (st5 11 (x1).toNatClampNeg)) C h (show sh_C[11]? = some (.inr (0, 60)) from rfl) hg rfl dP_addEither_43 ?_
      exact BP_addEither_44 C hret _ _ _ _ _ _ _ _ h (lv_sub hl [1, 2, 3, 0] rfl) hf
    · have hf := ck_f hq hf
      refine lv_aload_n hx hb dP_addEither_29 rfl (lv_at hl 1 rfl) ?_
      refine ck_gr C h FP_typeOf dP_addEither_30 ?_
      refine lv_iload_n hx hb dP_addEither_33 rfl (lv_at hl 3 rfl) ?_
      obtain ⟨hg, hf⟩ := ck_gd_e hf
      refine ck_ai (x := (st5 11 (x2).toNatClampNeg)) C h (show sh_C[11]? = some (.inr (0, 60)) from rfl) hg rfl dP_addEither_34 ?_
      refine lv_goto (tgt := 44) hx hb dP_addEither_35 rfl ?_
      exact BP_addEither_44 C hret _ _ _ _ _ _ _ _ h (lv_sub hl [1, 2, 3, 0] rfl) hf
  · have hf := ck_f hq hf
    refine lv_bipush (v := (-10)) hx hb dP_addEither_18 (by decide) ?_
    exact ck_ri hf hret h dP_addEither_20
def fP_fits (x1 : Int32) (x2 : Int32) (st : ck_S) : Option (Int32 × ck_S) := (ck_b (fP_has x1 st) fun v2 st1 => (if v2 = 0 then (if x2 = (-1 : Int32) then (some ((1 : Int32), st1)) else (some ((0 : Int32), st1))) else (ck_b (fP_isOpen x1 st1) fun v4 st3 => (if v4 = 0 then (ck_gd x1 60 (if (st3 11 (x1).toNatClampNeg) = x2 then (some ((1 : Int32), st3)) else (some ((0 : Int32), st3)))) else (some ((1 : Int32), st3))))))
set_option maxRecDepth 100000 in
set_option maxHeartbeats 4000000 in
theorem cP_fits (l : Launch) (D : va_G) (cA : Nat → ClassId) (ad : Nat → Nat) {x1 : Int32} {x2 : Int32} {st : ck_S} {r0 : Int32} {st0 : ck_S} (hf : fP_fits x1 x2 st = some (r0, st0)) : Met l yP_fits (.code yP_fits bP_fits 3 (some .boolean) :: ck_T) (ck_R 2) (va_Pc [.ref (ad 2), .int x1, .int x2] (ck_P sh_C cm_cl D cA ad st)) (va_Qi (fun a u => a = r0 ∧ u = st0) (ck_P sh_C cm_cl D cA ad) (ck_A ad sh_C.length)) 0 0 (ck_A ad sh_C.length) := by
  refine ck_met_z (own := R_P) (by decide +kernel) rfl (Nat.le_of_ble_eq_true rfl) (fun p e R s m args below meth c H0 Q ls C hret h hl => ?_)
  have C1 := C
  obtain ⟨hx, hb, hml, hown, hts, hK, hlv, hlo⟩ := C1
  have hl : lv_has ls 3 [(0, .ref (ad 2)), (1, .int x1), (2, .int x2)] := hl
  unfold fP_fits at hf
  refine lv_aload_n hx hb dP_fits_0 rfl (lv_at hl 0 rfl) ?_
  refine lv_iload_n hx hb dP_fits_1 rfl (lv_at hl 1 rfl) ?_
  obtain ⟨v2, st1, hc, hf⟩ := ck_b_e hf
  refine ck_vi (As := [.int x1]) (rest := []) (q := 2) C h hl CP_P_has sP_has q_P (cP_has l D cA ad hc) (Nat.le_of_ble_eq_true rfl) rfl rfl (Nat.le_of_ble_eq_true rfl) dP_fits_2 (fun H locs h => ?_)
  refine lv_if_eq (tgt := 34) hx hb dP_fits_5 rfl (fun hq => ?_) (fun hq => ?_)
  · have hf := ck_t hq hf
    refine lv_iload_n hx hb dP_fits_34 rfl (lv_at hl 2 rfl) ?_
    refine lv_iconst (v := (-1)) hx hb dP_fits_35 (by decide) ?_
    refine lv_icmp_ne (tgt := 43) hx hb dP_fits_36 rfl (fun hq => ?_) (fun hq => ?_)
    · have hf := ck_f hq hf
      refine lv_iconst (v := 0) hx hb dP_fits_43 (by decide) ?_
      exact ck_rz hf hret ck_z0 h dP_fits_44
    · have hf := ck_t hq hf
      refine lv_iconst (v := 1) hx hb dP_fits_39 (by decide) ?_
      refine lv_goto (tgt := 44) hx hb dP_fits_40 rfl ?_
      exact ck_rz hf hret ck_z1 h dP_fits_44
  · have hf := ck_f hq hf
    refine lv_aload_n hx hb dP_fits_8 rfl (lv_at hl 0 rfl) ?_
    refine lv_iload_n hx hb dP_fits_9 rfl (lv_at hl 1 rfl) ?_
    obtain ⟨v4, st3, hc, hf⟩ := ck_b_e hf
    refine ck_vi (As := [.int x1]) (rest := []) (q := 2) C h hl CP_P_isOpen sP_isOpen q_P (cP_isOpen l D cA ad hc) (Nat.le_of_ble_eq_true rfl) rfl rfl (Nat.le_of_ble_eq_true rfl) dP_fits_10 (fun H locs h => ?_)
    refine lv_if_ne (tgt := 26) hx hb dP_fits_13 rfl (fun hq => ?_) (fun hq => ?_)
    · have hf := ck_f hq hf
      refine lv_iconst (v := 1) hx hb dP_fits_26 (by decide) ?_
      refine lv_goto (tgt := 44) hx hb dP_fits_27 rfl ?_
      exact ck_rz hf hret ck_z1 h dP_fits_44
    · have hf := ck_t hq hf
      refine lv_aload_n hx hb dP_fits_16 rfl (lv_at hl 0 rfl) ?_
      refine ck_gr C h FP_typeOf dP_fits_17 ?_
      refine lv_iload_n hx hb dP_fits_20 rfl (lv_at hl 1 rfl) ?_
      obtain ⟨hg, hf⟩ := ck_gd_e hf
      refine ck_ai (x := (st3 11 (x1).toNatClampNeg)) C h (show sh_C[11]? = some (.inr (0, 60)) from rfl) hg rfl dP_fits_21 ?_
      refine lv_iload_n hx hb dP_fits_22 rfl (lv_at hl 2 rfl) ?_
      refine lv_icmp_ne (tgt := 30) hx hb dP_fits_23 rfl (fun hq => ?_) (fun hq => ?_)
      · have hf := ck_f hq hf
        refine lv_iconst (v := 0) hx hb dP_fits_30 (by decide) ?_
        refine lv_goto (tgt := 44) hx hb dP_fits_31 rfl ?_
        exact ck_rz hf hret ck_z0 h dP_fits_44
      · have hf := ck_t hq hf
        refine lv_iconst (v := 1) hx hb dP_fits_26 (by decide) ?_
        refine lv_goto (tgt := 44) hx hb dP_fits_27 rfl ?_
        exact ck_rz hf hret ck_z1 h dP_fits_44
def fP_agree (x1 : Int32) (x2 : Int32) (st : ck_S) : Option (Int32 × ck_S) := (ck_b (fP_isOpen x2 st) fun v2 st1 => (if v2 = 0 then (ck_b (fP_has x2 st1) fun v4 st3 => (if v4 = 0 then (some ((0 : Int32), st3)) else (ck_gd x2 60 (ck_b (fP_fits x1 (st3 11 (x2).toNatClampNeg) st3) fun v6 st5 => (if v6 = 0 then (some ((0 : Int32), st5)) else (some ((1 : Int32), st5))))))) else (some ((1 : Int32), st1))))
set_option maxRecDepth 100000 in
set_option maxHeartbeats 4000000 in
theorem cP_agree (l : Launch) (D : va_G) (cA : Nat → ClassId) (ad : Nat → Nat) {x1 : Int32} {x2 : Int32} {st : ck_S} {r0 : Int32} {st0 : ck_S} (hf : fP_agree x1 x2 st = some (r0, st0)) : Met l yP_agree (.code yP_agree bP_agree 3 (some .boolean) :: ck_T) (ck_R 3) (va_Pc [.ref (ad 2), .int x1, .int x2] (ck_P sh_C cm_cl D cA ad st)) (va_Qi (fun a u => a = r0 ∧ u = st0) (ck_P sh_C cm_cl D cA ad) (ck_A ad sh_C.length)) 0 0 (ck_A ad sh_C.length) := by
  refine ck_met_z (own := R_P) (by decide +kernel) rfl (Nat.le_of_ble_eq_true rfl) (fun p e R s m args below meth c H0 Q ls C hret h hl => ?_)
  have C1 := C
  obtain ⟨hx, hb, hml, hown, hts, hK, hlv, hlo⟩ := C1
  have hl : lv_has ls 3 [(0, .ref (ad 2)), (1, .int x1), (2, .int x2)] := hl
  unfold fP_agree at hf
  refine lv_aload_n hx hb dP_agree_0 rfl (lv_at hl 0 rfl) ?_
  refine lv_iload_n hx hb dP_agree_1 rfl (lv_at hl 2 rfl) ?_
  obtain ⟨v2, st1, hc, hf⟩ := ck_b_e hf
  refine ck_vi (As := [.int x2]) (rest := []) (q := 2) C h hl CP_P_isOpen sP_isOpen q_P (cP_isOpen l D cA ad hc) (Nat.le_of_ble_eq_true rfl) rfl rfl (Nat.le_of_ble_eq_true rfl) dP_agree_2 (fun H locs h => ?_)
  refine lv_if_ne (tgt := 30) hx hb dP_agree_5 rfl (fun hq => ?_) (fun hq => ?_)
  · have hf := ck_f hq hf
    refine lv_iconst (v := 1) hx hb dP_agree_30 (by decide) ?_
    refine lv_goto (tgt := 35) hx hb dP_agree_31 rfl ?_
    exact ck_rz hf hret ck_z1 h dP_agree_35
  · have hf := ck_t hq hf
    refine lv_aload_n hx hb dP_agree_8 rfl (lv_at hl 0 rfl) ?_
    refine lv_iload_n hx hb dP_agree_9 rfl (lv_at hl 2 rfl) ?_
    obtain ⟨v4, st3, hc, hf⟩ := ck_b_e hf
    refine ck_vi (As := [.int x2]) (rest := []) (q := 2) C h hl CP_P_has sP_has q_P (cP_has l D cA ad hc) (Nat.le_of_ble_eq_true rfl) rfl rfl (Nat.le_of_ble_eq_true rfl) dP_agree_10 (fun H locs h => ?_)
    refine lv_if_eq (tgt := 34) hx hb dP_agree_13 rfl (fun hq => ?_) (fun hq => ?_)
    · have hf := ck_t hq hf
      refine lv_iconst (v := 0) hx hb dP_agree_34 (by decide) ?_
      exact ck_rz hf hret ck_z0 h dP_agree_35
    · have hf := ck_f hq hf
      refine lv_aload_n hx hb dP_agree_16 rfl (lv_at hl 0 rfl) ?_
      refine lv_iload_n hx hb dP_agree_17 rfl (lv_at hl 1 rfl) ?_
      refine lv_aload_n hx hb dP_agree_18 rfl (lv_at hl 0 rfl) ?_
      refine ck_gr C h FP_typeOf dP_agree_19 ?_
      refine lv_iload_n hx hb dP_agree_22 rfl (lv_at hl 2 rfl) ?_
      obtain ⟨hg, hf⟩ := ck_gd_e hf
      refine ck_ai (x := (st3 11 (x2).toNatClampNeg)) C h (show sh_C[11]? = some (.inr (0, 60)) from rfl) hg rfl dP_agree_23 ?_
      obtain ⟨v6, st5, hc, hf⟩ := ck_b_e hf
      refine ck_vi (As := [.int x1, .int (st3 11 (x2).toNatClampNeg)]) (rest := []) (q := 2) C h hl CP_P_fits sP_fits q_P (cP_fits l D cA ad hc) (Nat.le_of_ble_eq_true rfl) rfl rfl (Nat.le_of_ble_eq_true rfl) dP_agree_24 (fun H locs h => ?_)
      refine lv_if_eq (tgt := 34) hx hb dP_agree_27 rfl (fun hq => ?_) (fun hq => ?_)
      · have hf := ck_t hq hf
        refine lv_iconst (v := 0) hx hb dP_agree_34 (by decide) ?_
        exact ck_rz hf hret ck_z0 h dP_agree_35
      · have hf := ck_f hq hf
        refine lv_iconst (v := 1) hx hb dP_agree_30 (by decide) ?_
        refine lv_goto (tgt := 35) hx hb dP_agree_31 rfl ?_
        exact ck_rz hf hret ck_z1 h dP_agree_35
def fP_isEither (x1 : Int32) (st : ck_S) : Option (Int32 × ck_S) := (ck_b (fP_has x1 st) fun v2 st1 => (if v2 = 0 then (some ((0 : Int32), st1)) else (ck_gd x1 60 (if (st1 10 (x1).toNatClampNeg) = 0 then (some ((0 : Int32), st1)) else (some ((1 : Int32), st1))))))
set_option maxRecDepth 100000 in
set_option maxHeartbeats 4000000 in
theorem cP_isEither (l : Launch) (D : va_G) (cA : Nat → ClassId) (ad : Nat → Nat) {x1 : Int32} {st : ck_S} {r0 : Int32} {st0 : ck_S} (hf : fP_isEither x1 st = some (r0, st0)) : Met l yP_isEither (.code yP_isEither bP_isEither 2 (some .boolean) :: ck_T) (ck_R 1) (va_Pc [.ref (ad 2), .int x1] (ck_P sh_C cm_cl D cA ad st)) (va_Qi (fun a u => a = r0 ∧ u = st0) (ck_P sh_C cm_cl D cA ad) (ck_A ad sh_C.length)) 0 0 (ck_A ad sh_C.length) := by
  refine ck_met_z (own := R_P) (by decide +kernel) rfl (Nat.le_of_ble_eq_true rfl) (fun p e R s m args below meth c H0 Q ls C hret h hl => ?_)
  have C1 := C
  obtain ⟨hx, hb, hml, hown, hts, hK, hlv, hlo⟩ := C1
  have hl : lv_has ls 2 [(0, .ref (ad 2)), (1, .int x1)] := hl
  unfold fP_isEither at hf
  refine lv_aload_n hx hb dP_isEither_0 rfl (lv_at hl 0 rfl) ?_
  refine lv_iload_n hx hb dP_isEither_1 rfl (lv_at hl 1 rfl) ?_
  obtain ⟨v2, st1, hc, hf⟩ := ck_b_e hf
  refine ck_vi (As := [.int x1]) (rest := []) (q := 2) C h hl CP_P_has sP_has q_P (cP_has l D cA ad hc) (Nat.le_of_ble_eq_true rfl) rfl rfl (Nat.le_of_ble_eq_true rfl) dP_isEither_2 (fun H locs h => ?_)
  refine lv_if_eq (tgt := 21) hx hb dP_isEither_5 rfl (fun hq => ?_) (fun hq => ?_)
  · have hf := ck_t hq hf
    refine lv_iconst (v := 0) hx hb dP_isEither_21 (by decide) ?_
    exact ck_rz hf hret ck_z0 h dP_isEither_22
  · have hf := ck_f hq hf
    refine lv_aload_n hx hb dP_isEither_8 rfl (lv_at hl 0 rfl) ?_
    refine ck_gr C h FP_twofold dP_isEither_9 ?_
    refine lv_iload_n hx hb dP_isEither_12 rfl (lv_at hl 1 rfl) ?_
    obtain ⟨hg, hf⟩ := ck_gd_e hf
    refine ck_az (x := (st1 10 (x1).toNatClampNeg)) C h (show sh_C[10]? = some (.inr (1, 60)) from rfl) hg rfl dP_isEither_13 ?_
    refine lv_if_eq (tgt := 21) hx hb dP_isEither_14 rfl (fun hq => ?_) (fun hq => ?_)
    · have hf := ck_t hq hf
      refine lv_iconst (v := 0) hx hb dP_isEither_21 (by decide) ?_
      exact ck_rz hf hret ck_z0 h dP_isEither_22
    · have hf := ck_f hq hf
      refine lv_iconst (v := 1) hx hb dP_isEither_17 (by decide) ?_
      refine lv_goto (tgt := 22) hx hb dP_isEither_18 rfl ?_
      exact ck_rz hf hret ck_z1 h dP_isEither_22
def fP_itsType (x1 : Int32) (st : ck_S) : Option (Int32 × ck_S) := (ck_b (fP_has x1 st) fun v2 st1 => (if v2 = 0 then (some ((-1 : Int32), st1)) else (ck_gd x1 60 (some ((st1 11 (x1).toNatClampNeg), st1)))))
set_option maxRecDepth 100000 in
set_option maxHeartbeats 4000000 in
theorem cP_itsType (l : Launch) (D : va_G) (cA : Nat → ClassId) (ad : Nat → Nat) {x1 : Int32} {st : ck_S} {r0 : Int32} {st0 : ck_S} (hf : fP_itsType x1 st = some (r0, st0)) : Met l yP_itsType (.code yP_itsType bP_itsType 2 (some .int) :: ck_T) (ck_R 1) (va_Pc [.ref (ad 2), .int x1] (ck_P sh_C cm_cl D cA ad st)) (va_Qi (fun a u => a = r0 ∧ u = st0) (ck_P sh_C cm_cl D cA ad) (ck_A ad sh_C.length)) 0 0 (ck_A ad sh_C.length) := by
  refine ck_met_i (own := R_P) (by decide +kernel) rfl (Nat.le_of_ble_eq_true rfl) (fun p e R s m args below meth c H0 Q ls C hret h hl => ?_)
  have C1 := C
  obtain ⟨hx, hb, hml, hown, hts, hK, hlv, hlo⟩ := C1
  have hl : lv_has ls 2 [(0, .ref (ad 2)), (1, .int x1)] := hl
  unfold fP_itsType at hf
  refine lv_aload_n hx hb dP_itsType_0 rfl (lv_at hl 0 rfl) ?_
  refine lv_iload_n hx hb dP_itsType_1 rfl (lv_at hl 1 rfl) ?_
  obtain ⟨v2, st1, hc, hf⟩ := ck_b_e hf
  refine ck_vi (As := [.int x1]) (rest := []) (q := 2) C h hl CP_P_has sP_has q_P (cP_has l D cA ad hc) (Nat.le_of_ble_eq_true rfl) rfl rfl (Nat.le_of_ble_eq_true rfl) dP_itsType_2 (fun H locs h => ?_)
  refine lv_if_eq (tgt := 17) hx hb dP_itsType_5 rfl (fun hq => ?_) (fun hq => ?_)
  · have hf := ck_t hq hf
    refine lv_iconst (v := (-1)) hx hb dP_itsType_17 (by decide) ?_
    exact ck_ri hf hret h dP_itsType_18
  · have hf := ck_f hq hf
    refine lv_aload_n hx hb dP_itsType_8 rfl (lv_at hl 0 rfl) ?_
    refine ck_gr C h FP_typeOf dP_itsType_9 ?_
    refine lv_iload_n hx hb dP_itsType_12 rfl (lv_at hl 1 rfl) ?_
    obtain ⟨hg, hf⟩ := ck_gd_e hf
    refine ck_ai (x := (st1 11 (x1).toNatClampNeg)) C h (show sh_C[11]? = some (.inr (0, 60)) from rfl) hg rfl dP_itsType_13 ?_
    refine lv_goto (tgt := 18) hx hb dP_itsType_14 rfl ?_
    exact ck_ri hf hret h dP_itsType_18
def fP_symbolOf (x1 : Int32) (st : ck_S) : Option (Int32 × ck_S) := (ck_b (fP_has x1 st) fun v2 st1 => (if v2 = 0 then (some ((0 : Int32), st1)) else (ck_gd x1 60 (some ((st1 12 (x1).toNatClampNeg), st1)))))
set_option maxRecDepth 100000 in
set_option maxHeartbeats 4000000 in
theorem cP_symbolOf (l : Launch) (D : va_G) (cA : Nat → ClassId) (ad : Nat → Nat) {x1 : Int32} {st : ck_S} {r0 : Int32} {st0 : ck_S} (hf : fP_symbolOf x1 st = some (r0, st0)) : Met l yP_symbolOf (.code yP_symbolOf bP_symbolOf 2 (some .int) :: ck_T) (ck_R 1) (va_Pc [.ref (ad 2), .int x1] (ck_P sh_C cm_cl D cA ad st)) (va_Qi (fun a u => a = r0 ∧ u = st0) (ck_P sh_C cm_cl D cA ad) (ck_A ad sh_C.length)) 0 0 (ck_A ad sh_C.length) := by
  refine ck_met_i (own := R_P) (by decide +kernel) rfl (Nat.le_of_ble_eq_true rfl) (fun p e R s m args below meth c H0 Q ls C hret h hl => ?_)
  have C1 := C
  obtain ⟨hx, hb, hml, hown, hts, hK, hlv, hlo⟩ := C1
  have hl : lv_has ls 2 [(0, .ref (ad 2)), (1, .int x1)] := hl
  unfold fP_symbolOf at hf
  refine lv_aload_n hx hb dP_symbolOf_0 rfl (lv_at hl 0 rfl) ?_
  refine lv_iload_n hx hb dP_symbolOf_1 rfl (lv_at hl 1 rfl) ?_
  obtain ⟨v2, st1, hc, hf⟩ := ck_b_e hf
  refine ck_vi (As := [.int x1]) (rest := []) (q := 2) C h hl CP_P_has sP_has q_P (cP_has l D cA ad hc) (Nat.le_of_ble_eq_true rfl) rfl rfl (Nat.le_of_ble_eq_true rfl) dP_symbolOf_2 (fun H locs h => ?_)
  refine lv_if_eq (tgt := 17) hx hb dP_symbolOf_5 rfl (fun hq => ?_) (fun hq => ?_)
  · have hf := ck_t hq hf
    refine lv_iconst (v := 0) hx hb dP_symbolOf_17 (by decide) ?_
    exact ck_ri hf hret h dP_symbolOf_18
  · have hf := ck_f hq hf
    refine lv_aload_n hx hb dP_symbolOf_8 rfl (lv_at hl 0 rfl) ?_
    refine ck_gr C h FP_symbol dP_symbolOf_9 ?_
    refine lv_iload_n hx hb dP_symbolOf_12 rfl (lv_at hl 1 rfl) ?_
    obtain ⟨hg, hf⟩ := ck_gd_e hf
    refine ck_ai (x := (st1 12 (x1).toNatClampNeg)) C h (show sh_C[12]? = some (.inr (0, 60)) from rfl) hg rfl dP_symbolOf_13 ?_
    refine lv_goto (tgt := 18) hx hb dP_symbolOf_14 rfl ?_
    exact ck_ri hf hret h dP_symbolOf_18
def fP_firstOf (x1 : Int32) (st : ck_S) : Option (Int32 × ck_S) := (ck_b (fP_has x1 st) fun v2 st1 => (if v2 = 0 then (some ((-1 : Int32), st1)) else (ck_gd x1 60 (some ((st1 13 (x1).toNatClampNeg), st1)))))
set_option maxRecDepth 100000 in
set_option maxHeartbeats 4000000 in
theorem cP_firstOf (l : Launch) (D : va_G) (cA : Nat → ClassId) (ad : Nat → Nat) {x1 : Int32} {st : ck_S} {r0 : Int32} {st0 : ck_S} (hf : fP_firstOf x1 st = some (r0, st0)) : Met l yP_firstOf (.code yP_firstOf bP_firstOf 2 (some .int) :: ck_T) (ck_R 1) (va_Pc [.ref (ad 2), .int x1] (ck_P sh_C cm_cl D cA ad st)) (va_Qi (fun a u => a = r0 ∧ u = st0) (ck_P sh_C cm_cl D cA ad) (ck_A ad sh_C.length)) 0 0 (ck_A ad sh_C.length) := by
  refine ck_met_i (own := R_P) (by decide +kernel) rfl (Nat.le_of_ble_eq_true rfl) (fun p e R s m args below meth c H0 Q ls C hret h hl => ?_)
  have C1 := C
  obtain ⟨hx, hb, hml, hown, hts, hK, hlv, hlo⟩ := C1
  have hl : lv_has ls 2 [(0, .ref (ad 2)), (1, .int x1)] := hl
  unfold fP_firstOf at hf
  refine lv_aload_n hx hb dP_firstOf_0 rfl (lv_at hl 0 rfl) ?_
  refine lv_iload_n hx hb dP_firstOf_1 rfl (lv_at hl 1 rfl) ?_
  obtain ⟨v2, st1, hc, hf⟩ := ck_b_e hf
  refine ck_vi (As := [.int x1]) (rest := []) (q := 2) C h hl CP_P_has sP_has q_P (cP_has l D cA ad hc) (Nat.le_of_ble_eq_true rfl) rfl rfl (Nat.le_of_ble_eq_true rfl) dP_firstOf_2 (fun H locs h => ?_)
  refine lv_if_eq (tgt := 17) hx hb dP_firstOf_5 rfl (fun hq => ?_) (fun hq => ?_)
  · have hf := ck_t hq hf
    refine lv_iconst (v := (-1)) hx hb dP_firstOf_17 (by decide) ?_
    exact ck_ri hf hret h dP_firstOf_18
  · have hf := ck_f hq hf
    refine lv_aload_n hx hb dP_firstOf_8 rfl (lv_at hl 0 rfl) ?_
    refine ck_gr C h FP_first dP_firstOf_9 ?_
    refine lv_iload_n hx hb dP_firstOf_12 rfl (lv_at hl 1 rfl) ?_
    obtain ⟨hg, hf⟩ := ck_gd_e hf
    refine ck_ai (x := (st1 13 (x1).toNatClampNeg)) C h (show sh_C[13]? = some (.inr (0, 60)) from rfl) hg rfl dP_firstOf_13 ?_
    refine lv_goto (tgt := 18) hx hb dP_firstOf_14 rfl ?_
    exact ck_ri hf hret h dP_firstOf_18
def fP_secondOf (x1 : Int32) (st : ck_S) : Option (Int32 × ck_S) := (ck_b (fP_has x1 st) fun v2 st1 => (if v2 = 0 then (some ((-1 : Int32), st1)) else (ck_gd x1 60 (some ((st1 14 (x1).toNatClampNeg), st1)))))
set_option maxRecDepth 100000 in
set_option maxHeartbeats 4000000 in
theorem cP_secondOf (l : Launch) (D : va_G) (cA : Nat → ClassId) (ad : Nat → Nat) {x1 : Int32} {st : ck_S} {r0 : Int32} {st0 : ck_S} (hf : fP_secondOf x1 st = some (r0, st0)) : Met l yP_secondOf (.code yP_secondOf bP_secondOf 2 (some .int) :: ck_T) (ck_R 1) (va_Pc [.ref (ad 2), .int x1] (ck_P sh_C cm_cl D cA ad st)) (va_Qi (fun a u => a = r0 ∧ u = st0) (ck_P sh_C cm_cl D cA ad) (ck_A ad sh_C.length)) 0 0 (ck_A ad sh_C.length) := by
  refine ck_met_i (own := R_P) (by decide +kernel) rfl (Nat.le_of_ble_eq_true rfl) (fun p e R s m args below meth c H0 Q ls C hret h hl => ?_)
  have C1 := C
  obtain ⟨hx, hb, hml, hown, hts, hK, hlv, hlo⟩ := C1
  have hl : lv_has ls 2 [(0, .ref (ad 2)), (1, .int x1)] := hl
  unfold fP_secondOf at hf
  refine lv_aload_n hx hb dP_secondOf_0 rfl (lv_at hl 0 rfl) ?_
  refine lv_iload_n hx hb dP_secondOf_1 rfl (lv_at hl 1 rfl) ?_
  obtain ⟨v2, st1, hc, hf⟩ := ck_b_e hf
  refine ck_vi (As := [.int x1]) (rest := []) (q := 2) C h hl CP_P_has sP_has q_P (cP_has l D cA ad hc) (Nat.le_of_ble_eq_true rfl) rfl rfl (Nat.le_of_ble_eq_true rfl) dP_secondOf_2 (fun H locs h => ?_)
  refine lv_if_eq (tgt := 17) hx hb dP_secondOf_5 rfl (fun hq => ?_) (fun hq => ?_)
  · have hf := ck_t hq hf
    refine lv_iconst (v := (-1)) hx hb dP_secondOf_17 (by decide) ?_
    exact ck_ri hf hret h dP_secondOf_18
  · have hf := ck_f hq hf
    refine lv_aload_n hx hb dP_secondOf_8 rfl (lv_at hl 0 rfl) ?_
    refine ck_gr C h FP_second dP_secondOf_9 ?_
    refine lv_iload_n hx hb dP_secondOf_12 rfl (lv_at hl 1 rfl) ?_
    obtain ⟨hg, hf⟩ := ck_gd_e hf
    refine ck_ai (x := (st1 14 (x1).toNatClampNeg)) C h (show sh_C[14]? = some (.inr (0, 60)) from rfl) hg rfl dP_secondOf_13 ?_
    refine lv_goto (tgt := 18) hx hb dP_secondOf_14 rfl ?_
    exact ck_ri hf hret h dP_secondOf_18
end Spatt
end
section
theorem dV_reset_0 : decode bV_reset 0 = .ok (.aload_n 0, 1) := by decide +kernel
theorem dV_reset_1 : decode bV_reset 1 = .ok (.iconst 0, 1) := by decide +kernel
theorem dV_reset_2 : decode bV_reset 2 = .ok (.putfield 24, 3) := by decide +kernel
theorem dV_reset_5 : decode bV_reset 5 = .ok (.return_, 1) := by decide +kernel
theorem dV_has_0 : decode bV_has 0 = .ok (.iload_n 1, 1) := by decide +kernel
theorem dV_has_1 : decode bV_has 1 = .ok (.ifCond .lt 15, 3) := by decide +kernel
theorem dV_has_4 : decode bV_has 4 = .ok (.iload_n 1, 1) := by decide +kernel
theorem dV_has_5 : decode bV_has 5 = .ok (.aload_n 0, 1) := by decide +kernel
theorem dV_has_6 : decode bV_has 6 = .ok (.getfield 24, 3) := by decide +kernel
theorem dV_has_9 : decode bV_has 9 = .ok (.if_icmp .ge 7, 3) := by decide +kernel
theorem dV_has_12 : decode bV_has 12 = .ok (.iconst 1, 1) := by decide +kernel
theorem dV_has_13 : decode bV_has 13 = .ok (.goto 4, 3) := by decide +kernel
theorem dV_has_16 : decode bV_has 16 = .ok (.iconst 0, 1) := by decide +kernel
theorem dV_has_17 : decode bV_has 17 = .ok (.ireturn, 1) := by decide +kernel
theorem dV_addBuilt_0 : decode bV_addBuilt 0 = .ok (.aload_n 0, 1) := by decide +kernel
theorem dV_addBuilt_1 : decode bV_addBuilt 1 = .ok (.getfield 24, 3) := by decide +kernel
theorem dV_addBuilt_4 : decode bV_addBuilt 4 = .ok (.bipush 60, 2) := by decide +kernel
theorem dV_addBuilt_6 : decode bV_addBuilt 6 = .ok (.if_icmp .lt 6, 3) := by decide +kernel
theorem dV_addBuilt_9 : decode bV_addBuilt 9 = .ok (.bipush (-8), 2) := by decide +kernel
theorem dV_addBuilt_11 : decode bV_addBuilt 11 = .ok (.ireturn, 1) := by decide +kernel
theorem dV_addBuilt_12 : decode bV_addBuilt 12 = .ok (.aload_n 0, 1) := by decide +kernel
theorem dV_addBuilt_13 : decode bV_addBuilt 13 = .ok (.getfield 24, 3) := by decide +kernel
theorem dV_addBuilt_16 : decode bV_addBuilt 16 = .ok (.istore 5, 2) := by decide +kernel
theorem dV_addBuilt_18 : decode bV_addBuilt 18 = .ok (.aload_n 0, 1) := by decide +kernel
theorem dV_addBuilt_19 : decode bV_addBuilt 19 = .ok (.getfield 15, 3) := by decide +kernel
theorem dV_addBuilt_22 : decode bV_addBuilt 22 = .ok (.iload 5, 2) := by decide +kernel
theorem dV_addBuilt_24 : decode bV_addBuilt 24 = .ok (.iload_n 1, 1) := by decide +kernel
theorem dV_addBuilt_25 : decode bV_addBuilt 25 = .ok (.iastore, 1) := by decide +kernel
theorem dV_addBuilt_26 : decode bV_addBuilt 26 = .ok (.aload_n 0, 1) := by decide +kernel
theorem dV_addBuilt_27 : decode bV_addBuilt 27 = .ok (.getfield 9, 3) := by decide +kernel
theorem dV_addBuilt_30 : decode bV_addBuilt 30 = .ok (.iload 5, 2) := by decide +kernel
theorem dV_addBuilt_32 : decode bV_addBuilt 32 = .ok (.iload_n 2, 1) := by decide +kernel
theorem dV_addBuilt_33 : decode bV_addBuilt 33 = .ok (.iastore, 1) := by decide +kernel
theorem dV_addBuilt_34 : decode bV_addBuilt 34 = .ok (.aload_n 0, 1) := by decide +kernel
theorem dV_addBuilt_35 : decode bV_addBuilt 35 = .ok (.getfield 18, 3) := by decide +kernel
theorem dV_addBuilt_38 : decode bV_addBuilt 38 = .ok (.iload 5, 2) := by decide +kernel
theorem dV_addBuilt_40 : decode bV_addBuilt 40 = .ok (.iload_n 3, 1) := by decide +kernel
theorem dV_addBuilt_41 : decode bV_addBuilt 41 = .ok (.iastore, 1) := by decide +kernel
theorem dV_addBuilt_42 : decode bV_addBuilt 42 = .ok (.aload_n 0, 1) := by decide +kernel
theorem dV_addBuilt_43 : decode bV_addBuilt 43 = .ok (.getfield 21, 3) := by decide +kernel
theorem dV_addBuilt_46 : decode bV_addBuilt 46 = .ok (.iload 5, 2) := by decide +kernel
theorem dV_addBuilt_48 : decode bV_addBuilt 48 = .ok (.iload 4, 2) := by decide +kernel
theorem dV_addBuilt_50 : decode bV_addBuilt 50 = .ok (.iastore, 1) := by decide +kernel
theorem dV_addBuilt_51 : decode bV_addBuilt 51 = .ok (.aload_n 0, 1) := by decide +kernel
theorem dV_addBuilt_52 : decode bV_addBuilt 52 = .ok (.dup, 1) := by decide +kernel
theorem dV_addBuilt_53 : decode bV_addBuilt 53 = .ok (.getfield 24, 3) := by decide +kernel
theorem dV_addBuilt_56 : decode bV_addBuilt 56 = .ok (.iconst 1, 1) := by decide +kernel
theorem dV_addBuilt_57 : decode bV_addBuilt 57 = .ok (.iadd, 1) := by decide +kernel
theorem dV_addBuilt_58 : decode bV_addBuilt 58 = .ok (.putfield 24, 3) := by decide +kernel
theorem dV_addBuilt_61 : decode bV_addBuilt 61 = .ok (.iload 5, 2) := by decide +kernel
theorem dV_addBuilt_63 : decode bV_addBuilt 63 = .ok (.ireturn, 1) := by decide +kernel
theorem dV_addInt_0 : decode bV_addInt 0 = .ok (.aload_n 0, 1) := by decide +kernel
theorem dV_addInt_1 : decode bV_addInt 1 = .ok (.iload_n 1, 1) := by decide +kernel
theorem dV_addInt_2 : decode bV_addInt 2 = .ok (.iconst 0, 1) := by decide +kernel
theorem dV_addInt_3 : decode bV_addInt 3 = .ok (.iconst (-1), 1) := by decide +kernel
theorem dV_addInt_4 : decode bV_addInt 4 = .ok (.iconst (-1), 1) := by decide +kernel
theorem dV_addInt_5 : decode bV_addInt 5 = .ok (.invokevirtual 28, 3) := by decide +kernel
theorem dV_addInt_8 : decode bV_addInt 8 = .ok (.ireturn, 1) := by decide +kernel
theorem dV_isOf_0 : decode bV_isOf 0 = .ok (.aload_n 0, 1) := by decide +kernel
theorem dV_isOf_1 : decode bV_isOf 1 = .ok (.iload_n 1, 1) := by decide +kernel
theorem dV_isOf_2 : decode bV_isOf 2 = .ok (.invokevirtual 32, 3) := by decide +kernel
theorem dV_isOf_5 : decode bV_isOf 5 = .ok (.ifCond .eq 21, 3) := by decide +kernel
theorem dV_isOf_8 : decode bV_isOf 8 = .ok (.aload_n 0, 1) := by decide +kernel
theorem dV_isOf_9 : decode bV_isOf 9 = .ok (.getfield 9, 3) := by decide +kernel
theorem dV_isOf_12 : decode bV_isOf 12 = .ok (.iload_n 1, 1) := by decide +kernel
theorem dV_isOf_13 : decode bV_isOf 13 = .ok (.iaload, 1) := by decide +kernel
theorem dV_isOf_14 : decode bV_isOf 14 = .ok (.iload_n 2, 1) := by decide +kernel
theorem dV_isOf_15 : decode bV_isOf 15 = .ok (.if_icmp .ne 7, 3) := by decide +kernel
theorem dV_isOf_18 : decode bV_isOf 18 = .ok (.iconst 1, 1) := by decide +kernel
theorem dV_isOf_19 : decode bV_isOf 19 = .ok (.goto 17, 3) := by decide +kernel
theorem dV_isOf_22 : decode bV_isOf 22 = .ok (.iconst 0, 1) := by decide +kernel
theorem dV_isOf_23 : decode bV_isOf 23 = .ok (.goto 13, 3) := by decide +kernel
theorem dV_isOf_26 : decode bV_isOf 26 = .ok (.iload_n 2, 1) := by decide +kernel
theorem dV_isOf_27 : decode bV_isOf 27 = .ok (.iconst (-1), 1) := by decide +kernel
theorem dV_isOf_28 : decode bV_isOf 28 = .ok (.if_icmp .ne 7, 3) := by decide +kernel
theorem dV_isOf_31 : decode bV_isOf 31 = .ok (.iconst 1, 1) := by decide +kernel
theorem dV_isOf_32 : decode bV_isOf 32 = .ok (.goto 4, 3) := by decide +kernel
theorem dV_isOf_35 : decode bV_isOf 35 = .ok (.iconst 0, 1) := by decide +kernel
theorem dV_isOf_36 : decode bV_isOf 36 = .ok (.ireturn, 1) := by decide +kernel
theorem dV_symbolOf_0 : decode bV_symbolOf 0 = .ok (.aload_n 0, 1) := by decide +kernel
theorem dV_symbolOf_1 : decode bV_symbolOf 1 = .ok (.iload_n 1, 1) := by decide +kernel
theorem dV_symbolOf_2 : decode bV_symbolOf 2 = .ok (.invokevirtual 32, 3) := by decide +kernel
theorem dV_symbolOf_5 : decode bV_symbolOf 5 = .ok (.ifCond .eq 12, 3) := by decide +kernel
theorem dV_symbolOf_8 : decode bV_symbolOf 8 = .ok (.aload_n 0, 1) := by decide +kernel
theorem dV_symbolOf_9 : decode bV_symbolOf 9 = .ok (.getfield 15, 3) := by decide +kernel
theorem dV_symbolOf_12 : decode bV_symbolOf 12 = .ok (.iload_n 1, 1) := by decide +kernel
theorem dV_symbolOf_13 : decode bV_symbolOf 13 = .ok (.iaload, 1) := by decide +kernel
theorem dV_symbolOf_14 : decode bV_symbolOf 14 = .ok (.goto 4, 3) := by decide +kernel
theorem dV_symbolOf_17 : decode bV_symbolOf 17 = .ok (.iconst 0, 1) := by decide +kernel
theorem dV_symbolOf_18 : decode bV_symbolOf 18 = .ok (.ireturn, 1) := by decide +kernel
theorem dV_firstOf_0 : decode bV_firstOf 0 = .ok (.aload_n 0, 1) := by decide +kernel
theorem dV_firstOf_1 : decode bV_firstOf 1 = .ok (.iload_n 1, 1) := by decide +kernel
theorem dV_firstOf_2 : decode bV_firstOf 2 = .ok (.invokevirtual 32, 3) := by decide +kernel
theorem dV_firstOf_5 : decode bV_firstOf 5 = .ok (.ifCond .eq 12, 3) := by decide +kernel
theorem dV_firstOf_8 : decode bV_firstOf 8 = .ok (.aload_n 0, 1) := by decide +kernel
theorem dV_firstOf_9 : decode bV_firstOf 9 = .ok (.getfield 18, 3) := by decide +kernel
theorem dV_firstOf_12 : decode bV_firstOf 12 = .ok (.iload_n 1, 1) := by decide +kernel
theorem dV_firstOf_13 : decode bV_firstOf 13 = .ok (.iaload, 1) := by decide +kernel
theorem dV_firstOf_14 : decode bV_firstOf 14 = .ok (.goto 4, 3) := by decide +kernel
theorem dV_firstOf_17 : decode bV_firstOf 17 = .ok (.iconst (-1), 1) := by decide +kernel
theorem dV_firstOf_18 : decode bV_firstOf 18 = .ok (.ireturn, 1) := by decide +kernel
theorem dV_secondOf_0 : decode bV_secondOf 0 = .ok (.aload_n 0, 1) := by decide +kernel
theorem dV_secondOf_1 : decode bV_secondOf 1 = .ok (.iload_n 1, 1) := by decide +kernel
theorem dV_secondOf_2 : decode bV_secondOf 2 = .ok (.invokevirtual 32, 3) := by decide +kernel
theorem dV_secondOf_5 : decode bV_secondOf 5 = .ok (.ifCond .eq 12, 3) := by decide +kernel
theorem dV_secondOf_8 : decode bV_secondOf 8 = .ok (.aload_n 0, 1) := by decide +kernel
theorem dV_secondOf_9 : decode bV_secondOf 9 = .ok (.getfield 21, 3) := by decide +kernel
theorem dV_secondOf_12 : decode bV_secondOf 12 = .ok (.iload_n 1, 1) := by decide +kernel
theorem dV_secondOf_13 : decode bV_secondOf 13 = .ok (.iaload, 1) := by decide +kernel
theorem dV_secondOf_14 : decode bV_secondOf 14 = .ok (.goto 4, 3) := by decide +kernel
theorem dV_secondOf_17 : decode bV_secondOf 17 = .ok (.iconst (-1), 1) := by decide +kernel
theorem dV_secondOf_18 : decode bV_secondOf 18 = .ok (.ireturn, 1) := by decide +kernel
section Svalu
variable {p : Program} {l : Launch} {e : Env} {R : Room} {s : State} {m : MethodId} {args : Array Value} {below : List Frame} {meth : Method} {c : Code} {Q : State → Prop} {D : va_G} {cA : Nat → ClassId} {ad : Nat → Nat} {H0 : Heap}
def fV_reset (st : ck_S) : Option ck_S := (some (ck_u st 3 4 (0 : Int32)))
set_option maxRecDepth 100000 in
set_option maxHeartbeats 4000000 in
theorem cV_reset (l : Launch) (D : va_G) (cA : Nat → ClassId) (ad : Nat → Nat) {st : ck_S} {st0 : ck_S} (hf : fV_reset st = some st0) : Met l yV_reset (.code yV_reset bV_reset 1 none :: ck_T) (ck_R 0) (va_Pc [.ref (ad 3)] (ck_P sh_C cm_cl D cA ad st)) (va_Qv (fun u => u = st0) (ck_P sh_C cm_cl D cA ad) (ck_A ad sh_C.length)) 0 0 (ck_A ad sh_C.length) := by
  refine ck_met_v (own := R_V) (by decide +kernel) rfl (Nat.le_of_ble_eq_true rfl) (fun p e R s m args below meth c H0 Q ls C hret h hl => ?_)
  have C1 := C
  obtain ⟨hx, hb, hml, hown, hts, hK, hlv, hlo⟩ := C1
  have hl : lv_has ls 1 [(0, .ref (ad 3))] := hl
  unfold fV_reset at hf
  refine lv_aload_n hx hb dV_reset_0 rfl (lv_at hl 0 rfl) ?_
  refine lv_iconst (v := 0) hx hb dV_reset_1 (by decide) ?_
  refine ck_pi C h GV_count rfl rfl dV_reset_2 (fun H locs h => ?_)
  exact ck_rv hf hret h dV_reset_5
def fV_has (x1 : Int32) (st : ck_S) : Option (Int32 × ck_S) := (if x1 < 0 then (some ((0 : Int32), st)) else (if (st 3 4) ≤ x1 then (some ((0 : Int32), st)) else (some ((1 : Int32), st))))
set_option maxRecDepth 100000 in
set_option maxHeartbeats 4000000 in
theorem cV_has (l : Launch) (D : va_G) (cA : Nat → ClassId) (ad : Nat → Nat) {x1 : Int32} {st : ck_S} {r0 : Int32} {st0 : ck_S} (hf : fV_has x1 st = some (r0, st0)) : Met l yV_has (.code yV_has bV_has 2 (some .boolean) :: ck_T) (ck_R 0) (va_Pc [.ref (ad 3), .int x1] (ck_P sh_C cm_cl D cA ad st)) (va_Qi (fun a u => a = r0 ∧ u = st0) (ck_P sh_C cm_cl D cA ad) (ck_A ad sh_C.length)) 0 0 (ck_A ad sh_C.length) := by
  refine ck_met_z (own := R_V) (by decide +kernel) rfl (Nat.le_of_ble_eq_true rfl) (fun p e R s m args below meth c H0 Q ls C hret h hl => ?_)
  have C1 := C
  obtain ⟨hx, hb, hml, hown, hts, hK, hlv, hlo⟩ := C1
  have hl : lv_has ls 2 [(0, .ref (ad 3)), (1, .int x1)] := hl
  unfold fV_has at hf
  refine lv_iload_n hx hb dV_has_0 rfl (lv_at hl 1 rfl) ?_
  refine lv_if_lt (tgt := 16) hx hb dV_has_1 rfl (fun hq => ?_) (fun hq => ?_)
  · have hf := ck_t hq hf
    refine lv_iconst (v := 0) hx hb dV_has_16 (by decide) ?_
    exact ck_rz hf hret ck_z0 h dV_has_17
  · have hf := ck_f hq hf
    refine lv_iload_n hx hb dV_has_4 rfl (lv_at hl 1 rfl) ?_
    refine lv_aload_n hx hb dV_has_5 rfl (lv_at hl 0 rfl) ?_
    refine ck_gi (x := (st 3 4)) C h FV_count rfl dV_has_6 ?_
    refine lv_icmp_ge (tgt := 16) hx hb dV_has_9 rfl (fun hq => ?_) (fun hq => ?_)
    · have hf := ck_t hq hf
      refine lv_iconst (v := 0) hx hb dV_has_16 (by decide) ?_
      exact ck_rz hf hret ck_z0 h dV_has_17
    · have hf := ck_f hq hf
      refine lv_iconst (v := 1) hx hb dV_has_12 (by decide) ?_
      refine lv_goto (tgt := 17) hx hb dV_has_13 rfl ?_
      exact ck_rz hf hret ck_z1 h dV_has_17
def fV_addBuilt (x1 : Int32) (x2 : Int32) (x3 : Int32) (x4 : Int32) (st : ck_S) : Option (Int32 × ck_S) := (if (st 3 4) < (60 : Int32) then (ck_gd (st 3 4) 60 (ck_gd (st 3 4) 60 (ck_gd (st 3 4) 60 (ck_gd (st 3 4) 60 (some ((st 3 4), (ck_u (ck_u (ck_u (ck_u (ck_u st 18 ((st 3 4)).toNatClampNeg x1) 17 ((st 3 4)).toNatClampNeg x2) 19 ((st 3 4)).toNatClampNeg x3) 20 ((st 3 4)).toNatClampNeg x4) 3 4 ((st 3 4) + (1 : Int32))))))))) else (some ((-8 : Int32), st)))
set_option maxRecDepth 100000 in
set_option maxHeartbeats 4000000 in
theorem cV_addBuilt (l : Launch) (D : va_G) (cA : Nat → ClassId) (ad : Nat → Nat) {x1 : Int32} {x2 : Int32} {x3 : Int32} {x4 : Int32} {st : ck_S} {r0 : Int32} {st0 : ck_S} (hf : fV_addBuilt x1 x2 x3 x4 st = some (r0, st0)) : Met l yV_addBuilt (.code yV_addBuilt bV_addBuilt 6 (some .int) :: ck_T) (ck_R 0) (va_Pc [.ref (ad 3), .int x1, .int x2, .int x3, .int x4] (ck_P sh_C cm_cl D cA ad st)) (va_Qi (fun a u => a = r0 ∧ u = st0) (ck_P sh_C cm_cl D cA ad) (ck_A ad sh_C.length)) 0 0 (ck_A ad sh_C.length) := by
  refine ck_met_i (own := R_V) (by decide +kernel) rfl (Nat.le_of_ble_eq_true rfl) (fun p e R s m args below meth c H0 Q ls C hret h hl => ?_)
  have C1 := C
  obtain ⟨hx, hb, hml, hown, hts, hK, hlv, hlo⟩ := C1
  have hl : lv_has ls 6 [(0, .ref (ad 3)), (1, .int x1), (2, .int x2), (3, .int x3), (4, .int x4)] := hl
  unfold fV_addBuilt at hf
  refine lv_aload_n hx hb dV_addBuilt_0 rfl (lv_at hl 0 rfl) ?_
  refine ck_gi (x := (st 3 4)) C h FV_count rfl dV_addBuilt_1 ?_
  refine lv_bipush (v := 60) hx hb dV_addBuilt_4 (by decide) ?_
  refine lv_icmp_lt (tgt := 12) hx hb dV_addBuilt_6 rfl (fun hq => ?_) (fun hq => ?_)
  · have hf := ck_t hq hf
    refine lv_aload_n hx hb dV_addBuilt_12 rfl (lv_at hl 0 rfl) ?_
    refine ck_gi (x := (st 3 4)) C h FV_count rfl dV_addBuilt_13 ?_
    refine lv_istore (lv' := [(5, .int (st 3 4)), (0, .ref (ad 3)), (1, .int x1), (2, .int x2), (3, .int x3), (4, .int x4)]) hx hb dV_addBuilt_16 hl (by decide) rfl (fun ls hl => ?_)
    refine lv_aload_n hx hb dV_addBuilt_18 rfl (lv_at hl 1 rfl) ?_
    refine ck_gr C h FV_symbol dV_addBuilt_19 ?_
    refine lv_iload hx hb dV_addBuilt_22 (lv_at hl 0 rfl) ?_
    refine lv_iload_n hx hb dV_addBuilt_24 rfl (lv_at hl 2 rfl) ?_
    obtain ⟨hg, hf⟩ := ck_gd_e hf
    refine ck_si C h (show sh_C[18]? = some (.inr (0, 60)) from rfl) hg dV_addBuilt_25 (fun H locs h => ?_)
    refine lv_aload_n hx hb dV_addBuilt_26 rfl (lv_at hl 1 rfl) ?_
    refine ck_gr C h FV_typeOf dV_addBuilt_27 ?_
    refine lv_iload hx hb dV_addBuilt_30 (lv_at hl 0 rfl) ?_
    refine lv_iload_n hx hb dV_addBuilt_32 rfl (lv_at hl 3 rfl) ?_
    obtain ⟨hg, hf⟩ := ck_gd_e hf
    refine ck_si C h (show sh_C[17]? = some (.inr (0, 60)) from rfl) hg dV_addBuilt_33 (fun H locs h => ?_)
    refine lv_aload_n hx hb dV_addBuilt_34 rfl (lv_at hl 1 rfl) ?_
    refine ck_gr C h FV_first dV_addBuilt_35 ?_
    refine lv_iload hx hb dV_addBuilt_38 (lv_at hl 0 rfl) ?_
    refine lv_iload_n hx hb dV_addBuilt_40 rfl (lv_at hl 4 rfl) ?_
    obtain ⟨hg, hf⟩ := ck_gd_e hf
    refine ck_si C h (show sh_C[19]? = some (.inr (0, 60)) from rfl) hg dV_addBuilt_41 (fun H locs h => ?_)
    refine lv_aload_n hx hb dV_addBuilt_42 rfl (lv_at hl 1 rfl) ?_
    refine ck_gr C h FV_second dV_addBuilt_43 ?_
    refine lv_iload hx hb dV_addBuilt_46 (lv_at hl 0 rfl) ?_
    refine lv_iload hx hb dV_addBuilt_48 (lv_at hl 5 rfl) ?_
    obtain ⟨hg, hf⟩ := ck_gd_e hf
    refine ck_si C h (show sh_C[20]? = some (.inr (0, 60)) from rfl) hg dV_addBuilt_50 (fun H locs h => ?_)
    refine lv_aload_n hx hb dV_addBuilt_51 rfl (lv_at hl 1 rfl) ?_
    refine lv_dup hx hb dV_addBuilt_52 rfl ?_
    refine ck_gi (x := (st 3 4)) C h FV_count rfl dV_addBuilt_53 ?_
    refine lv_iconst (v := 1) hx hb dV_addBuilt_56 (by decide) ?_
    refine lv_iadd hx hb dV_addBuilt_57 ?_
    refine ck_pi C h GV_count rfl rfl dV_addBuilt_58 (fun H locs h => ?_)
    refine lv_iload hx hb dV_addBuilt_61 (lv_at hl 0 rfl) ?_
    exact ck_ri hf hret h dV_addBuilt_63
  · have hf := ck_f hq hf
    refine lv_bipush (v := (-8)) hx hb dV_addBuilt_9 (by decide) ?_
    exact ck_ri hf hret h dV_addBuilt_11
def fV_addInt (x1 : Int32) (st : ck_S) : Option (Int32 × ck_S) := (ck_b (fV_addBuilt x1 (0 : Int32) (-1 : Int32) (-1 : Int32) st) fun v2 st1 => (some (v2, st1)))
set_option maxRecDepth 100000 in
set_option maxHeartbeats 4000000 in
theorem cV_addInt (l : Launch) (D : va_G) (cA : Nat → ClassId) (ad : Nat → Nat) {x1 : Int32} {st : ck_S} {r0 : Int32} {st0 : ck_S} (hf : fV_addInt x1 st = some (r0, st0)) : Met l yV_addInt (.code yV_addInt bV_addInt 2 (some .int) :: ck_T) (ck_R 1) (va_Pc [.ref (ad 3), .int x1] (ck_P sh_C cm_cl D cA ad st)) (va_Qi (fun a u => a = r0 ∧ u = st0) (ck_P sh_C cm_cl D cA ad) (ck_A ad sh_C.length)) 0 0 (ck_A ad sh_C.length) := by
  refine ck_met_i (own := R_V) (by decide +kernel) rfl (Nat.le_of_ble_eq_true rfl) (fun p e R s m args below meth c H0 Q ls C hret h hl => ?_)
  have C1 := C
  obtain ⟨hx, hb, hml, hown, hts, hK, hlv, hlo⟩ := C1
  have hl : lv_has ls 2 [(0, .ref (ad 3)), (1, .int x1)] := hl
  unfold fV_addInt at hf
  refine lv_aload_n hx hb dV_addInt_0 rfl (lv_at hl 0 rfl) ?_
  refine lv_iload_n hx hb dV_addInt_1 rfl (lv_at hl 1 rfl) ?_
  refine lv_iconst (v := 0) hx hb dV_addInt_2 (by decide) ?_
  refine lv_iconst (v := (-1)) hx hb dV_addInt_3 (by decide) ?_
  refine lv_iconst (v := (-1)) hx hb dV_addInt_4 (by decide) ?_
  obtain ⟨v2, st1, hc, hf⟩ := ck_b_e hf
  refine ck_vi (As := [.int x1, .int (0 : Int32), .int (-1 : Int32), .int (-1 : Int32)]) (rest := []) (q := 3) C h hl CV_V_addBuilt sV_addBuilt q_V (cV_addBuilt l D cA ad hc) (Nat.le_of_ble_eq_true rfl) rfl rfl (Nat.le_of_ble_eq_true rfl) dV_addInt_5 (fun H locs h => ?_)
  exact ck_ri hf hret h dV_addInt_8
def fV_isOf (x1 : Int32) (x2 : Int32) (st : ck_S) : Option (Int32 × ck_S) := (ck_b (fV_has x1 st) fun v2 st1 => (if v2 = 0 then (if x2 = (-1 : Int32) then (some ((1 : Int32), st1)) else (some ((0 : Int32), st1))) else (ck_gd x1 60 (if (st1 17 (x1).toNatClampNeg) = x2 then (some ((1 : Int32), st1)) else (some ((0 : Int32), st1))))))
set_option maxRecDepth 100000 in
set_option maxHeartbeats 4000000 in
theorem cV_isOf (l : Launch) (D : va_G) (cA : Nat → ClassId) (ad : Nat → Nat) {x1 : Int32} {x2 : Int32} {st : ck_S} {r0 : Int32} {st0 : ck_S} (hf : fV_isOf x1 x2 st = some (r0, st0)) : Met l yV_isOf (.code yV_isOf bV_isOf 3 (some .boolean) :: ck_T) (ck_R 1) (va_Pc [.ref (ad 3), .int x1, .int x2] (ck_P sh_C cm_cl D cA ad st)) (va_Qi (fun a u => a = r0 ∧ u = st0) (ck_P sh_C cm_cl D cA ad) (ck_A ad sh_C.length)) 0 0 (ck_A ad sh_C.length) := by
  refine ck_met_z (own := R_V) (by decide +kernel) rfl (Nat.le_of_ble_eq_true rfl) (fun p e R s m args below meth c H0 Q ls C hret h hl => ?_)
  have C1 := C
  obtain ⟨hx, hb, hml, hown, hts, hK, hlv, hlo⟩ := C1
  have hl : lv_has ls 3 [(0, .ref (ad 3)), (1, .int x1), (2, .int x2)] := hl
  unfold fV_isOf at hf
  refine lv_aload_n hx hb dV_isOf_0 rfl (lv_at hl 0 rfl) ?_
  refine lv_iload_n hx hb dV_isOf_1 rfl (lv_at hl 1 rfl) ?_
  obtain ⟨v2, st1, hc, hf⟩ := ck_b_e hf
  refine ck_vi (As := [.int x1]) (rest := []) (q := 3) C h hl CV_V_has sV_has q_V (cV_has l D cA ad hc) (Nat.le_of_ble_eq_true rfl) rfl rfl (Nat.le_of_ble_eq_true rfl) dV_isOf_2 (fun H locs h => ?_)
  refine lv_if_eq (tgt := 26) hx hb dV_isOf_5 rfl (fun hq => ?_) (fun hq => ?_)
  · have hf := ck_t hq hf
    refine lv_iload_n hx hb dV_isOf_26 rfl (lv_at hl 2 rfl) ?_
    refine lv_iconst (v := (-1)) hx hb dV_isOf_27 (by decide) ?_
    refine lv_icmp_ne (tgt := 35) hx hb dV_isOf_28 rfl (fun hq => ?_) (fun hq => ?_)
    · have hf := ck_f hq hf
      refine lv_iconst (v := 0) hx hb dV_isOf_35 (by decide) ?_
      exact ck_rz hf hret ck_z0 h dV_isOf_36
    · have hf := ck_t hq hf
      refine lv_iconst (v := 1) hx hb dV_isOf_31 (by decide) ?_
      refine lv_goto (tgt := 36) hx hb dV_isOf_32 rfl ?_
      exact ck_rz hf hret ck_z1 h dV_isOf_36
  · have hf := ck_f hq hf
    refine lv_aload_n hx hb dV_isOf_8 rfl (lv_at hl 0 rfl) ?_
    refine ck_gr C h FV_typeOf dV_isOf_9 ?_
    refine lv_iload_n hx hb dV_isOf_12 rfl (lv_at hl 1 rfl) ?_
    obtain ⟨hg, hf⟩ := ck_gd_e hf
    refine ck_ai (x := (st1 17 (x1).toNatClampNeg)) C h (show sh_C[17]? = some (.inr (0, 60)) from rfl) hg rfl dV_isOf_13 ?_
    refine lv_iload_n hx hb dV_isOf_14 rfl (lv_at hl 2 rfl) ?_
    refine lv_icmp_ne (tgt := 22) hx hb dV_isOf_15 rfl (fun hq => ?_) (fun hq => ?_)
    · have hf := ck_f hq hf
      refine lv_iconst (v := 0) hx hb dV_isOf_22 (by decide) ?_
      refine lv_goto (tgt := 36) hx hb dV_isOf_23 rfl ?_
      exact ck_rz hf hret ck_z0 h dV_isOf_36
    · have hf := ck_t hq hf
      refine lv_iconst (v := 1) hx hb dV_isOf_18 (by decide) ?_
      refine lv_goto (tgt := 36) hx hb dV_isOf_19 rfl ?_
      exact ck_rz hf hret ck_z1 h dV_isOf_36
def fV_symbolOf (x1 : Int32) (st : ck_S) : Option (Int32 × ck_S) := (ck_b (fV_has x1 st) fun v2 st1 => (if v2 = 0 then (some ((0 : Int32), st1)) else (ck_gd x1 60 (some ((st1 18 (x1).toNatClampNeg), st1)))))
set_option maxRecDepth 100000 in
set_option maxHeartbeats 4000000 in
theorem cV_symbolOf (l : Launch) (D : va_G) (cA : Nat → ClassId) (ad : Nat → Nat) {x1 : Int32} {st : ck_S} {r0 : Int32} {st0 : ck_S} (hf : fV_symbolOf x1 st = some (r0, st0)) : Met l yV_symbolOf (.code yV_symbolOf bV_symbolOf 2 (some .int) :: ck_T) (ck_R 1) (va_Pc [.ref (ad 3), .int x1] (ck_P sh_C cm_cl D cA ad st)) (va_Qi (fun a u => a = r0 ∧ u = st0) (ck_P sh_C cm_cl D cA ad) (ck_A ad sh_C.length)) 0 0 (ck_A ad sh_C.length) := by
  refine ck_met_i (own := R_V) (by decide +kernel) rfl (Nat.le_of_ble_eq_true rfl) (fun p e R s m args below meth c H0 Q ls C hret h hl => ?_)
  have C1 := C
  obtain ⟨hx, hb, hml, hown, hts, hK, hlv, hlo⟩ := C1
  have hl : lv_has ls 2 [(0, .ref (ad 3)), (1, .int x1)] := hl
  unfold fV_symbolOf at hf
  refine lv_aload_n hx hb dV_symbolOf_0 rfl (lv_at hl 0 rfl) ?_
  refine lv_iload_n hx hb dV_symbolOf_1 rfl (lv_at hl 1 rfl) ?_
  obtain ⟨v2, st1, hc, hf⟩ := ck_b_e hf
  refine ck_vi (As := [.int x1]) (rest := []) (q := 3) C h hl CV_V_has sV_has q_V (cV_has l D cA ad hc) (Nat.le_of_ble_eq_true rfl) rfl rfl (Nat.le_of_ble_eq_true rfl) dV_symbolOf_2 (fun H locs h => ?_)
  refine lv_if_eq (tgt := 17) hx hb dV_symbolOf_5 rfl (fun hq => ?_) (fun hq => ?_)
  · have hf := ck_t hq hf
    refine lv_iconst (v := 0) hx hb dV_symbolOf_17 (by decide) ?_
    exact ck_ri hf hret h dV_symbolOf_18
  · have hf := ck_f hq hf
    refine lv_aload_n hx hb dV_symbolOf_8 rfl (lv_at hl 0 rfl) ?_
    refine ck_gr C h FV_symbol dV_symbolOf_9 ?_
    refine lv_iload_n hx hb dV_symbolOf_12 rfl (lv_at hl 1 rfl) ?_
    obtain ⟨hg, hf⟩ := ck_gd_e hf
    refine ck_ai (x := (st1 18 (x1).toNatClampNeg)) C h (show sh_C[18]? = some (.inr (0, 60)) from rfl) hg rfl dV_symbolOf_13 ?_
    refine lv_goto (tgt := 18) hx hb dV_symbolOf_14 rfl ?_
    exact ck_ri hf hret h dV_symbolOf_18
def fV_firstOf (x1 : Int32) (st : ck_S) : Option (Int32 × ck_S) := (ck_b (fV_has x1 st) fun v2 st1 => (if v2 = 0 then (some ((-1 : Int32), st1)) else (ck_gd x1 60 (some ((st1 19 (x1).toNatClampNeg), st1)))))
set_option maxRecDepth 100000 in
set_option maxHeartbeats 4000000 in
theorem cV_firstOf (l : Launch) (D : va_G) (cA : Nat → ClassId) (ad : Nat → Nat) {x1 : Int32} {st : ck_S} {r0 : Int32} {st0 : ck_S} (hf : fV_firstOf x1 st = some (r0, st0)) : Met l yV_firstOf (.code yV_firstOf bV_firstOf 2 (some .int) :: ck_T) (ck_R 1) (va_Pc [.ref (ad 3), .int x1] (ck_P sh_C cm_cl D cA ad st)) (va_Qi (fun a u => a = r0 ∧ u = st0) (ck_P sh_C cm_cl D cA ad) (ck_A ad sh_C.length)) 0 0 (ck_A ad sh_C.length) := by
  refine ck_met_i (own := R_V) (by decide +kernel) rfl (Nat.le_of_ble_eq_true rfl) (fun p e R s m args below meth c H0 Q ls C hret h hl => ?_)
  have C1 := C
  obtain ⟨hx, hb, hml, hown, hts, hK, hlv, hlo⟩ := C1
  have hl : lv_has ls 2 [(0, .ref (ad 3)), (1, .int x1)] := hl
  unfold fV_firstOf at hf
  refine lv_aload_n hx hb dV_firstOf_0 rfl (lv_at hl 0 rfl) ?_
  refine lv_iload_n hx hb dV_firstOf_1 rfl (lv_at hl 1 rfl) ?_
  obtain ⟨v2, st1, hc, hf⟩ := ck_b_e hf
  refine ck_vi (As := [.int x1]) (rest := []) (q := 3) C h hl CV_V_has sV_has q_V (cV_has l D cA ad hc) (Nat.le_of_ble_eq_true rfl) rfl rfl (Nat.le_of_ble_eq_true rfl) dV_firstOf_2 (fun H locs h => ?_)
  refine lv_if_eq (tgt := 17) hx hb dV_firstOf_5 rfl (fun hq => ?_) (fun hq => ?_)
  · have hf := ck_t hq hf
    refine lv_iconst (v := (-1)) hx hb dV_firstOf_17 (by decide) ?_
    exact ck_ri hf hret h dV_firstOf_18
  · have hf := ck_f hq hf
    refine lv_aload_n hx hb dV_firstOf_8 rfl (lv_at hl 0 rfl) ?_
    refine ck_gr C h FV_first dV_firstOf_9 ?_
    refine lv_iload_n hx hb dV_firstOf_12 rfl (lv_at hl 1 rfl) ?_
    obtain ⟨hg, hf⟩ := ck_gd_e hf
    refine ck_ai (x := (st1 19 (x1).toNatClampNeg)) C h (show sh_C[19]? = some (.inr (0, 60)) from rfl) hg rfl dV_firstOf_13 ?_
    refine lv_goto (tgt := 18) hx hb dV_firstOf_14 rfl ?_
    exact ck_ri hf hret h dV_firstOf_18
def fV_secondOf (x1 : Int32) (st : ck_S) : Option (Int32 × ck_S) := (ck_b (fV_has x1 st) fun v2 st1 => (if v2 = 0 then (some ((-1 : Int32), st1)) else (ck_gd x1 60 (some ((st1 20 (x1).toNatClampNeg), st1)))))
set_option maxRecDepth 100000 in
set_option maxHeartbeats 4000000 in
theorem cV_secondOf (l : Launch) (D : va_G) (cA : Nat → ClassId) (ad : Nat → Nat) {x1 : Int32} {st : ck_S} {r0 : Int32} {st0 : ck_S} (hf : fV_secondOf x1 st = some (r0, st0)) : Met l yV_secondOf (.code yV_secondOf bV_secondOf 2 (some .int) :: ck_T) (ck_R 1) (va_Pc [.ref (ad 3), .int x1] (ck_P sh_C cm_cl D cA ad st)) (va_Qi (fun a u => a = r0 ∧ u = st0) (ck_P sh_C cm_cl D cA ad) (ck_A ad sh_C.length)) 0 0 (ck_A ad sh_C.length) := by
  refine ck_met_i (own := R_V) (by decide +kernel) rfl (Nat.le_of_ble_eq_true rfl) (fun p e R s m args below meth c H0 Q ls C hret h hl => ?_)
  have C1 := C
  obtain ⟨hx, hb, hml, hown, hts, hK, hlv, hlo⟩ := C1
  have hl : lv_has ls 2 [(0, .ref (ad 3)), (1, .int x1)] := hl
  unfold fV_secondOf at hf
  refine lv_aload_n hx hb dV_secondOf_0 rfl (lv_at hl 0 rfl) ?_
  refine lv_iload_n hx hb dV_secondOf_1 rfl (lv_at hl 1 rfl) ?_
  obtain ⟨v2, st1, hc, hf⟩ := ck_b_e hf
  refine ck_vi (As := [.int x1]) (rest := []) (q := 3) C h hl CV_V_has sV_has q_V (cV_has l D cA ad hc) (Nat.le_of_ble_eq_true rfl) rfl rfl (Nat.le_of_ble_eq_true rfl) dV_secondOf_2 (fun H locs h => ?_)
  refine lv_if_eq (tgt := 17) hx hb dV_secondOf_5 rfl (fun hq => ?_) (fun hq => ?_)
  · have hf := ck_t hq hf
    refine lv_iconst (v := (-1)) hx hb dV_secondOf_17 (by decide) ?_
    exact ck_ri hf hret h dV_secondOf_18
  · have hf := ck_f hq hf
    refine lv_aload_n hx hb dV_secondOf_8 rfl (lv_at hl 0 rfl) ?_
    refine ck_gr C h FV_second dV_secondOf_9 ?_
    refine lv_iload_n hx hb dV_secondOf_12 rfl (lv_at hl 1 rfl) ?_
    obtain ⟨hg, hf⟩ := ck_gd_e hf
    refine ck_ai (x := (st1 20 (x1).toNatClampNeg)) C h (show sh_C[20]? = some (.inr (0, 60)) from rfl) hg rfl dV_secondOf_13 ?_
    refine lv_goto (tgt := 18) hx hb dV_secondOf_14 rfl ?_
    exact ck_ri hf hret h dV_secondOf_18
end Svalu
end
section
theorem dM_reset_0 : decode bM_reset 0 = .ok (.aload_n 0, 1) := by decide +kernel
theorem dM_reset_1 : decode bM_reset 1 = .ok (.iconst (-1), 1) := by decide +kernel
theorem dM_reset_2 : decode bM_reset 2 = .ok (.putfield 27, 3) := by decide +kernel
theorem dM_reset_5 : decode bM_reset 5 = .ok (.aload_n 0, 1) := by decide +kernel
theorem dM_reset_6 : decode bM_reset 6 = .ok (.iconst 0, 1) := by decide +kernel
theorem dM_reset_7 : decode bM_reset 7 = .ok (.putfield 31, 3) := by decide +kernel
theorem dM_reset_10 : decode bM_reset 10 = .ok (.aload_n 0, 1) := by decide +kernel
theorem dM_reset_11 : decode bM_reset 11 = .ok (.iconst 0, 1) := by decide +kernel
theorem dM_reset_12 : decode bM_reset 12 = .ok (.putfield 34, 3) := by decide +kernel
theorem dM_reset_15 : decode bM_reset 15 = .ok (.aload_n 0, 1) := by decide +kernel
theorem dM_reset_16 : decode bM_reset 16 = .ok (.getfield 18, 3) := by decide +kernel
theorem dM_reset_19 : decode bM_reset 19 = .ok (.iconst 0, 1) := by decide +kernel
theorem dM_reset_20 : decode bM_reset 20 = .ok (.invokestatic 41, 3) := by decide +kernel
theorem dM_reset_23 : decode bM_reset 23 = .ok (.return_, 1) := by decide +kernel
theorem dM_isBegun_0 : decode bM_isBegun 0 = .ok (.aload_n 0, 1) := by decide +kernel
theorem dM_isBegun_1 : decode bM_isBegun 1 = .ok (.getfield 27, 3) := by decide +kernel
theorem dM_isBegun_4 : decode bM_isBegun 4 = .ok (.iconst (-1), 1) := by decide +kernel
theorem dM_isBegun_5 : decode bM_isBegun 5 = .ok (.if_icmp .eq 7, 3) := by decide +kernel
theorem dM_isBegun_8 : decode bM_isBegun 8 = .ok (.iconst 1, 1) := by decide +kernel
theorem dM_isBegun_9 : decode bM_isBegun 9 = .ok (.goto 4, 3) := by decide +kernel
theorem dM_isBegun_12 : decode bM_isBegun 12 = .ok (.iconst 0, 1) := by decide +kernel
theorem dM_isBegun_13 : decode bM_isBegun 13 = .ok (.ireturn, 1) := by decide +kernel
theorem dM_beginOver_0 : decode bM_beginOver 0 = .ok (.aload_n 0, 1) := by decide +kernel
theorem dM_beginOver_1 : decode bM_beginOver 1 = .ok (.iload_n 1, 1) := by decide +kernel
theorem dM_beginOver_2 : decode bM_beginOver 2 = .ok (.putfield 27, 3) := by decide +kernel
theorem dM_beginOver_5 : decode bM_beginOver 5 = .ok (.return_, 1) := by decide +kernel
theorem dM_typeOver_0 : decode bM_typeOver 0 = .ok (.aload_n 0, 1) := by decide +kernel
theorem dM_typeOver_1 : decode bM_typeOver 1 = .ok (.getfield 27, 3) := by decide +kernel
theorem dM_typeOver_4 : decode bM_typeOver 4 = .ok (.ireturn, 1) := by decide +kernel
theorem dM_hasRow_0 : decode bM_hasRow 0 = .ok (.iload_n 1, 1) := by decide +kernel
theorem dM_hasRow_1 : decode bM_hasRow 1 = .ok (.ifCond .lt 15, 3) := by decide +kernel
theorem dM_hasRow_4 : decode bM_hasRow 4 = .ok (.iload_n 1, 1) := by decide +kernel
theorem dM_hasRow_5 : decode bM_hasRow 5 = .ok (.aload_n 0, 1) := by decide +kernel
theorem dM_hasRow_6 : decode bM_hasRow 6 = .ok (.getfield 31, 3) := by decide +kernel
theorem dM_hasRow_9 : decode bM_hasRow 9 = .ok (.if_icmp .ge 7, 3) := by decide +kernel
theorem dM_hasRow_12 : decode bM_hasRow 12 = .ok (.iconst 1, 1) := by decide +kernel
theorem dM_hasRow_13 : decode bM_hasRow 13 = .ok (.goto 4, 3) := by decide +kernel
theorem dM_hasRow_16 : decode bM_hasRow 16 = .ok (.iconst 0, 1) := by decide +kernel
theorem dM_hasRow_17 : decode bM_hasRow 17 = .ok (.ireturn, 1) := by decide +kernel
theorem dM_layOut_0 : decode bM_layOut 0 = .ok (.iload_n 2, 1) := by decide +kernel
theorem dM_layOut_1 : decode bM_layOut 1 = .ok (.istore 5, 2) := by decide +kernel
theorem dM_layOut_3 : decode bM_layOut 3 = .ok (.iload_n 3, 1) := by decide +kernel
theorem dM_layOut_4 : decode bM_layOut 4 = .ok (.istore 6, 2) := by decide +kernel
theorem dM_layOut_6 : decode bM_layOut 6 = .ok (.iconst 0, 1) := by decide +kernel
theorem dM_layOut_7 : decode bM_layOut 7 = .ok (.istore 7, 2) := by decide +kernel
theorem dM_layOut_9 : decode bM_layOut 9 = .ok (.iload 7, 2) := by decide +kernel
theorem dM_layOut_11 : decode bM_layOut 11 = .ok (.bipush 8, 2) := by decide +kernel
theorem dM_layOut_13 : decode bM_layOut 13 = .ok (.if_icmp .ge 98, 3) := by decide +kernel
theorem dM_layOut_16 : decode bM_layOut 16 = .ok (.aload_n 0, 1) := by decide +kernel
theorem dM_layOut_17 : decode bM_layOut 17 = .ok (.getfield 37, 3) := by decide +kernel
theorem dM_layOut_20 : decode bM_layOut 20 = .ok (.iload 5, 2) := by decide +kernel
theorem dM_layOut_22 : decode bM_layOut 22 = .ok (.invokevirtual 57, 3) := by decide +kernel
theorem dM_layOut_25 : decode bM_layOut 25 = .ok (.ifCond .eq 86, 3) := by decide +kernel
theorem dM_layOut_28 : decode bM_layOut 28 = .ok (.aload_n 0, 1) := by decide +kernel
theorem dM_layOut_29 : decode bM_layOut 29 = .ok (.getfield 37, 3) := by decide +kernel
theorem dM_layOut_32 : decode bM_layOut 32 = .ok (.aload_n 0, 1) := by decide +kernel
theorem dM_layOut_33 : decode bM_layOut 33 = .ok (.getfield 37, 3) := by decide +kernel
theorem dM_layOut_36 : decode bM_layOut 36 = .ok (.iload 5, 2) := by decide +kernel
theorem dM_layOut_38 : decode bM_layOut 38 = .ok (.invokevirtual 61, 3) := by decide +kernel
theorem dM_layOut_41 : decode bM_layOut 41 = .ok (.invokevirtual 47, 3) := by decide +kernel
theorem dM_layOut_44 : decode bM_layOut 44 = .ok (.istore 8, 2) := by decide +kernel
theorem dM_layOut_46 : decode bM_layOut 46 = .ok (.iload 6, 2) := by decide +kernel
theorem dM_layOut_48 : decode bM_layOut 48 = .ok (.iload 8, 2) := by decide +kernel
theorem dM_layOut_50 : decode bM_layOut 50 = .ok (.if_icmp .ge 7, 3) := by decide +kernel
theorem dM_layOut_53 : decode bM_layOut 53 = .ok (.iconst 1, 1) := by decide +kernel
theorem dM_layOut_54 : decode bM_layOut 54 = .ok (.goto 4, 3) := by decide +kernel
theorem dM_layOut_57 : decode bM_layOut 57 = .ok (.iconst 0, 1) := by decide +kernel
theorem dM_layOut_58 : decode bM_layOut 58 = .ok (.istore 9, 2) := by decide +kernel
theorem dM_layOut_60 : decode bM_layOut 60 = .ok (.iload 9, 2) := by decide +kernel
theorem dM_layOut_62 : decode bM_layOut 62 = .ok (.ifCond .eq 8, 3) := by decide +kernel
theorem dM_layOut_65 : decode bM_layOut 65 = .ok (.iload 6, 2) := by decide +kernel
theorem dM_layOut_67 : decode bM_layOut 67 = .ok (.goto 8, 3) := by decide +kernel
theorem dM_layOut_70 : decode bM_layOut 70 = .ok (.iload 6, 2) := by decide +kernel
theorem dM_layOut_72 : decode bM_layOut 72 = .ok (.iload 8, 2) := by decide +kernel
theorem dM_layOut_74 : decode bM_layOut 74 = .ok (.isub, 1) := by decide +kernel
theorem dM_layOut_75 : decode bM_layOut 75 = .ok (.istore 6, 2) := by decide +kernel
theorem dM_layOut_77 : decode bM_layOut 77 = .ok (.iload 9, 2) := by decide +kernel
theorem dM_layOut_79 : decode bM_layOut 79 = .ok (.ifCond .eq 15, 3) := by decide +kernel
theorem dM_layOut_82 : decode bM_layOut 82 = .ok (.aload_n 0, 1) := by decide +kernel
theorem dM_layOut_83 : decode bM_layOut 83 = .ok (.getfield 37, 3) := by decide +kernel
theorem dM_layOut_86 : decode bM_layOut 86 = .ok (.iload 5, 2) := by decide +kernel
theorem dM_layOut_88 : decode bM_layOut 88 = .ok (.invokevirtual 61, 3) := by decide +kernel
theorem dM_layOut_91 : decode bM_layOut 91 = .ok (.goto 12, 3) := by decide +kernel
theorem dM_layOut_94 : decode bM_layOut 94 = .ok (.aload_n 0, 1) := by decide +kernel
theorem dM_layOut_95 : decode bM_layOut 95 = .ok (.getfield 37, 3) := by decide +kernel
theorem dM_layOut_98 : decode bM_layOut 98 = .ok (.iload 5, 2) := by decide +kernel
theorem dM_layOut_100 : decode bM_layOut 100 = .ok (.invokevirtual 64, 3) := by decide +kernel
theorem dM_layOut_103 : decode bM_layOut 103 = .ok (.istore 5, 2) := by decide +kernel
theorem dM_layOut_105 : decode bM_layOut 105 = .ok (.iinc 7 1, 3) := by decide +kernel
theorem dM_layOut_108 : decode bM_layOut 108 = .ok (.goto (-99), 3) := by decide +kernel
theorem dM_layOut_111 : decode bM_layOut 111 = .ok (.iload 4, 2) := by decide +kernel
theorem dM_layOut_113 : decode bM_layOut 113 = .ok (.bipush 16, 2) := by decide +kernel
theorem dM_layOut_115 : decode bM_layOut 115 = .ok (.if_icmp .ge 27, 3) := by decide +kernel
theorem dM_layOut_118 : decode bM_layOut 118 = .ok (.aload_n 0, 1) := by decide +kernel
theorem dM_layOut_119 : decode bM_layOut 119 = .ok (.getfield 37, 3) := by decide +kernel
theorem dM_layOut_122 : decode bM_layOut 122 = .ok (.iload 5, 2) := by decide +kernel
theorem dM_layOut_124 : decode bM_layOut 124 = .ok (.invokevirtual 67, 3) := by decide +kernel
theorem dM_layOut_127 : decode bM_layOut 127 = .ok (.ifCond .eq 15, 3) := by decide +kernel
theorem dM_layOut_130 : decode bM_layOut 130 = .ok (.aload_n 0, 1) := by decide +kernel
theorem dM_layOut_131 : decode bM_layOut 131 = .ok (.getfield 37, 3) := by decide +kernel
theorem dM_layOut_134 : decode bM_layOut 134 = .ok (.iload 5, 2) := by decide +kernel
theorem dM_layOut_136 : decode bM_layOut 136 = .ok (.invokevirtual 70, 3) := by decide +kernel
theorem dM_layOut_139 : decode bM_layOut 139 = .ok (.ifCond .eq 4, 3) := by decide +kernel
theorem dM_layOut_142 : decode bM_layOut 142 = .ok (.return_, 1) := by decide +kernel
theorem dM_layOut_143 : decode bM_layOut 143 = .ok (.aload_n 0, 1) := by decide +kernel
theorem dM_layOut_144 : decode bM_layOut 144 = .ok (.getfield 18, 3) := by decide +kernel
theorem dM_layOut_147 : decode bM_layOut 147 = .ok (.iload 4, 2) := by decide +kernel
theorem dM_layOut_149 : decode bM_layOut 149 = .ok (.dup2, 1) := by decide +kernel
theorem dM_layOut_150 : decode bM_layOut 150 = .ok (.iaload, 1) := by decide +kernel
theorem dM_layOut_151 : decode bM_layOut 151 = .ok (.iconst 1, 1) := by decide +kernel
theorem dM_layOut_152 : decode bM_layOut 152 = .ok (.iload_n 1, 1) := by decide +kernel
theorem dM_layOut_153 : decode bM_layOut 153 = .ok (.ishl, 1) := by decide +kernel
theorem dM_layOut_154 : decode bM_layOut 154 = .ok (.ior, 1) := by decide +kernel
theorem dM_layOut_155 : decode bM_layOut 155 = .ok (.iastore, 1) := by decide +kernel
theorem dM_layOut_156 : decode bM_layOut 156 = .ok (.aload_n 0, 1) := by decide +kernel
theorem dM_layOut_157 : decode bM_layOut 157 = .ok (.getfield 21, 3) := by decide +kernel
theorem dM_layOut_160 : decode bM_layOut 160 = .ok (.iload 4, 2) := by decide +kernel
theorem dM_layOut_162 : decode bM_layOut 162 = .ok (.bipush 16, 2) := by decide +kernel
theorem dM_layOut_164 : decode bM_layOut 164 = .ok (.imul, 1) := by decide +kernel
theorem dM_layOut_165 : decode bM_layOut 165 = .ok (.iload_n 1, 1) := by decide +kernel
theorem dM_layOut_166 : decode bM_layOut 166 = .ok (.iadd, 1) := by decide +kernel
theorem dM_layOut_167 : decode bM_layOut 167 = .ok (.aload_n 0, 1) := by decide +kernel
theorem dM_layOut_168 : decode bM_layOut 168 = .ok (.getfield 37, 3) := by decide +kernel
theorem dM_layOut_171 : decode bM_layOut 171 = .ok (.iload 5, 2) := by decide +kernel
theorem dM_layOut_173 : decode bM_layOut 173 = .ok (.invokevirtual 73, 3) := by decide +kernel
theorem dM_layOut_176 : decode bM_layOut 176 = .ok (.iastore, 1) := by decide +kernel
theorem dM_layOut_177 : decode bM_layOut 177 = .ok (.aload_n 0, 1) := by decide +kernel
theorem dM_layOut_178 : decode bM_layOut 178 = .ok (.getfield 24, 3) := by decide +kernel
theorem dM_layOut_181 : decode bM_layOut 181 = .ok (.iload 4, 2) := by decide +kernel
theorem dM_layOut_183 : decode bM_layOut 183 = .ok (.bipush 16, 2) := by decide +kernel
theorem dM_layOut_185 : decode bM_layOut 185 = .ok (.imul, 1) := by decide +kernel
theorem dM_layOut_186 : decode bM_layOut 186 = .ok (.iload_n 1, 1) := by decide +kernel
theorem dM_layOut_187 : decode bM_layOut 187 = .ok (.iadd, 1) := by decide +kernel
theorem dM_layOut_188 : decode bM_layOut 188 = .ok (.aload_n 0, 1) := by decide +kernel
theorem dM_layOut_189 : decode bM_layOut 189 = .ok (.getfield 37, 3) := by decide +kernel
theorem dM_layOut_192 : decode bM_layOut 192 = .ok (.iload 5, 2) := by decide +kernel
theorem dM_layOut_194 : decode bM_layOut 194 = .ok (.invokevirtual 76, 3) := by decide +kernel
theorem dM_layOut_197 : decode bM_layOut 197 = .ok (.iastore, 1) := by decide +kernel
theorem dM_layOut_198 : decode bM_layOut 198 = .ok (.aload_n 0, 1) := by decide +kernel
theorem dM_layOut_199 : decode bM_layOut 199 = .ok (.getfield 37, 3) := by decide +kernel
theorem dM_layOut_202 : decode bM_layOut 202 = .ok (.aload_n 0, 1) := by decide +kernel
theorem dM_layOut_203 : decode bM_layOut 203 = .ok (.getfield 37, 3) := by decide +kernel
theorem dM_layOut_206 : decode bM_layOut 206 = .ok (.iload 5, 2) := by decide +kernel
theorem dM_layOut_208 : decode bM_layOut 208 = .ok (.invokevirtual 64, 3) := by decide +kernel
theorem dM_layOut_211 : decode bM_layOut 211 = .ok (.invokevirtual 47, 3) := by decide +kernel
theorem dM_layOut_214 : decode bM_layOut 214 = .ok (.istore 7, 2) := by decide +kernel
theorem dM_layOut_216 : decode bM_layOut 216 = .ok (.aload_n 0, 1) := by decide +kernel
theorem dM_layOut_217 : decode bM_layOut 217 = .ok (.iload_n 1, 1) := by decide +kernel
theorem dM_layOut_218 : decode bM_layOut 218 = .ok (.aload_n 0, 1) := by decide +kernel
theorem dM_layOut_219 : decode bM_layOut 219 = .ok (.getfield 37, 3) := by decide +kernel
theorem dM_layOut_222 : decode bM_layOut 222 = .ok (.iload 5, 2) := by decide +kernel
theorem dM_layOut_224 : decode bM_layOut 224 = .ok (.invokevirtual 61, 3) := by decide +kernel
theorem dM_layOut_227 : decode bM_layOut 227 = .ok (.iload 6, 2) := by decide +kernel
theorem dM_layOut_229 : decode bM_layOut 229 = .ok (.iload 7, 2) := by decide +kernel
theorem dM_layOut_231 : decode bM_layOut 231 = .ok (.idiv, 1) := by decide +kernel
theorem dM_layOut_232 : decode bM_layOut 232 = .ok (.iconst 2, 1) := by decide +kernel
theorem dM_layOut_233 : decode bM_layOut 233 = .ok (.iload 4, 2) := by decide +kernel
theorem dM_layOut_235 : decode bM_layOut 235 = .ok (.imul, 1) := by decide +kernel
theorem dM_layOut_236 : decode bM_layOut 236 = .ok (.invokevirtual 53, 3) := by decide +kernel
theorem dM_layOut_239 : decode bM_layOut 239 = .ok (.aload_n 0, 1) := by decide +kernel
theorem dM_layOut_240 : decode bM_layOut 240 = .ok (.iload_n 1, 1) := by decide +kernel
theorem dM_layOut_241 : decode bM_layOut 241 = .ok (.aload_n 0, 1) := by decide +kernel
theorem dM_layOut_242 : decode bM_layOut 242 = .ok (.getfield 37, 3) := by decide +kernel
theorem dM_layOut_245 : decode bM_layOut 245 = .ok (.iload 5, 2) := by decide +kernel
theorem dM_layOut_247 : decode bM_layOut 247 = .ok (.invokevirtual 64, 3) := by decide +kernel
theorem dM_layOut_250 : decode bM_layOut 250 = .ok (.iload 6, 2) := by decide +kernel
theorem dM_layOut_252 : decode bM_layOut 252 = .ok (.iload 7, 2) := by decide +kernel
theorem dM_layOut_254 : decode bM_layOut 254 = .ok (.irem, 1) := by decide +kernel
theorem dM_layOut_255 : decode bM_layOut 255 = .ok (.iconst 2, 1) := by decide +kernel
theorem dM_layOut_256 : decode bM_layOut 256 = .ok (.iload 4, 2) := by decide +kernel
theorem dM_layOut_258 : decode bM_layOut 258 = .ok (.imul, 1) := by decide +kernel
theorem dM_layOut_259 : decode bM_layOut 259 = .ok (.iconst 1, 1) := by decide +kernel
theorem dM_layOut_260 : decode bM_layOut 260 = .ok (.iadd, 1) := by decide +kernel
theorem dM_layOut_261 : decode bM_layOut 261 = .ok (.invokevirtual 53, 3) := by decide +kernel
theorem dM_layOut_264 : decode bM_layOut 264 = .ok (.return_, 1) := by decide +kernel
theorem dM_addRow_0 : decode bM_addRow 0 = .ok (.aload_n 0, 1) := by decide +kernel
theorem dM_addRow_1 : decode bM_addRow 1 = .ok (.getfield 37, 3) := by decide +kernel
theorem dM_addRow_4 : decode bM_addRow 4 = .ok (.iload_n 1, 1) := by decide +kernel
theorem dM_addRow_5 : decode bM_addRow 5 = .ok (.invokevirtual 47, 3) := by decide +kernel
theorem dM_addRow_8 : decode bM_addRow 8 = .ok (.istore_n 2, 1) := by decide +kernel
theorem dM_addRow_9 : decode bM_addRow 9 = .ok (.aload_n 0, 1) := by decide +kernel
theorem dM_addRow_10 : decode bM_addRow 10 = .ok (.getfield 31, 3) := by decide +kernel
theorem dM_addRow_13 : decode bM_addRow 13 = .ok (.bipush 8, 2) := by decide +kernel
theorem dM_addRow_15 : decode bM_addRow 15 = .ok (.if_icmp .ge 14, 3) := by decide +kernel
theorem dM_addRow_18 : decode bM_addRow 18 = .ok (.aload_n 0, 1) := by decide +kernel
theorem dM_addRow_19 : decode bM_addRow 19 = .ok (.getfield 34, 3) := by decide +kernel
theorem dM_addRow_22 : decode bM_addRow 22 = .ok (.iload_n 2, 1) := by decide +kernel
theorem dM_addRow_23 : decode bM_addRow 23 = .ok (.iadd, 1) := by decide +kernel
theorem dM_addRow_24 : decode bM_addRow 24 = .ok (.bipush 16, 2) := by decide +kernel
theorem dM_addRow_26 : decode bM_addRow 26 = .ok (.if_icmp .le 6, 3) := by decide +kernel
theorem dM_addRow_29 : decode bM_addRow 29 = .ok (.bipush (-8), 2) := by decide +kernel
theorem dM_addRow_31 : decode bM_addRow 31 = .ok (.ireturn, 1) := by decide +kernel
theorem dM_addRow_32 : decode bM_addRow 32 = .ok (.aload_n 0, 1) := by decide +kernel
theorem dM_addRow_33 : decode bM_addRow 33 = .ok (.getfield 31, 3) := by decide +kernel
theorem dM_addRow_36 : decode bM_addRow 36 = .ok (.istore_n 3, 1) := by decide +kernel
theorem dM_addRow_37 : decode bM_addRow 37 = .ok (.iconst 0, 1) := by decide +kernel
theorem dM_addRow_38 : decode bM_addRow 38 = .ok (.istore 4, 2) := by decide +kernel
theorem dM_addRow_40 : decode bM_addRow 40 = .ok (.iload 4, 2) := by decide +kernel
theorem dM_addRow_42 : decode bM_addRow 42 = .ok (.iload_n 2, 1) := by decide +kernel
theorem dM_addRow_43 : decode bM_addRow 43 = .ok (.if_icmp .ge 37, 3) := by decide +kernel
theorem dM_addRow_46 : decode bM_addRow 46 = .ok (.aload_n 0, 1) := by decide +kernel
theorem dM_addRow_47 : decode bM_addRow 47 = .ok (.getfield 15, 3) := by decide +kernel
theorem dM_addRow_50 : decode bM_addRow 50 = .ok (.aload_n 0, 1) := by decide +kernel
theorem dM_addRow_51 : decode bM_addRow 51 = .ok (.getfield 34, 3) := by decide +kernel
theorem dM_addRow_54 : decode bM_addRow 54 = .ok (.iload 4, 2) := by decide +kernel
theorem dM_addRow_56 : decode bM_addRow 56 = .ok (.iadd, 1) := by decide +kernel
theorem dM_addRow_57 : decode bM_addRow 57 = .ok (.iload_n 3, 1) := by decide +kernel
theorem dM_addRow_58 : decode bM_addRow 58 = .ok (.iastore, 1) := by decide +kernel
theorem dM_addRow_59 : decode bM_addRow 59 = .ok (.aload_n 0, 1) := by decide +kernel
theorem dM_addRow_60 : decode bM_addRow 60 = .ok (.aload_n 0, 1) := by decide +kernel
theorem dM_addRow_61 : decode bM_addRow 61 = .ok (.getfield 34, 3) := by decide +kernel
theorem dM_addRow_64 : decode bM_addRow 64 = .ok (.iload 4, 2) := by decide +kernel
theorem dM_addRow_66 : decode bM_addRow 66 = .ok (.iadd, 1) := by decide +kernel
theorem dM_addRow_67 : decode bM_addRow 67 = .ok (.iload_n 1, 1) := by decide +kernel
theorem dM_addRow_68 : decode bM_addRow 68 = .ok (.iload 4, 2) := by decide +kernel
theorem dM_addRow_70 : decode bM_addRow 70 = .ok (.iconst 1, 1) := by decide +kernel
theorem dM_addRow_71 : decode bM_addRow 71 = .ok (.invokevirtual 53, 3) := by decide +kernel
theorem dM_addRow_74 : decode bM_addRow 74 = .ok (.iinc 4 1, 3) := by decide +kernel
theorem dM_addRow_77 : decode bM_addRow 77 = .ok (.goto (-37), 3) := by decide +kernel
theorem dM_addRow_80 : decode bM_addRow 80 = .ok (.aload_n 0, 1) := by decide +kernel
theorem dM_addRow_81 : decode bM_addRow 81 = .ok (.dup, 1) := by decide +kernel
theorem dM_addRow_82 : decode bM_addRow 82 = .ok (.getfield 34, 3) := by decide +kernel
theorem dM_addRow_85 : decode bM_addRow 85 = .ok (.iload_n 2, 1) := by decide +kernel
theorem dM_addRow_86 : decode bM_addRow 86 = .ok (.iadd, 1) := by decide +kernel
theorem dM_addRow_87 : decode bM_addRow 87 = .ok (.putfield 34, 3) := by decide +kernel
theorem dM_addRow_90 : decode bM_addRow 90 = .ok (.aload_n 0, 1) := by decide +kernel
theorem dM_addRow_91 : decode bM_addRow 91 = .ok (.dup, 1) := by decide +kernel
theorem dM_addRow_92 : decode bM_addRow 92 = .ok (.getfield 31, 3) := by decide +kernel
theorem dM_addRow_95 : decode bM_addRow 95 = .ok (.iconst 1, 1) := by decide +kernel
theorem dM_addRow_96 : decode bM_addRow 96 = .ok (.iadd, 1) := by decide +kernel
theorem dM_addRow_97 : decode bM_addRow 97 = .ok (.putfield 31, 3) := by decide +kernel
theorem dM_addRow_100 : decode bM_addRow 100 = .ok (.aload_n 0, 1) := by decide +kernel
theorem dM_addRow_101 : decode bM_addRow 101 = .ok (.getfield 9, 3) := by decide +kernel
theorem dM_addRow_104 : decode bM_addRow 104 = .ok (.aload_n 0, 1) := by decide +kernel
theorem dM_addRow_105 : decode bM_addRow 105 = .ok (.getfield 31, 3) := by decide +kernel
theorem dM_addRow_108 : decode bM_addRow 108 = .ok (.aload_n 0, 1) := by decide +kernel
theorem dM_addRow_109 : decode bM_addRow 109 = .ok (.getfield 34, 3) := by decide +kernel
theorem dM_addRow_112 : decode bM_addRow 112 = .ok (.iastore, 1) := by decide +kernel
theorem dM_addRow_113 : decode bM_addRow 113 = .ok (.iload_n 3, 1) := by decide +kernel
theorem dM_addRow_114 : decode bM_addRow 114 = .ok (.ireturn, 1) := by decide +kernel
theorem dM_allClauses_0 : decode bM_allClauses 0 = .ok (.iconst 1, 1) := by decide +kernel
theorem dM_allClauses_1 : decode bM_allClauses 1 = .ok (.aload_n 0, 1) := by decide +kernel
theorem dM_allClauses_2 : decode bM_allClauses 2 = .ok (.getfield 34, 3) := by decide +kernel
theorem dM_allClauses_5 : decode bM_allClauses 5 = .ok (.ishl, 1) := by decide +kernel
theorem dM_allClauses_6 : decode bM_allClauses 6 = .ok (.iconst 1, 1) := by decide +kernel
theorem dM_allClauses_7 : decode bM_allClauses 7 = .ok (.isub, 1) := by decide +kernel
theorem dM_allClauses_8 : decode bM_allClauses 8 = .ok (.ireturn, 1) := by decide +kernel
theorem dM_firstOf_0 : decode bM_firstOf 0 = .ok (.iconst 0, 1) := by decide +kernel
theorem dM_firstOf_1 : decode bM_firstOf 1 = .ok (.istore_n 2, 1) := by decide +kernel
theorem dM_firstOf_2 : decode bM_firstOf 2 = .ok (.iload_n 2, 1) := by decide +kernel
theorem dM_firstOf_3 : decode bM_firstOf 3 = .ok (.aload_n 0, 1) := by decide +kernel
theorem dM_firstOf_4 : decode bM_firstOf 4 = .ok (.getfield 34, 3) := by decide +kernel
theorem dM_firstOf_7 : decode bM_firstOf 7 = .ok (.if_icmp .ge 20, 3) := by decide +kernel
theorem dM_firstOf_10 : decode bM_firstOf 10 = .ok (.iload_n 1, 1) := by decide +kernel
theorem dM_firstOf_11 : decode bM_firstOf 11 = .ok (.iload_n 2, 1) := by decide +kernel
theorem dM_firstOf_12 : decode bM_firstOf 12 = .ok (.ishr, 1) := by decide +kernel
theorem dM_firstOf_13 : decode bM_firstOf 13 = .ok (.iconst 1, 1) := by decide +kernel
theorem dM_firstOf_14 : decode bM_firstOf 14 = .ok (.iand, 1) := by decide +kernel
theorem dM_firstOf_15 : decode bM_firstOf 15 = .ok (.iconst 1, 1) := by decide +kernel
theorem dM_firstOf_16 : decode bM_firstOf 16 = .ok (.if_icmp .ne 5, 3) := by decide +kernel
theorem dM_firstOf_19 : decode bM_firstOf 19 = .ok (.iload_n 2, 1) := by decide +kernel
theorem dM_firstOf_20 : decode bM_firstOf 20 = .ok (.ireturn, 1) := by decide +kernel
theorem dM_firstOf_21 : decode bM_firstOf 21 = .ok (.iinc 2 1, 3) := by decide +kernel
theorem dM_firstOf_24 : decode bM_firstOf 24 = .ok (.goto (-22), 3) := by decide +kernel
theorem dM_firstOf_27 : decode bM_firstOf 27 = .ok (.iconst (-1), 1) := by decide +kernel
theorem dM_firstOf_28 : decode bM_firstOf 28 = .ok (.ireturn, 1) := by decide +kernel
theorem dM_rowOf_0 : decode bM_rowOf 0 = .ok (.iload_n 1, 1) := by decide +kernel
theorem dM_rowOf_1 : decode bM_rowOf 1 = .ok (.ifCond .lt 20, 3) := by decide +kernel
theorem dM_rowOf_4 : decode bM_rowOf 4 = .ok (.iload_n 1, 1) := by decide +kernel
theorem dM_rowOf_5 : decode bM_rowOf 5 = .ok (.aload_n 0, 1) := by decide +kernel
theorem dM_rowOf_6 : decode bM_rowOf 6 = .ok (.getfield 34, 3) := by decide +kernel
theorem dM_rowOf_9 : decode bM_rowOf 9 = .ok (.if_icmp .ge 12, 3) := by decide +kernel
theorem dM_rowOf_12 : decode bM_rowOf 12 = .ok (.aload_n 0, 1) := by decide +kernel
theorem dM_rowOf_13 : decode bM_rowOf 13 = .ok (.getfield 15, 3) := by decide +kernel
theorem dM_rowOf_16 : decode bM_rowOf 16 = .ok (.iload_n 1, 1) := by decide +kernel
theorem dM_rowOf_17 : decode bM_rowOf 17 = .ok (.iaload, 1) := by decide +kernel
theorem dM_rowOf_18 : decode bM_rowOf 18 = .ok (.goto 4, 3) := by decide +kernel
theorem dM_rowOf_21 : decode bM_rowOf 21 = .ok (.iconst (-1), 1) := by decide +kernel
theorem dM_rowOf_22 : decode bM_rowOf 22 = .ok (.ireturn, 1) := by decide +kernel
theorem dM_placeToTest_0 : decode bM_placeToTest 0 = .ok (.iload_n 1, 1) := by decide +kernel
theorem dM_placeToTest_1 : decode bM_placeToTest 1 = .ok (.iload_n 1, 1) := by decide +kernel
theorem dM_placeToTest_2 : decode bM_placeToTest 2 = .ok (.ineg, 1) := by decide +kernel
theorem dM_placeToTest_3 : decode bM_placeToTest 3 = .ok (.iand, 1) := by decide +kernel
theorem dM_placeToTest_4 : decode bM_placeToTest 4 = .ok (.istore_n 3, 1) := by decide +kernel
theorem dM_placeToTest_5 : decode bM_placeToTest 5 = .ok (.iconst 0, 1) := by decide +kernel
theorem dM_placeToTest_6 : decode bM_placeToTest 6 = .ok (.istore 4, 2) := by decide +kernel
theorem dM_placeToTest_8 : decode bM_placeToTest 8 = .ok (.iconst 0, 1) := by decide +kernel
theorem dM_placeToTest_9 : decode bM_placeToTest 9 = .ok (.istore 5, 2) := by decide +kernel
theorem dM_placeToTest_11 : decode bM_placeToTest 11 = .ok (.iconst 1, 1) := by decide +kernel
theorem dM_placeToTest_12 : decode bM_placeToTest 12 = .ok (.istore 6, 2) := by decide +kernel
theorem dM_placeToTest_14 : decode bM_placeToTest 14 = .ok (.iload 6, 2) := by decide +kernel
theorem dM_placeToTest_16 : decode bM_placeToTest 16 = .ok (.bipush 16, 2) := by decide +kernel
theorem dM_placeToTest_18 : decode bM_placeToTest 18 = .ok (.if_icmp .ge 72, 3) := by decide +kernel
theorem dM_placeToTest_21 : decode bM_placeToTest 21 = .ok (.iload_n 2, 1) := by decide +kernel
theorem dM_placeToTest_22 : decode bM_placeToTest 22 = .ok (.iload 6, 2) := by decide +kernel
theorem dM_placeToTest_24 : decode bM_placeToTest 24 = .ok (.ishr, 1) := by decide +kernel
theorem dM_placeToTest_25 : decode bM_placeToTest 25 = .ok (.iconst 1, 1) := by decide +kernel
theorem dM_placeToTest_26 : decode bM_placeToTest 26 = .ok (.iand, 1) := by decide +kernel
theorem dM_placeToTest_27 : decode bM_placeToTest 27 = .ok (.iconst 1, 1) := by decide +kernel
theorem dM_placeToTest_28 : decode bM_placeToTest 28 = .ok (.if_icmp .ne 19, 3) := by decide +kernel
theorem dM_placeToTest_31 : decode bM_placeToTest 31 = .ok (.aload_n 0, 1) := by decide +kernel
theorem dM_placeToTest_32 : decode bM_placeToTest 32 = .ok (.getfield 18, 3) := by decide +kernel
theorem dM_placeToTest_35 : decode bM_placeToTest 35 = .ok (.iload 6, 2) := by decide +kernel
theorem dM_placeToTest_37 : decode bM_placeToTest 37 = .ok (.iaload, 1) := by decide +kernel
theorem dM_placeToTest_38 : decode bM_placeToTest 38 = .ok (.iload_n 3, 1) := by decide +kernel
theorem dM_placeToTest_39 : decode bM_placeToTest 39 = .ok (.iand, 1) := by decide +kernel
theorem dM_placeToTest_40 : decode bM_placeToTest 40 = .ok (.ifCond .eq 7, 3) := by decide +kernel
theorem dM_placeToTest_43 : decode bM_placeToTest 43 = .ok (.iconst 1, 1) := by decide +kernel
theorem dM_placeToTest_44 : decode bM_placeToTest 44 = .ok (.goto 4, 3) := by decide +kernel
theorem dM_placeToTest_47 : decode bM_placeToTest 47 = .ok (.iconst 0, 1) := by decide +kernel
theorem dM_placeToTest_48 : decode bM_placeToTest 48 = .ok (.istore 7, 2) := by decide +kernel
theorem dM_placeToTest_50 : decode bM_placeToTest 50 = .ok (.aload_n 0, 1) := by decide +kernel
theorem dM_placeToTest_51 : decode bM_placeToTest 51 = .ok (.getfield 18, 3) := by decide +kernel
theorem dM_placeToTest_54 : decode bM_placeToTest 54 = .ok (.iload 6, 2) := by decide +kernel
theorem dM_placeToTest_56 : decode bM_placeToTest 56 = .ok (.iaload, 1) := by decide +kernel
theorem dM_placeToTest_57 : decode bM_placeToTest 57 = .ok (.iload_n 1, 1) := by decide +kernel
theorem dM_placeToTest_58 : decode bM_placeToTest 58 = .ok (.iand, 1) := by decide +kernel
theorem dM_placeToTest_59 : decode bM_placeToTest 59 = .ok (.invokestatic 79, 3) := by decide +kernel
theorem dM_placeToTest_62 : decode bM_placeToTest 62 = .ok (.istore 8, 2) := by decide +kernel
theorem dM_placeToTest_64 : decode bM_placeToTest 64 = .ok (.iload 7, 2) := by decide +kernel
theorem dM_placeToTest_66 : decode bM_placeToTest 66 = .ok (.ifCond .eq 18, 3) := by decide +kernel
theorem dM_placeToTest_69 : decode bM_placeToTest 69 = .ok (.iload 8, 2) := by decide +kernel
theorem dM_placeToTest_71 : decode bM_placeToTest 71 = .ok (.iload 5, 2) := by decide +kernel
theorem dM_placeToTest_73 : decode bM_placeToTest 73 = .ok (.if_icmp .le 11, 3) := by decide +kernel
theorem dM_placeToTest_76 : decode bM_placeToTest 76 = .ok (.iload 6, 2) := by decide +kernel
theorem dM_placeToTest_78 : decode bM_placeToTest 78 = .ok (.istore 4, 2) := by decide +kernel
theorem dM_placeToTest_80 : decode bM_placeToTest 80 = .ok (.iload 8, 2) := by decide +kernel
theorem dM_placeToTest_82 : decode bM_placeToTest 82 = .ok (.istore 5, 2) := by decide +kernel
theorem dM_placeToTest_84 : decode bM_placeToTest 84 = .ok (.iinc 6 1, 3) := by decide +kernel
theorem dM_placeToTest_87 : decode bM_placeToTest 87 = .ok (.goto (-73), 3) := by decide +kernel
theorem dM_placeToTest_90 : decode bM_placeToTest 90 = .ok (.iload 4, 2) := by decide +kernel
theorem dM_placeToTest_92 : decode bM_placeToTest 92 = .ok (.ireturn, 1) := by decide +kernel
theorem dM_typeAskedAt_0 : decode bM_typeAskedAt 0 = .ok (.aload_n 0, 1) := by decide +kernel
theorem dM_typeAskedAt_1 : decode bM_typeAskedAt 1 = .ok (.iload_n 2, 1) := by decide +kernel
theorem dM_typeAskedAt_2 : decode bM_typeAskedAt 2 = .ok (.aload_n 0, 1) := by decide +kernel
theorem dM_typeAskedAt_3 : decode bM_typeAskedAt 3 = .ok (.getfield 18, 3) := by decide +kernel
theorem dM_typeAskedAt_6 : decode bM_typeAskedAt 6 = .ok (.iload_n 1, 1) := by decide +kernel
theorem dM_typeAskedAt_7 : decode bM_typeAskedAt 7 = .ok (.iaload, 1) := by decide +kernel
theorem dM_typeAskedAt_8 : decode bM_typeAskedAt 8 = .ok (.iand, 1) := by decide +kernel
theorem dM_typeAskedAt_9 : decode bM_typeAskedAt 9 = .ok (.invokevirtual 84, 3) := by decide +kernel
theorem dM_typeAskedAt_12 : decode bM_typeAskedAt 12 = .ok (.istore_n 3, 1) := by decide +kernel
theorem dM_typeAskedAt_13 : decode bM_typeAskedAt 13 = .ok (.iload_n 3, 1) := by decide +kernel
theorem dM_typeAskedAt_14 : decode bM_typeAskedAt 14 = .ok (.iconst (-1), 1) := by decide +kernel
theorem dM_typeAskedAt_15 : decode bM_typeAskedAt 15 = .ok (.if_icmp .ne 7, 3) := by decide +kernel
theorem dM_typeAskedAt_18 : decode bM_typeAskedAt 18 = .ok (.iconst (-1), 1) := by decide +kernel
theorem dM_typeAskedAt_19 : decode bM_typeAskedAt 19 = .ok (.goto 14, 3) := by decide +kernel
theorem dM_typeAskedAt_22 : decode bM_typeAskedAt 22 = .ok (.aload_n 0, 1) := by decide +kernel
theorem dM_typeAskedAt_23 : decode bM_typeAskedAt 23 = .ok (.getfield 24, 3) := by decide +kernel
theorem dM_typeAskedAt_26 : decode bM_typeAskedAt 26 = .ok (.iload_n 1, 1) := by decide +kernel
theorem dM_typeAskedAt_27 : decode bM_typeAskedAt 27 = .ok (.bipush 16, 2) := by decide +kernel
theorem dM_typeAskedAt_29 : decode bM_typeAskedAt 29 = .ok (.imul, 1) := by decide +kernel
theorem dM_typeAskedAt_30 : decode bM_typeAskedAt 30 = .ok (.iload_n 3, 1) := by decide +kernel
theorem dM_typeAskedAt_31 : decode bM_typeAskedAt 31 = .ok (.iadd, 1) := by decide +kernel
theorem dM_typeAskedAt_32 : decode bM_typeAskedAt 32 = .ok (.iaload, 1) := by decide +kernel
theorem dM_typeAskedAt_33 : decode bM_typeAskedAt 33 = .ok (.ireturn, 1) := by decide +kernel
theorem dM_notAsking_0 : decode bM_notAsking 0 = .ok (.iload_n 1, 1) := by decide +kernel
theorem dM_notAsking_1 : decode bM_notAsking 1 = .ok (.aload_n 0, 1) := by decide +kernel
theorem dM_notAsking_2 : decode bM_notAsking 2 = .ok (.getfield 18, 3) := by decide +kernel
theorem dM_notAsking_5 : decode bM_notAsking 5 = .ok (.iload_n 2, 1) := by decide +kernel
theorem dM_notAsking_6 : decode bM_notAsking 6 = .ok (.iaload, 1) := by decide +kernel
theorem dM_notAsking_7 : decode bM_notAsking 7 = .ok (.iconst (-1), 1) := by decide +kernel
theorem dM_notAsking_8 : decode bM_notAsking 8 = .ok (.ixor, 1) := by decide +kernel
theorem dM_notAsking_9 : decode bM_notAsking 9 = .ok (.iand, 1) := by decide +kernel
theorem dM_notAsking_10 : decode bM_notAsking 10 = .ok (.ireturn, 1) := by decide +kernel
theorem dM_notAskingElse_0 : decode bM_notAskingElse 0 = .ok (.aload_n 0, 1) := by decide +kernel
theorem dM_notAskingElse_1 : decode bM_notAskingElse 1 = .ok (.iload_n 1, 1) := by decide +kernel
theorem dM_notAskingElse_2 : decode bM_notAskingElse 2 = .ok (.iload_n 2, 1) := by decide +kernel
theorem dM_notAskingElse_3 : decode bM_notAskingElse 3 = .ok (.invokevirtual 85, 3) := by decide +kernel
theorem dM_notAskingElse_6 : decode bM_notAskingElse 6 = .ok (.istore 4, 2) := by decide +kernel
theorem dM_notAskingElse_8 : decode bM_notAskingElse 8 = .ok (.iconst 0, 1) := by decide +kernel
theorem dM_notAskingElse_9 : decode bM_notAskingElse 9 = .ok (.istore 5, 2) := by decide +kernel
theorem dM_notAskingElse_11 : decode bM_notAskingElse 11 = .ok (.iload 5, 2) := by decide +kernel
theorem dM_notAskingElse_13 : decode bM_notAskingElse 13 = .ok (.aload_n 0, 1) := by decide +kernel
theorem dM_notAskingElse_14 : decode bM_notAskingElse 14 = .ok (.getfield 34, 3) := by decide +kernel
theorem dM_notAskingElse_17 : decode bM_notAskingElse 17 = .ok (.if_icmp .ge 36, 3) := by decide +kernel
theorem dM_notAskingElse_20 : decode bM_notAskingElse 20 = .ok (.aload_n 0, 1) := by decide +kernel
theorem dM_notAskingElse_21 : decode bM_notAskingElse 21 = .ok (.getfield 21, 3) := by decide +kernel
theorem dM_notAskingElse_24 : decode bM_notAskingElse 24 = .ok (.iload_n 2, 1) := by decide +kernel
theorem dM_notAskingElse_25 : decode bM_notAskingElse 25 = .ok (.bipush 16, 2) := by decide +kernel
theorem dM_notAskingElse_27 : decode bM_notAskingElse 27 = .ok (.imul, 1) := by decide +kernel
theorem dM_notAskingElse_28 : decode bM_notAskingElse 28 = .ok (.iload 5, 2) := by decide +kernel
theorem dM_notAskingElse_30 : decode bM_notAskingElse 30 = .ok (.iadd, 1) := by decide +kernel
theorem dM_notAskingElse_31 : decode bM_notAskingElse 31 = .ok (.iaload, 1) := by decide +kernel
theorem dM_notAskingElse_32 : decode bM_notAskingElse 32 = .ok (.iload_n 3, 1) := by decide +kernel
theorem dM_notAskingElse_33 : decode bM_notAskingElse 33 = .ok (.if_icmp .ne 14, 3) := by decide +kernel
theorem dM_notAskingElse_36 : decode bM_notAskingElse 36 = .ok (.iload 4, 2) := by decide +kernel
theorem dM_notAskingElse_38 : decode bM_notAskingElse 38 = .ok (.iload_n 1, 1) := by decide +kernel
theorem dM_notAskingElse_39 : decode bM_notAskingElse 39 = .ok (.iconst 1, 1) := by decide +kernel
theorem dM_notAskingElse_40 : decode bM_notAskingElse 40 = .ok (.iload 5, 2) := by decide +kernel
theorem dM_notAskingElse_42 : decode bM_notAskingElse 42 = .ok (.ishl, 1) := by decide +kernel
theorem dM_notAskingElse_43 : decode bM_notAskingElse 43 = .ok (.iand, 1) := by decide +kernel
theorem dM_notAskingElse_44 : decode bM_notAskingElse 44 = .ok (.ior, 1) := by decide +kernel
theorem dM_notAskingElse_45 : decode bM_notAskingElse 45 = .ok (.istore 4, 2) := by decide +kernel
theorem dM_notAskingElse_47 : decode bM_notAskingElse 47 = .ok (.iinc 5 1, 3) := by decide +kernel
theorem dM_notAskingElse_50 : decode bM_notAskingElse 50 = .ok (.goto (-39), 3) := by decide +kernel
theorem dM_notAskingElse_53 : decode bM_notAskingElse 53 = .ok (.iload 4, 2) := by decide +kernel
theorem dM_notAskingElse_55 : decode bM_notAskingElse 55 = .ok (.ireturn, 1) := by decide +kernel
theorem dM_leastAbove_0 : decode bM_leastAbove 0 = .ok (.iload_n 3, 1) := by decide +kernel
theorem dM_leastAbove_1 : decode bM_leastAbove 1 = .ok (.aload_n 0, 1) := by decide +kernel
theorem dM_leastAbove_2 : decode bM_leastAbove 2 = .ok (.getfield 18, 3) := by decide +kernel
theorem dM_leastAbove_5 : decode bM_leastAbove 5 = .ok (.iload 4, 2) := by decide +kernel
theorem dM_leastAbove_7 : decode bM_leastAbove 7 = .ok (.iaload, 1) := by decide +kernel
theorem dM_leastAbove_8 : decode bM_leastAbove 8 = .ok (.iand, 1) := by decide +kernel
theorem dM_leastAbove_9 : decode bM_leastAbove 9 = .ok (.istore 5, 2) := by decide +kernel
theorem dM_leastAbove_11 : decode bM_leastAbove 11 = .ok (.ldc2_w 89, 3) := by decide +kernel
theorem dM_leastAbove_14 : decode bM_leastAbove 14 = .ok (.lstore 6, 2) := by decide +kernel
theorem dM_leastAbove_16 : decode bM_leastAbove 16 = .ok (.iconst 0, 1) := by decide +kernel
theorem dM_leastAbove_17 : decode bM_leastAbove 17 = .ok (.istore 8, 2) := by decide +kernel
theorem dM_leastAbove_19 : decode bM_leastAbove 19 = .ok (.iload 8, 2) := by decide +kernel
theorem dM_leastAbove_21 : decode bM_leastAbove 21 = .ok (.aload_n 0, 1) := by decide +kernel
theorem dM_leastAbove_22 : decode bM_leastAbove 22 = .ok (.getfield 34, 3) := by decide +kernel
theorem dM_leastAbove_25 : decode bM_leastAbove 25 = .ok (.if_icmp .ge 55, 3) := by decide +kernel
theorem dM_leastAbove_28 : decode bM_leastAbove 28 = .ok (.aload_n 0, 1) := by decide +kernel
theorem dM_leastAbove_29 : decode bM_leastAbove 29 = .ok (.getfield 21, 3) := by decide +kernel
theorem dM_leastAbove_32 : decode bM_leastAbove 32 = .ok (.iload 4, 2) := by decide +kernel
theorem dM_leastAbove_34 : decode bM_leastAbove 34 = .ok (.bipush 16, 2) := by decide +kernel
theorem dM_leastAbove_36 : decode bM_leastAbove 36 = .ok (.imul, 1) := by decide +kernel
theorem dM_leastAbove_37 : decode bM_leastAbove 37 = .ok (.iload 8, 2) := by decide +kernel
theorem dM_leastAbove_39 : decode bM_leastAbove 39 = .ok (.iadd, 1) := by decide +kernel
theorem dM_leastAbove_40 : decode bM_leastAbove 40 = .ok (.iaload, 1) := by decide +kernel
theorem dM_leastAbove_41 : decode bM_leastAbove 41 = .ok (.i2l, 1) := by decide +kernel
theorem dM_leastAbove_42 : decode bM_leastAbove 42 = .ok (.lstore 9, 2) := by decide +kernel
theorem dM_leastAbove_44 : decode bM_leastAbove 44 = .ok (.iload 5, 2) := by decide +kernel
theorem dM_leastAbove_46 : decode bM_leastAbove 46 = .ok (.iload 8, 2) := by decide +kernel
theorem dM_leastAbove_48 : decode bM_leastAbove 48 = .ok (.ishr, 1) := by decide +kernel
theorem dM_leastAbove_49 : decode bM_leastAbove 49 = .ok (.iconst 1, 1) := by decide +kernel
theorem dM_leastAbove_50 : decode bM_leastAbove 50 = .ok (.iand, 1) := by decide +kernel
theorem dM_leastAbove_51 : decode bM_leastAbove 51 = .ok (.iconst 1, 1) := by decide +kernel
theorem dM_leastAbove_52 : decode bM_leastAbove 52 = .ok (.if_icmp .ne 22, 3) := by decide +kernel
theorem dM_leastAbove_55 : decode bM_leastAbove 55 = .ok (.lload 9, 2) := by decide +kernel
theorem dM_leastAbove_57 : decode bM_leastAbove 57 = .ok (.lload_n 1, 1) := by decide +kernel
theorem dM_leastAbove_58 : decode bM_leastAbove 58 = .ok (.lcmp, 1) := by decide +kernel
theorem dM_leastAbove_59 : decode bM_leastAbove 59 = .ok (.ifCond .le 15, 3) := by decide +kernel
theorem dM_leastAbove_62 : decode bM_leastAbove 62 = .ok (.lload 9, 2) := by decide +kernel
theorem dM_leastAbove_64 : decode bM_leastAbove 64 = .ok (.lload 6, 2) := by decide +kernel
theorem dM_leastAbove_66 : decode bM_leastAbove 66 = .ok (.lcmp, 1) := by decide +kernel
theorem dM_leastAbove_67 : decode bM_leastAbove 67 = .ok (.ifCond .ge 7, 3) := by decide +kernel
theorem dM_leastAbove_70 : decode bM_leastAbove 70 = .ok (.lload 9, 2) := by decide +kernel
theorem dM_leastAbove_72 : decode bM_leastAbove 72 = .ok (.lstore 6, 2) := by decide +kernel
theorem dM_leastAbove_74 : decode bM_leastAbove 74 = .ok (.iinc 8 1, 3) := by decide +kernel
theorem dM_leastAbove_77 : decode bM_leastAbove 77 = .ok (.goto (-58), 3) := by decide +kernel
theorem dM_leastAbove_80 : decode bM_leastAbove 80 = .ok (.lload 6, 2) := by decide +kernel
theorem dM_leastAbove_82 : decode bM_leastAbove 82 = .ok (.lreturn, 1) := by decide +kernel
theorem dM_alternativesOutside_0 : decode bM_alternativesOutside 0 = .ok (.aload_n 0, 1) := by decide +kernel
theorem dM_alternativesOutside_1 : decode bM_alternativesOutside 1 = .ok (.iload_n 2, 1) := by decide +kernel
theorem dM_alternativesOutside_2 : decode bM_alternativesOutside 2 = .ok (.invokevirtual 91, 3) := by decide +kernel
theorem dM_alternativesOutside_5 : decode bM_alternativesOutside 5 = .ok (.ifCond .ne 5, 3) := by decide +kernel
theorem dM_alternativesOutside_8 : decode bM_alternativesOutside 8 = .ok (.iconst 0, 1) := by decide +kernel
theorem dM_alternativesOutside_9 : decode bM_alternativesOutside 9 = .ok (.ireturn, 1) := by decide +kernel
theorem dM_alternativesOutside_10 : decode bM_alternativesOutside 10 = .ok (.iconst 1, 1) := by decide +kernel
theorem dM_alternativesOutside_11 : decode bM_alternativesOutside 11 = .ok (.aload_n 0, 1) := by decide +kernel
theorem dM_alternativesOutside_12 : decode bM_alternativesOutside 12 = .ok (.getfield 9, 3) := by decide +kernel
theorem dM_alternativesOutside_15 : decode bM_alternativesOutside 15 = .ok (.iload_n 2, 1) := by decide +kernel
theorem dM_alternativesOutside_16 : decode bM_alternativesOutside 16 = .ok (.iconst 1, 1) := by decide +kernel
theorem dM_alternativesOutside_17 : decode bM_alternativesOutside 17 = .ok (.iadd, 1) := by decide +kernel
theorem dM_alternativesOutside_18 : decode bM_alternativesOutside 18 = .ok (.iaload, 1) := by decide +kernel
theorem dM_alternativesOutside_19 : decode bM_alternativesOutside 19 = .ok (.ishl, 1) := by decide +kernel
theorem dM_alternativesOutside_20 : decode bM_alternativesOutside 20 = .ok (.iconst 1, 1) := by decide +kernel
theorem dM_alternativesOutside_21 : decode bM_alternativesOutside 21 = .ok (.aload_n 0, 1) := by decide +kernel
theorem dM_alternativesOutside_22 : decode bM_alternativesOutside 22 = .ok (.getfield 9, 3) := by decide +kernel
theorem dM_alternativesOutside_25 : decode bM_alternativesOutside 25 = .ok (.iload_n 2, 1) := by decide +kernel
theorem dM_alternativesOutside_26 : decode bM_alternativesOutside 26 = .ok (.iaload, 1) := by decide +kernel
theorem dM_alternativesOutside_27 : decode bM_alternativesOutside 27 = .ok (.ishl, 1) := by decide +kernel
theorem dM_alternativesOutside_28 : decode bM_alternativesOutside 28 = .ok (.isub, 1) := by decide +kernel
theorem dM_alternativesOutside_29 : decode bM_alternativesOutside 29 = .ok (.istore_n 3, 1) := by decide +kernel
theorem dM_alternativesOutside_30 : decode bM_alternativesOutside 30 = .ok (.iload_n 3, 1) := by decide +kernel
theorem dM_alternativesOutside_31 : decode bM_alternativesOutside 31 = .ok (.iload_n 1, 1) := by decide +kernel
theorem dM_alternativesOutside_32 : decode bM_alternativesOutside 32 = .ok (.iconst (-1), 1) := by decide +kernel
theorem dM_alternativesOutside_33 : decode bM_alternativesOutside 33 = .ok (.ixor, 1) := by decide +kernel
theorem dM_alternativesOutside_34 : decode bM_alternativesOutside 34 = .ok (.iand, 1) := by decide +kernel
theorem dM_alternativesOutside_35 : decode bM_alternativesOutside 35 = .ok (.aload_n 0, 1) := by decide +kernel
theorem dM_alternativesOutside_36 : decode bM_alternativesOutside 36 = .ok (.getfield 9, 3) := by decide +kernel
theorem dM_alternativesOutside_39 : decode bM_alternativesOutside 39 = .ok (.iload_n 2, 1) := by decide +kernel
theorem dM_alternativesOutside_40 : decode bM_alternativesOutside 40 = .ok (.iaload, 1) := by decide +kernel
theorem dM_alternativesOutside_41 : decode bM_alternativesOutside 41 = .ok (.ishr, 1) := by decide +kernel
theorem dM_alternativesOutside_42 : decode bM_alternativesOutside 42 = .ok (.ireturn, 1) := by decide +kernel
section Smatc
variable {p : Program} {l : Launch} {e : Env} {R : Room} {s : State} {m : MethodId} {args : Array Value} {below : List Frame} {meth : Method} {c : Code} {Q : State → Prop} {D : va_G} {cA : Nat → ClassId} {ad : Nat → Nat} {H0 : Heap}
def fM_reset (st : ck_S) : Option ck_S := (ck_bv (fA_fill_23_C (0 : Int32) (ck_u (ck_u (ck_u st 4 6 (-1 : Int32)) 4 7 (0 : Int32)) 4 8 (0 : Int32))) fun st1 => (some st1))
set_option maxRecDepth 100000 in
set_option maxHeartbeats 4000000 in
theorem cM_reset (l : Launch) (D : va_G) (cA : Nat → ClassId) (ad : Nat → Nat) {st : ck_S} {st0 : ck_S} (hf : fM_reset st = some st0) : Met l yM_reset (.code yM_reset bM_reset 1 none :: ck_T) (ck_R 1) (va_Pc [.ref (ad 4)] (ck_P sh_C cm_cl D cA ad st)) (va_Qv (fun u => u = st0) (ck_P sh_C cm_cl D cA ad) (ck_A ad sh_C.length)) 0 0 (ck_A ad sh_C.length) := by
  refine ck_met_v (own := R_M) (by decide +kernel) rfl (Nat.le_of_ble_eq_true rfl) (fun p e R s m args below meth c H0 Q ls C hret h hl => ?_)
  have C1 := C
  obtain ⟨hx, hb, hml, hown, hts, hK, hlv, hlo⟩ := C1
  have hl : lv_has ls 1 [(0, .ref (ad 4))] := hl
  unfold fM_reset at hf
  refine lv_aload_n hx hb dM_reset_0 rfl (lv_at hl 0 rfl) ?_
  refine lv_iconst (v := (-1)) hx hb dM_reset_1 (by decide) ?_
  refine ck_pi C h GM_over rfl rfl dM_reset_2 (fun H locs h => ?_)
  refine lv_aload_n hx hb dM_reset_5 rfl (lv_at hl 0 rfl) ?_
  refine lv_iconst (v := 0) hx hb dM_reset_6 (by decide) ?_
  refine ck_pi C h GM_rows rfl rfl dM_reset_7 (fun H locs h => ?_)
  refine lv_aload_n hx hb dM_reset_10 rfl (lv_at hl 0 rfl) ?_
  refine lv_iconst (v := 0) hx hb dM_reset_11 (by decide) ?_
  refine ck_pi C h GM_clauses rfl rfl dM_reset_12 (fun H locs h => ?_)
  refine lv_aload_n hx hb dM_reset_15 rfl (lv_at hl 0 rfl) ?_
  refine ck_gr C h FM_askers dM_reset_16 ?_
  refine lv_iconst (v := 0) hx hb dM_reset_19 (by decide) ?_
  obtain ⟨st1, hc, hf⟩ := ck_bv_e hf
  refine ck_tv (As := [.ref (ad 23), .int (0 : Int32)]) (rest := []) C h hl CM_A_fill sA_fill (cA_fill_23_C l D cA ad hc) (Nat.le_of_ble_eq_true rfl) rfl rfl (Nat.le_of_ble_eq_true rfl) dM_reset_20 (fun H locs h => ?_)
  exact ck_rv hf hret h dM_reset_23
def fM_isBegun (st : ck_S) : Option (Int32 × ck_S) := (if (st 4 6) = (-1 : Int32) then (some ((0 : Int32), st)) else (some ((1 : Int32), st)))
set_option maxRecDepth 100000 in
set_option maxHeartbeats 4000000 in
theorem cM_isBegun (l : Launch) (D : va_G) (cA : Nat → ClassId) (ad : Nat → Nat) {st : ck_S} {r0 : Int32} {st0 : ck_S} (hf : fM_isBegun st = some (r0, st0)) : Met l yM_isBegun (.code yM_isBegun bM_isBegun 1 (some .boolean) :: ck_T) (ck_R 0) (va_Pc [.ref (ad 4)] (ck_P sh_C cm_cl D cA ad st)) (va_Qi (fun a u => a = r0 ∧ u = st0) (ck_P sh_C cm_cl D cA ad) (ck_A ad sh_C.length)) 0 0 (ck_A ad sh_C.length) := by
  refine ck_met_z (own := R_M) (by decide +kernel) rfl (Nat.le_of_ble_eq_true rfl) (fun p e R s m args below meth c H0 Q ls C hret h hl => ?_)
  have C1 := C
  obtain ⟨hx, hb, hml, hown, hts, hK, hlv, hlo⟩ := C1
  have hl : lv_has ls 1 [(0, .ref (ad 4))] := hl
  unfold fM_isBegun at hf
  refine lv_aload_n hx hb dM_isBegun_0 rfl (lv_at hl 0 rfl) ?_
  refine ck_gi (x := (st 4 6)) C h FM_over rfl dM_isBegun_1 ?_
  refine lv_iconst (v := (-1)) hx hb dM_isBegun_4 (by decide) ?_
  refine lv_icmp_eq (tgt := 12) hx hb dM_isBegun_5 rfl (fun hq => ?_) (fun hq => ?_)
  · have hf := ck_t hq hf
    refine lv_iconst (v := 0) hx hb dM_isBegun_12 (by decide) ?_
    exact ck_rz hf hret ck_z0 h dM_isBegun_13
  · have hf := ck_f hq hf
    refine lv_iconst (v := 1) hx hb dM_isBegun_8 (by decide) ?_
    refine lv_goto (tgt := 13) hx hb dM_isBegun_9 rfl ?_
    exact ck_rz hf hret ck_z1 h dM_isBegun_13
def fM_beginOver (x1 : Int32) (st : ck_S) : Option ck_S := (some (ck_u st 4 6 x1))
set_option maxRecDepth 100000 in
set_option maxHeartbeats 4000000 in
theorem cM_beginOver (l : Launch) (D : va_G) (cA : Nat → ClassId) (ad : Nat → Nat) {x1 : Int32} {st : ck_S} {st0 : ck_S} (hf : fM_beginOver x1 st = some st0) : Met l yM_beginOver (.code yM_beginOver bM_beginOver 2 none :: ck_T) (ck_R 0) (va_Pc [.ref (ad 4), .int x1] (ck_P sh_C cm_cl D cA ad st)) (va_Qv (fun u => u = st0) (ck_P sh_C cm_cl D cA ad) (ck_A ad sh_C.length)) 0 0 (ck_A ad sh_C.length) := by
  refine ck_met_v (own := R_M) (by decide +kernel) rfl (Nat.le_of_ble_eq_true rfl) (fun p e R s m args below meth c H0 Q ls C hret h hl => ?_)
  have C1 := C
  obtain ⟨hx, hb, hml, hown, hts, hK, hlv, hlo⟩ := C1
  have hl : lv_has ls 2 [(0, .ref (ad 4)), (1, .int x1)] := hl
  unfold fM_beginOver at hf
  refine lv_aload_n hx hb dM_beginOver_0 rfl (lv_at hl 0 rfl) ?_
  refine lv_iload_n hx hb dM_beginOver_1 rfl (lv_at hl 1 rfl) ?_
  refine ck_pi C h GM_over rfl rfl dM_beginOver_2 (fun H locs h => ?_)
  exact ck_rv hf hret h dM_beginOver_5
def fM_typeOver (st : ck_S) : Option (Int32 × ck_S) := (some ((st 4 6), st))
set_option maxRecDepth 100000 in
set_option maxHeartbeats 4000000 in
theorem cM_typeOver (l : Launch) (D : va_G) (cA : Nat → ClassId) (ad : Nat → Nat) {st : ck_S} {r0 : Int32} {st0 : ck_S} (hf : fM_typeOver st = some (r0, st0)) : Met l yM_typeOver (.code yM_typeOver bM_typeOver 1 (some .int) :: ck_T) (ck_R 0) (va_Pc [.ref (ad 4)] (ck_P sh_C cm_cl D cA ad st)) (va_Qi (fun a u => a = r0 ∧ u = st0) (ck_P sh_C cm_cl D cA ad) (ck_A ad sh_C.length)) 0 0 (ck_A ad sh_C.length) := by
  refine ck_met_i (own := R_M) (by decide +kernel) rfl (Nat.le_of_ble_eq_true rfl) (fun p e R s m args below meth c H0 Q ls C hret h hl => ?_)
  have C1 := C
  obtain ⟨hx, hb, hml, hown, hts, hK, hlv, hlo⟩ := C1
  have hl : lv_has ls 1 [(0, .ref (ad 4))] := hl
  unfold fM_typeOver at hf
  refine lv_aload_n hx hb dM_typeOver_0 rfl (lv_at hl 0 rfl) ?_
  refine ck_gi (x := (st 4 6)) C h FM_over rfl dM_typeOver_1 ?_
  exact ck_ri hf hret h dM_typeOver_4
def fM_hasRow (x1 : Int32) (st : ck_S) : Option (Int32 × ck_S) := (if x1 < 0 then (some ((0 : Int32), st)) else (if (st 4 7) ≤ x1 then (some ((0 : Int32), st)) else (some ((1 : Int32), st))))
set_option maxRecDepth 100000 in
set_option maxHeartbeats 4000000 in
theorem cM_hasRow (l : Launch) (D : va_G) (cA : Nat → ClassId) (ad : Nat → Nat) {x1 : Int32} {st : ck_S} {r0 : Int32} {st0 : ck_S} (hf : fM_hasRow x1 st = some (r0, st0)) : Met l yM_hasRow (.code yM_hasRow bM_hasRow 2 (some .boolean) :: ck_T) (ck_R 0) (va_Pc [.ref (ad 4), .int x1] (ck_P sh_C cm_cl D cA ad st)) (va_Qi (fun a u => a = r0 ∧ u = st0) (ck_P sh_C cm_cl D cA ad) (ck_A ad sh_C.length)) 0 0 (ck_A ad sh_C.length) := by
  refine ck_met_z (own := R_M) (by decide +kernel) rfl (Nat.le_of_ble_eq_true rfl) (fun p e R s m args below meth c H0 Q ls C hret h hl => ?_)
  have C1 := C
  obtain ⟨hx, hb, hml, hown, hts, hK, hlv, hlo⟩ := C1
  have hl : lv_has ls 2 [(0, .ref (ad 4)), (1, .int x1)] := hl
  unfold fM_hasRow at hf
  refine lv_iload_n hx hb dM_hasRow_0 rfl (lv_at hl 1 rfl) ?_
  refine lv_if_lt (tgt := 16) hx hb dM_hasRow_1 rfl (fun hq => ?_) (fun hq => ?_)
  · have hf := ck_t hq hf
    refine lv_iconst (v := 0) hx hb dM_hasRow_16 (by decide) ?_
    exact ck_rz hf hret ck_z0 h dM_hasRow_17
  · have hf := ck_f hq hf
    refine lv_iload_n hx hb dM_hasRow_4 rfl (lv_at hl 1 rfl) ?_
    refine lv_aload_n hx hb dM_hasRow_5 rfl (lv_at hl 0 rfl) ?_
    refine ck_gi (x := (st 4 7)) C h FM_rows rfl dM_hasRow_6 ?_
    refine lv_icmp_ge (tgt := 16) hx hb dM_hasRow_9 rfl (fun hq => ?_) (fun hq => ?_)
    · have hf := ck_t hq hf
      refine lv_iconst (v := 0) hx hb dM_hasRow_16 (by decide) ?_
      exact ck_rz hf hret ck_z0 h dM_hasRow_17
    · have hf := ck_f hq hf
      refine lv_iconst (v := 1) hx hb dM_hasRow_12 (by decide) ?_
      refine lv_goto (tgt := 17) hx hb dM_hasRow_13 rfl ?_
      exact ck_rz hf hret ck_z1 h dM_hasRow_17
def fM_layOut_b75 (fr : Int32 → Int32 → Int32 → Int32 → ck_S → Option ck_S) (k9 : Int32 → Int32 → Int32 → Int32 → Int32 → ck_S → Option ck_S) (k111 : Int32 → Int32 → Int32 → Int32 → ck_S → Option ck_S) (y0 : Int32) (x1 : Int32) (x4 : Int32) (x5 : Int32) (x7 : Int32) (x9 : Int32) (st : ck_S) : Option ck_S := (if x9 = 0 then (ck_b (fP_secondOf x5 st) fun v2 st1 => (k9 x1 x4 v2 y0 (x7 + 1) st1)) else (ck_b (fP_firstOf x5 st) fun v2 st1 => (k9 x1 x4 v2 y0 (x7 + 1) st1)))
set_option maxRecDepth 100000 in
set_option maxHeartbeats 4000000 in
theorem BM_layOut_75 {v : Nat} (C : ck_X cm_cl D cA bM_layOut 10 R_M (v + 1) p R s m args c) {st0 : ck_S} (hret : ∀ (pc : Nat) (H : Heap) (locs : List Loc) (ls : Array Slot), decode bM_layOut pc = .ok (.return_, 1) → ck_AT sh_C cm_cl D cA ad H0 st0 H locs → W p l e R s m args below meth c H locs 0 0 Q (F0 m pc ls [])) {fr : Int32 → Int32 → Int32 → Int32 → ck_S → Option ck_S} (hv : 2 ≤ v) (hrec : ∀ (a0 a1 a2 a3 : Int32) (st st1 : ck_S), fr a0 a1 a2 a3 st = some st1 → Met l yM_layOut (.code yM_layOut bM_layOut 10 none :: ck_T) (ck_R v) (va_Pc [.ref (ad 4), .int a0, .int a1, .int a2, .int a3] (ck_P sh_C cm_cl D cA ad st)) (va_Qv (fun u => u = st1) (ck_P sh_C cm_cl D cA ad) (ck_A ad sh_C.length)) 0 0 (ck_A ad sh_C.length)) {k9 : Int32 → Int32 → Int32 → Int32 → Int32 → ck_S → Option ck_S} (hk9 : ∀ (x1 : Int32) (x4 : Int32) (x5 : Int32) (x6 : Int32) (x7 : Int32) (st : ck_S) (H : Heap) (locs : List Loc) (ls : Array Slot), ck_AT sh_C cm_cl D cA ad H0 st H locs → lv_has ls 10 [(0, .ref (ad 4)), (1, .int x1), (4, .int x4), (5, .int x5), (6, .int x6), (7, .int x7)] → k9 x1 x4 x5 x6 x7 st = some st0 → W p l e R s m args below meth c H locs 0 0 Q (F0 m 9 ls [])) {k111 : Int32 → Int32 → Int32 → Int32 → ck_S → Option ck_S} (hk111 : ∀ (x1 : Int32) (x4 : Int32) (x5 : Int32) (x6 : Int32) (st : ck_S) (H : Heap) (locs : List Loc) (ls : Array Slot), ck_AT sh_C cm_cl D cA ad H0 st H locs → lv_has ls 10 [(0, .ref (ad 4)), (1, .int x1), (4, .int x4), (5, .int x5), (6, .int x6)] → k111 x1 x4 x5 x6 st = some st0 → W p l e R s m args below meth c H locs 0 0 Q (F0 m 111 ls [])) (y0 : Int32) (x1 : Int32) (x4 : Int32) (x5 : Int32) (x7 : Int32) (x9 : Int32) (st : ck_S) (H : Heap) (locs : List Loc) (ls : Array Slot) (h : ck_AT sh_C cm_cl D cA ad H0 st H locs) (hl : lv_has ls 10 [(0, .ref (ad 4)), (1, .int x1), (4, .int x4), (5, .int x5), (7, .int x7), (9, .int x9)]) (hf : fM_layOut_b75 fr k9 k111 y0 x1 x4 x5 x7 x9 st = some st0) : W p l e R s m args below meth c H locs 0 0 Q (F0 m 75 ls [.int y0]) := by
  have C1 := C
  obtain ⟨hx, hb, hml, hown, hts, hK, hlv, hlo⟩ := C1
  unfold fM_layOut_b75 at hf
  refine lv_istore (lv' := [(6, .int y0), (0, .ref (ad 4)), (1, .int x1), (4, .int x4), (5, .int x5), (7, .int x7), (9, .int x9)]) hx hb dM_layOut_75 hl (by decide) rfl (fun ls hl => ?_)
  refine lv_iload hx hb dM_layOut_77 (lv_at hl 6 rfl) ?_
  refine lv_if_eq (tgt := 94) hx hb dM_layOut_79 rfl (fun hq => ?_) (fun hq => ?_)
  · have hf := ck_t hq hf
    refine lv_aload_n hx hb dM_layOut_94 rfl (lv_at hl 1 rfl) ?_
    refine ck_gr C h FM_patterns dM_layOut_95 ?_
    refine lv_iload hx hb dM_layOut_98 (lv_at hl 4 rfl) ?_
    obtain ⟨v2, st1, hc, hf⟩ := ck_b_e hf
    refine ck_vi (As := [.int x5]) (rest := []) (q := 2) C h hl CM_P_secondOf sP_secondOf q_P (cP_secondOf l D cA ad hc) (by omega) rfl rfl (Nat.le_of_ble_eq_true rfl) dM_layOut_100 (fun H locs h => ?_)
    refine lv_istore (lv' := [(5, .int v2), (6, .int y0), (0, .ref (ad 4)), (1, .int x1), (4, .int x4), (7, .int x7), (9, .int x9)]) hx hb dM_layOut_103 hl (by decide) rfl (fun ls hl => ?_)
    refine lv_iinc (k := 5) (v := (x7 + 1)) (lv' := [(7, .int (x7 + 1)), (5, .int v2), (6, .int y0), (0, .ref (ad 4)), (1, .int x1), (4, .int x4), (9, .int x9)]) hx hb dM_layOut_105 hl rfl rfl (by decide) rfl (fun ls hl => ?_)
    refine lv_goto (tgt := 9) hx hb dM_layOut_108 rfl ?_
    exact hk9 _ _ _ _ _ _ _ _ _ h (lv_sub hl [3, 4, 5, 1, 2, 0] rfl) hf
  · have hf := ck_f hq hf
    refine lv_aload_n hx hb dM_layOut_82 rfl (lv_at hl 1 rfl) ?_
    refine ck_gr C h FM_patterns dM_layOut_83 ?_
    refine lv_iload hx hb dM_layOut_86 (lv_at hl 4 rfl) ?_
    obtain ⟨v2, st1, hc, hf⟩ := ck_b_e hf
    refine ck_vi (As := [.int x5]) (rest := []) (q := 2) C h hl CM_P_firstOf sP_firstOf q_P (cP_firstOf l D cA ad hc) (by omega) rfl rfl (Nat.le_of_ble_eq_true rfl) dM_layOut_88 (fun H locs h => ?_)
    refine lv_goto (tgt := 103) hx hb dM_layOut_91 rfl ?_
    refine lv_istore (lv' := [(5, .int v2), (6, .int y0), (0, .ref (ad 4)), (1, .int x1), (4, .int x4), (7, .int x7), (9, .int x9)]) hx hb dM_layOut_103 hl (by decide) rfl (fun ls hl => ?_)
    refine lv_iinc (k := 5) (v := (x7 + 1)) (lv' := [(7, .int (x7 + 1)), (5, .int v2), (6, .int y0), (0, .ref (ad 4)), (1, .int x1), (4, .int x4), (9, .int x9)]) hx hb dM_layOut_105 hl rfl rfl (by decide) rfl (fun ls hl => ?_)
    refine lv_goto (tgt := 9) hx hb dM_layOut_108 rfl ?_
    exact hk9 _ _ _ _ _ _ _ _ _ h (lv_sub hl [3, 4, 5, 1, 2, 0] rfl) hf
def fM_layOut_b58 (fr : Int32 → Int32 → Int32 → Int32 → ck_S → Option ck_S) (k9 : Int32 → Int32 → Int32 → Int32 → Int32 → ck_S → Option ck_S) (k111 : Int32 → Int32 → Int32 → Int32 → ck_S → Option ck_S) (y0 : Int32) (x1 : Int32) (x4 : Int32) (x5 : Int32) (x6 : Int32) (x7 : Int32) (x8 : Int32) (st : ck_S) : Option ck_S := (if y0 = 0 then (fM_layOut_b75 fr k9 k111 (x6 - x8) x1 x4 x5 x7 y0 st) else (fM_layOut_b75 fr k9 k111 x6 x1 x4 x5 x7 y0 st))
set_option maxRecDepth 100000 in
set_option maxHeartbeats 4000000 in
theorem BM_layOut_58 {v : Nat} (C : ck_X cm_cl D cA bM_layOut 10 R_M (v + 1) p R s m args c) {st0 : ck_S} (hret : ∀ (pc : Nat) (H : Heap) (locs : List Loc) (ls : Array Slot), decode bM_layOut pc = .ok (.return_, 1) → ck_AT sh_C cm_cl D cA ad H0 st0 H locs → W p l e R s m args below meth c H locs 0 0 Q (F0 m pc ls [])) {fr : Int32 → Int32 → Int32 → Int32 → ck_S → Option ck_S} (hv : 2 ≤ v) (hrec : ∀ (a0 a1 a2 a3 : Int32) (st st1 : ck_S), fr a0 a1 a2 a3 st = some st1 → Met l yM_layOut (.code yM_layOut bM_layOut 10 none :: ck_T) (ck_R v) (va_Pc [.ref (ad 4), .int a0, .int a1, .int a2, .int a3] (ck_P sh_C cm_cl D cA ad st)) (va_Qv (fun u => u = st1) (ck_P sh_C cm_cl D cA ad) (ck_A ad sh_C.length)) 0 0 (ck_A ad sh_C.length)) {k9 : Int32 → Int32 → Int32 → Int32 → Int32 → ck_S → Option ck_S} (hk9 : ∀ (x1 : Int32) (x4 : Int32) (x5 : Int32) (x6 : Int32) (x7 : Int32) (st : ck_S) (H : Heap) (locs : List Loc) (ls : Array Slot), ck_AT sh_C cm_cl D cA ad H0 st H locs → lv_has ls 10 [(0, .ref (ad 4)), (1, .int x1), (4, .int x4), (5, .int x5), (6, .int x6), (7, .int x7)] → k9 x1 x4 x5 x6 x7 st = some st0 → W p l e R s m args below meth c H locs 0 0 Q (F0 m 9 ls [])) {k111 : Int32 → Int32 → Int32 → Int32 → ck_S → Option ck_S} (hk111 : ∀ (x1 : Int32) (x4 : Int32) (x5 : Int32) (x6 : Int32) (st : ck_S) (H : Heap) (locs : List Loc) (ls : Array Slot), ck_AT sh_C cm_cl D cA ad H0 st H locs → lv_has ls 10 [(0, .ref (ad 4)), (1, .int x1), (4, .int x4), (5, .int x5), (6, .int x6)] → k111 x1 x4 x5 x6 st = some st0 → W p l e R s m args below meth c H locs 0 0 Q (F0 m 111 ls [])) (y0 : Int32) (x1 : Int32) (x4 : Int32) (x5 : Int32) (x6 : Int32) (x7 : Int32) (x8 : Int32) (st : ck_S) (H : Heap) (locs : List Loc) (ls : Array Slot) (h : ck_AT sh_C cm_cl D cA ad H0 st H locs) (hl : lv_has ls 10 [(0, .ref (ad 4)), (1, .int x1), (4, .int x4), (5, .int x5), (6, .int x6), (7, .int x7), (8, .int x8)]) (hf : fM_layOut_b58 fr k9 k111 y0 x1 x4 x5 x6 x7 x8 st = some st0) : W p l e R s m args below meth c H locs 0 0 Q (F0 m 58 ls [.int y0]) := by
  have C1 := C
  obtain ⟨hx, hb, hml, hown, hts, hK, hlv, hlo⟩ := C1
  unfold fM_layOut_b58 at hf
  refine lv_istore (lv' := [(9, .int y0), (0, .ref (ad 4)), (1, .int x1), (4, .int x4), (5, .int x5), (6, .int x6), (7, .int x7), (8, .int x8)]) hx hb dM_layOut_58 hl (by decide) rfl (fun ls hl => ?_)
  refine lv_iload hx hb dM_layOut_60 (lv_at hl 0 rfl) ?_
  refine lv_if_eq (tgt := 70) hx hb dM_layOut_62 rfl (fun hq => ?_) (fun hq => ?_)
  · have hf := ck_t hq hf
    refine lv_iload hx hb dM_layOut_70 (lv_at hl 5 rfl) ?_
    refine lv_iload hx hb dM_layOut_72 (lv_at hl 7 rfl) ?_
    refine lv_isub hx hb dM_layOut_74 ?_
    exact BM_layOut_75 C hret hv hrec hk9 hk111 _ _ _ _ _ _ _ _ _ _ h (lv_sub hl [1, 2, 3, 4, 6, 0] rfl) hf
  · have hf := ck_f hq hf
    refine lv_iload hx hb dM_layOut_65 (lv_at hl 5 rfl) ?_
    refine lv_goto (tgt := 75) hx hb dM_layOut_67 rfl ?_
    exact BM_layOut_75 C hret hv hrec hk9 hk111 _ _ _ _ _ _ _ _ _ _ h (lv_sub hl [1, 2, 3, 4, 6, 0] rfl) hf
def fM_layOut_l9 (fr : Int32 → Int32 → Int32 → Int32 → ck_S → Option ck_S) (k111 : Int32 → Int32 → Int32 → Int32 → ck_S → Option ck_S) : Nat → Int32 → Int32 → Int32 → Int32 → Int32 → ck_S → Option ck_S
  | 0, _, _, _, _, _, _ => none
  | n + 1, x1, x4, x5, x6, x7, st => (if (8 : Int32) ≤ x7 then (k111 x1 x4 x5 x6 st) else (ck_b (fP_isEither x5 st) fun v2 st1 => (if v2 = 0 then (k111 x1 x4 x5 x6 st1) else (ck_b (fP_firstOf x5 st1) fun v4 st3 => (ck_b (fP_choicesOf v4 st3) fun v6 st5 => (if v6 ≤ x6 then (fM_layOut_b58 fr (fM_layOut_l9 fr k111 n) k111 (0 : Int32) x1 x4 x5 x6 x7 v6 st5) else (fM_layOut_b58 fr (fM_layOut_l9 fr k111 n) k111 (1 : Int32) x1 x4 x5 x6 x7 v6 st5)))))))
set_option maxRecDepth 100000 in
set_option maxHeartbeats 4000000 in
theorem BM_layOut_9 {v : Nat} (C : ck_X cm_cl D cA bM_layOut 10 R_M (v + 1) p R s m args c) {st0 : ck_S} (hret : ∀ (pc : Nat) (H : Heap) (locs : List Loc) (ls : Array Slot), decode bM_layOut pc = .ok (.return_, 1) → ck_AT sh_C cm_cl D cA ad H0 st0 H locs → W p l e R s m args below meth c H locs 0 0 Q (F0 m pc ls [])) {fr : Int32 → Int32 → Int32 → Int32 → ck_S → Option ck_S} (hv : 2 ≤ v) (hrec : ∀ (a0 a1 a2 a3 : Int32) (st st1 : ck_S), fr a0 a1 a2 a3 st = some st1 → Met l yM_layOut (.code yM_layOut bM_layOut 10 none :: ck_T) (ck_R v) (va_Pc [.ref (ad 4), .int a0, .int a1, .int a2, .int a3] (ck_P sh_C cm_cl D cA ad st)) (va_Qv (fun u => u = st1) (ck_P sh_C cm_cl D cA ad) (ck_A ad sh_C.length)) 0 0 (ck_A ad sh_C.length)) {k111 : Int32 → Int32 → Int32 → Int32 → ck_S → Option ck_S} (hk111 : ∀ (x1 : Int32) (x4 : Int32) (x5 : Int32) (x6 : Int32) (st : ck_S) (H : Heap) (locs : List Loc) (ls : Array Slot), ck_AT sh_C cm_cl D cA ad H0 st H locs → lv_has ls 10 [(0, .ref (ad 4)), (1, .int x1), (4, .int x4), (5, .int x5), (6, .int x6)] → k111 x1 x4 x5 x6 st = some st0 → W p l e R s m args below meth c H locs 0 0 Q (F0 m 111 ls [])) : ∀ (n : Nat) (x1 : Int32) (x4 : Int32) (x5 : Int32) (x6 : Int32) (x7 : Int32) (st : ck_S) (H : Heap) (locs : List Loc) (ls : Array Slot), ck_AT sh_C cm_cl D cA ad H0 st H locs → lv_has ls 10 [(0, .ref (ad 4)), (1, .int x1), (4, .int x4), (5, .int x5), (6, .int x6), (7, .int x7)] → fM_layOut_l9 fr k111 n x1 x4 x5 x6 x7 st = some st0 → W p l e R s m args below meth c H locs 0 0 Q (F0 m 9 ls []) := by
  have C1 := C
  obtain ⟨hx, hb, hml, hown, hts, hK, hlv, hlo⟩ := C1
  intro n
  induction n with
  | zero => intro _ _ _ _ _ _ _ _ _ _ _ hf; cases hf
  | succ n ih =>
    intro x1 x4 x5 x6 x7 st H locs ls h hl hf
    rw [fM_layOut_l9] at hf
    refine lv_iload hx hb dM_layOut_9 (lv_at hl 5 rfl) ?_
    refine lv_bipush (v := 8) hx hb dM_layOut_11 (by decide) ?_
    refine lv_icmp_ge (tgt := 111) hx hb dM_layOut_13 rfl (fun hq => ?_) (fun hq => ?_)
    · have hf := ck_t hq hf
      exact hk111 _ _ _ _ _ _ _ _ h (lv_sub hl [0, 1, 2, 3, 4] rfl) hf
    · have hf := ck_f hq hf
      refine lv_aload_n hx hb dM_layOut_16 rfl (lv_at hl 0 rfl) ?_
      refine ck_gr C h FM_patterns dM_layOut_17 ?_
      refine lv_iload hx hb dM_layOut_20 (lv_at hl 3 rfl) ?_
      obtain ⟨v2, st1, hc, hf⟩ := ck_b_e hf
      refine ck_vi (As := [.int x5]) (rest := []) (q := 2) C h hl CM_P_isEither sP_isEither q_P (cP_isEither l D cA ad hc) (by omega) rfl rfl (Nat.le_of_ble_eq_true rfl) dM_layOut_22 (fun H locs h => ?_)
      refine lv_if_eq (tgt := 111) hx hb dM_layOut_25 rfl (fun hq => ?_) (fun hq => ?_)
      · have hf := ck_t hq hf
        exact hk111 _ _ _ _ _ _ _ _ h (lv_sub hl [0, 1, 2, 3, 4] rfl) hf
      · have hf := ck_f hq hf
        refine lv_aload_n hx hb dM_layOut_28 rfl (lv_at hl 0 rfl) ?_
        refine ck_gr C h FM_patterns dM_layOut_29 ?_
        refine lv_aload_n hx hb dM_layOut_32 rfl (lv_at hl 0 rfl) ?_
        refine ck_gr C h FM_patterns dM_layOut_33 ?_
        refine lv_iload hx hb dM_layOut_36 (lv_at hl 3 rfl) ?_
        obtain ⟨v4, st3, hc, hf⟩ := ck_b_e hf
        refine ck_vi (As := [.int x5]) (rest := [.ref (ad 2)]) (q := 2) C h hl CM_P_firstOf sP_firstOf q_P (cP_firstOf l D cA ad hc) (by omega) rfl rfl (Nat.le_of_ble_eq_true rfl) dM_layOut_38 (fun H locs h => ?_)
        obtain ⟨v6, st5, hc, hf⟩ := ck_b_e hf
        refine ck_vi (As := [.int v4]) (rest := []) (q := 2) C h hl CM_P_choicesOf sP_choicesOf q_P (cP_choicesOf l D cA ad hc) (by omega) rfl rfl (Nat.le_of_ble_eq_true rfl) dM_layOut_41 (fun H locs h => ?_)
        refine lv_istore (lv' := [(8, .int v6), (0, .ref (ad 4)), (1, .int x1), (4, .int x4), (5, .int x5), (6, .int x6), (7, .int x7)]) hx hb dM_layOut_44 hl (by decide) rfl (fun ls hl => ?_)
        refine lv_iload hx hb dM_layOut_46 (lv_at hl 5 rfl) ?_
        refine lv_iload hx hb dM_layOut_48 (lv_at hl 0 rfl) ?_
        refine lv_icmp_ge (tgt := 57) hx hb dM_layOut_50 rfl (fun hq => ?_) (fun hq => ?_)
        · have hf := ck_t hq hf
          refine lv_iconst (v := 0) hx hb dM_layOut_57 (by decide) ?_
          exact BM_layOut_58 C hret hv hrec ih hk111 _ _ _ _ _ _ _ _ _ _ _ h (lv_sub hl [1, 2, 3, 4, 5, 6, 0] rfl) hf
        · have hf := ck_f hq hf
          refine lv_iconst (v := 1) hx hb dM_layOut_53 (by decide) ?_
          refine lv_goto (tgt := 58) hx hb dM_layOut_54 rfl ?_
          exact BM_layOut_58 C hret hv hrec ih hk111 _ _ _ _ _ _ _ _ _ _ _ h (lv_sub hl [1, 2, 3, 4, 5, 6, 0] rfl) hf
def fM_layOut_b111 (fr : Int32 → Int32 → Int32 → Int32 → ck_S → Option ck_S) (x1 : Int32) (x4 : Int32) (x5 : Int32) (x6 : Int32) (st : ck_S) : Option ck_S := (if (16 : Int32) ≤ x4 then (some st) else (ck_b (fP_has x5 st) fun v2 st1 => (if v2 = 0 then (some st1) else (ck_b (fP_isOpen x5 st1) fun v4 st3 => (if v4 = 0 then (ck_gd x4 16 (ck_gd x4 16 (ck_b (fP_symbolOf x5 (ck_u st3 23 (x4).toNatClampNeg ((st3 23 (x4).toNatClampNeg) ||| ((1 : Int32) <<< (x1 &&& 31))))) fun v6 st5 => (ck_gd ((x4 * (16 : Int32)) + x1) 256 (ck_b (fP_itsType x5 (ck_u st5 24 (((x4 * (16 : Int32)) + x1)).toNatClampNeg v6)) fun v8 st7 => (ck_gd ((x4 * (16 : Int32)) + x1) 256 (ck_b (fP_secondOf x5 (ck_u st7 25 (((x4 * (16 : Int32)) + x1)).toNatClampNeg v8)) fun v10 st9 => (ck_b (fP_choicesOf v10 st9) fun v12 st11 => (ck_b (fP_firstOf x5 st11) fun v14 st13 => (ck_dz v12 (ck_bv (fr x1 v14 (x6 / v12) ((2 : Int32) * x4) st13) fun st15 => (ck_b (fP_secondOf x5 st15) fun v17 st16 => (ck_dz v12 (ck_bv (fr x1 v17 (x6 - x6 / v12 * v12) (((2 : Int32) * x4) + (1 : Int32)) st16) fun st18 => (some st18))))))))))))))) else (some st3))))))
set_option maxRecDepth 100000 in
set_option maxHeartbeats 4000000 in
theorem BM_layOut_111 {v : Nat} (C : ck_X cm_cl D cA bM_layOut 10 R_M (v + 1) p R s m args c) {st0 : ck_S} (hret : ∀ (pc : Nat) (H : Heap) (locs : List Loc) (ls : Array Slot), decode bM_layOut pc = .ok (.return_, 1) → ck_AT sh_C cm_cl D cA ad H0 st0 H locs → W p l e R s m args below meth c H locs 0 0 Q (F0 m pc ls [])) {fr : Int32 → Int32 → Int32 → Int32 → ck_S → Option ck_S} (hv : 2 ≤ v) (hrec : ∀ (a0 a1 a2 a3 : Int32) (st st1 : ck_S), fr a0 a1 a2 a3 st = some st1 → Met l yM_layOut (.code yM_layOut bM_layOut 10 none :: ck_T) (ck_R v) (va_Pc [.ref (ad 4), .int a0, .int a1, .int a2, .int a3] (ck_P sh_C cm_cl D cA ad st)) (va_Qv (fun u => u = st1) (ck_P sh_C cm_cl D cA ad) (ck_A ad sh_C.length)) 0 0 (ck_A ad sh_C.length)) (x1 : Int32) (x4 : Int32) (x5 : Int32) (x6 : Int32) (st : ck_S) (H : Heap) (locs : List Loc) (ls : Array Slot) (h : ck_AT sh_C cm_cl D cA ad H0 st H locs) (hl : lv_has ls 10 [(0, .ref (ad 4)), (1, .int x1), (4, .int x4), (5, .int x5), (6, .int x6)]) (hf : fM_layOut_b111 fr x1 x4 x5 x6 st = some st0) : W p l e R s m args below meth c H locs 0 0 Q (F0 m 111 ls []) := by
  have C1 := C
  obtain ⟨hx, hb, hml, hown, hts, hK, hlv, hlo⟩ := C1
  unfold fM_layOut_b111 at hf
  refine lv_iload hx hb dM_layOut_111 (lv_at hl 2 rfl) ?_
  refine lv_bipush (v := 16) hx hb dM_layOut_113 (by decide) ?_
  refine lv_icmp_ge (tgt := 142) hx hb dM_layOut_115 rfl (fun hq => ?_) (fun hq => ?_)
  · have hf := ck_t hq hf
    exact ck_rv hf hret h dM_layOut_142
  · have hf := ck_f hq hf
    refine lv_aload_n hx hb dM_layOut_118 rfl (lv_at hl 0 rfl) ?_
    refine ck_gr C h FM_patterns dM_layOut_119 ?_
    refine lv_iload hx hb dM_layOut_122 (lv_at hl 3 rfl) ?_
    obtain ⟨v2, st1, hc, hf⟩ := ck_b_e hf
    refine ck_vi (As := [.int x5]) (rest := []) (q := 2) C h hl CM_P_has sP_has q_P (cP_has l D cA ad hc) (by omega) rfl rfl (Nat.le_of_ble_eq_true rfl) dM_layOut_124 (fun H locs h => ?_)
    refine lv_if_eq (tgt := 142) hx hb dM_layOut_127 rfl (fun hq => ?_) (fun hq => ?_)
    · have hf := ck_t hq hf
      exact ck_rv hf hret h dM_layOut_142
    · have hf := ck_f hq hf
      refine lv_aload_n hx hb dM_layOut_130 rfl (lv_at hl 0 rfl) ?_
      refine ck_gr C h FM_patterns dM_layOut_131 ?_
      refine lv_iload hx hb dM_layOut_134 (lv_at hl 3 rfl) ?_
      obtain ⟨v4, st3, hc, hf⟩ := ck_b_e hf
      refine ck_vi (As := [.int x5]) (rest := []) (q := 2) C h hl CM_P_isOpen sP_isOpen q_P (cP_isOpen l D cA ad hc) (by omega) rfl rfl (Nat.le_of_ble_eq_true rfl) dM_layOut_136 (fun H locs h => ?_)
      refine lv_if_eq (tgt := 143) hx hb dM_layOut_139 rfl (fun hq => ?_) (fun hq => ?_)
      · have hf := ck_t hq hf
        refine lv_aload_n hx hb dM_layOut_143 rfl (lv_at hl 0 rfl) ?_
        refine ck_gr C h FM_askers dM_layOut_144 ?_
        refine lv_iload hx hb dM_layOut_147 (lv_at hl 2 rfl) ?_
        refine lv_dup2_11 hx hb dM_layOut_149 rfl rfl ?_
        obtain ⟨hg, hf⟩ := ck_gd_e hf
        refine ck_ai (x := (st3 23 (x4).toNatClampNeg)) C h (show sh_C[23]? = some (.inr (0, 16)) from rfl) hg rfl dM_layOut_150 ?_
        refine lv_iconst (v := 1) hx hb dM_layOut_151 (by decide) ?_
        refine lv_iload_n hx hb dM_layOut_152 rfl (lv_at hl 1 rfl) ?_
        refine lv_ishl hx hb dM_layOut_153 ?_
        refine lv_ior hx hb dM_layOut_154 ?_
        obtain ⟨hg, hf⟩ := ck_gd_e hf
        refine ck_si C h (show sh_C[23]? = some (.inr (0, 16)) from rfl) hg dM_layOut_155 (fun H locs h => ?_)
        refine lv_aload_n hx hb dM_layOut_156 rfl (lv_at hl 0 rfl) ?_
        refine ck_gr C h FM_askedSymbol dM_layOut_157 ?_
        refine lv_iload hx hb dM_layOut_160 (lv_at hl 2 rfl) ?_
        refine lv_bipush (v := 16) hx hb dM_layOut_162 (by decide) ?_
        refine lv_imul hx hb dM_layOut_164 ?_
        refine lv_iload_n hx hb dM_layOut_165 rfl (lv_at hl 1 rfl) ?_
        refine lv_iadd hx hb dM_layOut_166 ?_
        refine lv_aload_n hx hb dM_layOut_167 rfl (lv_at hl 0 rfl) ?_
        refine ck_gr C h FM_patterns dM_layOut_168 ?_
        refine lv_iload hx hb dM_layOut_171 (lv_at hl 3 rfl) ?_
        obtain ⟨v6, st5, hc, hf⟩ := ck_b_e hf
        refine ck_vi (As := [.int x5]) (rest := [.int ((x4 * (16 : Int32)) + x1), .ref (ad 24)]) (q := 2) C h hl CM_P_symbolOf sP_symbolOf q_P (cP_symbolOf l D cA ad hc) (by omega) rfl rfl (Nat.le_of_ble_eq_true rfl) dM_layOut_173 (fun H locs h => ?_)
        obtain ⟨hg, hf⟩ := ck_gd_e hf
        refine ck_si C h (show sh_C[24]? = some (.inr (0, 256)) from rfl) hg dM_layOut_176 (fun H locs h => ?_)
        refine lv_aload_n hx hb dM_layOut_177 rfl (lv_at hl 0 rfl) ?_
        refine ck_gr C h FM_askedType dM_layOut_178 ?_
        refine lv_iload hx hb dM_layOut_181 (lv_at hl 2 rfl) ?_
        refine lv_bipush (v := 16) hx hb dM_layOut_183 (by decide) ?_
        refine lv_imul hx hb dM_layOut_185 ?_
        refine lv_iload_n hx hb dM_layOut_186 rfl (lv_at hl 1 rfl) ?_
        refine lv_iadd hx hb dM_layOut_187 ?_
        refine lv_aload_n hx hb dM_layOut_188 rfl (lv_at hl 0 rfl) ?_
        refine ck_gr C h FM_patterns dM_layOut_189 ?_
        refine lv_iload hx hb dM_layOut_192 (lv_at hl 3 rfl) ?_
        obtain ⟨v8, st7, hc, hf⟩ := ck_b_e hf
        refine ck_vi (As := [.int x5]) (rest := [.int ((x4 * (16 : Int32)) + x1), .ref (ad 25)]) (q := 2) C h hl CM_P_itsType sP_itsType q_P (cP_itsType l D cA ad hc) (by omega) rfl rfl (Nat.le_of_ble_eq_true rfl) dM_layOut_194 (fun H locs h => ?_)
        obtain ⟨hg, hf⟩ := ck_gd_e hf
        refine ck_si C h (show sh_C[25]? = some (.inr (0, 256)) from rfl) hg dM_layOut_197 (fun H locs h => ?_)
        refine lv_aload_n hx hb dM_layOut_198 rfl (lv_at hl 0 rfl) ?_
        refine ck_gr C h FM_patterns dM_layOut_199 ?_
        refine lv_aload_n hx hb dM_layOut_202 rfl (lv_at hl 0 rfl) ?_
        refine ck_gr C h FM_patterns dM_layOut_203 ?_
        refine lv_iload hx hb dM_layOut_206 (lv_at hl 3 rfl) ?_
        obtain ⟨v10, st9, hc, hf⟩ := ck_b_e hf
        refine ck_vi (As := [.int x5]) (rest := [.ref (ad 2)]) (q := 2) C h hl CM_P_secondOf sP_secondOf q_P (cP_secondOf l D cA ad hc) (by omega) rfl rfl (Nat.le_of_ble_eq_true rfl) dM_layOut_208 (fun H locs h => ?_)
        obtain ⟨v12, st11, hc, hf⟩ := ck_b_e hf
        refine ck_vi (As := [.int v10]) (rest := []) (q := 2) C h hl CM_P_choicesOf sP_choicesOf q_P (cP_choicesOf l D cA ad hc) (by omega) rfl rfl (Nat.le_of_ble_eq_true rfl) dM_layOut_211 (fun H locs h => ?_)
        refine lv_istore (lv' := [(7, .int v12), (0, .ref (ad 4)), (1, .int x1), (4, .int x4), (5, .int x5), (6, .int x6)]) hx hb dM_layOut_214 hl (by decide) rfl (fun ls hl => ?_)
        refine lv_aload_n hx hb dM_layOut_216 rfl (lv_at hl 1 rfl) ?_
        refine lv_iload_n hx hb dM_layOut_217 rfl (lv_at hl 2 rfl) ?_
        refine lv_aload_n hx hb dM_layOut_218 rfl (lv_at hl 1 rfl) ?_
        refine ck_gr C h FM_patterns dM_layOut_219 ?_
        refine lv_iload hx hb dM_layOut_222 (lv_at hl 4 rfl) ?_
        obtain ⟨v14, st13, hc, hf⟩ := ck_b_e hf
        refine ck_vi (As := [.int x5]) (rest := [.int x1, .ref (ad 4)]) (q := 2) C h hl CM_P_firstOf sP_firstOf q_P (cP_firstOf l D cA ad hc) (by omega) rfl rfl (Nat.le_of_ble_eq_true rfl) dM_layOut_224 (fun H locs h => ?_)
        refine lv_iload hx hb dM_layOut_227 (lv_at hl 5 rfl) ?_
        refine lv_iload hx hb dM_layOut_229 (lv_at hl 0 rfl) ?_
        obtain ⟨hz, hf⟩ := ck_dz_e hf
        refine lv_idiv hx hb dM_layOut_231 hz ?_
        refine lv_iconst (v := 2) hx hb dM_layOut_232 (by decide) ?_
        refine lv_iload hx hb dM_layOut_233 (lv_at hl 3 rfl) ?_
        refine lv_imul hx hb dM_layOut_235 ?_
        obtain ⟨st15, hc, hf⟩ := ck_bv_e hf
        refine ck_vv (As := [.int x1, .int v14, .int (x6 / v12), .int ((2 : Int32) * x4)]) (rest := []) (q := 4) C h hl CM_M_layOut sM_layOut q_M (hrec _ _ _ _ _ _ hc) (Nat.le_refl _) rfl rfl (Nat.le_of_ble_eq_true rfl) dM_layOut_236 (fun H locs h => ?_)
        refine lv_aload_n hx hb dM_layOut_239 rfl (lv_at hl 1 rfl) ?_
        refine lv_iload_n hx hb dM_layOut_240 rfl (lv_at hl 2 rfl) ?_
        refine lv_aload_n hx hb dM_layOut_241 rfl (lv_at hl 1 rfl) ?_
        refine ck_gr C h FM_patterns dM_layOut_242 ?_
        refine lv_iload hx hb dM_layOut_245 (lv_at hl 4 rfl) ?_
        obtain ⟨v17, st16, hc, hf⟩ := ck_b_e hf
        refine ck_vi (As := [.int x5]) (rest := [.int x1, .ref (ad 4)]) (q := 2) C h hl CM_P_secondOf sP_secondOf q_P (cP_secondOf l D cA ad hc) (by omega) rfl rfl (Nat.le_of_ble_eq_true rfl) dM_layOut_247 (fun H locs h => ?_)
        refine lv_iload hx hb dM_layOut_250 (lv_at hl 5 rfl) ?_
        refine lv_iload hx hb dM_layOut_252 (lv_at hl 0 rfl) ?_
        obtain ⟨hz, hf⟩ := ck_dz_e hf
        refine lv_irem hx hb dM_layOut_254 hz ?_
        refine lv_iconst (v := 2) hx hb dM_layOut_255 (by decide) ?_
        refine lv_iload hx hb dM_layOut_256 (lv_at hl 3 rfl) ?_
        refine lv_imul hx hb dM_layOut_258 ?_
        refine lv_iconst (v := 1) hx hb dM_layOut_259 (by decide) ?_
        refine lv_iadd hx hb dM_layOut_260 ?_
        obtain ⟨st18, hc, hf⟩ := ck_bv_e hf
        refine ck_vv (As := [.int x1, .int v17, .int (x6 - x6 / v12 * v12), .int (((2 : Int32) * x4) + (1 : Int32))]) (rest := []) (q := 4) C h hl CM_M_layOut sM_layOut q_M (hrec _ _ _ _ _ _ hc) (Nat.le_refl _) rfl rfl (Nat.le_of_ble_eq_true rfl) dM_layOut_261 (fun H locs h => ?_)
        exact ck_rv hf hret h dM_layOut_264
      · have hf := ck_f hq hf
        exact ck_rv hf hret h dM_layOut_142
def fM_layOut_s (fr : Int32 → Int32 → Int32 → Int32 → ck_S → Option ck_S) (x1 : Int32) (x2 : Int32) (x3 : Int32) (x4 : Int32) (st : ck_S) : Option ck_S := (fM_layOut_l9 fr (fun x1 x4 x5 x6 st => (fM_layOut_b111 fr x1 x4 x5 x6 st)) 4096 x1 x4 x2 x3 (0 : Int32) st)
def fM_layOut_r : Nat → Int32 → Int32 → Int32 → Int32 → ck_S → Option ck_S
  | 0, _, _, _, _, _ => none
  | n + 1, x1, x2, x3, x4, st => fM_layOut_s (fM_layOut_r n) x1 x2 x3 x4 st
def fM_layOut (x1 : Int32) (x2 : Int32) (x3 : Int32) (x4 : Int32) (st : ck_S) : Option ck_S := fM_layOut_r 8 x1 x2 x3 x4 st
set_option maxRecDepth 100000 in
set_option maxHeartbeats 4000000 in
theorem cM_layOut_s (l : Launch) (D : va_G) (cA : Nat → ClassId) (ad : Nat → Nat) {v : Nat} {fr : Int32 → Int32 → Int32 → Int32 → ck_S → Option ck_S} (hv : 2 ≤ v) (hrec : ∀ (a0 a1 a2 a3 : Int32) (st st1 : ck_S), fr a0 a1 a2 a3 st = some st1 → Met l yM_layOut (.code yM_layOut bM_layOut 10 none :: ck_T) (ck_R v) (va_Pc [.ref (ad 4), .int a0, .int a1, .int a2, .int a3] (ck_P sh_C cm_cl D cA ad st)) (va_Qv (fun u => u = st1) (ck_P sh_C cm_cl D cA ad) (ck_A ad sh_C.length)) 0 0 (ck_A ad sh_C.length)) {x1 : Int32} {x2 : Int32} {x3 : Int32} {x4 : Int32} {st : ck_S} {st0 : ck_S} (hf : fM_layOut_s fr x1 x2 x3 x4 st = some st0) : Met l yM_layOut (.code yM_layOut bM_layOut 10 none :: ck_T) (ck_R (v + 1)) (va_Pc [.ref (ad 4), .int x1, .int x2, .int x3, .int x4] (ck_P sh_C cm_cl D cA ad st)) (va_Qv (fun u => u = st0) (ck_P sh_C cm_cl D cA ad) (ck_A ad sh_C.length)) 0 0 (ck_A ad sh_C.length) := by
  refine ck_met_v (own := R_M) (by decide +kernel) rfl (Nat.le_of_ble_eq_true rfl) (fun p e R s m args below meth c H0 Q ls C hret h hl => ?_)
  have C1 := C
  obtain ⟨hx, hb, hml, hown, hts, hK, hlv, hlo⟩ := C1
  have hl : lv_has ls 10 [(0, .ref (ad 4)), (1, .int x1), (2, .int x2), (3, .int x3), (4, .int x4)] := hl
  unfold fM_layOut_s at hf
  refine lv_iload_n hx hb dM_layOut_0 rfl (lv_at hl 2 rfl) ?_
  refine lv_istore (lv' := [(5, .int x2), (0, .ref (ad 4)), (1, .int x1), (2, .int x2), (3, .int x3), (4, .int x4)]) hx hb dM_layOut_1 hl (by decide) rfl (fun ls hl => ?_)
  refine lv_iload_n hx hb dM_layOut_3 rfl (lv_at hl 4 rfl) ?_
  refine lv_istore (lv' := [(6, .int x3), (5, .int x2), (0, .ref (ad 4)), (1, .int x1), (2, .int x2), (3, .int x3), (4, .int x4)]) hx hb dM_layOut_4 hl (by decide) rfl (fun ls hl => ?_)
  refine lv_iconst (v := 0) hx hb dM_layOut_6 (by decide) ?_
  refine lv_istore (lv' := [(7, .int (0 : Int32)), (6, .int x3), (5, .int x2), (0, .ref (ad 4)), (1, .int x1), (2, .int x2), (3, .int x3), (4, .int x4)]) hx hb dM_layOut_7 hl (by decide) rfl (fun ls hl => ?_)
  exact BM_layOut_9 C hret hv hrec (fun x1 x4 x5 x6 st H locs ls h hl hf => by
      exact BM_layOut_111 C hret hv hrec _ _ _ _ _ _ _ _ h (lv_sub hl [0, 1, 2, 3, 4] rfl) hf) 4096 _ _ _ _ _ _ _ _ _ h (lv_sub hl [3, 4, 7, 2, 1, 0] rfl) hf
set_option maxRecDepth 100000 in
set_option maxHeartbeats 4000000 in
theorem cM_layOut_r (l : Launch) (D : va_G) (cA : Nat → ClassId) (ad : Nat → Nat) : ∀ (n : Nat) (x1 : Int32) (x2 : Int32) (x3 : Int32) (x4 : Int32) (st st0 : ck_S), fM_layOut_r n x1 x2 x3 x4 st = some st0 → Met l yM_layOut (.code yM_layOut bM_layOut 10 none :: ck_T) (ck_R (2 + n)) (va_Pc [.ref (ad 4), .int x1, .int x2, .int x3, .int x4] (ck_P sh_C cm_cl D cA ad st)) (va_Qv (fun u => u = st0) (ck_P sh_C cm_cl D cA ad) (ck_A ad sh_C.length)) 0 0 (ck_A ad sh_C.length) := by
  intro n
  induction n with
  | zero => intro _ _ _ _ _ _ hf; cases hf
  | succ n ih =>
    intro x1 x2 x3 x4 st st0 hf
    have hf : fM_layOut_s (fM_layOut_r n) x1 x2 x3 x4 st = some st0 := hf
    exact cM_layOut_s l D cA ad (Nat.le_add_right _ _) ih hf
theorem cM_layOut (l : Launch) (D : va_G) (cA : Nat → ClassId) (ad : Nat → Nat) {x1 : Int32} {x2 : Int32} {x3 : Int32} {x4 : Int32} {st : ck_S} {st0 : ck_S} (hf : fM_layOut x1 x2 x3 x4 st = some st0) : Met l yM_layOut (.code yM_layOut bM_layOut 10 none :: ck_T) (ck_R 10) (va_Pc [.ref (ad 4), .int x1, .int x2, .int x3, .int x4] (ck_P sh_C cm_cl D cA ad st)) (va_Qv (fun u => u = st0) (ck_P sh_C cm_cl D cA ad) (ck_A ad sh_C.length)) 0 0 (ck_A ad sh_C.length) := cM_layOut_r l D cA ad 8 _ _ _ _ _ _ hf
def fM_addRow_l40 (k80 : Int32 → Int32 → ck_S → Option (Int32 × ck_S)) : Nat → Int32 → Int32 → Int32 → Int32 → ck_S → Option (Int32 × ck_S)
  | 0, _, _, _, _, _ => none
  | n + 1, x1, x2, x3, x4, st => (if x2 ≤ x4 then (k80 x2 x3 st) else (ck_gd ((st 4 8) + x4) 16 (ck_bv (fM_layOut ((st 4 8) + x4) x1 x4 (1 : Int32) (ck_u st 22 (((st 4 8) + x4)).toNatClampNeg x3)) fun st1 => (fM_addRow_l40 k80 n x1 x2 x3 (x4 + 1) st1))))
set_option maxRecDepth 100000 in
set_option maxHeartbeats 4000000 in
theorem BM_addRow_40 (C : ck_X cm_cl D cA bM_addRow 5 R_M 11 p R s m args c) {r0 : Int32} {st0 : ck_S} (hret : ∀ (pc : Nat) (H : Heap) (locs : List Loc) (ls : Array Slot), decode bM_addRow pc = .ok (.ireturn, 1) → ck_AT sh_C cm_cl D cA ad H0 st0 H locs → W p l e R s m args below meth c H locs 0 0 Q (F0 m pc ls [.int r0])) {k80 : Int32 → Int32 → ck_S → Option (Int32 × ck_S)} (hk80 : ∀ (x2 : Int32) (x3 : Int32) (st : ck_S) (H : Heap) (locs : List Loc) (ls : Array Slot), ck_AT sh_C cm_cl D cA ad H0 st H locs → lv_has ls 5 [(0, .ref (ad 4)), (2, .int x2), (3, .int x3)] → k80 x2 x3 st = some (r0, st0) → W p l e R s m args below meth c H locs 0 0 Q (F0 m 80 ls [])) : ∀ (n : Nat) (x1 : Int32) (x2 : Int32) (x3 : Int32) (x4 : Int32) (st : ck_S) (H : Heap) (locs : List Loc) (ls : Array Slot), ck_AT sh_C cm_cl D cA ad H0 st H locs → lv_has ls 5 [(0, .ref (ad 4)), (1, .int x1), (2, .int x2), (3, .int x3), (4, .int x4)] → fM_addRow_l40 k80 n x1 x2 x3 x4 st = some (r0, st0) → W p l e R s m args below meth c H locs 0 0 Q (F0 m 40 ls []) := by
  have C1 := C
  obtain ⟨hx, hb, hml, hown, hts, hK, hlv, hlo⟩ := C1
  intro n
  induction n with
  | zero => intro _ _ _ _ _ _ _ _ _ _ hf; cases hf
  | succ n ih =>
    intro x1 x2 x3 x4 st H locs ls h hl hf
    rw [fM_addRow_l40] at hf
    refine lv_iload hx hb dM_addRow_40 (lv_at hl 4 rfl) ?_
    refine lv_iload_n hx hb dM_addRow_42 rfl (lv_at hl 2 rfl) ?_
    refine lv_icmp_ge (tgt := 80) hx hb dM_addRow_43 rfl (fun hq => ?_) (fun hq => ?_)
    · have hf := ck_t hq hf
      exact hk80 _ _ _ _ _ _ h (lv_sub hl [0, 2, 3] rfl) hf
    · have hf := ck_f hq hf
      refine lv_aload_n hx hb dM_addRow_46 rfl (lv_at hl 0 rfl) ?_
      refine ck_gr C h FM_rowOfClause dM_addRow_47 ?_
      refine lv_aload_n hx hb dM_addRow_50 rfl (lv_at hl 0 rfl) ?_
      refine ck_gi (x := (st 4 8)) C h FM_clauses rfl dM_addRow_51 ?_
      refine lv_iload hx hb dM_addRow_54 (lv_at hl 4 rfl) ?_
      refine lv_iadd hx hb dM_addRow_56 ?_
      refine lv_iload_n hx hb dM_addRow_57 rfl (lv_at hl 3 rfl) ?_
      obtain ⟨hg, hf⟩ := ck_gd_e hf
      refine ck_si C h (show sh_C[22]? = some (.inr (0, 16)) from rfl) hg dM_addRow_58 (fun H locs h => ?_)
      refine lv_aload_n hx hb dM_addRow_59 rfl (lv_at hl 0 rfl) ?_
      refine lv_aload_n hx hb dM_addRow_60 rfl (lv_at hl 0 rfl) ?_
      refine ck_gi (x := (st 4 8)) C h FM_clauses rfl dM_addRow_61 ?_
      refine lv_iload hx hb dM_addRow_64 (lv_at hl 4 rfl) ?_
      refine lv_iadd hx hb dM_addRow_66 ?_
      refine lv_iload_n hx hb dM_addRow_67 rfl (lv_at hl 1 rfl) ?_
      refine lv_iload hx hb dM_addRow_68 (lv_at hl 4 rfl) ?_
      refine lv_iconst (v := 1) hx hb dM_addRow_70 (by decide) ?_
      obtain ⟨st1, hc, hf⟩ := ck_bv_e hf
      refine ck_vv (As := [.int ((st 4 8) + x4), .int x1, .int x4, .int (1 : Int32)]) (rest := []) (q := 4) C h hl CM_M_layOut sM_layOut q_M (cM_layOut l D cA ad hc) (Nat.le_of_ble_eq_true rfl) rfl rfl (Nat.le_of_ble_eq_true rfl) dM_addRow_71 (fun H locs h => ?_)
      refine lv_iinc (k := 4) (v := (x4 + 1)) (lv' := [(4, .int (x4 + 1)), (0, .ref (ad 4)), (1, .int x1), (2, .int x2), (3, .int x3)]) hx hb dM_addRow_74 hl rfl rfl (by decide) rfl (fun ls hl => ?_)
      refine lv_goto (tgt := 40) hx hb dM_addRow_77 rfl ?_
      exact ih _ _ _ _ _ _ _ _ h (lv_sub hl [1, 2, 3, 4, 0] rfl) hf
def fM_addRow_b80 (x2 : Int32) (x3 : Int32) (st : ck_S) : Option (Int32 × ck_S) := (ck_gd ((st 4 7) + (1 : Int32)) 9 (some (x3, (ck_u (ck_u (ck_u st 4 8 ((st 4 8) + x2)) 4 7 ((st 4 7) + (1 : Int32))) 21 (((st 4 7) + (1 : Int32))).toNatClampNeg ((st 4 8) + x2)))))
set_option maxRecDepth 100000 in
set_option maxHeartbeats 4000000 in
theorem BM_addRow_80 (C : ck_X cm_cl D cA bM_addRow 5 R_M 11 p R s m args c) {r0 : Int32} {st0 : ck_S} (hret : ∀ (pc : Nat) (H : Heap) (locs : List Loc) (ls : Array Slot), decode bM_addRow pc = .ok (.ireturn, 1) → ck_AT sh_C cm_cl D cA ad H0 st0 H locs → W p l e R s m args below meth c H locs 0 0 Q (F0 m pc ls [.int r0])) (x2 : Int32) (x3 : Int32) (st : ck_S) (H : Heap) (locs : List Loc) (ls : Array Slot) (h : ck_AT sh_C cm_cl D cA ad H0 st H locs) (hl : lv_has ls 5 [(0, .ref (ad 4)), (2, .int x2), (3, .int x3)]) (hf : fM_addRow_b80 x2 x3 st = some (r0, st0)) : W p l e R s m args below meth c H locs 0 0 Q (F0 m 80 ls []) := by
  have C1 := C
  obtain ⟨hx, hb, hml, hown, hts, hK, hlv, hlo⟩ := C1
  unfold fM_addRow_b80 at hf
  refine lv_aload_n hx hb dM_addRow_80 rfl (lv_at hl 0 rfl) ?_
  refine lv_dup hx hb dM_addRow_81 rfl ?_
  refine ck_gi (x := (st 4 8)) C h FM_clauses rfl dM_addRow_82 ?_
  refine lv_iload_n hx hb dM_addRow_85 rfl (lv_at hl 1 rfl) ?_
  refine lv_iadd hx hb dM_addRow_86 ?_
  refine ck_pi C h GM_clauses rfl rfl dM_addRow_87 (fun H locs h => ?_)
  refine lv_aload_n hx hb dM_addRow_90 rfl (lv_at hl 0 rfl) ?_
  refine lv_dup hx hb dM_addRow_91 rfl ?_
  refine ck_gi (x := (st 4 7)) C h FM_rows rfl dM_addRow_92 ?_
  refine lv_iconst (v := 1) hx hb dM_addRow_95 (by decide) ?_
  refine lv_iadd hx hb dM_addRow_96 ?_
  refine ck_pi C h GM_rows rfl rfl dM_addRow_97 (fun H locs h => ?_)
  refine lv_aload_n hx hb dM_addRow_100 rfl (lv_at hl 0 rfl) ?_
  refine ck_gr C h FM_firstClause dM_addRow_101 ?_
  refine lv_aload_n hx hb dM_addRow_104 rfl (lv_at hl 0 rfl) ?_
  refine ck_gi (x := ((st 4 7) + (1 : Int32))) C h FM_rows rfl dM_addRow_105 ?_
  refine lv_aload_n hx hb dM_addRow_108 rfl (lv_at hl 0 rfl) ?_
  refine ck_gi (x := ((st 4 8) + x2)) C h FM_clauses rfl dM_addRow_109 ?_
  obtain ⟨hg, hf⟩ := ck_gd_e hf
  refine ck_si C h (show sh_C[21]? = some (.inr (0, 9)) from rfl) hg dM_addRow_112 (fun H locs h => ?_)
  refine lv_iload_n hx hb dM_addRow_113 rfl (lv_at hl 2 rfl) ?_
  exact ck_ri hf hret h dM_addRow_114
def fM_addRow (x1 : Int32) (st : ck_S) : Option (Int32 × ck_S) := (ck_b (fP_choicesOf x1 st) fun v2 st1 => (if (8 : Int32) ≤ (st1 4 7) then (some ((-8 : Int32), st1)) else (if ((st1 4 8) + v2) ≤ (16 : Int32) then (fM_addRow_l40 (fun x2 x3 st => (fM_addRow_b80 x2 x3 st)) 4096 x1 v2 (st1 4 7) (0 : Int32) st1) else (some ((-8 : Int32), st1)))))
set_option maxRecDepth 100000 in
set_option maxHeartbeats 4000000 in
theorem cM_addRow (l : Launch) (D : va_G) (cA : Nat → ClassId) (ad : Nat → Nat) {x1 : Int32} {st : ck_S} {r0 : Int32} {st0 : ck_S} (hf : fM_addRow x1 st = some (r0, st0)) : Met l yM_addRow (.code yM_addRow bM_addRow 5 (some .int) :: ck_T) (ck_R 11) (va_Pc [.ref (ad 4), .int x1] (ck_P sh_C cm_cl D cA ad st)) (va_Qi (fun a u => a = r0 ∧ u = st0) (ck_P sh_C cm_cl D cA ad) (ck_A ad sh_C.length)) 0 0 (ck_A ad sh_C.length) := by
  refine ck_met_i (own := R_M) (by decide +kernel) rfl (Nat.le_of_ble_eq_true rfl) (fun p e R s m args below meth c H0 Q ls C hret h hl => ?_)
  have C1 := C
  obtain ⟨hx, hb, hml, hown, hts, hK, hlv, hlo⟩ := C1
  have hl : lv_has ls 5 [(0, .ref (ad 4)), (1, .int x1)] := hl
  unfold fM_addRow at hf
  refine lv_aload_n hx hb dM_addRow_0 rfl (lv_at hl 0 rfl) ?_
  refine ck_gr C h FM_patterns dM_addRow_1 ?_
  refine lv_iload_n hx hb dM_addRow_4 rfl (lv_at hl 1 rfl) ?_
  obtain ⟨v2, st1, hc, hf⟩ := ck_b_e hf
  refine ck_vi (As := [.int x1]) (rest := []) (q := 2) C h hl CM_P_choicesOf sP_choicesOf q_P (cP_choicesOf l D cA ad hc) (Nat.le_of_ble_eq_true rfl) rfl rfl (Nat.le_of_ble_eq_true rfl) dM_addRow_5 (fun H locs h => ?_)
  refine lv_istore_n (lv' := [(2, .int v2), (0, .ref (ad 4)), (1, .int x1)]) hx hb dM_addRow_8 rfl hl (by decide) rfl (fun ls hl => ?_)
  refine lv_aload_n hx hb dM_addRow_9 rfl (lv_at hl 1 rfl) ?_
  refine ck_gi (x := (st1 4 7)) C h FM_rows rfl dM_addRow_10 ?_
  refine lv_bipush (v := 8) hx hb dM_addRow_13 (by decide) ?_
  refine lv_icmp_ge (tgt := 29) hx hb dM_addRow_15 rfl (fun hq => ?_) (fun hq => ?_)
  · have hf := ck_t hq hf
    refine lv_bipush (v := (-8)) hx hb dM_addRow_29 (by decide) ?_
    exact ck_ri hf hret h dM_addRow_31
  · have hf := ck_f hq hf
    refine lv_aload_n hx hb dM_addRow_18 rfl (lv_at hl 1 rfl) ?_
    refine ck_gi (x := (st1 4 8)) C h FM_clauses rfl dM_addRow_19 ?_
    refine lv_iload_n hx hb dM_addRow_22 rfl (lv_at hl 0 rfl) ?_
    refine lv_iadd hx hb dM_addRow_23 ?_
    refine lv_bipush (v := 16) hx hb dM_addRow_24 (by decide) ?_
    refine lv_icmp_le (tgt := 32) hx hb dM_addRow_26 rfl (fun hq => ?_) (fun hq => ?_)
    · have hf := ck_t hq hf
      refine lv_aload_n hx hb dM_addRow_32 rfl (lv_at hl 1 rfl) ?_
      refine ck_gi (x := (st1 4 7)) C h FM_rows rfl dM_addRow_33 ?_
      refine lv_istore_n (lv' := [(3, .int (st1 4 7)), (2, .int v2), (0, .ref (ad 4)), (1, .int x1)]) hx hb dM_addRow_36 rfl hl (by decide) rfl (fun ls hl => ?_)
      refine lv_iconst (v := 0) hx hb dM_addRow_37 (by decide) ?_
      refine lv_istore (lv' := [(4, .int (0 : Int32)), (3, .int (st1 4 7)), (2, .int v2), (0, .ref (ad 4)), (1, .int x1)]) hx hb dM_addRow_38 hl (by decide) rfl (fun ls hl => ?_)
      exact BM_addRow_40 C hret (fun x2 x3 st H locs ls h hl hf => by
          exact BM_addRow_80 C hret _ _ _ _ _ _ h (lv_sub hl [0, 1, 2] rfl) hf) 4096 _ _ _ _ _ _ _ _ h (lv_sub hl [3, 4, 2, 1, 0] rfl) hf
    · have hf := ck_f hq hf
      refine lv_bipush (v := (-8)) hx hb dM_addRow_29 (by decide) ?_
      exact ck_ri hf hret h dM_addRow_31
def fM_allClauses (st : ck_S) : Option (Int32 × ck_S) := (some ((((1 : Int32) <<< ((st 4 8) &&& 31)) - (1 : Int32)), st))
set_option maxRecDepth 100000 in
set_option maxHeartbeats 4000000 in
theorem cM_allClauses (l : Launch) (D : va_G) (cA : Nat → ClassId) (ad : Nat → Nat) {st : ck_S} {r0 : Int32} {st0 : ck_S} (hf : fM_allClauses st = some (r0, st0)) : Met l yM_allClauses (.code yM_allClauses bM_allClauses 1 (some .int) :: ck_T) (ck_R 0) (va_Pc [.ref (ad 4)] (ck_P sh_C cm_cl D cA ad st)) (va_Qi (fun a u => a = r0 ∧ u = st0) (ck_P sh_C cm_cl D cA ad) (ck_A ad sh_C.length)) 0 0 (ck_A ad sh_C.length) := by
  refine ck_met_i (own := R_M) (by decide +kernel) rfl (Nat.le_of_ble_eq_true rfl) (fun p e R s m args below meth c H0 Q ls C hret h hl => ?_)
  have C1 := C
  obtain ⟨hx, hb, hml, hown, hts, hK, hlv, hlo⟩ := C1
  have hl : lv_has ls 1 [(0, .ref (ad 4))] := hl
  unfold fM_allClauses at hf
  refine lv_iconst (v := 1) hx hb dM_allClauses_0 (by decide) ?_
  refine lv_aload_n hx hb dM_allClauses_1 rfl (lv_at hl 0 rfl) ?_
  refine ck_gi (x := (st 4 8)) C h FM_clauses rfl dM_allClauses_2 ?_
  refine lv_ishl hx hb dM_allClauses_5 ?_
  refine lv_iconst (v := 1) hx hb dM_allClauses_6 (by decide) ?_
  refine lv_isub hx hb dM_allClauses_7 ?_
  exact ck_ri hf hret h dM_allClauses_8
def fM_firstOf_l2 : Nat → Int32 → Int32 → ck_S → Option (Int32 × ck_S)
  | 0, _, _, _ => none
  | n + 1, x1, x2, st => (if (st 4 8) ≤ x2 then (some ((-1 : Int32), st)) else (if ((x1 >>> (x2 &&& 31)) &&& (1 : Int32)) = (1 : Int32) then (some (x2, st)) else (fM_firstOf_l2 n x1 (x2 + 1) st)))
set_option maxRecDepth 100000 in
set_option maxHeartbeats 4000000 in
theorem BM_firstOf_2 (C : ck_X cm_cl D cA bM_firstOf 3 R_M 0 p R s m args c) {r0 : Int32} {st0 : ck_S} (hret : ∀ (pc : Nat) (H : Heap) (locs : List Loc) (ls : Array Slot), decode bM_firstOf pc = .ok (.ireturn, 1) → ck_AT sh_C cm_cl D cA ad H0 st0 H locs → W p l e R s m args below meth c H locs 0 0 Q (F0 m pc ls [.int r0])) : ∀ (n : Nat) (x1 : Int32) (x2 : Int32) (st : ck_S) (H : Heap) (locs : List Loc) (ls : Array Slot), ck_AT sh_C cm_cl D cA ad H0 st H locs → lv_has ls 3 [(0, .ref (ad 4)), (1, .int x1), (2, .int x2)] → fM_firstOf_l2  n x1 x2 st = some (r0, st0) → W p l e R s m args below meth c H locs 0 0 Q (F0 m 2 ls []) := by
  have C1 := C
  obtain ⟨hx, hb, hml, hown, hts, hK, hlv, hlo⟩ := C1
  intro n
  induction n with
  | zero => intro _ _ _ _ _ _ _ _ hf; cases hf
  | succ n ih =>
    intro x1 x2 st H locs ls h hl hf
    rw [fM_firstOf_l2] at hf
    refine lv_iload_n hx hb dM_firstOf_2 rfl (lv_at hl 2 rfl) ?_
    refine lv_aload_n hx hb dM_firstOf_3 rfl (lv_at hl 0 rfl) ?_
    refine ck_gi (x := (st 4 8)) C h FM_clauses rfl dM_firstOf_4 ?_
    refine lv_icmp_ge (tgt := 27) hx hb dM_firstOf_7 rfl (fun hq => ?_) (fun hq => ?_)
    · have hf := ck_t hq hf
      refine lv_iconst (v := (-1)) hx hb dM_firstOf_27 (by decide) ?_
      exact ck_ri hf hret h dM_firstOf_28
    · have hf := ck_f hq hf
      refine lv_iload_n hx hb dM_firstOf_10 rfl (lv_at hl 1 rfl) ?_
      refine lv_iload_n hx hb dM_firstOf_11 rfl (lv_at hl 2 rfl) ?_
      refine lv_ishr hx hb dM_firstOf_12 ?_
      refine lv_iconst (v := 1) hx hb dM_firstOf_13 (by decide) ?_
      refine lv_iand hx hb dM_firstOf_14 ?_
      refine lv_iconst (v := 1) hx hb dM_firstOf_15 (by decide) ?_
      refine lv_icmp_ne (tgt := 21) hx hb dM_firstOf_16 rfl (fun hq => ?_) (fun hq => ?_)
      · have hf := ck_f hq hf
        refine lv_iinc (k := 2) (v := (x2 + 1)) (lv' := [(2, .int (x2 + 1)), (0, .ref (ad 4)), (1, .int x1)]) hx hb dM_firstOf_21 hl rfl rfl (by decide) rfl (fun ls hl => ?_)
        refine lv_goto (tgt := 2) hx hb dM_firstOf_24 rfl ?_
        exact ih _ _ _ _ _ _ h (lv_sub hl [1, 2, 0] rfl) hf
      · have hf := ck_t hq hf
        refine lv_iload_n hx hb dM_firstOf_19 rfl (lv_at hl 2 rfl) ?_
        exact ck_ri hf hret h dM_firstOf_20
def fM_firstOf (x1 : Int32) (st : ck_S) : Option (Int32 × ck_S) := (fM_firstOf_l2  4096 x1 (0 : Int32) st)
set_option maxRecDepth 100000 in
set_option maxHeartbeats 4000000 in
theorem cM_firstOf (l : Launch) (D : va_G) (cA : Nat → ClassId) (ad : Nat → Nat) {x1 : Int32} {st : ck_S} {r0 : Int32} {st0 : ck_S} (hf : fM_firstOf x1 st = some (r0, st0)) : Met l yM_firstOf (.code yM_firstOf bM_firstOf 3 (some .int) :: ck_T) (ck_R 0) (va_Pc [.ref (ad 4), .int x1] (ck_P sh_C cm_cl D cA ad st)) (va_Qi (fun a u => a = r0 ∧ u = st0) (ck_P sh_C cm_cl D cA ad) (ck_A ad sh_C.length)) 0 0 (ck_A ad sh_C.length) := by
  refine ck_met_i (own := R_M) (by decide +kernel) rfl (Nat.le_of_ble_eq_true rfl) (fun p e R s m args below meth c H0 Q ls C hret h hl => ?_)
  have C1 := C
  obtain ⟨hx, hb, hml, hown, hts, hK, hlv, hlo⟩ := C1
  have hl : lv_has ls 3 [(0, .ref (ad 4)), (1, .int x1)] := hl
  unfold fM_firstOf at hf
  refine lv_iconst (v := 0) hx hb dM_firstOf_0 (by decide) ?_
  refine lv_istore_n (lv' := [(2, .int (0 : Int32)), (0, .ref (ad 4)), (1, .int x1)]) hx hb dM_firstOf_1 rfl hl (by decide) rfl (fun ls hl => ?_)
  exact BM_firstOf_2 C hret  4096 _ _ _ _ _ _ h (lv_sub hl [1, 2, 0] rfl) hf
def fM_rowOf (x1 : Int32) (st : ck_S) : Option (Int32 × ck_S) := (if x1 < 0 then (some ((-1 : Int32), st)) else (if (st 4 8) ≤ x1 then (some ((-1 : Int32), st)) else (ck_gd x1 16 (some ((st 22 (x1).toNatClampNeg), st)))))
set_option maxRecDepth 100000 in
set_option maxHeartbeats 4000000 in
theorem cM_rowOf (l : Launch) (D : va_G) (cA : Nat → ClassId) (ad : Nat → Nat) {x1 : Int32} {st : ck_S} {r0 : Int32} {st0 : ck_S} (hf : fM_rowOf x1 st = some (r0, st0)) : Met l yM_rowOf (.code yM_rowOf bM_rowOf 2 (some .int) :: ck_T) (ck_R 0) (va_Pc [.ref (ad 4), .int x1] (ck_P sh_C cm_cl D cA ad st)) (va_Qi (fun a u => a = r0 ∧ u = st0) (ck_P sh_C cm_cl D cA ad) (ck_A ad sh_C.length)) 0 0 (ck_A ad sh_C.length) := by
  refine ck_met_i (own := R_M) (by decide +kernel) rfl (Nat.le_of_ble_eq_true rfl) (fun p e R s m args below meth c H0 Q ls C hret h hl => ?_)
  have C1 := C
  obtain ⟨hx, hb, hml, hown, hts, hK, hlv, hlo⟩ := C1
  have hl : lv_has ls 2 [(0, .ref (ad 4)), (1, .int x1)] := hl
  unfold fM_rowOf at hf
  refine lv_iload_n hx hb dM_rowOf_0 rfl (lv_at hl 1 rfl) ?_
  refine lv_if_lt (tgt := 21) hx hb dM_rowOf_1 rfl (fun hq => ?_) (fun hq => ?_)
  · have hf := ck_t hq hf
    refine lv_iconst (v := (-1)) hx hb dM_rowOf_21 (by decide) ?_
    exact ck_ri hf hret h dM_rowOf_22
  · have hf := ck_f hq hf
    refine lv_iload_n hx hb dM_rowOf_4 rfl (lv_at hl 1 rfl) ?_
    refine lv_aload_n hx hb dM_rowOf_5 rfl (lv_at hl 0 rfl) ?_
    refine ck_gi (x := (st 4 8)) C h FM_clauses rfl dM_rowOf_6 ?_
    refine lv_icmp_ge (tgt := 21) hx hb dM_rowOf_9 rfl (fun hq => ?_) (fun hq => ?_)
    · have hf := ck_t hq hf
      refine lv_iconst (v := (-1)) hx hb dM_rowOf_21 (by decide) ?_
      exact ck_ri hf hret h dM_rowOf_22
    · have hf := ck_f hq hf
      refine lv_aload_n hx hb dM_rowOf_12 rfl (lv_at hl 0 rfl) ?_
      refine ck_gr C h FM_rowOfClause dM_rowOf_13 ?_
      refine lv_iload_n hx hb dM_rowOf_16 rfl (lv_at hl 1 rfl) ?_
      obtain ⟨hg, hf⟩ := ck_gd_e hf
      refine ck_ai (x := (st 22 (x1).toNatClampNeg)) C h (show sh_C[22]? = some (.inr (0, 16)) from rfl) hg rfl dM_rowOf_17 ?_
      refine lv_goto (tgt := 22) hx hb dM_rowOf_18 rfl ?_
      exact ck_ri hf hret h dM_rowOf_22
def fM_placeToTest_b48 (k14 : Int32 → Int32 → Int32 → Int32 → Int32 → Int32 → ck_S → Option (Int32 × ck_S)) (y0 : Int32) (x1 : Int32) (x2 : Int32) (x3 : Int32) (x4 : Int32) (x5 : Int32) (x6 : Int32) (st : ck_S) : Option (Int32 × ck_S) := (ck_gd x6 16 (ck_b (fI_bitCount_C ((st 23 (x6).toNatClampNeg) &&& x1) st) fun v2 st1 => (if y0 = 0 then (k14 x1 x2 x3 x4 x5 (x6 + 1) st1) else (if v2 ≤ x5 then (k14 x1 x2 x3 x4 x5 (x6 + 1) st1) else (k14 x1 x2 x3 x6 v2 (x6 + 1) st1)))))
set_option maxRecDepth 100000 in
set_option maxHeartbeats 4000000 in
theorem BM_placeToTest_48 (C : ck_X cm_cl D cA bM_placeToTest 9 R_M 1 p R s m args c) {r0 : Int32} {st0 : ck_S} (hret : ∀ (pc : Nat) (H : Heap) (locs : List Loc) (ls : Array Slot), decode bM_placeToTest pc = .ok (.ireturn, 1) → ck_AT sh_C cm_cl D cA ad H0 st0 H locs → W p l e R s m args below meth c H locs 0 0 Q (F0 m pc ls [.int r0])) {k14 : Int32 → Int32 → Int32 → Int32 → Int32 → Int32 → ck_S → Option (Int32 × ck_S)} (hk14 : ∀ (x1 : Int32) (x2 : Int32) (x3 : Int32) (x4 : Int32) (x5 : Int32) (x6 : Int32) (st : ck_S) (H : Heap) (locs : List Loc) (ls : Array Slot), ck_AT sh_C cm_cl D cA ad H0 st H locs → lv_has ls 9 [(0, .ref (ad 4)), (1, .int x1), (2, .int x2), (3, .int x3), (4, .int x4), (5, .int x5), (6, .int x6)] → k14 x1 x2 x3 x4 x5 x6 st = some (r0, st0) → W p l e R s m args below meth c H locs 0 0 Q (F0 m 14 ls [])) (y0 : Int32) (x1 : Int32) (x2 : Int32) (x3 : Int32) (x4 : Int32) (x5 : Int32) (x6 : Int32) (st : ck_S) (H : Heap) (locs : List Loc) (ls : Array Slot) (h : ck_AT sh_C cm_cl D cA ad H0 st H locs) (hl : lv_has ls 9 [(0, .ref (ad 4)), (1, .int x1), (2, .int x2), (3, .int x3), (4, .int x4), (5, .int x5), (6, .int x6)]) (hf : fM_placeToTest_b48 k14 y0 x1 x2 x3 x4 x5 x6 st = some (r0, st0)) : W p l e R s m args below meth c H locs 0 0 Q (F0 m 48 ls [.int y0]) := by
  have C1 := C
  obtain ⟨hx, hb, hml, hown, hts, hK, hlv, hlo⟩ := C1
  unfold fM_placeToTest_b48 at hf
  refine lv_istore (lv' := [(7, .int y0), (0, .ref (ad 4)), (1, .int x1), (2, .int x2), (3, .int x3), (4, .int x4), (5, .int x5), (6, .int x6)]) hx hb dM_placeToTest_48 hl (by decide) rfl (fun ls hl => ?_)
  refine lv_aload_n hx hb dM_placeToTest_50 rfl (lv_at hl 1 rfl) ?_
  refine ck_gr C h FM_askers dM_placeToTest_51 ?_
  refine lv_iload hx hb dM_placeToTest_54 (lv_at hl 7 rfl) ?_
  obtain ⟨hg, hf⟩ := ck_gd_e hf
  refine ck_ai (x := (st 23 (x6).toNatClampNeg)) C h (show sh_C[23]? = some (.inr (0, 16)) from rfl) hg rfl dM_placeToTest_56 ?_
  refine lv_iload_n hx hb dM_placeToTest_57 rfl (lv_at hl 2 rfl) ?_
  refine lv_iand hx hb dM_placeToTest_58 ?_
  obtain ⟨v2, st1, hc, hf⟩ := ck_b_e hf
  refine ck_ti (As := [.int ((st 23 (x6).toNatClampNeg) &&& x1)]) (rest := []) C h hl CM_I_bitCount sI_bitCount (cI_bitCount_C l D cA ad hc) (Nat.le_of_ble_eq_true rfl) rfl rfl (Nat.le_of_ble_eq_true rfl) dM_placeToTest_59 (fun H locs h => ?_)
  refine lv_istore (lv' := [(8, .int v2), (7, .int y0), (0, .ref (ad 4)), (1, .int x1), (2, .int x2), (3, .int x3), (4, .int x4), (5, .int x5), (6, .int x6)]) hx hb dM_placeToTest_62 hl (by decide) rfl (fun ls hl => ?_)
  refine lv_iload hx hb dM_placeToTest_64 (lv_at hl 1 rfl) ?_
  refine lv_if_eq (tgt := 84) hx hb dM_placeToTest_66 rfl (fun hq => ?_) (fun hq => ?_)
  · have hf := ck_t hq hf
    refine lv_iinc (k := 8) (v := (x6 + 1)) (lv' := [(6, .int (x6 + 1)), (8, .int v2), (7, .int y0), (0, .ref (ad 4)), (1, .int x1), (2, .int x2), (3, .int x3), (4, .int x4), (5, .int x5)]) hx hb dM_placeToTest_84 hl rfl rfl (by decide) rfl (fun ls hl => ?_)
    refine lv_goto (tgt := 14) hx hb dM_placeToTest_87 rfl ?_
    exact hk14 _ _ _ _ _ _ _ _ _ _ h (lv_sub hl [3, 4, 5, 6, 7, 8, 0] rfl) hf
  · have hf := ck_f hq hf
    refine lv_iload hx hb dM_placeToTest_69 (lv_at hl 0 rfl) ?_
    refine lv_iload hx hb dM_placeToTest_71 (lv_at hl 7 rfl) ?_
    refine lv_icmp_le (tgt := 84) hx hb dM_placeToTest_73 rfl (fun hq => ?_) (fun hq => ?_)
    · have hf := ck_t hq hf
      refine lv_iinc (k := 8) (v := (x6 + 1)) (lv' := [(6, .int (x6 + 1)), (8, .int v2), (7, .int y0), (0, .ref (ad 4)), (1, .int x1), (2, .int x2), (3, .int x3), (4, .int x4), (5, .int x5)]) hx hb dM_placeToTest_84 hl rfl rfl (by decide) rfl (fun ls hl => ?_)
      refine lv_goto (tgt := 14) hx hb dM_placeToTest_87 rfl ?_
      exact hk14 _ _ _ _ _ _ _ _ _ _ h (lv_sub hl [3, 4, 5, 6, 7, 8, 0] rfl) hf
    · have hf := ck_f hq hf
      refine lv_iload hx hb dM_placeToTest_76 (lv_at hl 8 rfl) ?_
      refine lv_istore (lv' := [(4, .int x6), (8, .int v2), (7, .int y0), (0, .ref (ad 4)), (1, .int x1), (2, .int x2), (3, .int x3), (5, .int x5), (6, .int x6)]) hx hb dM_placeToTest_78 hl (by decide) rfl (fun ls hl => ?_)
      refine lv_iload hx hb dM_placeToTest_80 (lv_at hl 1 rfl) ?_
      refine lv_istore (lv' := [(5, .int v2), (4, .int x6), (8, .int v2), (7, .int y0), (0, .ref (ad 4)), (1, .int x1), (2, .int x2), (3, .int x3), (6, .int x6)]) hx hb dM_placeToTest_82 hl (by decide) rfl (fun ls hl => ?_)
      refine lv_iinc (k := 8) (v := (x6 + 1)) (lv' := [(6, .int (x6 + 1)), (5, .int v2), (4, .int x6), (8, .int v2), (7, .int y0), (0, .ref (ad 4)), (1, .int x1), (2, .int x2), (3, .int x3)]) hx hb dM_placeToTest_84 hl rfl rfl (by decide) rfl (fun ls hl => ?_)
      refine lv_goto (tgt := 14) hx hb dM_placeToTest_87 rfl ?_
      exact hk14 _ _ _ _ _ _ _ _ _ _ h (lv_sub hl [5, 6, 7, 8, 2, 1, 0] rfl) hf
def fM_placeToTest_l14 : Nat → Int32 → Int32 → Int32 → Int32 → Int32 → Int32 → ck_S → Option (Int32 × ck_S)
  | 0, _, _, _, _, _, _, _ => none
  | n + 1, x1, x2, x3, x4, x5, x6, st => (if (16 : Int32) ≤ x6 then (some (x4, st)) else (if ((x2 >>> (x6 &&& 31)) &&& (1 : Int32)) = (1 : Int32) then (ck_gd x6 16 (if ((st 23 (x6).toNatClampNeg) &&& x3) = 0 then (fM_placeToTest_b48 (fM_placeToTest_l14 n) (0 : Int32) x1 x2 x3 x4 x5 x6 st) else (fM_placeToTest_b48 (fM_placeToTest_l14 n) (1 : Int32) x1 x2 x3 x4 x5 x6 st))) else (fM_placeToTest_b48 (fM_placeToTest_l14 n) (0 : Int32) x1 x2 x3 x4 x5 x6 st)))
set_option maxRecDepth 100000 in
set_option maxHeartbeats 4000000 in
theorem BM_placeToTest_14 (C : ck_X cm_cl D cA bM_placeToTest 9 R_M 1 p R s m args c) {r0 : Int32} {st0 : ck_S} (hret : ∀ (pc : Nat) (H : Heap) (locs : List Loc) (ls : Array Slot), decode bM_placeToTest pc = .ok (.ireturn, 1) → ck_AT sh_C cm_cl D cA ad H0 st0 H locs → W p l e R s m args below meth c H locs 0 0 Q (F0 m pc ls [.int r0])) : ∀ (n : Nat) (x1 : Int32) (x2 : Int32) (x3 : Int32) (x4 : Int32) (x5 : Int32) (x6 : Int32) (st : ck_S) (H : Heap) (locs : List Loc) (ls : Array Slot), ck_AT sh_C cm_cl D cA ad H0 st H locs → lv_has ls 9 [(0, .ref (ad 4)), (1, .int x1), (2, .int x2), (3, .int x3), (4, .int x4), (5, .int x5), (6, .int x6)] → fM_placeToTest_l14  n x1 x2 x3 x4 x5 x6 st = some (r0, st0) → W p l e R s m args below meth c H locs 0 0 Q (F0 m 14 ls []) := by
  have C1 := C
  obtain ⟨hx, hb, hml, hown, hts, hK, hlv, hlo⟩ := C1
  intro n
  induction n with
  | zero => intro _ _ _ _ _ _ _ _ _ _ _ _ hf; cases hf
  | succ n ih =>
    intro x1 x2 x3 x4 x5 x6 st H locs ls h hl hf
    rw [fM_placeToTest_l14] at hf
    refine lv_iload hx hb dM_placeToTest_14 (lv_at hl 6 rfl) ?_
    refine lv_bipush (v := 16) hx hb dM_placeToTest_16 (by decide) ?_
    refine lv_icmp_ge (tgt := 90) hx hb dM_placeToTest_18 rfl (fun hq => ?_) (fun hq => ?_)
    · have hf := ck_t hq hf
      refine lv_iload hx hb dM_placeToTest_90 (lv_at hl 4 rfl) ?_
      exact ck_ri hf hret h dM_placeToTest_92
    · have hf := ck_f hq hf
      refine lv_iload_n hx hb dM_placeToTest_21 rfl (lv_at hl 2 rfl) ?_
      refine lv_iload hx hb dM_placeToTest_22 (lv_at hl 6 rfl) ?_
      refine lv_ishr hx hb dM_placeToTest_24 ?_
      refine lv_iconst (v := 1) hx hb dM_placeToTest_25 (by decide) ?_
      refine lv_iand hx hb dM_placeToTest_26 ?_
      refine lv_iconst (v := 1) hx hb dM_placeToTest_27 (by decide) ?_
      refine lv_icmp_ne (tgt := 47) hx hb dM_placeToTest_28 rfl (fun hq => ?_) (fun hq => ?_)
      · have hf := ck_f hq hf
        refine lv_iconst (v := 0) hx hb dM_placeToTest_47 (by decide) ?_
        exact BM_placeToTest_48 C hret ih _ _ _ _ _ _ _ _ _ _ _ h (lv_sub hl [0, 1, 2, 3, 4, 5, 6] rfl) hf
      · have hf := ck_t hq hf
        refine lv_aload_n hx hb dM_placeToTest_31 rfl (lv_at hl 0 rfl) ?_
        refine ck_gr C h FM_askers dM_placeToTest_32 ?_
        refine lv_iload hx hb dM_placeToTest_35 (lv_at hl 6 rfl) ?_
        obtain ⟨hg, hf⟩ := ck_gd_e hf
        refine ck_ai (x := (st 23 (x6).toNatClampNeg)) C h (show sh_C[23]? = some (.inr (0, 16)) from rfl) hg rfl dM_placeToTest_37 ?_
        refine lv_iload_n hx hb dM_placeToTest_38 rfl (lv_at hl 3 rfl) ?_
        refine lv_iand hx hb dM_placeToTest_39 ?_
        refine lv_if_eq (tgt := 47) hx hb dM_placeToTest_40 rfl (fun hq => ?_) (fun hq => ?_)
        · have hf := ck_t hq hf
          refine lv_iconst (v := 0) hx hb dM_placeToTest_47 (by decide) ?_
          exact BM_placeToTest_48 C hret ih _ _ _ _ _ _ _ _ _ _ _ h (lv_sub hl [0, 1, 2, 3, 4, 5, 6] rfl) hf
        · have hf := ck_f hq hf
          refine lv_iconst (v := 1) hx hb dM_placeToTest_43 (by decide) ?_
          refine lv_goto (tgt := 48) hx hb dM_placeToTest_44 rfl ?_
          exact BM_placeToTest_48 C hret ih _ _ _ _ _ _ _ _ _ _ _ h (lv_sub hl [0, 1, 2, 3, 4, 5, 6] rfl) hf
def fM_placeToTest (x1 : Int32) (x2 : Int32) (st : ck_S) : Option (Int32 × ck_S) := (fM_placeToTest_l14  4096 x1 x2 (x1 &&& (-x1)) (0 : Int32) (0 : Int32) (1 : Int32) st)
set_option maxRecDepth 100000 in
set_option maxHeartbeats 4000000 in
theorem cM_placeToTest (l : Launch) (D : va_G) (cA : Nat → ClassId) (ad : Nat → Nat) {x1 : Int32} {x2 : Int32} {st : ck_S} {r0 : Int32} {st0 : ck_S} (hf : fM_placeToTest x1 x2 st = some (r0, st0)) : Met l yM_placeToTest (.code yM_placeToTest bM_placeToTest 9 (some .int) :: ck_T) (ck_R 1) (va_Pc [.ref (ad 4), .int x1, .int x2] (ck_P sh_C cm_cl D cA ad st)) (va_Qi (fun a u => a = r0 ∧ u = st0) (ck_P sh_C cm_cl D cA ad) (ck_A ad sh_C.length)) 0 0 (ck_A ad sh_C.length) := by
  refine ck_met_i (own := R_M) (by decide +kernel) rfl (Nat.le_of_ble_eq_true rfl) (fun p e R s m args below meth c H0 Q ls C hret h hl => ?_)
  have C1 := C
  obtain ⟨hx, hb, hml, hown, hts, hK, hlv, hlo⟩ := C1
  have hl : lv_has ls 9 [(0, .ref (ad 4)), (1, .int x1), (2, .int x2)] := hl
  unfold fM_placeToTest at hf
  refine lv_iload_n hx hb dM_placeToTest_0 rfl (lv_at hl 1 rfl) ?_
  refine lv_iload_n hx hb dM_placeToTest_1 rfl (lv_at hl 1 rfl) ?_
  refine lv_ineg hx hb dM_placeToTest_2 ?_
  refine lv_iand hx hb dM_placeToTest_3 ?_
  refine lv_istore_n (lv' := [(3, .int (x1 &&& (-x1))), (0, .ref (ad 4)), (1, .int x1), (2, .int x2)]) hx hb dM_placeToTest_4 rfl hl (by decide) rfl (fun ls hl => ?_)
  refine lv_iconst (v := 0) hx hb dM_placeToTest_5 (by decide) ?_
  refine lv_istore (lv' := [(4, .int (0 : Int32)), (3, .int (x1 &&& (-x1))), (0, .ref (ad 4)), (1, .int x1), (2, .int x2)]) hx hb dM_placeToTest_6 hl (by decide) rfl (fun ls hl => ?_)
  refine lv_iconst (v := 0) hx hb dM_placeToTest_8 (by decide) ?_
  refine lv_istore (lv' := [(5, .int (0 : Int32)), (4, .int (0 : Int32)), (3, .int (x1 &&& (-x1))), (0, .ref (ad 4)), (1, .int x1), (2, .int x2)]) hx hb dM_placeToTest_9 hl (by decide) rfl (fun ls hl => ?_)
  refine lv_iconst (v := 1) hx hb dM_placeToTest_11 (by decide) ?_
  refine lv_istore (lv' := [(6, .int (1 : Int32)), (5, .int (0 : Int32)), (4, .int (0 : Int32)), (3, .int (x1 &&& (-x1))), (0, .ref (ad 4)), (1, .int x1), (2, .int x2)]) hx hb dM_placeToTest_12 hl (by decide) rfl (fun ls hl => ?_)
  exact BM_placeToTest_14 C hret  4096 _ _ _ _ _ _ _ _ _ _ h (lv_sub hl [4, 5, 6, 3, 2, 1, 0] rfl) hf
def fM_typeAskedAt (x1 : Int32) (x2 : Int32) (st : ck_S) : Option (Int32 × ck_S) := (ck_gd x1 16 (ck_b (fM_firstOf (x2 &&& (st 23 (x1).toNatClampNeg)) st) fun v2 st1 => (if v2 = (-1 : Int32) then (some ((-1 : Int32), st1)) else (ck_gd ((x1 * (16 : Int32)) + v2) 256 (some ((st1 25 (((x1 * (16 : Int32)) + v2)).toNatClampNeg), st1))))))
set_option maxRecDepth 100000 in
set_option maxHeartbeats 4000000 in
theorem cM_typeAskedAt (l : Launch) (D : va_G) (cA : Nat → ClassId) (ad : Nat → Nat) {x1 : Int32} {x2 : Int32} {st : ck_S} {r0 : Int32} {st0 : ck_S} (hf : fM_typeAskedAt x1 x2 st = some (r0, st0)) : Met l yM_typeAskedAt (.code yM_typeAskedAt bM_typeAskedAt 4 (some .int) :: ck_T) (ck_R 1) (va_Pc [.ref (ad 4), .int x1, .int x2] (ck_P sh_C cm_cl D cA ad st)) (va_Qi (fun a u => a = r0 ∧ u = st0) (ck_P sh_C cm_cl D cA ad) (ck_A ad sh_C.length)) 0 0 (ck_A ad sh_C.length) := by
  refine ck_met_i (own := R_M) (by decide +kernel) rfl (Nat.le_of_ble_eq_true rfl) (fun p e R s m args below meth c H0 Q ls C hret h hl => ?_)
  have C1 := C
  obtain ⟨hx, hb, hml, hown, hts, hK, hlv, hlo⟩ := C1
  have hl : lv_has ls 4 [(0, .ref (ad 4)), (1, .int x1), (2, .int x2)] := hl
  unfold fM_typeAskedAt at hf
  refine lv_aload_n hx hb dM_typeAskedAt_0 rfl (lv_at hl 0 rfl) ?_
  refine lv_iload_n hx hb dM_typeAskedAt_1 rfl (lv_at hl 2 rfl) ?_
  refine lv_aload_n hx hb dM_typeAskedAt_2 rfl (lv_at hl 0 rfl) ?_
  refine ck_gr C h FM_askers dM_typeAskedAt_3 ?_
  refine lv_iload_n hx hb dM_typeAskedAt_6 rfl (lv_at hl 1 rfl) ?_
  obtain ⟨hg, hf⟩ := ck_gd_e hf
  refine ck_ai (x := (st 23 (x1).toNatClampNeg)) C h (show sh_C[23]? = some (.inr (0, 16)) from rfl) hg rfl dM_typeAskedAt_7 ?_
  refine lv_iand hx hb dM_typeAskedAt_8 ?_
  obtain ⟨v2, st1, hc, hf⟩ := ck_b_e hf
  refine ck_vi (As := [.int (x2 &&& (st 23 (x1).toNatClampNeg))]) (rest := []) (q := 4) C h hl CM_M_firstOf sM_firstOf q_M (cM_firstOf l D cA ad hc) (Nat.le_of_ble_eq_true rfl) rfl rfl (Nat.le_of_ble_eq_true rfl) dM_typeAskedAt_9 (fun H locs h => ?_)
  refine lv_istore_n (lv' := [(3, .int v2), (0, .ref (ad 4)), (1, .int x1), (2, .int x2)]) hx hb dM_typeAskedAt_12 rfl hl (by decide) rfl (fun ls hl => ?_)
  refine lv_iload_n hx hb dM_typeAskedAt_13 rfl (lv_at hl 0 rfl) ?_
  refine lv_iconst (v := (-1)) hx hb dM_typeAskedAt_14 (by decide) ?_
  refine lv_icmp_ne (tgt := 22) hx hb dM_typeAskedAt_15 rfl (fun hq => ?_) (fun hq => ?_)
  · have hf := ck_f hq hf
    refine lv_aload_n hx hb dM_typeAskedAt_22 rfl (lv_at hl 1 rfl) ?_
    refine ck_gr C h FM_askedType dM_typeAskedAt_23 ?_
    refine lv_iload_n hx hb dM_typeAskedAt_26 rfl (lv_at hl 2 rfl) ?_
    refine lv_bipush (v := 16) hx hb dM_typeAskedAt_27 (by decide) ?_
    refine lv_imul hx hb dM_typeAskedAt_29 ?_
    refine lv_iload_n hx hb dM_typeAskedAt_30 rfl (lv_at hl 0 rfl) ?_
    refine lv_iadd hx hb dM_typeAskedAt_31 ?_
    obtain ⟨hg, hf⟩ := ck_gd_e hf
    refine ck_ai (x := (st1 25 (((x1 * (16 : Int32)) + v2)).toNatClampNeg)) C h (show sh_C[25]? = some (.inr (0, 256)) from rfl) hg rfl dM_typeAskedAt_32 ?_
    exact ck_ri hf hret h dM_typeAskedAt_33
  · have hf := ck_t hq hf
    refine lv_iconst (v := (-1)) hx hb dM_typeAskedAt_18 (by decide) ?_
    refine lv_goto (tgt := 33) hx hb dM_typeAskedAt_19 rfl ?_
    exact ck_ri hf hret h dM_typeAskedAt_33
def fM_notAsking (x1 : Int32) (x2 : Int32) (st : ck_S) : Option (Int32 × ck_S) := (ck_gd x2 16 (some ((x1 &&& ((st 23 (x2).toNatClampNeg) ^^^ (-1 : Int32))), st)))
set_option maxRecDepth 100000 in
set_option maxHeartbeats 4000000 in
theorem cM_notAsking (l : Launch) (D : va_G) (cA : Nat → ClassId) (ad : Nat → Nat) {x1 : Int32} {x2 : Int32} {st : ck_S} {r0 : Int32} {st0 : ck_S} (hf : fM_notAsking x1 x2 st = some (r0, st0)) : Met l yM_notAsking (.code yM_notAsking bM_notAsking 3 (some .int) :: ck_T) (ck_R 0) (va_Pc [.ref (ad 4), .int x1, .int x2] (ck_P sh_C cm_cl D cA ad st)) (va_Qi (fun a u => a = r0 ∧ u = st0) (ck_P sh_C cm_cl D cA ad) (ck_A ad sh_C.length)) 0 0 (ck_A ad sh_C.length) := by
  refine ck_met_i (own := R_M) (by decide +kernel) rfl (Nat.le_of_ble_eq_true rfl) (fun p e R s m args below meth c H0 Q ls C hret h hl => ?_)
  have C1 := C
  obtain ⟨hx, hb, hml, hown, hts, hK, hlv, hlo⟩ := C1
  have hl : lv_has ls 3 [(0, .ref (ad 4)), (1, .int x1), (2, .int x2)] := hl
  unfold fM_notAsking at hf
  refine lv_iload_n hx hb dM_notAsking_0 rfl (lv_at hl 1 rfl) ?_
  refine lv_aload_n hx hb dM_notAsking_1 rfl (lv_at hl 0 rfl) ?_
  refine ck_gr C h FM_askers dM_notAsking_2 ?_
  refine lv_iload_n hx hb dM_notAsking_5 rfl (lv_at hl 2 rfl) ?_
  obtain ⟨hg, hf⟩ := ck_gd_e hf
  refine ck_ai (x := (st 23 (x2).toNatClampNeg)) C h (show sh_C[23]? = some (.inr (0, 16)) from rfl) hg rfl dM_notAsking_6 ?_
  refine lv_iconst (v := (-1)) hx hb dM_notAsking_7 (by decide) ?_
  refine lv_ixor hx hb dM_notAsking_8 ?_
  refine lv_iand hx hb dM_notAsking_9 ?_
  exact ck_ri hf hret h dM_notAsking_10
def fM_notAskingElse_l11 : Nat → Int32 → Int32 → Int32 → Int32 → Int32 → ck_S → Option (Int32 × ck_S)
  | 0, _, _, _, _, _, _ => none
  | n + 1, x1, x2, x3, x4, x5, st => (if (st 4 8) ≤ x5 then (some (x4, st)) else (ck_gd ((x2 * (16 : Int32)) + x5) 256 (if (st 24 (((x2 * (16 : Int32)) + x5)).toNatClampNeg) = x3 then (fM_notAskingElse_l11 n x1 x2 x3 (x4 ||| (x1 &&& ((1 : Int32) <<< (x5 &&& 31)))) (x5 + 1) st) else (fM_notAskingElse_l11 n x1 x2 x3 x4 (x5 + 1) st))))
set_option maxRecDepth 100000 in
set_option maxHeartbeats 4000000 in
theorem BM_notAskingElse_11 (C : ck_X cm_cl D cA bM_notAskingElse 6 R_M 1 p R s m args c) {r0 : Int32} {st0 : ck_S} (hret : ∀ (pc : Nat) (H : Heap) (locs : List Loc) (ls : Array Slot), decode bM_notAskingElse pc = .ok (.ireturn, 1) → ck_AT sh_C cm_cl D cA ad H0 st0 H locs → W p l e R s m args below meth c H locs 0 0 Q (F0 m pc ls [.int r0])) : ∀ (n : Nat) (x1 : Int32) (x2 : Int32) (x3 : Int32) (x4 : Int32) (x5 : Int32) (st : ck_S) (H : Heap) (locs : List Loc) (ls : Array Slot), ck_AT sh_C cm_cl D cA ad H0 st H locs → lv_has ls 6 [(0, .ref (ad 4)), (1, .int x1), (2, .int x2), (3, .int x3), (4, .int x4), (5, .int x5)] → fM_notAskingElse_l11  n x1 x2 x3 x4 x5 st = some (r0, st0) → W p l e R s m args below meth c H locs 0 0 Q (F0 m 11 ls []) := by
  have C1 := C
  obtain ⟨hx, hb, hml, hown, hts, hK, hlv, hlo⟩ := C1
  intro n
  induction n with
  | zero => intro _ _ _ _ _ _ _ _ _ _ _ hf; cases hf
  | succ n ih =>
    intro x1 x2 x3 x4 x5 st H locs ls h hl hf
    rw [fM_notAskingElse_l11] at hf
    refine lv_iload hx hb dM_notAskingElse_11 (lv_at hl 5 rfl) ?_
    refine lv_aload_n hx hb dM_notAskingElse_13 rfl (lv_at hl 0 rfl) ?_
    refine ck_gi (x := (st 4 8)) C h FM_clauses rfl dM_notAskingElse_14 ?_
    refine lv_icmp_ge (tgt := 53) hx hb dM_notAskingElse_17 rfl (fun hq => ?_) (fun hq => ?_)
    · have hf := ck_t hq hf
      refine lv_iload hx hb dM_notAskingElse_53 (lv_at hl 4 rfl) ?_
      exact ck_ri hf hret h dM_notAskingElse_55
    · have hf := ck_f hq hf
      refine lv_aload_n hx hb dM_notAskingElse_20 rfl (lv_at hl 0 rfl) ?_
      refine ck_gr C h FM_askedSymbol dM_notAskingElse_21 ?_
      refine lv_iload_n hx hb dM_notAskingElse_24 rfl (lv_at hl 2 rfl) ?_
      refine lv_bipush (v := 16) hx hb dM_notAskingElse_25 (by decide) ?_
      refine lv_imul hx hb dM_notAskingElse_27 ?_
      refine lv_iload hx hb dM_notAskingElse_28 (lv_at hl 5 rfl) ?_
      refine lv_iadd hx hb dM_notAskingElse_30 ?_
      obtain ⟨hg, hf⟩ := ck_gd_e hf
      refine ck_ai (x := (st 24 (((x2 * (16 : Int32)) + x5)).toNatClampNeg)) C h (show sh_C[24]? = some (.inr (0, 256)) from rfl) hg rfl dM_notAskingElse_31 ?_
      refine lv_iload_n hx hb dM_notAskingElse_32 rfl (lv_at hl 3 rfl) ?_
      refine lv_icmp_ne (tgt := 47) hx hb dM_notAskingElse_33 rfl (fun hq => ?_) (fun hq => ?_)
      · have hf := ck_f hq hf
        refine lv_iinc (k := 5) (v := (x5 + 1)) (lv' := [(5, .int (x5 + 1)), (0, .ref (ad 4)), (1, .int x1), (2, .int x2), (3, .int x3), (4, .int x4)]) hx hb dM_notAskingElse_47 hl rfl rfl (by decide) rfl (fun ls hl => ?_)
        refine lv_goto (tgt := 11) hx hb dM_notAskingElse_50 rfl ?_
        exact ih _ _ _ _ _ _ _ _ _ h (lv_sub hl [1, 2, 3, 4, 5, 0] rfl) hf
      · have hf := ck_t hq hf
        refine lv_iload hx hb dM_notAskingElse_36 (lv_at hl 4 rfl) ?_
        refine lv_iload_n hx hb dM_notAskingElse_38 rfl (lv_at hl 1 rfl) ?_
        refine lv_iconst (v := 1) hx hb dM_notAskingElse_39 (by decide) ?_
        refine lv_iload hx hb dM_notAskingElse_40 (lv_at hl 5 rfl) ?_
        refine lv_ishl hx hb dM_notAskingElse_42 ?_
        refine lv_iand hx hb dM_notAskingElse_43 ?_
        refine lv_ior hx hb dM_notAskingElse_44 ?_
        refine lv_istore (lv' := [(4, .int (x4 ||| (x1 &&& ((1 : Int32) <<< (x5 &&& 31))))), (0, .ref (ad 4)), (1, .int x1), (2, .int x2), (3, .int x3), (5, .int x5)]) hx hb dM_notAskingElse_45 hl (by decide) rfl (fun ls hl => ?_)
        refine lv_iinc (k := 5) (v := (x5 + 1)) (lv' := [(5, .int (x5 + 1)), (4, .int (x4 ||| (x1 &&& ((1 : Int32) <<< (x5 &&& 31))))), (0, .ref (ad 4)), (1, .int x1), (2, .int x2), (3, .int x3)]) hx hb dM_notAskingElse_47 hl rfl rfl (by decide) rfl (fun ls hl => ?_)
        refine lv_goto (tgt := 11) hx hb dM_notAskingElse_50 rfl ?_
        exact ih _ _ _ _ _ _ _ _ _ h (lv_sub hl [2, 3, 4, 5, 1, 0] rfl) hf
def fM_notAskingElse (x1 : Int32) (x2 : Int32) (x3 : Int32) (st : ck_S) : Option (Int32 × ck_S) := (ck_b (fM_notAsking x1 x2 st) fun v2 st1 => (fM_notAskingElse_l11  4096 x1 x2 x3 v2 (0 : Int32) st1))
set_option maxRecDepth 100000 in
set_option maxHeartbeats 4000000 in
theorem cM_notAskingElse (l : Launch) (D : va_G) (cA : Nat → ClassId) (ad : Nat → Nat) {x1 : Int32} {x2 : Int32} {x3 : Int32} {st : ck_S} {r0 : Int32} {st0 : ck_S} (hf : fM_notAskingElse x1 x2 x3 st = some (r0, st0)) : Met l yM_notAskingElse (.code yM_notAskingElse bM_notAskingElse 6 (some .int) :: ck_T) (ck_R 1) (va_Pc [.ref (ad 4), .int x1, .int x2, .int x3] (ck_P sh_C cm_cl D cA ad st)) (va_Qi (fun a u => a = r0 ∧ u = st0) (ck_P sh_C cm_cl D cA ad) (ck_A ad sh_C.length)) 0 0 (ck_A ad sh_C.length) := by
  refine ck_met_i (own := R_M) (by decide +kernel) rfl (Nat.le_of_ble_eq_true rfl) (fun p e R s m args below meth c H0 Q ls C hret h hl => ?_)
  have C1 := C
  obtain ⟨hx, hb, hml, hown, hts, hK, hlv, hlo⟩ := C1
  have hl : lv_has ls 6 [(0, .ref (ad 4)), (1, .int x1), (2, .int x2), (3, .int x3)] := hl
  unfold fM_notAskingElse at hf
  refine lv_aload_n hx hb dM_notAskingElse_0 rfl (lv_at hl 0 rfl) ?_
  refine lv_iload_n hx hb dM_notAskingElse_1 rfl (lv_at hl 1 rfl) ?_
  refine lv_iload_n hx hb dM_notAskingElse_2 rfl (lv_at hl 2 rfl) ?_
  obtain ⟨v2, st1, hc, hf⟩ := ck_b_e hf
  refine ck_vi (As := [.int x1, .int x2]) (rest := []) (q := 4) C h hl CM_M_notAsking sM_notAsking q_M (cM_notAsking l D cA ad hc) (Nat.le_of_ble_eq_true rfl) rfl rfl (Nat.le_of_ble_eq_true rfl) dM_notAskingElse_3 (fun H locs h => ?_)
  refine lv_istore (lv' := [(4, .int v2), (0, .ref (ad 4)), (1, .int x1), (2, .int x2), (3, .int x3)]) hx hb dM_notAskingElse_6 hl (by decide) rfl (fun ls hl => ?_)
  refine lv_iconst (v := 0) hx hb dM_notAskingElse_8 (by decide) ?_
  refine lv_istore (lv' := [(5, .int (0 : Int32)), (4, .int v2), (0, .ref (ad 4)), (1, .int x1), (2, .int x2), (3, .int x3)]) hx hb dM_notAskingElse_9 hl (by decide) rfl (fun ls hl => ?_)
  exact BM_notAskingElse_11 C hret  4096 _ _ _ _ _ _ _ _ _ h (lv_sub hl [2, 3, 4, 5, 1, 0] rfl) hf
def fM_leastAbove_l19 : Nat → Int64 → Int32 → Int32 → Int64 → Int32 → ck_S → Option (Int64 × ck_S)
  | 0, _, _, _, _, _, _ => none
  | n + 1, x1, x4, x5, x6, x8, st => (if (st 4 8) ≤ x8 then (some (x6, st)) else (ck_gd ((x4 * (16 : Int32)) + x8) 256 (if ((x5 >>> (x8 &&& 31)) &&& (1 : Int32)) = (1 : Int32) then (if (lg_cmp (((st 24 (((x4 * (16 : Int32)) + x8)).toNatClampNeg)).toInt64) x1) ≤ 0 then (fM_leastAbove_l19 n x1 x4 x5 x6 (x8 + 1) st) else (if 0 ≤ (lg_cmp (((st 24 (((x4 * (16 : Int32)) + x8)).toNatClampNeg)).toInt64) x6) then (fM_leastAbove_l19 n x1 x4 x5 x6 (x8 + 1) st) else (fM_leastAbove_l19 n x1 x4 x5 (((st 24 (((x4 * (16 : Int32)) + x8)).toNatClampNeg)).toInt64) (x8 + 1) st))) else (fM_leastAbove_l19 n x1 x4 x5 x6 (x8 + 1) st))))
set_option maxRecDepth 100000 in
set_option maxHeartbeats 4000000 in
theorem BM_leastAbove_19 (C : ck_X cm_cl D cA bM_leastAbove 11 R_M 0 p R s m args c) {r0 : Int64} {st0 : ck_S} (hret : ∀ (pc : Nat) (H : Heap) (locs : List Loc) (ls : Array Slot), decode bM_leastAbove pc = .ok (.lreturn, 1) → ck_AT sh_C cm_cl D cA ad H0 st0 H locs → W p l e R s m args below meth c H locs 0 0 Q (F0 m pc ls [.long r0])) : ∀ (n : Nat) (x1 : Int64) (x4 : Int32) (x5 : Int32) (x6 : Int64) (x8 : Int32) (st : ck_S) (H : Heap) (locs : List Loc) (ls : Array Slot), ck_AT sh_C cm_cl D cA ad H0 st H locs → lv_has ls 11 [(0, .ref (ad 4)), (1, .long x1), (4, .int x4), (5, .int x5), (6, .long x6), (8, .int x8)] → fM_leastAbove_l19  n x1 x4 x5 x6 x8 st = some (r0, st0) → W p l e R s m args below meth c H locs 0 0 Q (F0 m 19 ls []) := by
  have C1 := C
  obtain ⟨hx, hb, hml, hown, hts, hK, hlv, hlo⟩ := C1
  intro n
  induction n with
  | zero => intro _ _ _ _ _ _ _ _ _ _ _ hf; cases hf
  | succ n ih =>
    intro x1 x4 x5 x6 x8 st H locs ls h hl hf
    rw [fM_leastAbove_l19] at hf
    refine lv_iload hx hb dM_leastAbove_19 (lv_at hl 5 rfl) ?_
    refine lv_aload_n hx hb dM_leastAbove_21 rfl (lv_at hl 0 rfl) ?_
    refine ck_gi (x := (st 4 8)) C h FM_clauses rfl dM_leastAbove_22 ?_
    refine lv_icmp_ge (tgt := 80) hx hb dM_leastAbove_25 rfl (fun hq => ?_) (fun hq => ?_)
    · have hf := ck_t hq hf
      refine lv_lload hx hb dM_leastAbove_80 (lv_at hl 4 rfl) ?_
      exact ck_rl hf hret h dM_leastAbove_82
    · have hf := ck_f hq hf
      refine lv_aload_n hx hb dM_leastAbove_28 rfl (lv_at hl 0 rfl) ?_
      refine ck_gr C h FM_askedSymbol dM_leastAbove_29 ?_
      refine lv_iload hx hb dM_leastAbove_32 (lv_at hl 2 rfl) ?_
      refine lv_bipush (v := 16) hx hb dM_leastAbove_34 (by decide) ?_
      refine lv_imul hx hb dM_leastAbove_36 ?_
      refine lv_iload hx hb dM_leastAbove_37 (lv_at hl 5 rfl) ?_
      refine lv_iadd hx hb dM_leastAbove_39 ?_
      obtain ⟨hg, hf⟩ := ck_gd_e hf
      refine ck_ai (x := (st 24 (((x4 * (16 : Int32)) + x8)).toNatClampNeg)) C h (show sh_C[24]? = some (.inr (0, 256)) from rfl) hg rfl dM_leastAbove_40 ?_
      refine lv_i2l hx hb dM_leastAbove_41 rfl ?_
      refine lv_lstore (lv' := [(9, .long (((st 24 (((x4 * (16 : Int32)) + x8)).toNatClampNeg)).toInt64)), (0, .ref (ad 4)), (1, .long x1), (4, .int x4), (5, .int x5), (6, .long x6), (8, .int x8)]) hx hb dM_leastAbove_42 hl (by decide) rfl (fun ls hl => ?_)
      refine lv_iload hx hb dM_leastAbove_44 (lv_at hl 4 rfl) ?_
      refine lv_iload hx hb dM_leastAbove_46 (lv_at hl 6 rfl) ?_
      refine lv_ishr hx hb dM_leastAbove_48 ?_
      refine lv_iconst (v := 1) hx hb dM_leastAbove_49 (by decide) ?_
      refine lv_iand hx hb dM_leastAbove_50 ?_
      refine lv_iconst (v := 1) hx hb dM_leastAbove_51 (by decide) ?_
      refine lv_icmp_ne (tgt := 74) hx hb dM_leastAbove_52 rfl (fun hq => ?_) (fun hq => ?_)
      · have hf := ck_f hq hf
        refine lv_iinc (k := 6) (v := (x8 + 1)) (lv' := [(8, .int (x8 + 1)), (9, .long (((st 24 (((x4 * (16 : Int32)) + x8)).toNatClampNeg)).toInt64)), (0, .ref (ad 4)), (1, .long x1), (4, .int x4), (5, .int x5), (6, .long x6)]) hx hb dM_leastAbove_74 hl rfl rfl (by decide) rfl (fun ls hl => ?_)
        refine lv_goto (tgt := 19) hx hb dM_leastAbove_77 rfl ?_
        exact ih _ _ _ _ _ _ _ _ _ h (lv_sub hl [2, 3, 4, 5, 6, 0] rfl) hf
      · have hf := ck_t hq hf
        refine lv_lload hx hb dM_leastAbove_55 (lv_at hl 0 rfl) ?_
        refine lv_lload_n hx hb dM_leastAbove_57 rfl (lv_at hl 2 rfl) ?_
        refine W.lcmp hx hb dM_leastAbove_58 ?_
        refine lv_if_le (tgt := 74) hx hb dM_leastAbove_59 rfl (fun hq => ?_) (fun hq => ?_)
        · have hf := ck_t hq hf
          refine lv_iinc (k := 6) (v := (x8 + 1)) (lv' := [(8, .int (x8 + 1)), (9, .long (((st 24 (((x4 * (16 : Int32)) + x8)).toNatClampNeg)).toInt64)), (0, .ref (ad 4)), (1, .long x1), (4, .int x4), (5, .int x5), (6, .long x6)]) hx hb dM_leastAbove_74 hl rfl rfl (by decide) rfl (fun ls hl => ?_)
          refine lv_goto (tgt := 19) hx hb dM_leastAbove_77 rfl ?_
          exact ih _ _ _ _ _ _ _ _ _ h (lv_sub hl [2, 3, 4, 5, 6, 0] rfl) hf
        · have hf := ck_f hq hf
          refine lv_lload hx hb dM_leastAbove_62 (lv_at hl 0 rfl) ?_
          refine lv_lload hx hb dM_leastAbove_64 (lv_at hl 5 rfl) ?_
          refine W.lcmp hx hb dM_leastAbove_66 ?_
          refine lv_if_ge (tgt := 74) hx hb dM_leastAbove_67 rfl (fun hq => ?_) (fun hq => ?_)
          · have hf := ck_t hq hf
            refine lv_iinc (k := 6) (v := (x8 + 1)) (lv' := [(8, .int (x8 + 1)), (9, .long (((st 24 (((x4 * (16 : Int32)) + x8)).toNatClampNeg)).toInt64)), (0, .ref (ad 4)), (1, .long x1), (4, .int x4), (5, .int x5), (6, .long x6)]) hx hb dM_leastAbove_74 hl rfl rfl (by decide) rfl (fun ls hl => ?_)
            refine lv_goto (tgt := 19) hx hb dM_leastAbove_77 rfl ?_
            exact ih _ _ _ _ _ _ _ _ _ h (lv_sub hl [2, 3, 4, 5, 6, 0] rfl) hf
          · have hf := ck_f hq hf
            refine lv_lload hx hb dM_leastAbove_70 (lv_at hl 0 rfl) ?_
            refine lv_lstore (lv' := [(6, .long (((st 24 (((x4 * (16 : Int32)) + x8)).toNatClampNeg)).toInt64)), (9, .long (((st 24 (((x4 * (16 : Int32)) + x8)).toNatClampNeg)).toInt64)), (0, .ref (ad 4)), (1, .long x1), (4, .int x4), (5, .int x5), (8, .int x8)]) hx hb dM_leastAbove_72 hl (by decide) rfl (fun ls hl => ?_)
            refine lv_iinc (k := 6) (v := (x8 + 1)) (lv' := [(8, .int (x8 + 1)), (6, .long (((st 24 (((x4 * (16 : Int32)) + x8)).toNatClampNeg)).toInt64)), (9, .long (((st 24 (((x4 * (16 : Int32)) + x8)).toNatClampNeg)).toInt64)), (0, .ref (ad 4)), (1, .long x1), (4, .int x4), (5, .int x5)]) hx hb dM_leastAbove_74 hl rfl rfl (by decide) rfl (fun ls hl => ?_)
            refine lv_goto (tgt := 19) hx hb dM_leastAbove_77 rfl ?_
            exact ih _ _ _ _ _ _ _ _ _ h (lv_sub hl [3, 4, 5, 6, 1, 0] rfl) hf
def fM_leastAbove (x1 : Int64) (x3 : Int32) (x4 : Int32) (st : ck_S) : Option (Int64 × ck_S) := (ck_gd x4 16 (fM_leastAbove_l19  4096 x1 x4 (x3 &&& (st 23 (x4).toNatClampNeg)) (4294967296 : Int64) (0 : Int32) st))
set_option maxRecDepth 100000 in
set_option maxHeartbeats 4000000 in
theorem cM_leastAbove (l : Launch) (D : va_G) (cA : Nat → ClassId) (ad : Nat → Nat) {x1 : Int64} {x3 : Int32} {x4 : Int32} {st : ck_S} {r0 : Int64} {st0 : ck_S} (hf : fM_leastAbove x1 x3 x4 st = some (r0, st0)) : Met l yM_leastAbove (.code yM_leastAbove bM_leastAbove 11 (some .long) :: ck_T) (ck_R 0) (va_Pc [.ref (ad 4), .long x1, .int x3, .int x4] (ck_P sh_C cm_cl D cA ad st)) (va_Ql (fun a u => a = r0 ∧ u = st0) (ck_P sh_C cm_cl D cA ad) (ck_A ad sh_C.length)) 0 0 (ck_A ad sh_C.length) := by
  refine ck_met_l (own := R_M) (by decide +kernel) rfl (Nat.le_of_ble_eq_true rfl) (fun p e R s m args below meth c H0 Q ls C hret h hl => ?_)
  have C1 := C
  obtain ⟨hx, hb, hml, hown, hts, hK, hlv, hlo⟩ := C1
  have hl : lv_has ls 11 [(0, .ref (ad 4)), (1, .long x1), (3, .int x3), (4, .int x4)] := hl
  unfold fM_leastAbove at hf
  refine lv_iload_n hx hb dM_leastAbove_0 rfl (lv_at hl 2 rfl) ?_
  refine lv_aload_n hx hb dM_leastAbove_1 rfl (lv_at hl 0 rfl) ?_
  refine ck_gr C h FM_askers dM_leastAbove_2 ?_
  refine lv_iload hx hb dM_leastAbove_5 (lv_at hl 3 rfl) ?_
  obtain ⟨hg, hf⟩ := ck_gd_e hf
  refine ck_ai (x := (st 23 (x4).toNatClampNeg)) C h (show sh_C[23]? = some (.inr (0, 16)) from rfl) hg rfl dM_leastAbove_7 ?_
  refine lv_iand hx hb dM_leastAbove_8 ?_
  refine lv_istore (lv' := [(5, .int (x3 &&& (st 23 (x4).toNatClampNeg))), (0, .ref (ad 4)), (1, .long x1), (3, .int x3), (4, .int x4)]) hx hb dM_leastAbove_9 hl (by decide) rfl (fun ls hl => ?_)
  refine lv_ldc2 (v := 4294967296) hx hb hown (hts _ (ck_T_mk (List.mem_of_getElem? (i := 544) (by decide +kernel)) (by decide +kernel))) dM_leastAbove_11 ?_
  refine lv_lstore (lv' := [(6, .long (4294967296 : Int64)), (5, .int (x3 &&& (st 23 (x4).toNatClampNeg))), (0, .ref (ad 4)), (1, .long x1), (3, .int x3), (4, .int x4)]) hx hb dM_leastAbove_14 hl (by decide) rfl (fun ls hl => ?_)
  refine lv_iconst (v := 0) hx hb dM_leastAbove_16 (by decide) ?_
  refine lv_istore (lv' := [(8, .int (0 : Int32)), (6, .long (4294967296 : Int64)), (5, .int (x3 &&& (st 23 (x4).toNatClampNeg))), (0, .ref (ad 4)), (1, .long x1), (3, .int x3), (4, .int x4)]) hx hb dM_leastAbove_17 hl (by decide) rfl (fun ls hl => ?_)
  exact BM_leastAbove_19 C hret  4096 _ _ _ _ _ _ _ _ _ h (lv_sub hl [3, 4, 6, 2, 1, 0] rfl) hf
def fM_alternativesOutside (x1 : Int32) (x2 : Int32) (st : ck_S) : Option (Int32 × ck_S) := (ck_b (fM_hasRow x2 st) fun v2 st1 => (if v2 = 0 then (some ((0 : Int32), st1)) else (ck_gd (x2 + (1 : Int32)) 9 (ck_gd x2 9 (ck_gd x2 9 (some ((((((1 : Int32) <<< ((st1 21 ((x2 + (1 : Int32))).toNatClampNeg) &&& 31)) - ((1 : Int32) <<< ((st1 21 (x2).toNatClampNeg) &&& 31))) &&& (x1 ^^^ (-1 : Int32))) >>> ((st1 21 (x2).toNatClampNeg) &&& 31)), st1)))))))
set_option maxRecDepth 100000 in
set_option maxHeartbeats 4000000 in
theorem cM_alternativesOutside (l : Launch) (D : va_G) (cA : Nat → ClassId) (ad : Nat → Nat) {x1 : Int32} {x2 : Int32} {st : ck_S} {r0 : Int32} {st0 : ck_S} (hf : fM_alternativesOutside x1 x2 st = some (r0, st0)) : Met l yM_alternativesOutside (.code yM_alternativesOutside bM_alternativesOutside 4 (some .int) :: ck_T) (ck_R 1) (va_Pc [.ref (ad 4), .int x1, .int x2] (ck_P sh_C cm_cl D cA ad st)) (va_Qi (fun a u => a = r0 ∧ u = st0) (ck_P sh_C cm_cl D cA ad) (ck_A ad sh_C.length)) 0 0 (ck_A ad sh_C.length) := by
  refine ck_met_i (own := R_M) (by decide +kernel) rfl (Nat.le_of_ble_eq_true rfl) (fun p e R s m args below meth c H0 Q ls C hret h hl => ?_)
  have C1 := C
  obtain ⟨hx, hb, hml, hown, hts, hK, hlv, hlo⟩ := C1
  have hl : lv_has ls 4 [(0, .ref (ad 4)), (1, .int x1), (2, .int x2)] := hl
  unfold fM_alternativesOutside at hf
  refine lv_aload_n hx hb dM_alternativesOutside_0 rfl (lv_at hl 0 rfl) ?_
  refine lv_iload_n hx hb dM_alternativesOutside_1 rfl (lv_at hl 2 rfl) ?_
  obtain ⟨v2, st1, hc, hf⟩ := ck_b_e hf
  refine ck_vi (As := [.int x2]) (rest := []) (q := 4) C h hl CM_M_hasRow sM_hasRow q_M (cM_hasRow l D cA ad hc) (Nat.le_of_ble_eq_true rfl) rfl rfl (Nat.le_of_ble_eq_true rfl) dM_alternativesOutside_2 (fun H locs h => ?_)
  refine lv_if_ne (tgt := 10) hx hb dM_alternativesOutside_5 rfl (fun hq => ?_) (fun hq => ?_)
  · have hf := ck_f hq hf
    refine lv_iconst (v := 1) hx hb dM_alternativesOutside_10 (by decide) ?_
    refine lv_aload_n hx hb dM_alternativesOutside_11 rfl (lv_at hl 0 rfl) ?_
    refine ck_gr C h FM_firstClause dM_alternativesOutside_12 ?_
    refine lv_iload_n hx hb dM_alternativesOutside_15 rfl (lv_at hl 2 rfl) ?_
    refine lv_iconst (v := 1) hx hb dM_alternativesOutside_16 (by decide) ?_
    refine lv_iadd hx hb dM_alternativesOutside_17 ?_
    obtain ⟨hg, hf⟩ := ck_gd_e hf
    refine ck_ai (x := (st1 21 ((x2 + (1 : Int32))).toNatClampNeg)) C h (show sh_C[21]? = some (.inr (0, 9)) from rfl) hg rfl dM_alternativesOutside_18 ?_
    refine lv_ishl hx hb dM_alternativesOutside_19 ?_
    refine lv_iconst (v := 1) hx hb dM_alternativesOutside_20 (by decide) ?_
    refine lv_aload_n hx hb dM_alternativesOutside_21 rfl (lv_at hl 0 rfl) ?_
    refine ck_gr C h FM_firstClause dM_alternativesOutside_22 ?_
    refine lv_iload_n hx hb dM_alternativesOutside_25 rfl (lv_at hl 2 rfl) ?_
    obtain ⟨hg, hf⟩ := ck_gd_e hf
    refine ck_ai (x := (st1 21 (x2).toNatClampNeg)) C h (show sh_C[21]? = some (.inr (0, 9)) from rfl) hg rfl dM_alternativesOutside_26 ?_
    refine lv_ishl hx hb dM_alternativesOutside_27 ?_
    refine lv_isub hx hb dM_alternativesOutside_28 ?_
    refine lv_istore_n (lv' := [(3, .int (((1 : Int32) <<< ((st1 21 ((x2 + (1 : Int32))).toNatClampNeg) &&& 31)) - ((1 : Int32) <<< ((st1 21 (x2).toNatClampNeg) &&& 31)))), (0, .ref (ad 4)), (1, .int x1), (2, .int x2)]) hx hb dM_alternativesOutside_29 rfl hl (by decide) rfl (fun ls hl => ?_)
    refine lv_iload_n hx hb dM_alternativesOutside_30 rfl (lv_at hl 0 rfl) ?_
    refine lv_iload_n hx hb dM_alternativesOutside_31 rfl (lv_at hl 2 rfl) ?_
    refine lv_iconst (v := (-1)) hx hb dM_alternativesOutside_32 (by decide) ?_
    refine lv_ixor hx hb dM_alternativesOutside_33 ?_
    refine lv_iand hx hb dM_alternativesOutside_34 ?_
    refine lv_aload_n hx hb dM_alternativesOutside_35 rfl (lv_at hl 1 rfl) ?_
    refine ck_gr C h FM_firstClause dM_alternativesOutside_36 ?_
    refine lv_iload_n hx hb dM_alternativesOutside_39 rfl (lv_at hl 3 rfl) ?_
    obtain ⟨hg, hf⟩ := ck_gd_e hf
    refine ck_ai (x := (st1 21 (x2).toNatClampNeg)) C h (show sh_C[21]? = some (.inr (0, 9)) from rfl) hg rfl dM_alternativesOutside_40 ?_
    refine lv_ishr hx hb dM_alternativesOutside_41 ?_
    exact ck_ri hf hret h dM_alternativesOutside_42
  · have hf := ck_t hq hf
    refine lv_iconst (v := 0) hx hb dM_alternativesOutside_8 (by decide) ?_
    exact ck_ri hf hret h dM_alternativesOutside_9
end Smatc
end
section
theorem dT_drop_0 : decode bT_drop 0 = .ok (.aload_n 0, 1) := by decide +kernel
theorem dT_drop_1 : decode bT_drop 1 = .ok (.iconst 0, 1) := by decide +kernel
theorem dT_drop_2 : decode bT_drop 2 = .ok (.putfield 56, 3) := by decide +kernel
theorem dT_drop_5 : decode bT_drop 5 = .ok (.return_, 1) := by decide +kernel
theorem dT_isThere_0 : decode bT_isThere 0 = .ok (.aload_n 0, 1) := by decide +kernel
theorem dT_isThere_1 : decode bT_isThere 1 = .ok (.getfield 56, 3) := by decide +kernel
theorem dT_isThere_4 : decode bT_isThere 4 = .ok (.ireturn, 1) := by decide +kernel
theorem dT_size_0 : decode bT_size 0 = .ok (.aload_n 0, 1) := by decide +kernel
theorem dT_size_1 : decode bT_size 1 = .ok (.getfield 49, 3) := by decide +kernel
theorem dT_size_4 : decode bT_size 4 = .ok (.ireturn, 1) := by decide +kernel
theorem dT_caught_0 : decode bT_caught 0 = .ok (.aload_n 0, 1) := by decide +kernel
theorem dT_caught_1 : decode bT_caught 1 = .ok (.getfield 53, 3) := by decide +kernel
theorem dT_caught_4 : decode bT_caught 4 = .ok (.ireturn, 1) := by decide +kernel
theorem dT_has_0 : decode bT_has 0 = .ok (.iload_n 1, 1) := by decide +kernel
theorem dT_has_1 : decode bT_has 1 = .ok (.ifCond .lt 15, 3) := by decide +kernel
theorem dT_has_4 : decode bT_has 4 = .ok (.iload_n 1, 1) := by decide +kernel
theorem dT_has_5 : decode bT_has 5 = .ok (.aload_n 0, 1) := by decide +kernel
theorem dT_has_6 : decode bT_has 6 = .ok (.getfield 49, 3) := by decide +kernel
theorem dT_has_9 : decode bT_has 9 = .ok (.if_icmp .ge 7, 3) := by decide +kernel
theorem dT_has_12 : decode bT_has 12 = .ok (.iconst 1, 1) := by decide +kernel
theorem dT_has_13 : decode bT_has 13 = .ok (.goto 4, 3) := by decide +kernel
theorem dT_has_16 : decode bT_has 16 = .ok (.iconst 0, 1) := by decide +kernel
theorem dT_has_17 : decode bT_has 17 = .ok (.ireturn, 1) := by decide +kernel
theorem dT_testsAbove_0 : decode bT_testsAbove 0 = .ok (.aload_n 0, 1) := by decide +kernel
theorem dT_testsAbove_1 : decode bT_testsAbove 1 = .ok (.iload_n 1, 1) := by decide +kernel
theorem dT_testsAbove_2 : decode bT_testsAbove 2 = .ok (.invokevirtual 68, 3) := by decide +kernel
theorem dT_testsAbove_5 : decode bT_testsAbove 5 = .ok (.ifCond .eq 12, 3) := by decide +kernel
theorem dT_testsAbove_8 : decode bT_testsAbove 8 = .ok (.aload_n 0, 1) := by decide +kernel
theorem dT_testsAbove_9 : decode bT_testsAbove 9 = .ok (.getfield 21, 3) := by decide +kernel
theorem dT_testsAbove_12 : decode bT_testsAbove 12 = .ok (.iload_n 1, 1) := by decide +kernel
theorem dT_testsAbove_13 : decode bT_testsAbove 13 = .ok (.iaload, 1) := by decide +kernel
theorem dT_testsAbove_14 : decode bT_testsAbove 14 = .ok (.goto 4, 3) := by decide +kernel
theorem dT_testsAbove_17 : decode bT_testsAbove 17 = .ok (.iconst 0, 1) := by decide +kernel
theorem dT_testsAbove_18 : decode bT_testsAbove 18 = .ok (.ireturn, 1) := by decide +kernel
theorem dT_clauseAt_0 : decode bT_clauseAt 0 = .ok (.aload_n 0, 1) := by decide +kernel
theorem dT_clauseAt_1 : decode bT_clauseAt 1 = .ok (.iload_n 1, 1) := by decide +kernel
theorem dT_clauseAt_2 : decode bT_clauseAt 2 = .ok (.invokevirtual 68, 3) := by decide +kernel
theorem dT_clauseAt_5 : decode bT_clauseAt 5 = .ok (.ifCond .eq 12, 3) := by decide +kernel
theorem dT_clauseAt_8 : decode bT_clauseAt 8 = .ok (.aload_n 0, 1) := by decide +kernel
theorem dT_clauseAt_9 : decode bT_clauseAt 9 = .ok (.getfield 30, 3) := by decide +kernel
theorem dT_clauseAt_12 : decode bT_clauseAt 12 = .ok (.iload_n 1, 1) := by decide +kernel
theorem dT_clauseAt_13 : decode bT_clauseAt 13 = .ok (.iaload, 1) := by decide +kernel
theorem dT_clauseAt_14 : decode bT_clauseAt 14 = .ok (.goto 4, 3) := by decide +kernel
theorem dT_clauseAt_17 : decode bT_clauseAt 17 = .ok (.iconst (-1), 1) := by decide +kernel
theorem dT_clauseAt_18 : decode bT_clauseAt 18 = .ok (.ireturn, 1) := by decide +kernel
theorem dT_placeOf_0 : decode bT_placeOf 0 = .ok (.aload_n 0, 1) := by decide +kernel
theorem dT_placeOf_1 : decode bT_placeOf 1 = .ok (.iload_n 1, 1) := by decide +kernel
theorem dT_placeOf_2 : decode bT_placeOf 2 = .ok (.invokevirtual 68, 3) := by decide +kernel
theorem dT_placeOf_5 : decode bT_placeOf 5 = .ok (.ifCond .eq 12, 3) := by decide +kernel
theorem dT_placeOf_8 : decode bT_placeOf 8 = .ok (.aload_n 0, 1) := by decide +kernel
theorem dT_placeOf_9 : decode bT_placeOf 9 = .ok (.getfield 24, 3) := by decide +kernel
theorem dT_placeOf_12 : decode bT_placeOf 12 = .ok (.iload_n 1, 1) := by decide +kernel
theorem dT_placeOf_13 : decode bT_placeOf 13 = .ok (.iaload, 1) := by decide +kernel
theorem dT_placeOf_14 : decode bT_placeOf 14 = .ok (.goto 4, 3) := by decide +kernel
theorem dT_placeOf_17 : decode bT_placeOf 17 = .ok (.iconst 0, 1) := by decide +kernel
theorem dT_placeOf_18 : decode bT_placeOf 18 = .ok (.ireturn, 1) := by decide +kernel
theorem dT_typeOfTest_0 : decode bT_typeOfTest 0 = .ok (.aload_n 0, 1) := by decide +kernel
theorem dT_typeOfTest_1 : decode bT_typeOfTest 1 = .ok (.iload_n 1, 1) := by decide +kernel
theorem dT_typeOfTest_2 : decode bT_typeOfTest 2 = .ok (.invokevirtual 68, 3) := by decide +kernel
theorem dT_typeOfTest_5 : decode bT_typeOfTest 5 = .ok (.ifCond .eq 12, 3) := by decide +kernel
theorem dT_typeOfTest_8 : decode bT_typeOfTest 8 = .ok (.aload_n 0, 1) := by decide +kernel
theorem dT_typeOfTest_9 : decode bT_typeOfTest 9 = .ok (.getfield 27, 3) := by decide +kernel
theorem dT_typeOfTest_12 : decode bT_typeOfTest 12 = .ok (.iload_n 1, 1) := by decide +kernel
theorem dT_typeOfTest_13 : decode bT_typeOfTest 13 = .ok (.iaload, 1) := by decide +kernel
theorem dT_typeOfTest_14 : decode bT_typeOfTest 14 = .ok (.goto 4, 3) := by decide +kernel
theorem dT_typeOfTest_17 : decode bT_typeOfTest 17 = .ok (.iconst (-1), 1) := by decide +kernel
theorem dT_typeOfTest_18 : decode bT_typeOfTest 18 = .ok (.ireturn, 1) := by decide +kernel
theorem dT_labelOf_0 : decode bT_labelOf 0 = .ok (.aload_n 0, 1) := by decide +kernel
theorem dT_labelOf_1 : decode bT_labelOf 1 = .ok (.iload_n 1, 1) := by decide +kernel
theorem dT_labelOf_2 : decode bT_labelOf 2 = .ok (.invokevirtual 68, 3) := by decide +kernel
theorem dT_labelOf_5 : decode bT_labelOf 5 = .ok (.ifCond .eq 12, 3) := by decide +kernel
theorem dT_labelOf_8 : decode bT_labelOf 8 = .ok (.aload_n 0, 1) := by decide +kernel
theorem dT_labelOf_9 : decode bT_labelOf 9 = .ok (.getfield 18, 3) := by decide +kernel
theorem dT_labelOf_12 : decode bT_labelOf 12 = .ok (.iload_n 1, 1) := by decide +kernel
theorem dT_labelOf_13 : decode bT_labelOf 13 = .ok (.iaload, 1) := by decide +kernel
theorem dT_labelOf_14 : decode bT_labelOf 14 = .ok (.goto 4, 3) := by decide +kernel
theorem dT_labelOf_17 : decode bT_labelOf 17 = .ok (.iconst 0, 1) := by decide +kernel
theorem dT_labelOf_18 : decode bT_labelOf 18 = .ok (.ireturn, 1) := by decide +kernel
theorem dT_addNode_0 : decode bT_addNode 0 = .ok (.aload_n 0, 1) := by decide +kernel
theorem dT_addNode_1 : decode bT_addNode 1 = .ok (.getfield 49, 3) := by decide +kernel
theorem dT_addNode_4 : decode bT_addNode 4 = .ok (.bipush 60, 2) := by decide +kernel
theorem dT_addNode_6 : decode bT_addNode 6 = .ok (.if_icmp .lt 5, 3) := by decide +kernel
theorem dT_addNode_9 : decode bT_addNode 9 = .ok (.iconst 0, 1) := by decide +kernel
theorem dT_addNode_10 : decode bT_addNode 10 = .ok (.ireturn, 1) := by decide +kernel
theorem dT_addNode_11 : decode bT_addNode 11 = .ok (.aload_n 0, 1) := by decide +kernel
theorem dT_addNode_12 : decode bT_addNode 12 = .ok (.getfield 18, 3) := by decide +kernel
theorem dT_addNode_15 : decode bT_addNode 15 = .ok (.aload_n 0, 1) := by decide +kernel
theorem dT_addNode_16 : decode bT_addNode 16 = .ok (.getfield 49, 3) := by decide +kernel
theorem dT_addNode_19 : decode bT_addNode 19 = .ok (.iload_n 1, 1) := by decide +kernel
theorem dT_addNode_20 : decode bT_addNode 20 = .ok (.iastore, 1) := by decide +kernel
theorem dT_addNode_21 : decode bT_addNode 21 = .ok (.aload_n 0, 1) := by decide +kernel
theorem dT_addNode_22 : decode bT_addNode 22 = .ok (.getfield 9, 3) := by decide +kernel
theorem dT_addNode_25 : decode bT_addNode 25 = .ok (.aload_n 0, 1) := by decide +kernel
theorem dT_addNode_26 : decode bT_addNode 26 = .ok (.getfield 49, 3) := by decide +kernel
theorem dT_addNode_29 : decode bT_addNode 29 = .ok (.iload_n 2, 1) := by decide +kernel
theorem dT_addNode_30 : decode bT_addNode 30 = .ok (.iastore, 1) := by decide +kernel
theorem dT_addNode_31 : decode bT_addNode 31 = .ok (.aload_n 0, 1) := by decide +kernel
theorem dT_addNode_32 : decode bT_addNode 32 = .ok (.getfield 15, 3) := by decide +kernel
theorem dT_addNode_35 : decode bT_addNode 35 = .ok (.aload_n 0, 1) := by decide +kernel
theorem dT_addNode_36 : decode bT_addNode 36 = .ok (.getfield 49, 3) := by decide +kernel
theorem dT_addNode_39 : decode bT_addNode 39 = .ok (.iload_n 3, 1) := by decide +kernel
theorem dT_addNode_40 : decode bT_addNode 40 = .ok (.iastore, 1) := by decide +kernel
theorem dT_addNode_41 : decode bT_addNode 41 = .ok (.aload_n 0, 1) := by decide +kernel
theorem dT_addNode_42 : decode bT_addNode 42 = .ok (.getfield 21, 3) := by decide +kernel
theorem dT_addNode_45 : decode bT_addNode 45 = .ok (.aload_n 0, 1) := by decide +kernel
theorem dT_addNode_46 : decode bT_addNode 46 = .ok (.getfield 49, 3) := by decide +kernel
theorem dT_addNode_49 : decode bT_addNode 49 = .ok (.iload 4, 2) := by decide +kernel
theorem dT_addNode_51 : decode bT_addNode 51 = .ok (.iastore, 1) := by decide +kernel
theorem dT_addNode_52 : decode bT_addNode 52 = .ok (.aload_n 0, 1) := by decide +kernel
theorem dT_addNode_53 : decode bT_addNode 53 = .ok (.getfield 24, 3) := by decide +kernel
theorem dT_addNode_56 : decode bT_addNode 56 = .ok (.aload_n 0, 1) := by decide +kernel
theorem dT_addNode_57 : decode bT_addNode 57 = .ok (.getfield 49, 3) := by decide +kernel
theorem dT_addNode_60 : decode bT_addNode 60 = .ok (.iconst 0, 1) := by decide +kernel
theorem dT_addNode_61 : decode bT_addNode 61 = .ok (.iastore, 1) := by decide +kernel
theorem dT_addNode_62 : decode bT_addNode 62 = .ok (.aload_n 0, 1) := by decide +kernel
theorem dT_addNode_63 : decode bT_addNode 63 = .ok (.getfield 27, 3) := by decide +kernel
theorem dT_addNode_66 : decode bT_addNode 66 = .ok (.aload_n 0, 1) := by decide +kernel
theorem dT_addNode_67 : decode bT_addNode 67 = .ok (.getfield 49, 3) := by decide +kernel
theorem dT_addNode_70 : decode bT_addNode 70 = .ok (.iconst (-1), 1) := by decide +kernel
theorem dT_addNode_71 : decode bT_addNode 71 = .ok (.iastore, 1) := by decide +kernel
theorem dT_addNode_72 : decode bT_addNode 72 = .ok (.aload_n 0, 1) := by decide +kernel
theorem dT_addNode_73 : decode bT_addNode 73 = .ok (.getfield 30, 3) := by decide +kernel
theorem dT_addNode_76 : decode bT_addNode 76 = .ok (.aload_n 0, 1) := by decide +kernel
theorem dT_addNode_77 : decode bT_addNode 77 = .ok (.getfield 49, 3) := by decide +kernel
theorem dT_addNode_80 : decode bT_addNode 80 = .ok (.iconst (-1), 1) := by decide +kernel
theorem dT_addNode_81 : decode bT_addNode 81 = .ok (.iastore, 1) := by decide +kernel
theorem dT_addNode_82 : decode bT_addNode 82 = .ok (.aload_n 0, 1) := by decide +kernel
theorem dT_addNode_83 : decode bT_addNode 83 = .ok (.getfield 33, 3) := by decide +kernel
theorem dT_addNode_86 : decode bT_addNode 86 = .ok (.aload_n 0, 1) := by decide +kernel
theorem dT_addNode_87 : decode bT_addNode 87 = .ok (.getfield 49, 3) := by decide +kernel
theorem dT_addNode_90 : decode bT_addNode 90 = .ok (.iconst 0, 1) := by decide +kernel
theorem dT_addNode_91 : decode bT_addNode 91 = .ok (.iastore, 1) := by decide +kernel
theorem dT_addNode_92 : decode bT_addNode 92 = .ok (.aload_n 0, 1) := by decide +kernel
theorem dT_addNode_93 : decode bT_addNode 93 = .ok (.getfield 36, 3) := by decide +kernel
theorem dT_addNode_96 : decode bT_addNode 96 = .ok (.aload_n 0, 1) := by decide +kernel
theorem dT_addNode_97 : decode bT_addNode 97 = .ok (.getfield 49, 3) := by decide +kernel
theorem dT_addNode_100 : decode bT_addNode 100 = .ok (.iconst 0, 1) := by decide +kernel
theorem dT_addNode_101 : decode bT_addNode 101 = .ok (.iastore, 1) := by decide +kernel
theorem dT_addNode_102 : decode bT_addNode 102 = .ok (.aload_n 0, 1) := by decide +kernel
theorem dT_addNode_103 : decode bT_addNode 103 = .ok (.dup, 1) := by decide +kernel
theorem dT_addNode_104 : decode bT_addNode 104 = .ok (.getfield 49, 3) := by decide +kernel
theorem dT_addNode_107 : decode bT_addNode 107 = .ok (.iconst 1, 1) := by decide +kernel
theorem dT_addNode_108 : decode bT_addNode 108 = .ok (.iadd, 1) := by decide +kernel
theorem dT_addNode_109 : decode bT_addNode 109 = .ok (.putfield 49, 3) := by decide +kernel
theorem dT_addNode_112 : decode bT_addNode 112 = .ok (.iconst 1, 1) := by decide +kernel
theorem dT_addNode_113 : decode bT_addNode 113 = .ok (.ireturn, 1) := by decide +kernel
theorem dT_makeLeaf_0 : decode bT_makeLeaf 0 = .ok (.aload_n 0, 1) := by decide +kernel
theorem dT_makeLeaf_1 : decode bT_makeLeaf 1 = .ok (.getfield 30, 3) := by decide +kernel
theorem dT_makeLeaf_4 : decode bT_makeLeaf 4 = .ok (.iload_n 1, 1) := by decide +kernel
theorem dT_makeLeaf_5 : decode bT_makeLeaf 5 = .ok (.aload_n 0, 1) := by decide +kernel
theorem dT_makeLeaf_6 : decode bT_makeLeaf 6 = .ok (.getfield 64, 3) := by decide +kernel
theorem dT_makeLeaf_9 : decode bT_makeLeaf 9 = .ok (.aload_n 0, 1) := by decide +kernel
theorem dT_makeLeaf_10 : decode bT_makeLeaf 10 = .ok (.getfield 9, 3) := by decide +kernel
theorem dT_makeLeaf_13 : decode bT_makeLeaf 13 = .ok (.iload_n 1, 1) := by decide +kernel
theorem dT_makeLeaf_14 : decode bT_makeLeaf 14 = .ok (.iaload, 1) := by decide +kernel
theorem dT_makeLeaf_15 : decode bT_makeLeaf 15 = .ok (.invokevirtual 105, 3) := by decide +kernel
theorem dT_makeLeaf_18 : decode bT_makeLeaf 18 = .ok (.iastore, 1) := by decide +kernel
theorem dT_makeLeaf_19 : decode bT_makeLeaf 19 = .ok (.aload_n 0, 1) := by decide +kernel
theorem dT_makeLeaf_20 : decode bT_makeLeaf 20 = .ok (.getfield 30, 3) := by decide +kernel
theorem dT_makeLeaf_23 : decode bT_makeLeaf 23 = .ok (.iload_n 1, 1) := by decide +kernel
theorem dT_makeLeaf_24 : decode bT_makeLeaf 24 = .ok (.iaload, 1) := by decide +kernel
theorem dT_makeLeaf_25 : decode bT_makeLeaf 25 = .ok (.iconst (-1), 1) := by decide +kernel
theorem dT_makeLeaf_26 : decode bT_makeLeaf 26 = .ok (.if_icmp .eq 20, 3) := by decide +kernel
theorem dT_makeLeaf_29 : decode bT_makeLeaf 29 = .ok (.aload_n 0, 1) := by decide +kernel
theorem dT_makeLeaf_30 : decode bT_makeLeaf 30 = .ok (.dup, 1) := by decide +kernel
theorem dT_makeLeaf_31 : decode bT_makeLeaf 31 = .ok (.getfield 53, 3) := by decide +kernel
theorem dT_makeLeaf_34 : decode bT_makeLeaf 34 = .ok (.iconst 1, 1) := by decide +kernel
theorem dT_makeLeaf_35 : decode bT_makeLeaf 35 = .ok (.aload_n 0, 1) := by decide +kernel
theorem dT_makeLeaf_36 : decode bT_makeLeaf 36 = .ok (.getfield 30, 3) := by decide +kernel
theorem dT_makeLeaf_39 : decode bT_makeLeaf 39 = .ok (.iload_n 1, 1) := by decide +kernel
theorem dT_makeLeaf_40 : decode bT_makeLeaf 40 = .ok (.iaload, 1) := by decide +kernel
theorem dT_makeLeaf_41 : decode bT_makeLeaf 41 = .ok (.ishl, 1) := by decide +kernel
theorem dT_makeLeaf_42 : decode bT_makeLeaf 42 = .ok (.ior, 1) := by decide +kernel
theorem dT_makeLeaf_43 : decode bT_makeLeaf 43 = .ok (.putfield 53, 3) := by decide +kernel
theorem dT_makeLeaf_46 : decode bT_makeLeaf 46 = .ok (.return_, 1) := by decide +kernel
theorem dT_addNumbers_0 : decode bT_addNumbers 0 = .ok (.iconst 1, 1) := by decide +kernel
theorem dT_addNumbers_1 : decode bT_addNumbers 1 = .ok (.istore_n 2, 1) := by decide +kernel
theorem dT_addNumbers_2 : decode bT_addNumbers 2 = .ok (.aload_n 0, 1) := by decide +kernel
theorem dT_addNumbers_3 : decode bT_addNumbers 3 = .ok (.getfield 15, 3) := by decide +kernel
theorem dT_addNumbers_6 : decode bT_addNumbers 6 = .ok (.iload_n 1, 1) := by decide +kernel
theorem dT_addNumbers_7 : decode bT_addNumbers 7 = .ok (.iaload, 1) := by decide +kernel
theorem dT_addNumbers_8 : decode bT_addNumbers 8 = .ok (.iconst 1, 1) := by decide +kernel
theorem dT_addNumbers_9 : decode bT_addNumbers 9 = .ok (.aload_n 0, 1) := by decide +kernel
theorem dT_addNumbers_10 : decode bT_addNumbers 10 = .ok (.getfield 24, 3) := by decide +kernel
theorem dT_addNumbers_13 : decode bT_addNumbers 13 = .ok (.iload_n 1, 1) := by decide +kernel
theorem dT_addNumbers_14 : decode bT_addNumbers 14 = .ok (.iaload, 1) := by decide +kernel
theorem dT_addNumbers_15 : decode bT_addNumbers 15 = .ok (.ishl, 1) := by decide +kernel
theorem dT_addNumbers_16 : decode bT_addNumbers 16 = .ok (.iconst (-1), 1) := by decide +kernel
theorem dT_addNumbers_17 : decode bT_addNumbers 17 = .ok (.ixor, 1) := by decide +kernel
theorem dT_addNumbers_18 : decode bT_addNumbers 18 = .ok (.iand, 1) := by decide +kernel
theorem dT_addNumbers_19 : decode bT_addNumbers 19 = .ok (.istore_n 3, 1) := by decide +kernel
theorem dT_addNumbers_20 : decode bT_addNumbers 20 = .ok (.aload_n 0, 1) := by decide +kernel
theorem dT_addNumbers_21 : decode bT_addNumbers 21 = .ok (.getfield 64, 3) := by decide +kernel
theorem dT_addNumbers_24 : decode bT_addNumbers 24 = .ok (.ldc2_w 109, 3) := by decide +kernel
theorem dT_addNumbers_27 : decode bT_addNumbers 27 = .ok (.aload_n 0, 1) := by decide +kernel
theorem dT_addNumbers_28 : decode bT_addNumbers 28 = .ok (.getfield 9, 3) := by decide +kernel
theorem dT_addNumbers_31 : decode bT_addNumbers 31 = .ok (.iload_n 1, 1) := by decide +kernel
theorem dT_addNumbers_32 : decode bT_addNumbers 32 = .ok (.iaload, 1) := by decide +kernel
theorem dT_addNumbers_33 : decode bT_addNumbers 33 = .ok (.aload_n 0, 1) := by decide +kernel
theorem dT_addNumbers_34 : decode bT_addNumbers 34 = .ok (.getfield 24, 3) := by decide +kernel
theorem dT_addNumbers_37 : decode bT_addNumbers 37 = .ok (.iload_n 1, 1) := by decide +kernel
theorem dT_addNumbers_38 : decode bT_addNumbers 38 = .ok (.iaload, 1) := by decide +kernel
theorem dT_addNumbers_39 : decode bT_addNumbers 39 = .ok (.invokevirtual 111, 3) := by decide +kernel
theorem dT_addNumbers_42 : decode bT_addNumbers 42 = .ok (.lstore 4, 2) := by decide +kernel
theorem dT_addNumbers_44 : decode bT_addNumbers 44 = .ok (.iconst 0, 1) := by decide +kernel
theorem dT_addNumbers_45 : decode bT_addNumbers 45 = .ok (.istore 6, 2) := by decide +kernel
theorem dT_addNumbers_47 : decode bT_addNumbers 47 = .ok (.iload 6, 2) := by decide +kernel
theorem dT_addNumbers_49 : decode bT_addNumbers 49 = .ok (.bipush 16, 2) := by decide +kernel
theorem dT_addNumbers_51 : decode bT_addNumbers 51 = .ok (.if_icmp .ge 88, 3) := by decide +kernel
theorem dT_addNumbers_54 : decode bT_addNumbers 54 = .ok (.lload 4, 2) := by decide +kernel
theorem dT_addNumbers_56 : decode bT_addNumbers 56 = .ok (.ldc2_w 115, 3) := by decide +kernel
theorem dT_addNumbers_59 : decode bT_addNumbers 59 = .ok (.lcmp, 1) := by decide +kernel
theorem dT_addNumbers_60 : decode bT_addNumbers 60 = .ok (.ifCond .eq 79, 3) := by decide +kernel
theorem dT_addNumbers_63 : decode bT_addNumbers 63 = .ok (.iload_n 2, 1) := by decide +kernel
theorem dT_addNumbers_64 : decode bT_addNumbers 64 = .ok (.ifCond .eq 75, 3) := by decide +kernel
theorem dT_addNumbers_67 : decode bT_addNumbers 67 = .ok (.aload_n 0, 1) := by decide +kernel
theorem dT_addNumbers_68 : decode bT_addNumbers 68 = .ok (.getfield 64, 3) := by decide +kernel
theorem dT_addNumbers_71 : decode bT_addNumbers 71 = .ok (.aload_n 0, 1) := by decide +kernel
theorem dT_addNumbers_72 : decode bT_addNumbers 72 = .ok (.getfield 9, 3) := by decide +kernel
theorem dT_addNumbers_75 : decode bT_addNumbers 75 = .ok (.iload_n 1, 1) := by decide +kernel
theorem dT_addNumbers_76 : decode bT_addNumbers 76 = .ok (.iaload, 1) := by decide +kernel
theorem dT_addNumbers_77 : decode bT_addNumbers 77 = .ok (.aload_n 0, 1) := by decide +kernel
theorem dT_addNumbers_78 : decode bT_addNumbers 78 = .ok (.getfield 24, 3) := by decide +kernel
theorem dT_addNumbers_81 : decode bT_addNumbers 81 = .ok (.iload_n 1, 1) := by decide +kernel
theorem dT_addNumbers_82 : decode bT_addNumbers 82 = .ok (.iaload, 1) := by decide +kernel
theorem dT_addNumbers_83 : decode bT_addNumbers 83 = .ok (.lload 4, 2) := by decide +kernel
theorem dT_addNumbers_85 : decode bT_addNumbers 85 = .ok (.l2i, 1) := by decide +kernel
theorem dT_addNumbers_86 : decode bT_addNumbers 86 = .ok (.invokevirtual 117, 3) := by decide +kernel
theorem dT_addNumbers_89 : decode bT_addNumbers 89 = .ok (.istore 7, 2) := by decide +kernel
theorem dT_addNumbers_91 : decode bT_addNumbers 91 = .ok (.aload_n 0, 1) := by decide +kernel
theorem dT_addNumbers_92 : decode bT_addNumbers 92 = .ok (.lload 4, 2) := by decide +kernel
theorem dT_addNumbers_94 : decode bT_addNumbers 94 = .ok (.l2i, 1) := by decide +kernel
theorem dT_addNumbers_95 : decode bT_addNumbers 95 = .ok (.iload 7, 2) := by decide +kernel
theorem dT_addNumbers_97 : decode bT_addNumbers 97 = .ok (.iload_n 3, 1) := by decide +kernel
theorem dT_addNumbers_98 : decode bT_addNumbers 98 = .ok (.aload_n 0, 1) := by decide +kernel
theorem dT_addNumbers_99 : decode bT_addNumbers 99 = .ok (.getfield 21, 3) := by decide +kernel
theorem dT_addNumbers_102 : decode bT_addNumbers 102 = .ok (.iload_n 1, 1) := by decide +kernel
theorem dT_addNumbers_103 : decode bT_addNumbers 103 = .ok (.iaload, 1) := by decide +kernel
theorem dT_addNumbers_104 : decode bT_addNumbers 104 = .ok (.iconst 1, 1) := by decide +kernel
theorem dT_addNumbers_105 : decode bT_addNumbers 105 = .ok (.iadd, 1) := by decide +kernel
theorem dT_addNumbers_106 : decode bT_addNumbers 106 = .ok (.invokevirtual 78, 3) := by decide +kernel
theorem dT_addNumbers_109 : decode bT_addNumbers 109 = .ok (.istore_n 2, 1) := by decide +kernel
theorem dT_addNumbers_110 : decode bT_addNumbers 110 = .ok (.aload_n 0, 1) := by decide +kernel
theorem dT_addNumbers_111 : decode bT_addNumbers 111 = .ok (.getfield 64, 3) := by decide +kernel
theorem dT_addNumbers_114 : decode bT_addNumbers 114 = .ok (.lload 4, 2) := by decide +kernel
theorem dT_addNumbers_116 : decode bT_addNumbers 116 = .ok (.aload_n 0, 1) := by decide +kernel
theorem dT_addNumbers_117 : decode bT_addNumbers 117 = .ok (.getfield 9, 3) := by decide +kernel
theorem dT_addNumbers_120 : decode bT_addNumbers 120 = .ok (.iload_n 1, 1) := by decide +kernel
theorem dT_addNumbers_121 : decode bT_addNumbers 121 = .ok (.iaload, 1) := by decide +kernel
theorem dT_addNumbers_122 : decode bT_addNumbers 122 = .ok (.aload_n 0, 1) := by decide +kernel
theorem dT_addNumbers_123 : decode bT_addNumbers 123 = .ok (.getfield 24, 3) := by decide +kernel
theorem dT_addNumbers_126 : decode bT_addNumbers 126 = .ok (.iload_n 1, 1) := by decide +kernel
theorem dT_addNumbers_127 : decode bT_addNumbers 127 = .ok (.iaload, 1) := by decide +kernel
theorem dT_addNumbers_128 : decode bT_addNumbers 128 = .ok (.invokevirtual 111, 3) := by decide +kernel
theorem dT_addNumbers_131 : decode bT_addNumbers 131 = .ok (.lstore 4, 2) := by decide +kernel
theorem dT_addNumbers_133 : decode bT_addNumbers 133 = .ok (.iinc 6 1, 3) := by decide +kernel
theorem dT_addNumbers_136 : decode bT_addNumbers 136 = .ok (.goto (-89), 3) := by decide +kernel
theorem dT_addNumbers_139 : decode bT_addNumbers 139 = .ok (.aload_n 0, 1) := by decide +kernel
theorem dT_addNumbers_140 : decode bT_addNumbers 140 = .ok (.getfield 64, 3) := by decide +kernel
theorem dT_addNumbers_143 : decode bT_addNumbers 143 = .ok (.aload_n 0, 1) := by decide +kernel
theorem dT_addNumbers_144 : decode bT_addNumbers 144 = .ok (.getfield 9, 3) := by decide +kernel
theorem dT_addNumbers_147 : decode bT_addNumbers 147 = .ok (.iload_n 1, 1) := by decide +kernel
theorem dT_addNumbers_148 : decode bT_addNumbers 148 = .ok (.iaload, 1) := by decide +kernel
theorem dT_addNumbers_149 : decode bT_addNumbers 149 = .ok (.aload_n 0, 1) := by decide +kernel
theorem dT_addNumbers_150 : decode bT_addNumbers 150 = .ok (.getfield 24, 3) := by decide +kernel
theorem dT_addNumbers_153 : decode bT_addNumbers 153 = .ok (.iload_n 1, 1) := by decide +kernel
theorem dT_addNumbers_154 : decode bT_addNumbers 154 = .ok (.iaload, 1) := by decide +kernel
theorem dT_addNumbers_155 : decode bT_addNumbers 155 = .ok (.invokevirtual 121, 3) := by decide +kernel
theorem dT_addNumbers_158 : decode bT_addNumbers 158 = .ok (.istore 6, 2) := by decide +kernel
theorem dT_addNumbers_160 : decode bT_addNumbers 160 = .ok (.iload_n 2, 1) := by decide +kernel
theorem dT_addNumbers_161 : decode bT_addNumbers 161 = .ok (.ifCond .eq 26, 3) := by decide +kernel
theorem dT_addNumbers_164 : decode bT_addNumbers 164 = .ok (.aload_n 0, 1) := by decide +kernel
theorem dT_addNumbers_165 : decode bT_addNumbers 165 = .ok (.iconst 0, 1) := by decide +kernel
theorem dT_addNumbers_166 : decode bT_addNumbers 166 = .ok (.iload 6, 2) := by decide +kernel
theorem dT_addNumbers_168 : decode bT_addNumbers 168 = .ok (.iload_n 3, 1) := by decide +kernel
theorem dT_addNumbers_169 : decode bT_addNumbers 169 = .ok (.aload_n 0, 1) := by decide +kernel
theorem dT_addNumbers_170 : decode bT_addNumbers 170 = .ok (.getfield 21, 3) := by decide +kernel
theorem dT_addNumbers_173 : decode bT_addNumbers 173 = .ok (.iload_n 1, 1) := by decide +kernel
theorem dT_addNumbers_174 : decode bT_addNumbers 174 = .ok (.iaload, 1) := by decide +kernel
theorem dT_addNumbers_175 : decode bT_addNumbers 175 = .ok (.iconst 1, 1) := by decide +kernel
theorem dT_addNumbers_176 : decode bT_addNumbers 176 = .ok (.iadd, 1) := by decide +kernel
theorem dT_addNumbers_177 : decode bT_addNumbers 177 = .ok (.invokevirtual 78, 3) := by decide +kernel
theorem dT_addNumbers_180 : decode bT_addNumbers 180 = .ok (.ifCond .eq 7, 3) := by decide +kernel
theorem dT_addNumbers_183 : decode bT_addNumbers 183 = .ok (.iconst 1, 1) := by decide +kernel
theorem dT_addNumbers_184 : decode bT_addNumbers 184 = .ok (.goto 4, 3) := by decide +kernel
theorem dT_addNumbers_187 : decode bT_addNumbers 187 = .ok (.iconst 0, 1) := by decide +kernel
theorem dT_addNumbers_188 : decode bT_addNumbers 188 = .ok (.ireturn, 1) := by decide +kernel
theorem dT_addConstructors_0 : decode bT_addConstructors 0 = .ok (.iconst 1, 1) := by decide +kernel
theorem dT_addConstructors_1 : decode bT_addConstructors 1 = .ok (.istore_n 2, 1) := by decide +kernel
theorem dT_addConstructors_2 : decode bT_addConstructors 2 = .ok (.aload_n 0, 1) := by decide +kernel
theorem dT_addConstructors_3 : decode bT_addConstructors 3 = .ok (.getfield 15, 3) := by decide +kernel
theorem dT_addConstructors_6 : decode bT_addConstructors 6 = .ok (.iload_n 1, 1) := by decide +kernel
theorem dT_addConstructors_7 : decode bT_addConstructors 7 = .ok (.iaload, 1) := by decide +kernel
theorem dT_addConstructors_8 : decode bT_addConstructors 8 = .ok (.iconst 1, 1) := by decide +kernel
theorem dT_addConstructors_9 : decode bT_addConstructors 9 = .ok (.aload_n 0, 1) := by decide +kernel
theorem dT_addConstructors_10 : decode bT_addConstructors 10 = .ok (.getfield 24, 3) := by decide +kernel
theorem dT_addConstructors_13 : decode bT_addConstructors 13 = .ok (.iload_n 1, 1) := by decide +kernel
theorem dT_addConstructors_14 : decode bT_addConstructors 14 = .ok (.iaload, 1) := by decide +kernel
theorem dT_addConstructors_15 : decode bT_addConstructors 15 = .ok (.ishl, 1) := by decide +kernel
theorem dT_addConstructors_16 : decode bT_addConstructors 16 = .ok (.iconst (-1), 1) := by decide +kernel
theorem dT_addConstructors_17 : decode bT_addConstructors 17 = .ok (.ixor, 1) := by decide +kernel
theorem dT_addConstructors_18 : decode bT_addConstructors 18 = .ok (.iand, 1) := by decide +kernel
theorem dT_addConstructors_19 : decode bT_addConstructors 19 = .ok (.istore_n 3, 1) := by decide +kernel
theorem dT_addConstructors_20 : decode bT_addConstructors 20 = .ok (.iconst 0, 1) := by decide +kernel
theorem dT_addConstructors_21 : decode bT_addConstructors 21 = .ok (.istore 4, 2) := by decide +kernel
theorem dT_addConstructors_23 : decode bT_addConstructors 23 = .ok (.iload 4, 2) := by decide +kernel
theorem dT_addConstructors_25 : decode bT_addConstructors 25 = .ok (.aload_n 0, 1) := by decide +kernel
theorem dT_addConstructors_26 : decode bT_addConstructors 26 = .ok (.getfield 60, 3) := by decide +kernel
theorem dT_addConstructors_29 : decode bT_addConstructors 29 = .ok (.invokevirtual 124, 3) := by decide +kernel
theorem dT_addConstructors_32 : decode bT_addConstructors 32 = .ok (.if_icmp .ge 92, 3) := by decide +kernel
theorem dT_addConstructors_35 : decode bT_addConstructors 35 = .ok (.iload_n 2, 1) := by decide +kernel
theorem dT_addConstructors_36 : decode bT_addConstructors 36 = .ok (.ifCond .eq 88, 3) := by decide +kernel
theorem dT_addConstructors_39 : decode bT_addConstructors 39 = .ok (.aload_n 0, 1) := by decide +kernel
theorem dT_addConstructors_40 : decode bT_addConstructors 40 = .ok (.getfield 60, 3) := by decide +kernel
theorem dT_addConstructors_43 : decode bT_addConstructors 43 = .ok (.iload 4, 2) := by decide +kernel
theorem dT_addConstructors_45 : decode bT_addConstructors 45 = .ok (.invokevirtual 129, 3) := by decide +kernel
theorem dT_addConstructors_48 : decode bT_addConstructors 48 = .ok (.aload_n 0, 1) := by decide +kernel
theorem dT_addConstructors_49 : decode bT_addConstructors 49 = .ok (.getfield 27, 3) := by decide +kernel
theorem dT_addConstructors_52 : decode bT_addConstructors 52 = .ok (.iload_n 1, 1) := by decide +kernel
theorem dT_addConstructors_53 : decode bT_addConstructors 53 = .ok (.iaload, 1) := by decide +kernel
theorem dT_addConstructors_54 : decode bT_addConstructors 54 = .ok (.if_icmp .ne 64, 3) := by decide +kernel
theorem dT_addConstructors_57 : decode bT_addConstructors 57 = .ok (.aload_n 0, 1) := by decide +kernel
theorem dT_addConstructors_58 : decode bT_addConstructors 58 = .ok (.getfield 64, 3) := by decide +kernel
theorem dT_addConstructors_61 : decode bT_addConstructors 61 = .ok (.aload_n 0, 1) := by decide +kernel
theorem dT_addConstructors_62 : decode bT_addConstructors 62 = .ok (.getfield 9, 3) := by decide +kernel
theorem dT_addConstructors_65 : decode bT_addConstructors 65 = .ok (.iload_n 1, 1) := by decide +kernel
theorem dT_addConstructors_66 : decode bT_addConstructors 66 = .ok (.iaload, 1) := by decide +kernel
theorem dT_addConstructors_67 : decode bT_addConstructors 67 = .ok (.aload_n 0, 1) := by decide +kernel
theorem dT_addConstructors_68 : decode bT_addConstructors 68 = .ok (.getfield 24, 3) := by decide +kernel
theorem dT_addConstructors_71 : decode bT_addConstructors 71 = .ok (.iload_n 1, 1) := by decide +kernel
theorem dT_addConstructors_72 : decode bT_addConstructors 72 = .ok (.iaload, 1) := by decide +kernel
theorem dT_addConstructors_73 : decode bT_addConstructors 73 = .ok (.iload 4, 2) := by decide +kernel
theorem dT_addConstructors_75 : decode bT_addConstructors 75 = .ok (.invokevirtual 117, 3) := by decide +kernel
theorem dT_addConstructors_78 : decode bT_addConstructors 78 = .ok (.istore 5, 2) := by decide +kernel
theorem dT_addConstructors_80 : decode bT_addConstructors 80 = .ok (.aload_n 0, 1) := by decide +kernel
theorem dT_addConstructors_81 : decode bT_addConstructors 81 = .ok (.getfield 60, 3) := by decide +kernel
theorem dT_addConstructors_84 : decode bT_addConstructors 84 = .ok (.iload 4, 2) := by decide +kernel
theorem dT_addConstructors_86 : decode bT_addConstructors 86 = .ok (.aload_n 0, 1) := by decide +kernel
theorem dT_addConstructors_87 : decode bT_addConstructors 87 = .ok (.getfield 24, 3) := by decide +kernel
theorem dT_addConstructors_90 : decode bT_addConstructors 90 = .ok (.iload_n 1, 1) := by decide +kernel
theorem dT_addConstructors_91 : decode bT_addConstructors 91 = .ok (.iaload, 1) := by decide +kernel
theorem dT_addConstructors_92 : decode bT_addConstructors 92 = .ok (.invokevirtual 132, 3) := by decide +kernel
theorem dT_addConstructors_95 : decode bT_addConstructors 95 = .ok (.istore 6, 2) := by decide +kernel
theorem dT_addConstructors_97 : decode bT_addConstructors 97 = .ok (.aload_n 0, 1) := by decide +kernel
theorem dT_addConstructors_98 : decode bT_addConstructors 98 = .ok (.iload 4, 2) := by decide +kernel
theorem dT_addConstructors_100 : decode bT_addConstructors 100 = .ok (.iload 5, 2) := by decide +kernel
theorem dT_addConstructors_102 : decode bT_addConstructors 102 = .ok (.iload_n 3, 1) := by decide +kernel
theorem dT_addConstructors_103 : decode bT_addConstructors 103 = .ok (.iload 6, 2) := by decide +kernel
theorem dT_addConstructors_105 : decode bT_addConstructors 105 = .ok (.ior, 1) := by decide +kernel
theorem dT_addConstructors_106 : decode bT_addConstructors 106 = .ok (.aload_n 0, 1) := by decide +kernel
theorem dT_addConstructors_107 : decode bT_addConstructors 107 = .ok (.getfield 21, 3) := by decide +kernel
theorem dT_addConstructors_110 : decode bT_addConstructors 110 = .ok (.iload_n 1, 1) := by decide +kernel
theorem dT_addConstructors_111 : decode bT_addConstructors 111 = .ok (.iaload, 1) := by decide +kernel
theorem dT_addConstructors_112 : decode bT_addConstructors 112 = .ok (.iconst 1, 1) := by decide +kernel
theorem dT_addConstructors_113 : decode bT_addConstructors 113 = .ok (.iadd, 1) := by decide +kernel
theorem dT_addConstructors_114 : decode bT_addConstructors 114 = .ok (.invokevirtual 78, 3) := by decide +kernel
theorem dT_addConstructors_117 : decode bT_addConstructors 117 = .ok (.istore_n 2, 1) := by decide +kernel
theorem dT_addConstructors_118 : decode bT_addConstructors 118 = .ok (.iinc 4 1, 3) := by decide +kernel
theorem dT_addConstructors_121 : decode bT_addConstructors 121 = .ok (.goto (-98), 3) := by decide +kernel
theorem dT_addConstructors_124 : decode bT_addConstructors 124 = .ok (.iload_n 2, 1) := by decide +kernel
theorem dT_addConstructors_125 : decode bT_addConstructors 125 = .ok (.ireturn, 1) := by decide +kernel
theorem dT_expand_0 : decode bT_expand 0 = .ok (.aload_n 0, 1) := by decide +kernel
theorem dT_expand_1 : decode bT_expand 1 = .ok (.getfield 24, 3) := by decide +kernel
theorem dT_expand_4 : decode bT_expand 4 = .ok (.iload_n 1, 1) := by decide +kernel
theorem dT_expand_5 : decode bT_expand 5 = .ok (.aload_n 0, 1) := by decide +kernel
theorem dT_expand_6 : decode bT_expand 6 = .ok (.getfield 64, 3) := by decide +kernel
theorem dT_expand_9 : decode bT_expand 9 = .ok (.aload_n 0, 1) := by decide +kernel
theorem dT_expand_10 : decode bT_expand 10 = .ok (.getfield 9, 3) := by decide +kernel
theorem dT_expand_13 : decode bT_expand 13 = .ok (.iload_n 1, 1) := by decide +kernel
theorem dT_expand_14 : decode bT_expand 14 = .ok (.iaload, 1) := by decide +kernel
theorem dT_expand_15 : decode bT_expand 15 = .ok (.aload_n 0, 1) := by decide +kernel
theorem dT_expand_16 : decode bT_expand 16 = .ok (.getfield 15, 3) := by decide +kernel
theorem dT_expand_19 : decode bT_expand 19 = .ok (.iload_n 1, 1) := by decide +kernel
theorem dT_expand_20 : decode bT_expand 20 = .ok (.iaload, 1) := by decide +kernel
theorem dT_expand_21 : decode bT_expand 21 = .ok (.invokevirtual 88, 3) := by decide +kernel
theorem dT_expand_24 : decode bT_expand 24 = .ok (.iastore, 1) := by decide +kernel
theorem dT_expand_25 : decode bT_expand 25 = .ok (.aload_n 0, 1) := by decide +kernel
theorem dT_expand_26 : decode bT_expand 26 = .ok (.getfield 24, 3) := by decide +kernel
theorem dT_expand_29 : decode bT_expand 29 = .ok (.iload_n 1, 1) := by decide +kernel
theorem dT_expand_30 : decode bT_expand 30 = .ok (.iaload, 1) := by decide +kernel
theorem dT_expand_31 : decode bT_expand 31 = .ok (.ifCond .ne 10, 3) := by decide +kernel
theorem dT_expand_34 : decode bT_expand 34 = .ok (.aload_n 0, 1) := by decide +kernel
theorem dT_expand_35 : decode bT_expand 35 = .ok (.iload_n 1, 1) := by decide +kernel
theorem dT_expand_36 : decode bT_expand 36 = .ok (.invokevirtual 92, 3) := by decide +kernel
theorem dT_expand_39 : decode bT_expand 39 = .ok (.iconst 1, 1) := by decide +kernel
theorem dT_expand_40 : decode bT_expand 40 = .ok (.ireturn, 1) := by decide +kernel
theorem dT_expand_41 : decode bT_expand 41 = .ok (.aload_n 0, 1) := by decide +kernel
theorem dT_expand_42 : decode bT_expand 42 = .ok (.getfield 27, 3) := by decide +kernel
theorem dT_expand_45 : decode bT_expand 45 = .ok (.iload_n 1, 1) := by decide +kernel
theorem dT_expand_46 : decode bT_expand 46 = .ok (.aload_n 0, 1) := by decide +kernel
theorem dT_expand_47 : decode bT_expand 47 = .ok (.getfield 64, 3) := by decide +kernel
theorem dT_expand_50 : decode bT_expand 50 = .ok (.aload_n 0, 1) := by decide +kernel
theorem dT_expand_51 : decode bT_expand 51 = .ok (.getfield 24, 3) := by decide +kernel
theorem dT_expand_54 : decode bT_expand 54 = .ok (.iload_n 1, 1) := by decide +kernel
theorem dT_expand_55 : decode bT_expand 55 = .ok (.iaload, 1) := by decide +kernel
theorem dT_expand_56 : decode bT_expand 56 = .ok (.aload_n 0, 1) := by decide +kernel
theorem dT_expand_57 : decode bT_expand 57 = .ok (.getfield 9, 3) := by decide +kernel
theorem dT_expand_60 : decode bT_expand 60 = .ok (.iload_n 1, 1) := by decide +kernel
theorem dT_expand_61 : decode bT_expand 61 = .ok (.iaload, 1) := by decide +kernel
theorem dT_expand_62 : decode bT_expand 62 = .ok (.invokevirtual 96, 3) := by decide +kernel
theorem dT_expand_65 : decode bT_expand 65 = .ok (.iastore, 1) := by decide +kernel
theorem dT_expand_66 : decode bT_expand 66 = .ok (.aload_n 0, 1) := by decide +kernel
theorem dT_expand_67 : decode bT_expand 67 = .ok (.getfield 33, 3) := by decide +kernel
theorem dT_expand_70 : decode bT_expand 70 = .ok (.iload_n 1, 1) := by decide +kernel
theorem dT_expand_71 : decode bT_expand 71 = .ok (.aload_n 0, 1) := by decide +kernel
theorem dT_expand_72 : decode bT_expand 72 = .ok (.getfield 49, 3) := by decide +kernel
theorem dT_expand_75 : decode bT_expand 75 = .ok (.iastore, 1) := by decide +kernel
theorem dT_expand_76 : decode bT_expand 76 = .ok (.aload_n 0, 1) := by decide +kernel
theorem dT_expand_77 : decode bT_expand 77 = .ok (.getfield 27, 3) := by decide +kernel
theorem dT_expand_80 : decode bT_expand 80 = .ok (.iload_n 1, 1) := by decide +kernel
theorem dT_expand_81 : decode bT_expand 81 = .ok (.iaload, 1) := by decide +kernel
theorem dT_expand_82 : decode bT_expand 82 = .ok (.ifCond .ne 11, 3) := by decide +kernel
theorem dT_expand_85 : decode bT_expand 85 = .ok (.aload_n 0, 1) := by decide +kernel
theorem dT_expand_86 : decode bT_expand 86 = .ok (.iload_n 1, 1) := by decide +kernel
theorem dT_expand_87 : decode bT_expand 87 = .ok (.invokevirtual 99, 3) := by decide +kernel
theorem dT_expand_90 : decode bT_expand 90 = .ok (.goto 8, 3) := by decide +kernel
theorem dT_expand_93 : decode bT_expand 93 = .ok (.aload_n 0, 1) := by decide +kernel
theorem dT_expand_94 : decode bT_expand 94 = .ok (.iload_n 1, 1) := by decide +kernel
theorem dT_expand_95 : decode bT_expand 95 = .ok (.invokevirtual 102, 3) := by decide +kernel
theorem dT_expand_98 : decode bT_expand 98 = .ok (.istore_n 2, 1) := by decide +kernel
theorem dT_expand_99 : decode bT_expand 99 = .ok (.aload_n 0, 1) := by decide +kernel
theorem dT_expand_100 : decode bT_expand 100 = .ok (.getfield 36, 3) := by decide +kernel
theorem dT_expand_103 : decode bT_expand 103 = .ok (.iload_n 1, 1) := by decide +kernel
theorem dT_expand_104 : decode bT_expand 104 = .ok (.aload_n 0, 1) := by decide +kernel
theorem dT_expand_105 : decode bT_expand 105 = .ok (.getfield 49, 3) := by decide +kernel
theorem dT_expand_108 : decode bT_expand 108 = .ok (.aload_n 0, 1) := by decide +kernel
theorem dT_expand_109 : decode bT_expand 109 = .ok (.getfield 33, 3) := by decide +kernel
theorem dT_expand_112 : decode bT_expand 112 = .ok (.iload_n 1, 1) := by decide +kernel
theorem dT_expand_113 : decode bT_expand 113 = .ok (.iaload, 1) := by decide +kernel
theorem dT_expand_114 : decode bT_expand 114 = .ok (.isub, 1) := by decide +kernel
theorem dT_expand_115 : decode bT_expand 115 = .ok (.iastore, 1) := by decide +kernel
theorem dT_expand_116 : decode bT_expand 116 = .ok (.iload_n 2, 1) := by decide +kernel
theorem dT_expand_117 : decode bT_expand 117 = .ok (.ireturn, 1) := by decide +kernel
theorem dT_failingBranch_0 : decode bT_failingBranch 0 = .ok (.aload_n 0, 1) := by decide +kernel
theorem dT_failingBranch_1 : decode bT_failingBranch 1 = .ok (.iload_n 1, 1) := by decide +kernel
theorem dT_failingBranch_2 : decode bT_failingBranch 2 = .ok (.invokevirtual 68, 3) := by decide +kernel
theorem dT_failingBranch_5 : decode bT_failingBranch 5 = .ok (.ifCond .ne 5, 3) := by decide +kernel
theorem dT_failingBranch_8 : decode bT_failingBranch 8 = .ok (.iload_n 1, 1) := by decide +kernel
theorem dT_failingBranch_9 : decode bT_failingBranch 9 = .ok (.ireturn, 1) := by decide +kernel
theorem dT_failingBranch_10 : decode bT_failingBranch 10 = .ok (.iconst 0, 1) := by decide +kernel
theorem dT_failingBranch_11 : decode bT_failingBranch 11 = .ok (.istore_n 2, 1) := by decide +kernel
theorem dT_failingBranch_12 : decode bT_failingBranch 12 = .ok (.iload_n 2, 1) := by decide +kernel
theorem dT_failingBranch_13 : decode bT_failingBranch 13 = .ok (.aload_n 0, 1) := by decide +kernel
theorem dT_failingBranch_14 : decode bT_failingBranch 14 = .ok (.getfield 36, 3) := by decide +kernel
theorem dT_failingBranch_17 : decode bT_failingBranch 17 = .ok (.iload_n 1, 1) := by decide +kernel
theorem dT_failingBranch_18 : decode bT_failingBranch 18 = .ok (.iaload, 1) := by decide +kernel
theorem dT_failingBranch_19 : decode bT_failingBranch 19 = .ok (.if_icmp .ge 34, 3) := by decide +kernel
theorem dT_failingBranch_22 : decode bT_failingBranch 22 = .ok (.aload_n 0, 1) := by decide +kernel
theorem dT_failingBranch_23 : decode bT_failingBranch 23 = .ok (.getfield 42, 3) := by decide +kernel
theorem dT_failingBranch_26 : decode bT_failingBranch 26 = .ok (.aload_n 0, 1) := by decide +kernel
theorem dT_failingBranch_27 : decode bT_failingBranch 27 = .ok (.getfield 33, 3) := by decide +kernel
theorem dT_failingBranch_30 : decode bT_failingBranch 30 = .ok (.iload_n 1, 1) := by decide +kernel
theorem dT_failingBranch_31 : decode bT_failingBranch 31 = .ok (.iaload, 1) := by decide +kernel
theorem dT_failingBranch_32 : decode bT_failingBranch 32 = .ok (.iload_n 2, 1) := by decide +kernel
theorem dT_failingBranch_33 : decode bT_failingBranch 33 = .ok (.iadd, 1) := by decide +kernel
theorem dT_failingBranch_34 : decode bT_failingBranch 34 = .ok (.baload, 1) := by decide +kernel
theorem dT_failingBranch_35 : decode bT_failingBranch 35 = .ok (.ifCond .eq 12, 3) := by decide +kernel
theorem dT_failingBranch_38 : decode bT_failingBranch 38 = .ok (.aload_n 0, 1) := by decide +kernel
theorem dT_failingBranch_39 : decode bT_failingBranch 39 = .ok (.getfield 33, 3) := by decide +kernel
theorem dT_failingBranch_42 : decode bT_failingBranch 42 = .ok (.iload_n 1, 1) := by decide +kernel
theorem dT_failingBranch_43 : decode bT_failingBranch 43 = .ok (.iaload, 1) := by decide +kernel
theorem dT_failingBranch_44 : decode bT_failingBranch 44 = .ok (.iload_n 2, 1) := by decide +kernel
theorem dT_failingBranch_45 : decode bT_failingBranch 45 = .ok (.iadd, 1) := by decide +kernel
theorem dT_failingBranch_46 : decode bT_failingBranch 46 = .ok (.ireturn, 1) := by decide +kernel
theorem dT_failingBranch_47 : decode bT_failingBranch 47 = .ok (.iinc 2 1, 3) := by decide +kernel
theorem dT_failingBranch_50 : decode bT_failingBranch 50 = .ok (.goto (-38), 3) := by decide +kernel
theorem dT_failingBranch_53 : decode bT_failingBranch 53 = .ok (.iload_n 1, 1) := by decide +kernel
theorem dT_failingBranch_54 : decode bT_failingBranch 54 = .ok (.ireturn, 1) := by decide +kernel
theorem dT_markFailing_0 : decode bT_markFailing 0 = .ok (.aload_n 0, 1) := by decide +kernel
theorem dT_markFailing_1 : decode bT_markFailing 1 = .ok (.getfield 49, 3) := by decide +kernel
theorem dT_markFailing_4 : decode bT_markFailing 4 = .ok (.iconst 1, 1) := by decide +kernel
theorem dT_markFailing_5 : decode bT_markFailing 5 = .ok (.isub, 1) := by decide +kernel
theorem dT_markFailing_6 : decode bT_markFailing 6 = .ok (.istore_n 1, 1) := by decide +kernel
theorem dT_markFailing_7 : decode bT_markFailing 7 = .ok (.iload_n 1, 1) := by decide +kernel
theorem dT_markFailing_8 : decode bT_markFailing 8 = .ok (.ifCond .lt 66, 3) := by decide +kernel
theorem dT_markFailing_11 : decode bT_markFailing 11 = .ok (.aload_n 0, 1) := by decide +kernel
theorem dT_markFailing_12 : decode bT_markFailing 12 = .ok (.getfield 24, 3) := by decide +kernel
theorem dT_markFailing_15 : decode bT_markFailing 15 = .ok (.iload_n 1, 1) := by decide +kernel
theorem dT_markFailing_16 : decode bT_markFailing 16 = .ok (.iaload, 1) := by decide +kernel
theorem dT_markFailing_17 : decode bT_markFailing 17 = .ok (.ifCond .ne 7, 3) := by decide +kernel
theorem dT_markFailing_20 : decode bT_markFailing 20 = .ok (.iconst 1, 1) := by decide +kernel
theorem dT_markFailing_21 : decode bT_markFailing 21 = .ok (.goto 4, 3) := by decide +kernel
theorem dT_markFailing_24 : decode bT_markFailing 24 = .ok (.iconst 0, 1) := by decide +kernel
theorem dT_markFailing_25 : decode bT_markFailing 25 = .ok (.istore_n 2, 1) := by decide +kernel
theorem dT_markFailing_26 : decode bT_markFailing 26 = .ok (.aload_n 0, 1) := by decide +kernel
theorem dT_markFailing_27 : decode bT_markFailing 27 = .ok (.getfield 42, 3) := by decide +kernel
theorem dT_markFailing_30 : decode bT_markFailing 30 = .ok (.iload_n 1, 1) := by decide +kernel
theorem dT_markFailing_31 : decode bT_markFailing 31 = .ok (.iload_n 2, 1) := by decide +kernel
theorem dT_markFailing_32 : decode bT_markFailing 32 = .ok (.ifCond .eq 21, 3) := by decide +kernel
theorem dT_markFailing_35 : decode bT_markFailing 35 = .ok (.aload_n 0, 1) := by decide +kernel
theorem dT_markFailing_36 : decode bT_markFailing 36 = .ok (.getfield 30, 3) := by decide +kernel
theorem dT_markFailing_39 : decode bT_markFailing 39 = .ok (.iload_n 1, 1) := by decide +kernel
theorem dT_markFailing_40 : decode bT_markFailing 40 = .ok (.iaload, 1) := by decide +kernel
theorem dT_markFailing_41 : decode bT_markFailing 41 = .ok (.iconst (-1), 1) := by decide +kernel
theorem dT_markFailing_42 : decode bT_markFailing 42 = .ok (.if_icmp .ne 7, 3) := by decide +kernel
theorem dT_markFailing_45 : decode bT_markFailing 45 = .ok (.iconst 1, 1) := by decide +kernel
theorem dT_markFailing_46 : decode bT_markFailing 46 = .ok (.goto 21, 3) := by decide +kernel
theorem dT_markFailing_49 : decode bT_markFailing 49 = .ok (.iconst 0, 1) := by decide +kernel
theorem dT_markFailing_50 : decode bT_markFailing 50 = .ok (.goto 17, 3) := by decide +kernel
theorem dT_markFailing_53 : decode bT_markFailing 53 = .ok (.aload_n 0, 1) := by decide +kernel
theorem dT_markFailing_54 : decode bT_markFailing 54 = .ok (.iload_n 1, 1) := by decide +kernel
theorem dT_markFailing_55 : decode bT_markFailing 55 = .ok (.invokevirtual 135, 3) := by decide +kernel
theorem dT_markFailing_58 : decode bT_markFailing 58 = .ok (.iload_n 1, 1) := by decide +kernel
theorem dT_markFailing_59 : decode bT_markFailing 59 = .ok (.if_icmp .eq 7, 3) := by decide +kernel
theorem dT_markFailing_62 : decode bT_markFailing 62 = .ok (.iconst 1, 1) := by decide +kernel
theorem dT_markFailing_63 : decode bT_markFailing 63 = .ok (.goto 4, 3) := by decide +kernel
theorem dT_markFailing_66 : decode bT_markFailing 66 = .ok (.iconst 0, 1) := by decide +kernel
theorem dT_markFailing_67 : decode bT_markFailing 67 = .ok (.bastore, 1) := by decide +kernel
theorem dT_markFailing_68 : decode bT_markFailing 68 = .ok (.iinc 1 (-1), 3) := by decide +kernel
theorem dT_markFailing_71 : decode bT_markFailing 71 = .ok (.goto (-64), 3) := by decide +kernel
theorem dT_markFailing_74 : decode bT_markFailing 74 = .ok (.return_, 1) := by decide +kernel
theorem dT_grow_0 : decode bT_grow 0 = .ok (.aload_n 0, 1) := by decide +kernel
theorem dT_grow_1 : decode bT_grow 1 = .ok (.iconst 0, 1) := by decide +kernel
theorem dT_grow_2 : decode bT_grow 2 = .ok (.putfield 56, 3) := by decide +kernel
theorem dT_grow_5 : decode bT_grow 5 = .ok (.aload_n 0, 1) := by decide +kernel
theorem dT_grow_6 : decode bT_grow 6 = .ok (.iconst 0, 1) := by decide +kernel
theorem dT_grow_7 : decode bT_grow 7 = .ok (.putfield 49, 3) := by decide +kernel
theorem dT_grow_10 : decode bT_grow 10 = .ok (.aload_n 0, 1) := by decide +kernel
theorem dT_grow_11 : decode bT_grow 11 = .ok (.iconst 0, 1) := by decide +kernel
theorem dT_grow_12 : decode bT_grow 12 = .ok (.putfield 53, 3) := by decide +kernel
theorem dT_grow_15 : decode bT_grow 15 = .ok (.aload_n 0, 1) := by decide +kernel
theorem dT_grow_16 : decode bT_grow 16 = .ok (.iconst 0, 1) := by decide +kernel
theorem dT_grow_17 : decode bT_grow 17 = .ok (.aload_n 0, 1) := by decide +kernel
theorem dT_grow_18 : decode bT_grow 18 = .ok (.getfield 64, 3) := by decide +kernel
theorem dT_grow_21 : decode bT_grow 21 = .ok (.invokevirtual 72, 3) := by decide +kernel
theorem dT_grow_24 : decode bT_grow 24 = .ok (.iconst 2, 1) := by decide +kernel
theorem dT_grow_25 : decode bT_grow 25 = .ok (.iconst 0, 1) := by decide +kernel
theorem dT_grow_26 : decode bT_grow 26 = .ok (.invokevirtual 78, 3) := by decide +kernel
theorem dT_grow_29 : decode bT_grow 29 = .ok (.istore_n 1, 1) := by decide +kernel
theorem dT_grow_30 : decode bT_grow 30 = .ok (.iconst 0, 1) := by decide +kernel
theorem dT_grow_31 : decode bT_grow 31 = .ok (.istore_n 2, 1) := by decide +kernel
theorem dT_grow_32 : decode bT_grow 32 = .ok (.iload_n 2, 1) := by decide +kernel
theorem dT_grow_33 : decode bT_grow 33 = .ok (.bipush 60, 2) := by decide +kernel
theorem dT_grow_35 : decode bT_grow 35 = .ok (.if_icmp .ge 27, 3) := by decide +kernel
theorem dT_grow_38 : decode bT_grow 38 = .ok (.iload_n 2, 1) := by decide +kernel
theorem dT_grow_39 : decode bT_grow 39 = .ok (.aload_n 0, 1) := by decide +kernel
theorem dT_grow_40 : decode bT_grow 40 = .ok (.getfield 49, 3) := by decide +kernel
theorem dT_grow_43 : decode bT_grow 43 = .ok (.if_icmp .ge 19, 3) := by decide +kernel
theorem dT_grow_46 : decode bT_grow 46 = .ok (.iload_n 1, 1) := by decide +kernel
theorem dT_grow_47 : decode bT_grow 47 = .ok (.ifCond .eq 15, 3) := by decide +kernel
theorem dT_grow_50 : decode bT_grow 50 = .ok (.aload_n 0, 1) := by decide +kernel
theorem dT_grow_51 : decode bT_grow 51 = .ok (.iload_n 2, 1) := by decide +kernel
theorem dT_grow_52 : decode bT_grow 52 = .ok (.invokevirtual 82, 3) := by decide +kernel
theorem dT_grow_55 : decode bT_grow 55 = .ok (.istore_n 1, 1) := by decide +kernel
theorem dT_grow_56 : decode bT_grow 56 = .ok (.iinc 2 1, 3) := by decide +kernel
theorem dT_grow_59 : decode bT_grow 59 = .ok (.goto (-27), 3) := by decide +kernel
theorem dT_grow_62 : decode bT_grow 62 = .ok (.iload_n 1, 1) := by decide +kernel
theorem dT_grow_63 : decode bT_grow 63 = .ok (.ifCond .eq 12, 3) := by decide +kernel
theorem dT_grow_66 : decode bT_grow 66 = .ok (.aload_n 0, 1) := by decide +kernel
theorem dT_grow_67 : decode bT_grow 67 = .ok (.invokevirtual 85, 3) := by decide +kernel
theorem dT_grow_70 : decode bT_grow 70 = .ok (.aload_n 0, 1) := by decide +kernel
theorem dT_grow_71 : decode bT_grow 71 = .ok (.iconst 1, 1) := by decide +kernel
theorem dT_grow_72 : decode bT_grow 72 = .ok (.putfield 56, 3) := by decide +kernel
theorem dT_grow_75 : decode bT_grow 75 = .ok (.iload_n 1, 1) := by decide +kernel
theorem dT_grow_76 : decode bT_grow 76 = .ok (.ireturn, 1) := by decide +kernel
theorem dT_hasFailing_0 : decode bT_hasFailing 0 = .ok (.aload_n 0, 1) := by decide +kernel
theorem dT_hasFailing_1 : decode bT_hasFailing 1 = .ok (.getfield 49, 3) := by decide +kernel
theorem dT_hasFailing_4 : decode bT_hasFailing 4 = .ok (.ifCond .le 16, 3) := by decide +kernel
theorem dT_hasFailing_7 : decode bT_hasFailing 7 = .ok (.aload_n 0, 1) := by decide +kernel
theorem dT_hasFailing_8 : decode bT_hasFailing 8 = .ok (.getfield 42, 3) := by decide +kernel
theorem dT_hasFailing_11 : decode bT_hasFailing 11 = .ok (.iconst 0, 1) := by decide +kernel
theorem dT_hasFailing_12 : decode bT_hasFailing 12 = .ok (.baload, 1) := by decide +kernel
theorem dT_hasFailing_13 : decode bT_hasFailing 13 = .ok (.ifCond .eq 7, 3) := by decide +kernel
theorem dT_hasFailing_16 : decode bT_hasFailing 16 = .ok (.iconst 1, 1) := by decide +kernel
theorem dT_hasFailing_17 : decode bT_hasFailing 17 = .ok (.goto 4, 3) := by decide +kernel
theorem dT_hasFailing_20 : decode bT_hasFailing 20 = .ok (.iconst 0, 1) := by decide +kernel
theorem dT_hasFailing_21 : decode bT_hasFailing 21 = .ok (.ireturn, 1) := by decide +kernel
theorem dT_mostTests_0 : decode bT_mostTests 0 = .ok (.iconst 0, 1) := by decide +kernel
theorem dT_mostTests_1 : decode bT_mostTests 1 = .ok (.istore_n 1, 1) := by decide +kernel
theorem dT_mostTests_2 : decode bT_mostTests 2 = .ok (.iconst 0, 1) := by decide +kernel
theorem dT_mostTests_3 : decode bT_mostTests 3 = .ok (.istore_n 2, 1) := by decide +kernel
theorem dT_mostTests_4 : decode bT_mostTests 4 = .ok (.iload_n 2, 1) := by decide +kernel
theorem dT_mostTests_5 : decode bT_mostTests 5 = .ok (.aload_n 0, 1) := by decide +kernel
theorem dT_mostTests_6 : decode bT_mostTests 6 = .ok (.getfield 49, 3) := by decide +kernel
theorem dT_mostTests_9 : decode bT_mostTests 9 = .ok (.if_icmp .ge 20, 3) := by decide +kernel
theorem dT_mostTests_12 : decode bT_mostTests 12 = .ok (.iload_n 1, 1) := by decide +kernel
theorem dT_mostTests_13 : decode bT_mostTests 13 = .ok (.aload_n 0, 1) := by decide +kernel
theorem dT_mostTests_14 : decode bT_mostTests 14 = .ok (.getfield 21, 3) := by decide +kernel
theorem dT_mostTests_17 : decode bT_mostTests 17 = .ok (.iload_n 2, 1) := by decide +kernel
theorem dT_mostTests_18 : decode bT_mostTests 18 = .ok (.iaload, 1) := by decide +kernel
theorem dT_mostTests_19 : decode bT_mostTests 19 = .ok (.invokestatic 138, 3) := by decide +kernel
theorem dT_mostTests_22 : decode bT_mostTests 22 = .ok (.istore_n 1, 1) := by decide +kernel
theorem dT_mostTests_23 : decode bT_mostTests 23 = .ok (.iinc 2 1, 3) := by decide +kernel
theorem dT_mostTests_26 : decode bT_mostTests 26 = .ok (.goto (-22), 3) := by decide +kernel
theorem dT_mostTests_29 : decode bT_mostTests 29 = .ok (.iload_n 1, 1) := by decide +kernel
theorem dT_mostTests_30 : decode bT_mostTests 30 = .ok (.ireturn, 1) := by decide +kernel
theorem dT_alike_0 : decode bT_alike 0 = .ok (.aload_n 0, 1) := by decide +kernel
theorem dT_alike_1 : decode bT_alike 1 = .ok (.getfield 24, 3) := by decide +kernel
theorem dT_alike_4 : decode bT_alike 4 = .ok (.iload_n 1, 1) := by decide +kernel
theorem dT_alike_5 : decode bT_alike 5 = .ok (.iaload, 1) := by decide +kernel
theorem dT_alike_6 : decode bT_alike 6 = .ok (.aload_n 0, 1) := by decide +kernel
theorem dT_alike_7 : decode bT_alike 7 = .ok (.getfield 24, 3) := by decide +kernel
theorem dT_alike_10 : decode bT_alike 10 = .ok (.iload_n 2, 1) := by decide +kernel
theorem dT_alike_11 : decode bT_alike 11 = .ok (.iaload, 1) := by decide +kernel
theorem dT_alike_12 : decode bT_alike 12 = .ok (.if_icmp .ne 52, 3) := by decide +kernel
theorem dT_alike_15 : decode bT_alike 15 = .ok (.aload_n 0, 1) := by decide +kernel
theorem dT_alike_16 : decode bT_alike 16 = .ok (.getfield 27, 3) := by decide +kernel
theorem dT_alike_19 : decode bT_alike 19 = .ok (.iload_n 1, 1) := by decide +kernel
theorem dT_alike_20 : decode bT_alike 20 = .ok (.iaload, 1) := by decide +kernel
theorem dT_alike_21 : decode bT_alike 21 = .ok (.aload_n 0, 1) := by decide +kernel
theorem dT_alike_22 : decode bT_alike 22 = .ok (.getfield 27, 3) := by decide +kernel
theorem dT_alike_25 : decode bT_alike 25 = .ok (.iload_n 2, 1) := by decide +kernel
theorem dT_alike_26 : decode bT_alike 26 = .ok (.iaload, 1) := by decide +kernel
theorem dT_alike_27 : decode bT_alike 27 = .ok (.if_icmp .ne 37, 3) := by decide +kernel
theorem dT_alike_30 : decode bT_alike 30 = .ok (.aload_n 0, 1) := by decide +kernel
theorem dT_alike_31 : decode bT_alike 31 = .ok (.getfield 30, 3) := by decide +kernel
theorem dT_alike_34 : decode bT_alike 34 = .ok (.iload_n 1, 1) := by decide +kernel
theorem dT_alike_35 : decode bT_alike 35 = .ok (.iaload, 1) := by decide +kernel
theorem dT_alike_36 : decode bT_alike 36 = .ok (.aload_n 0, 1) := by decide +kernel
theorem dT_alike_37 : decode bT_alike 37 = .ok (.getfield 30, 3) := by decide +kernel
theorem dT_alike_40 : decode bT_alike 40 = .ok (.iload_n 2, 1) := by decide +kernel
theorem dT_alike_41 : decode bT_alike 41 = .ok (.iaload, 1) := by decide +kernel
theorem dT_alike_42 : decode bT_alike 42 = .ok (.if_icmp .ne 22, 3) := by decide +kernel
theorem dT_alike_45 : decode bT_alike 45 = .ok (.aload_n 0, 1) := by decide +kernel
theorem dT_alike_46 : decode bT_alike 46 = .ok (.getfield 36, 3) := by decide +kernel
theorem dT_alike_49 : decode bT_alike 49 = .ok (.iload_n 1, 1) := by decide +kernel
theorem dT_alike_50 : decode bT_alike 50 = .ok (.iaload, 1) := by decide +kernel
theorem dT_alike_51 : decode bT_alike 51 = .ok (.aload_n 0, 1) := by decide +kernel
theorem dT_alike_52 : decode bT_alike 52 = .ok (.getfield 36, 3) := by decide +kernel
theorem dT_alike_55 : decode bT_alike 55 = .ok (.iload_n 2, 1) := by decide +kernel
theorem dT_alike_56 : decode bT_alike 56 = .ok (.iaload, 1) := by decide +kernel
theorem dT_alike_57 : decode bT_alike 57 = .ok (.if_icmp .ne 7, 3) := by decide +kernel
theorem dT_alike_60 : decode bT_alike 60 = .ok (.iconst 1, 1) := by decide +kernel
theorem dT_alike_61 : decode bT_alike 61 = .ok (.goto 4, 3) := by decide +kernel
theorem dT_alike_64 : decode bT_alike 64 = .ok (.iconst 0, 1) := by decide +kernel
theorem dT_alike_65 : decode bT_alike 65 = .ok (.istore_n 3, 1) := by decide +kernel
theorem dT_alike_66 : decode bT_alike 66 = .ok (.iconst 0, 1) := by decide +kernel
theorem dT_alike_67 : decode bT_alike 67 = .ok (.istore 4, 2) := by decide +kernel
theorem dT_alike_69 : decode bT_alike 69 = .ok (.iload 4, 2) := by decide +kernel
theorem dT_alike_71 : decode bT_alike 71 = .ok (.aload_n 0, 1) := by decide +kernel
theorem dT_alike_72 : decode bT_alike 72 = .ok (.getfield 36, 3) := by decide +kernel
theorem dT_alike_75 : decode bT_alike 75 = .ok (.iload_n 1, 1) := by decide +kernel
theorem dT_alike_76 : decode bT_alike 76 = .ok (.iaload, 1) := by decide +kernel
theorem dT_alike_77 : decode bT_alike 77 = .ok (.if_icmp .ge 75, 3) := by decide +kernel
theorem dT_alike_80 : decode bT_alike 80 = .ok (.iload_n 3, 1) := by decide +kernel
theorem dT_alike_81 : decode bT_alike 81 = .ok (.ifCond .eq 71, 3) := by decide +kernel
theorem dT_alike_84 : decode bT_alike 84 = .ok (.aload_n 0, 1) := by decide +kernel
theorem dT_alike_85 : decode bT_alike 85 = .ok (.getfield 33, 3) := by decide +kernel
theorem dT_alike_88 : decode bT_alike 88 = .ok (.iload_n 1, 1) := by decide +kernel
theorem dT_alike_89 : decode bT_alike 89 = .ok (.iaload, 1) := by decide +kernel
theorem dT_alike_90 : decode bT_alike 90 = .ok (.iload 4, 2) := by decide +kernel
theorem dT_alike_92 : decode bT_alike 92 = .ok (.iadd, 1) := by decide +kernel
theorem dT_alike_93 : decode bT_alike 93 = .ok (.istore 5, 2) := by decide +kernel
theorem dT_alike_95 : decode bT_alike 95 = .ok (.aload_n 0, 1) := by decide +kernel
theorem dT_alike_96 : decode bT_alike 96 = .ok (.getfield 33, 3) := by decide +kernel
theorem dT_alike_99 : decode bT_alike 99 = .ok (.iload_n 2, 1) := by decide +kernel
theorem dT_alike_100 : decode bT_alike 100 = .ok (.iaload, 1) := by decide +kernel
theorem dT_alike_101 : decode bT_alike 101 = .ok (.iload 4, 2) := by decide +kernel
theorem dT_alike_103 : decode bT_alike 103 = .ok (.iadd, 1) := by decide +kernel
theorem dT_alike_104 : decode bT_alike 104 = .ok (.istore 6, 2) := by decide +kernel
theorem dT_alike_106 : decode bT_alike 106 = .ok (.aload_n 0, 1) := by decide +kernel
theorem dT_alike_107 : decode bT_alike 107 = .ok (.getfield 18, 3) := by decide +kernel
theorem dT_alike_110 : decode bT_alike 110 = .ok (.iload 5, 2) := by decide +kernel
theorem dT_alike_112 : decode bT_alike 112 = .ok (.iaload, 1) := by decide +kernel
theorem dT_alike_113 : decode bT_alike 113 = .ok (.aload_n 0, 1) := by decide +kernel
theorem dT_alike_114 : decode bT_alike 114 = .ok (.getfield 18, 3) := by decide +kernel
theorem dT_alike_117 : decode bT_alike 117 = .ok (.iload 6, 2) := by decide +kernel
theorem dT_alike_119 : decode bT_alike 119 = .ok (.iaload, 1) := by decide +kernel
theorem dT_alike_120 : decode bT_alike 120 = .ok (.if_icmp .ne 24, 3) := by decide +kernel
theorem dT_alike_123 : decode bT_alike 123 = .ok (.aload_n 0, 1) := by decide +kernel
theorem dT_alike_124 : decode bT_alike 124 = .ok (.getfield 39, 3) := by decide +kernel
theorem dT_alike_127 : decode bT_alike 127 = .ok (.iload 5, 2) := by decide +kernel
theorem dT_alike_129 : decode bT_alike 129 = .ok (.iaload, 1) := by decide +kernel
theorem dT_alike_130 : decode bT_alike 130 = .ok (.aload_n 0, 1) := by decide +kernel
theorem dT_alike_131 : decode bT_alike 131 = .ok (.getfield 39, 3) := by decide +kernel
theorem dT_alike_134 : decode bT_alike 134 = .ok (.iload 6, 2) := by decide +kernel
theorem dT_alike_136 : decode bT_alike 136 = .ok (.iaload, 1) := by decide +kernel
theorem dT_alike_137 : decode bT_alike 137 = .ok (.if_icmp .ne 7, 3) := by decide +kernel
theorem dT_alike_140 : decode bT_alike 140 = .ok (.iconst 1, 1) := by decide +kernel
theorem dT_alike_141 : decode bT_alike 141 = .ok (.goto 4, 3) := by decide +kernel
theorem dT_alike_144 : decode bT_alike 144 = .ok (.iconst 0, 1) := by decide +kernel
theorem dT_alike_145 : decode bT_alike 145 = .ok (.istore_n 3, 1) := by decide +kernel
theorem dT_alike_146 : decode bT_alike 146 = .ok (.iinc 4 1, 3) := by decide +kernel
theorem dT_alike_149 : decode bT_alike 149 = .ok (.goto (-80), 3) := by decide +kernel
theorem dT_alike_152 : decode bT_alike 152 = .ok (.iload_n 3, 1) := by decide +kernel
theorem dT_alike_153 : decode bT_alike 153 = .ok (.ireturn, 1) := by decide +kernel
theorem dT_countKinds_0 : decode bT_countKinds 0 = .ok (.iconst 0, 1) := by decide +kernel
theorem dT_countKinds_1 : decode bT_countKinds 1 = .ok (.istore_n 1, 1) := by decide +kernel
theorem dT_countKinds_2 : decode bT_countKinds 2 = .ok (.aload_n 0, 1) := by decide +kernel
theorem dT_countKinds_3 : decode bT_countKinds 3 = .ok (.getfield 49, 3) := by decide +kernel
theorem dT_countKinds_6 : decode bT_countKinds 6 = .ok (.iconst 1, 1) := by decide +kernel
theorem dT_countKinds_7 : decode bT_countKinds 7 = .ok (.isub, 1) := by decide +kernel
theorem dT_countKinds_8 : decode bT_countKinds 8 = .ok (.istore_n 2, 1) := by decide +kernel
theorem dT_countKinds_9 : decode bT_countKinds 9 = .ok (.iload_n 2, 1) := by decide +kernel
theorem dT_countKinds_10 : decode bT_countKinds 10 = .ok (.ifCond .lt 83, 3) := by decide +kernel
theorem dT_countKinds_13 : decode bT_countKinds 13 = .ok (.aload_n 0, 1) := by decide +kernel
theorem dT_countKinds_14 : decode bT_countKinds 14 = .ok (.getfield 39, 3) := by decide +kernel
theorem dT_countKinds_17 : decode bT_countKinds 17 = .ok (.iload_n 2, 1) := by decide +kernel
theorem dT_countKinds_18 : decode bT_countKinds 18 = .ok (.iload_n 2, 1) := by decide +kernel
theorem dT_countKinds_19 : decode bT_countKinds 19 = .ok (.iastore, 1) := by decide +kernel
theorem dT_countKinds_20 : decode bT_countKinds 20 = .ok (.aload_n 0, 1) := by decide +kernel
theorem dT_countKinds_21 : decode bT_countKinds 21 = .ok (.getfield 49, 3) := by decide +kernel
theorem dT_countKinds_24 : decode bT_countKinds 24 = .ok (.iconst 1, 1) := by decide +kernel
theorem dT_countKinds_25 : decode bT_countKinds 25 = .ok (.isub, 1) := by decide +kernel
theorem dT_countKinds_26 : decode bT_countKinds 26 = .ok (.istore_n 3, 1) := by decide +kernel
theorem dT_countKinds_27 : decode bT_countKinds 27 = .ok (.iload_n 3, 1) := by decide +kernel
theorem dT_countKinds_28 : decode bT_countKinds 28 = .ok (.iload_n 2, 1) := by decide +kernel
theorem dT_countKinds_29 : decode bT_countKinds 29 = .ok (.if_icmp .le 45, 3) := by decide +kernel
theorem dT_countKinds_32 : decode bT_countKinds 32 = .ok (.aload_n 0, 1) := by decide +kernel
theorem dT_countKinds_33 : decode bT_countKinds 33 = .ok (.getfield 39, 3) := by decide +kernel
theorem dT_countKinds_36 : decode bT_countKinds 36 = .ok (.iload_n 2, 1) := by decide +kernel
theorem dT_countKinds_37 : decode bT_countKinds 37 = .ok (.iaload, 1) := by decide +kernel
theorem dT_countKinds_38 : decode bT_countKinds 38 = .ok (.iload_n 2, 1) := by decide +kernel
theorem dT_countKinds_39 : decode bT_countKinds 39 = .ok (.if_icmp .ne 35, 3) := by decide +kernel
theorem dT_countKinds_42 : decode bT_countKinds 42 = .ok (.aload_n 0, 1) := by decide +kernel
theorem dT_countKinds_43 : decode bT_countKinds 43 = .ok (.getfield 39, 3) := by decide +kernel
theorem dT_countKinds_46 : decode bT_countKinds 46 = .ok (.iload_n 3, 1) := by decide +kernel
theorem dT_countKinds_47 : decode bT_countKinds 47 = .ok (.iaload, 1) := by decide +kernel
theorem dT_countKinds_48 : decode bT_countKinds 48 = .ok (.iload_n 3, 1) := by decide +kernel
theorem dT_countKinds_49 : decode bT_countKinds 49 = .ok (.if_icmp .ne 19, 3) := by decide +kernel
theorem dT_countKinds_52 : decode bT_countKinds 52 = .ok (.aload_n 0, 1) := by decide +kernel
theorem dT_countKinds_53 : decode bT_countKinds 53 = .ok (.iload_n 2, 1) := by decide +kernel
theorem dT_countKinds_54 : decode bT_countKinds 54 = .ok (.iload_n 3, 1) := by decide +kernel
theorem dT_countKinds_55 : decode bT_countKinds 55 = .ok (.invokevirtual 143, 3) := by decide +kernel
theorem dT_countKinds_58 : decode bT_countKinds 58 = .ok (.ifCond .eq 10, 3) := by decide +kernel
theorem dT_countKinds_61 : decode bT_countKinds 61 = .ok (.aload_n 0, 1) := by decide +kernel
theorem dT_countKinds_62 : decode bT_countKinds 62 = .ok (.getfield 39, 3) := by decide +kernel
theorem dT_countKinds_65 : decode bT_countKinds 65 = .ok (.iload_n 2, 1) := by decide +kernel
theorem dT_countKinds_66 : decode bT_countKinds 66 = .ok (.iload_n 3, 1) := by decide +kernel
theorem dT_countKinds_67 : decode bT_countKinds 67 = .ok (.iastore, 1) := by decide +kernel
theorem dT_countKinds_68 : decode bT_countKinds 68 = .ok (.iinc 3 (-1), 3) := by decide +kernel
theorem dT_countKinds_71 : decode bT_countKinds 71 = .ok (.goto (-44), 3) := by decide +kernel
theorem dT_countKinds_74 : decode bT_countKinds 74 = .ok (.aload_n 0, 1) := by decide +kernel
theorem dT_countKinds_75 : decode bT_countKinds 75 = .ok (.getfield 39, 3) := by decide +kernel
theorem dT_countKinds_78 : decode bT_countKinds 78 = .ok (.iload_n 2, 1) := by decide +kernel
theorem dT_countKinds_79 : decode bT_countKinds 79 = .ok (.iaload, 1) := by decide +kernel
theorem dT_countKinds_80 : decode bT_countKinds 80 = .ok (.iload_n 2, 1) := by decide +kernel
theorem dT_countKinds_81 : decode bT_countKinds 81 = .ok (.if_icmp .ne 6, 3) := by decide +kernel
theorem dT_countKinds_84 : decode bT_countKinds 84 = .ok (.iinc 1 1, 3) := by decide +kernel
theorem dT_countKinds_87 : decode bT_countKinds 87 = .ok (.iinc 2 (-1), 3) := by decide +kernel
theorem dT_countKinds_90 : decode bT_countKinds 90 = .ok (.goto (-81), 3) := by decide +kernel
theorem dT_countKinds_93 : decode bT_countKinds 93 = .ok (.iload_n 1, 1) := by decide +kernel
theorem dT_countKinds_94 : decode bT_countKinds 94 = .ok (.ireturn, 1) := by decide +kernel
theorem dT_branchFor_0 : decode bT_branchFor 0 = .ok (.aload_n 0, 1) := by decide +kernel
theorem dT_branchFor_1 : decode bT_branchFor 1 = .ok (.getfield 33, 3) := by decide +kernel
theorem dT_branchFor_4 : decode bT_branchFor 4 = .ok (.iload_n 1, 1) := by decide +kernel
theorem dT_branchFor_5 : decode bT_branchFor 5 = .ok (.iaload, 1) := by decide +kernel
theorem dT_branchFor_6 : decode bT_branchFor 6 = .ok (.aload_n 0, 1) := by decide +kernel
theorem dT_branchFor_7 : decode bT_branchFor 7 = .ok (.getfield 36, 3) := by decide +kernel
theorem dT_branchFor_10 : decode bT_branchFor 10 = .ok (.iload_n 1, 1) := by decide +kernel
theorem dT_branchFor_11 : decode bT_branchFor 11 = .ok (.iaload, 1) := by decide +kernel
theorem dT_branchFor_12 : decode bT_branchFor 12 = .ok (.iadd, 1) := by decide +kernel
theorem dT_branchFor_13 : decode bT_branchFor 13 = .ok (.iconst 1, 1) := by decide +kernel
theorem dT_branchFor_14 : decode bT_branchFor 14 = .ok (.isub, 1) := by decide +kernel
theorem dT_branchFor_15 : decode bT_branchFor 15 = .ok (.istore_n 3, 1) := by decide +kernel
theorem dT_branchFor_16 : decode bT_branchFor 16 = .ok (.aload_n 0, 1) := by decide +kernel
theorem dT_branchFor_17 : decode bT_branchFor 17 = .ok (.getfield 33, 3) := by decide +kernel
theorem dT_branchFor_20 : decode bT_branchFor 20 = .ok (.iload_n 1, 1) := by decide +kernel
theorem dT_branchFor_21 : decode bT_branchFor 21 = .ok (.iaload, 1) := by decide +kernel
theorem dT_branchFor_22 : decode bT_branchFor 22 = .ok (.istore 4, 2) := by decide +kernel
theorem dT_branchFor_24 : decode bT_branchFor 24 = .ok (.iload 4, 2) := by decide +kernel
theorem dT_branchFor_26 : decode bT_branchFor 26 = .ok (.iload_n 3, 1) := by decide +kernel
theorem dT_branchFor_27 : decode bT_branchFor 27 = .ok (.if_icmp .ge 23, 3) := by decide +kernel
theorem dT_branchFor_30 : decode bT_branchFor 30 = .ok (.aload_n 0, 1) := by decide +kernel
theorem dT_branchFor_31 : decode bT_branchFor 31 = .ok (.getfield 18, 3) := by decide +kernel
theorem dT_branchFor_34 : decode bT_branchFor 34 = .ok (.iload 4, 2) := by decide +kernel
theorem dT_branchFor_36 : decode bT_branchFor 36 = .ok (.iaload, 1) := by decide +kernel
theorem dT_branchFor_37 : decode bT_branchFor 37 = .ok (.iload_n 2, 1) := by decide +kernel
theorem dT_branchFor_38 : decode bT_branchFor 38 = .ok (.if_icmp .ne 6, 3) := by decide +kernel
theorem dT_branchFor_41 : decode bT_branchFor 41 = .ok (.iload 4, 2) := by decide +kernel
theorem dT_branchFor_43 : decode bT_branchFor 43 = .ok (.ireturn, 1) := by decide +kernel
theorem dT_branchFor_44 : decode bT_branchFor 44 = .ok (.iinc 4 1, 3) := by decide +kernel
theorem dT_branchFor_47 : decode bT_branchFor 47 = .ok (.goto (-23), 3) := by decide +kernel
theorem dT_branchFor_50 : decode bT_branchFor 50 = .ok (.iload_n 3, 1) := by decide +kernel
theorem dT_branchFor_51 : decode bT_branchFor 51 = .ok (.ireturn, 1) := by decide +kernel
theorem dT_leafFor_0 : decode bT_leafFor 0 = .ok (.iconst 0, 1) := by decide +kernel
theorem dT_leafFor_1 : decode bT_leafFor 1 = .ok (.istore_n 3, 1) := by decide +kernel
theorem dT_leafFor_2 : decode bT_leafFor 2 = .ok (.aload_n 0, 1) := by decide +kernel
theorem dT_leafFor_3 : decode bT_leafFor 3 = .ok (.getfield 46, 3) := by decide +kernel
theorem dT_leafFor_6 : decode bT_leafFor 6 = .ok (.iconst 1, 1) := by decide +kernel
theorem dT_leafFor_7 : decode bT_leafFor 7 = .ok (.iload_n 2, 1) := by decide +kernel
theorem dT_leafFor_8 : decode bT_leafFor 8 = .ok (.iastore, 1) := by decide +kernel
theorem dT_leafFor_9 : decode bT_leafFor 9 = .ok (.iconst 0, 1) := by decide +kernel
theorem dT_leafFor_10 : decode bT_leafFor 10 = .ok (.istore 4, 2) := by decide +kernel
theorem dT_leafFor_12 : decode bT_leafFor 12 = .ok (.iload 4, 2) := by decide +kernel
theorem dT_leafFor_14 : decode bT_leafFor 14 = .ok (.bipush 16, 2) := by decide +kernel
theorem dT_leafFor_16 : decode bT_leafFor 16 = .ok (.if_icmp .ge 78, 3) := by decide +kernel
theorem dT_leafFor_19 : decode bT_leafFor 19 = .ok (.aload_n 0, 1) := by decide +kernel
theorem dT_leafFor_20 : decode bT_leafFor 20 = .ok (.iload_n 3, 1) := by decide +kernel
theorem dT_leafFor_21 : decode bT_leafFor 21 = .ok (.invokevirtual 147, 3) := by decide +kernel
theorem dT_leafFor_24 : decode bT_leafFor 24 = .ok (.ifCond .eq 70, 3) := by decide +kernel
theorem dT_leafFor_27 : decode bT_leafFor 27 = .ok (.aload_n 0, 1) := by decide +kernel
theorem dT_leafFor_28 : decode bT_leafFor 28 = .ok (.getfield 24, 3) := by decide +kernel
theorem dT_leafFor_31 : decode bT_leafFor 31 = .ok (.iload_n 3, 1) := by decide +kernel
theorem dT_leafFor_32 : decode bT_leafFor 32 = .ok (.iaload, 1) := by decide +kernel
theorem dT_leafFor_33 : decode bT_leafFor 33 = .ok (.istore 5, 2) := by decide +kernel
theorem dT_leafFor_35 : decode bT_leafFor 35 = .ok (.aload_n 0, 1) := by decide +kernel
theorem dT_leafFor_36 : decode bT_leafFor 36 = .ok (.getfield 46, 3) := by decide +kernel
theorem dT_leafFor_39 : decode bT_leafFor 39 = .ok (.iload 5, 2) := by decide +kernel
theorem dT_leafFor_41 : decode bT_leafFor 41 = .ok (.iaload, 1) := by decide +kernel
theorem dT_leafFor_42 : decode bT_leafFor 42 = .ok (.istore 6, 2) := by decide +kernel
theorem dT_leafFor_44 : decode bT_leafFor 44 = .ok (.aload_n 0, 1) := by decide +kernel
theorem dT_leafFor_45 : decode bT_leafFor 45 = .ok (.getfield 46, 3) := by decide +kernel
theorem dT_leafFor_48 : decode bT_leafFor 48 = .ok (.iconst 2, 1) := by decide +kernel
theorem dT_leafFor_49 : decode bT_leafFor 49 = .ok (.iload 5, 2) := by decide +kernel
theorem dT_leafFor_51 : decode bT_leafFor 51 = .ok (.imul, 1) := by decide +kernel
theorem dT_leafFor_52 : decode bT_leafFor 52 = .ok (.aload_n 1, 1) := by decide +kernel
theorem dT_leafFor_53 : decode bT_leafFor 53 = .ok (.iload 6, 2) := by decide +kernel
theorem dT_leafFor_55 : decode bT_leafFor 55 = .ok (.invokevirtual 150, 3) := by decide +kernel
theorem dT_leafFor_58 : decode bT_leafFor 58 = .ok (.iastore, 1) := by decide +kernel
theorem dT_leafFor_59 : decode bT_leafFor 59 = .ok (.aload_n 0, 1) := by decide +kernel
theorem dT_leafFor_60 : decode bT_leafFor 60 = .ok (.getfield 46, 3) := by decide +kernel
theorem dT_leafFor_63 : decode bT_leafFor 63 = .ok (.iconst 2, 1) := by decide +kernel
theorem dT_leafFor_64 : decode bT_leafFor 64 = .ok (.iload 5, 2) := by decide +kernel
theorem dT_leafFor_66 : decode bT_leafFor 66 = .ok (.imul, 1) := by decide +kernel
theorem dT_leafFor_67 : decode bT_leafFor 67 = .ok (.iconst 1, 1) := by decide +kernel
theorem dT_leafFor_68 : decode bT_leafFor 68 = .ok (.iadd, 1) := by decide +kernel
theorem dT_leafFor_69 : decode bT_leafFor 69 = .ok (.aload_n 1, 1) := by decide +kernel
theorem dT_leafFor_70 : decode bT_leafFor 70 = .ok (.iload 6, 2) := by decide +kernel
theorem dT_leafFor_72 : decode bT_leafFor 72 = .ok (.invokevirtual 153, 3) := by decide +kernel
theorem dT_leafFor_75 : decode bT_leafFor 75 = .ok (.iastore, 1) := by decide +kernel
theorem dT_leafFor_76 : decode bT_leafFor 76 = .ok (.aload_n 0, 1) := by decide +kernel
theorem dT_leafFor_77 : decode bT_leafFor 77 = .ok (.iload_n 3, 1) := by decide +kernel
theorem dT_leafFor_78 : decode bT_leafFor 78 = .ok (.aload_n 1, 1) := by decide +kernel
theorem dT_leafFor_79 : decode bT_leafFor 79 = .ok (.iload 6, 2) := by decide +kernel
theorem dT_leafFor_81 : decode bT_leafFor 81 = .ok (.invokevirtual 156, 3) := by decide +kernel
theorem dT_leafFor_84 : decode bT_leafFor 84 = .ok (.invokevirtual 159, 3) := by decide +kernel
theorem dT_leafFor_87 : decode bT_leafFor 87 = .ok (.istore_n 3, 1) := by decide +kernel
theorem dT_leafFor_88 : decode bT_leafFor 88 = .ok (.iinc 4 1, 3) := by decide +kernel
theorem dT_leafFor_91 : decode bT_leafFor 91 = .ok (.goto (-79), 3) := by decide +kernel
theorem dT_leafFor_94 : decode bT_leafFor 94 = .ok (.iload_n 3, 1) := by decide +kernel
theorem dT_leafFor_95 : decode bT_leafFor 95 = .ok (.ireturn, 1) := by decide +kernel
theorem dT_lastBranch_0 : decode bT_lastBranch 0 = .ok (.aload_n 0, 1) := by decide +kernel
theorem dT_lastBranch_1 : decode bT_lastBranch 1 = .ok (.iload_n 1, 1) := by decide +kernel
theorem dT_lastBranch_2 : decode bT_lastBranch 2 = .ok (.invokevirtual 68, 3) := by decide +kernel
theorem dT_lastBranch_5 : decode bT_lastBranch 5 = .ok (.ifCond .eq 21, 3) := by decide +kernel
theorem dT_lastBranch_8 : decode bT_lastBranch 8 = .ok (.aload_n 0, 1) := by decide +kernel
theorem dT_lastBranch_9 : decode bT_lastBranch 9 = .ok (.getfield 33, 3) := by decide +kernel
theorem dT_lastBranch_12 : decode bT_lastBranch 12 = .ok (.iload_n 1, 1) := by decide +kernel
theorem dT_lastBranch_13 : decode bT_lastBranch 13 = .ok (.iaload, 1) := by decide +kernel
theorem dT_lastBranch_14 : decode bT_lastBranch 14 = .ok (.aload_n 0, 1) := by decide +kernel
theorem dT_lastBranch_15 : decode bT_lastBranch 15 = .ok (.getfield 36, 3) := by decide +kernel
theorem dT_lastBranch_18 : decode bT_lastBranch 18 = .ok (.iload_n 1, 1) := by decide +kernel
theorem dT_lastBranch_19 : decode bT_lastBranch 19 = .ok (.iaload, 1) := by decide +kernel
theorem dT_lastBranch_20 : decode bT_lastBranch 20 = .ok (.iadd, 1) := by decide +kernel
theorem dT_lastBranch_21 : decode bT_lastBranch 21 = .ok (.iconst 1, 1) := by decide +kernel
theorem dT_lastBranch_22 : decode bT_lastBranch 22 = .ok (.isub, 1) := by decide +kernel
theorem dT_lastBranch_23 : decode bT_lastBranch 23 = .ok (.goto 4, 3) := by decide +kernel
theorem dT_lastBranch_26 : decode bT_lastBranch 26 = .ok (.iload_n 1, 1) := by decide +kernel
theorem dT_lastBranch_27 : decode bT_lastBranch 27 = .ok (.ireturn, 1) := by decide +kernel
theorem dT_leastWithoutBranch_0 : decode bT_leastWithoutBranch 0 = .ok (.aload_n 0, 1) := by decide +kernel
theorem dT_leastWithoutBranch_1 : decode bT_leastWithoutBranch 1 = .ok (.iload_n 1, 1) := by decide +kernel
theorem dT_leastWithoutBranch_2 : decode bT_leastWithoutBranch 2 = .ok (.invokevirtual 68, 3) := by decide +kernel
theorem dT_leastWithoutBranch_5 : decode bT_leastWithoutBranch 5 = .ok (.ifCond .ne 5, 3) := by decide +kernel
theorem dT_leastWithoutBranch_8 : decode bT_leastWithoutBranch 8 = .ok (.iconst 0, 1) := by decide +kernel
theorem dT_leastWithoutBranch_9 : decode bT_leastWithoutBranch 9 = .ok (.ireturn, 1) := by decide +kernel
theorem dT_leastWithoutBranch_10 : decode bT_leastWithoutBranch 10 = .ok (.aload_n 0, 1) := by decide +kernel
theorem dT_leastWithoutBranch_11 : decode bT_leastWithoutBranch 11 = .ok (.iload_n 1, 1) := by decide +kernel
theorem dT_leastWithoutBranch_12 : decode bT_leastWithoutBranch 12 = .ok (.invokevirtual 162, 3) := by decide +kernel
theorem dT_leastWithoutBranch_15 : decode bT_leastWithoutBranch 15 = .ok (.istore_n 2, 1) := by decide +kernel
theorem dT_leastWithoutBranch_16 : decode bT_leastWithoutBranch 16 = .ok (.iconst 0, 1) := by decide +kernel
theorem dT_leastWithoutBranch_17 : decode bT_leastWithoutBranch 17 = .ok (.istore_n 3, 1) := by decide +kernel
theorem dT_leastWithoutBranch_18 : decode bT_leastWithoutBranch 18 = .ok (.iconst 0, 1) := by decide +kernel
theorem dT_leastWithoutBranch_19 : decode bT_leastWithoutBranch 19 = .ok (.istore 4, 2) := by decide +kernel
theorem dT_leastWithoutBranch_21 : decode bT_leastWithoutBranch 21 = .ok (.iload 4, 2) := by decide +kernel
theorem dT_leastWithoutBranch_23 : decode bT_leastWithoutBranch 23 = .ok (.bipush 16, 2) := by decide +kernel
theorem dT_leastWithoutBranch_25 : decode bT_leastWithoutBranch 25 = .ok (.if_icmp .ge 22, 3) := by decide +kernel
theorem dT_leastWithoutBranch_28 : decode bT_leastWithoutBranch 28 = .ok (.aload_n 0, 1) := by decide +kernel
theorem dT_leastWithoutBranch_29 : decode bT_leastWithoutBranch 29 = .ok (.iload_n 1, 1) := by decide +kernel
theorem dT_leastWithoutBranch_30 : decode bT_leastWithoutBranch 30 = .ok (.iload_n 3, 1) := by decide +kernel
theorem dT_leastWithoutBranch_31 : decode bT_leastWithoutBranch 31 = .ok (.invokevirtual 159, 3) := by decide +kernel
theorem dT_leastWithoutBranch_34 : decode bT_leastWithoutBranch 34 = .ok (.iload_n 2, 1) := by decide +kernel
theorem dT_leastWithoutBranch_35 : decode bT_leastWithoutBranch 35 = .ok (.if_icmp .eq 12, 3) := by decide +kernel
theorem dT_leastWithoutBranch_38 : decode bT_leastWithoutBranch 38 = .ok (.iinc 3 1, 3) := by decide +kernel
theorem dT_leastWithoutBranch_41 : decode bT_leastWithoutBranch 41 = .ok (.iinc 4 1, 3) := by decide +kernel
theorem dT_leastWithoutBranch_44 : decode bT_leastWithoutBranch 44 = .ok (.goto (-23), 3) := by decide +kernel
theorem dT_leastWithoutBranch_47 : decode bT_leastWithoutBranch 47 = .ok (.iload_n 3, 1) := by decide +kernel
theorem dT_leastWithoutBranch_48 : decode bT_leastWithoutBranch 48 = .ok (.ireturn, 1) := by decide +kernel
section Stree
variable {p : Program} {l : Launch} {e : Env} {R : Room} {s : State} {m : MethodId} {args : Array Value} {below : List Frame} {meth : Method} {c : Code} {Q : State → Prop} {D : va_G} {cA : Nat → ClassId} {ad : Nat → Nat} {H0 : Heap}
def fT_drop (st : ck_S) : Option ck_S := (some (ck_u st 5 16 (0 : Int32)))
set_option maxRecDepth 100000 in
set_option maxHeartbeats 4000000 in
theorem cT_drop (l : Launch) (D : va_G) (cA : Nat → ClassId) (ad : Nat → Nat) {st : ck_S} {st0 : ck_S} (hf : fT_drop st = some st0) : Met l yT_drop (.code yT_drop bT_drop 1 none :: ck_T) (ck_R 0) (va_Pc [.ref (ad 5)] (ck_P sh_C cm_cl D cA ad st)) (va_Qv (fun u => u = st0) (ck_P sh_C cm_cl D cA ad) (ck_A ad sh_C.length)) 0 0 (ck_A ad sh_C.length) := by
  refine ck_met_v (own := R_T) (by decide +kernel) rfl (Nat.le_of_ble_eq_true rfl) (fun p e R s m args below meth c H0 Q ls C hret h hl => ?_)
  have C1 := C
  obtain ⟨hx, hb, hml, hown, hts, hK, hlv, hlo⟩ := C1
  have hl : lv_has ls 1 [(0, .ref (ad 5))] := hl
  unfold fT_drop at hf
  refine lv_aload_n hx hb dT_drop_0 rfl (lv_at hl 0 rfl) ?_
  refine lv_iconst (v := 0) hx hb dT_drop_1 (by decide) ?_
  refine ck_pi C h GT_there (ck_nz ck_z0) rfl dT_drop_2 (fun H locs h => ?_)
  exact ck_rv hf hret h dT_drop_5
def fT_isThere (st : ck_S) : Option (Int32 × ck_S) := (ck_gz (st 5 16) (some ((st 5 16), st)))
set_option maxRecDepth 100000 in
set_option maxHeartbeats 4000000 in
theorem cT_isThere (l : Launch) (D : va_G) (cA : Nat → ClassId) (ad : Nat → Nat) {st : ck_S} {r0 : Int32} {st0 : ck_S} (hf : fT_isThere st = some (r0, st0)) : Met l yT_isThere (.code yT_isThere bT_isThere 1 (some .boolean) :: ck_T) (ck_R 0) (va_Pc [.ref (ad 5)] (ck_P sh_C cm_cl D cA ad st)) (va_Qi (fun a u => a = r0 ∧ u = st0) (ck_P sh_C cm_cl D cA ad) (ck_A ad sh_C.length)) 0 0 (ck_A ad sh_C.length) := by
  refine ck_met_z (own := R_T) (by decide +kernel) rfl (Nat.le_of_ble_eq_true rfl) (fun p e R s m args below meth c H0 Q ls C hret h hl => ?_)
  have C1 := C
  obtain ⟨hx, hb, hml, hown, hts, hK, hlv, hlo⟩ := C1
  have hl : lv_has ls 1 [(0, .ref (ad 5))] := hl
  unfold fT_isThere at hf
  refine lv_aload_n hx hb dT_isThere_0 rfl (lv_at hl 0 rfl) ?_
  refine ck_gi (x := (st 5 16)) C h FT_there rfl dT_isThere_1 ?_
  obtain ⟨hz, hf⟩ := ck_gz_e hf
  exact ck_rz hf hret hz h dT_isThere_4
def fT_size (st : ck_S) : Option (Int32 × ck_S) := (some ((st 5 14), st))
set_option maxRecDepth 100000 in
set_option maxHeartbeats 4000000 in
theorem cT_size (l : Launch) (D : va_G) (cA : Nat → ClassId) (ad : Nat → Nat) {st : ck_S} {r0 : Int32} {st0 : ck_S} (hf : fT_size st = some (r0, st0)) : Met l yT_size (.code yT_size bT_size 1 (some .int) :: ck_T) (ck_R 0) (va_Pc [.ref (ad 5)] (ck_P sh_C cm_cl D cA ad st)) (va_Qi (fun a u => a = r0 ∧ u = st0) (ck_P sh_C cm_cl D cA ad) (ck_A ad sh_C.length)) 0 0 (ck_A ad sh_C.length) := by
  refine ck_met_i (own := R_T) (by decide +kernel) rfl (Nat.le_of_ble_eq_true rfl) (fun p e R s m args below meth c H0 Q ls C hret h hl => ?_)
  have C1 := C
  obtain ⟨hx, hb, hml, hown, hts, hK, hlv, hlo⟩ := C1
  have hl : lv_has ls 1 [(0, .ref (ad 5))] := hl
  unfold fT_size at hf
  refine lv_aload_n hx hb dT_size_0 rfl (lv_at hl 0 rfl) ?_
  refine ck_gi (x := (st 5 14)) C h FT_size rfl dT_size_1 ?_
  exact ck_ri hf hret h dT_size_4
def fT_caught (st : ck_S) : Option (Int32 × ck_S) := (some ((st 5 15), st))
set_option maxRecDepth 100000 in
set_option maxHeartbeats 4000000 in
theorem cT_caught (l : Launch) (D : va_G) (cA : Nat → ClassId) (ad : Nat → Nat) {st : ck_S} {r0 : Int32} {st0 : ck_S} (hf : fT_caught st = some (r0, st0)) : Met l yT_caught (.code yT_caught bT_caught 1 (some .int) :: ck_T) (ck_R 0) (va_Pc [.ref (ad 5)] (ck_P sh_C cm_cl D cA ad st)) (va_Qi (fun a u => a = r0 ∧ u = st0) (ck_P sh_C cm_cl D cA ad) (ck_A ad sh_C.length)) 0 0 (ck_A ad sh_C.length) := by
  refine ck_met_i (own := R_T) (by decide +kernel) rfl (Nat.le_of_ble_eq_true rfl) (fun p e R s m args below meth c H0 Q ls C hret h hl => ?_)
  have C1 := C
  obtain ⟨hx, hb, hml, hown, hts, hK, hlv, hlo⟩ := C1
  have hl : lv_has ls 1 [(0, .ref (ad 5))] := hl
  unfold fT_caught at hf
  refine lv_aload_n hx hb dT_caught_0 rfl (lv_at hl 0 rfl) ?_
  refine ck_gi (x := (st 5 15)) C h FT_caught rfl dT_caught_1 ?_
  exact ck_ri hf hret h dT_caught_4
def fT_has (x1 : Int32) (st : ck_S) : Option (Int32 × ck_S) := (if x1 < 0 then (some ((0 : Int32), st)) else (if (st 5 14) ≤ x1 then (some ((0 : Int32), st)) else (some ((1 : Int32), st))))
set_option maxRecDepth 100000 in
set_option maxHeartbeats 4000000 in
theorem cT_has (l : Launch) (D : va_G) (cA : Nat → ClassId) (ad : Nat → Nat) {x1 : Int32} {st : ck_S} {r0 : Int32} {st0 : ck_S} (hf : fT_has x1 st = some (r0, st0)) : Met l yT_has (.code yT_has bT_has 2 (some .boolean) :: ck_T) (ck_R 0) (va_Pc [.ref (ad 5), .int x1] (ck_P sh_C cm_cl D cA ad st)) (va_Qi (fun a u => a = r0 ∧ u = st0) (ck_P sh_C cm_cl D cA ad) (ck_A ad sh_C.length)) 0 0 (ck_A ad sh_C.length) := by
  refine ck_met_z (own := R_T) (by decide +kernel) rfl (Nat.le_of_ble_eq_true rfl) (fun p e R s m args below meth c H0 Q ls C hret h hl => ?_)
  have C1 := C
  obtain ⟨hx, hb, hml, hown, hts, hK, hlv, hlo⟩ := C1
  have hl : lv_has ls 2 [(0, .ref (ad 5)), (1, .int x1)] := hl
  unfold fT_has at hf
  refine lv_iload_n hx hb dT_has_0 rfl (lv_at hl 1 rfl) ?_
  refine lv_if_lt (tgt := 16) hx hb dT_has_1 rfl (fun hq => ?_) (fun hq => ?_)
  · have hf := ck_t hq hf
    refine lv_iconst (v := 0) hx hb dT_has_16 (by decide) ?_
    exact ck_rz hf hret ck_z0 h dT_has_17
  · have hf := ck_f hq hf
    refine lv_iload_n hx hb dT_has_4 rfl (lv_at hl 1 rfl) ?_
    refine lv_aload_n hx hb dT_has_5 rfl (lv_at hl 0 rfl) ?_
    refine ck_gi (x := (st 5 14)) C h FT_size rfl dT_has_6 ?_
    refine lv_icmp_ge (tgt := 16) hx hb dT_has_9 rfl (fun hq => ?_) (fun hq => ?_)
    · have hf := ck_t hq hf
      refine lv_iconst (v := 0) hx hb dT_has_16 (by decide) ?_
      exact ck_rz hf hret ck_z0 h dT_has_17
    · have hf := ck_f hq hf
      refine lv_iconst (v := 1) hx hb dT_has_12 (by decide) ?_
      refine lv_goto (tgt := 17) hx hb dT_has_13 rfl ?_
      exact ck_rz hf hret ck_z1 h dT_has_17
def fT_testsAbove (x1 : Int32) (st : ck_S) : Option (Int32 × ck_S) := (ck_b (fT_has x1 st) fun v2 st1 => (if v2 = 0 then (some ((0 : Int32), st1)) else (ck_gd x1 60 (some ((st1 29 (x1).toNatClampNeg), st1)))))
set_option maxRecDepth 100000 in
set_option maxHeartbeats 4000000 in
theorem cT_testsAbove (l : Launch) (D : va_G) (cA : Nat → ClassId) (ad : Nat → Nat) {x1 : Int32} {st : ck_S} {r0 : Int32} {st0 : ck_S} (hf : fT_testsAbove x1 st = some (r0, st0)) : Met l yT_testsAbove (.code yT_testsAbove bT_testsAbove 2 (some .int) :: ck_T) (ck_R 1) (va_Pc [.ref (ad 5), .int x1] (ck_P sh_C cm_cl D cA ad st)) (va_Qi (fun a u => a = r0 ∧ u = st0) (ck_P sh_C cm_cl D cA ad) (ck_A ad sh_C.length)) 0 0 (ck_A ad sh_C.length) := by
  refine ck_met_i (own := R_T) (by decide +kernel) rfl (Nat.le_of_ble_eq_true rfl) (fun p e R s m args below meth c H0 Q ls C hret h hl => ?_)
  have C1 := C
  obtain ⟨hx, hb, hml, hown, hts, hK, hlv, hlo⟩ := C1
  have hl : lv_has ls 2 [(0, .ref (ad 5)), (1, .int x1)] := hl
  unfold fT_testsAbove at hf
  refine lv_aload_n hx hb dT_testsAbove_0 rfl (lv_at hl 0 rfl) ?_
  refine lv_iload_n hx hb dT_testsAbove_1 rfl (lv_at hl 1 rfl) ?_
  obtain ⟨v2, st1, hc, hf⟩ := ck_b_e hf
  refine ck_vi (As := [.int x1]) (rest := []) (q := 5) C h hl CT_T_has sT_has q_T (cT_has l D cA ad hc) (Nat.le_of_ble_eq_true rfl) rfl rfl (Nat.le_of_ble_eq_true rfl) dT_testsAbove_2 (fun H locs h => ?_)
  refine lv_if_eq (tgt := 17) hx hb dT_testsAbove_5 rfl (fun hq => ?_) (fun hq => ?_)
  · have hf := ck_t hq hf
    refine lv_iconst (v := 0) hx hb dT_testsAbove_17 (by decide) ?_
    exact ck_ri hf hret h dT_testsAbove_18
  · have hf := ck_f hq hf
    refine lv_aload_n hx hb dT_testsAbove_8 rfl (lv_at hl 0 rfl) ?_
    refine ck_gr C h FT_above dT_testsAbove_9 ?_
    refine lv_iload_n hx hb dT_testsAbove_12 rfl (lv_at hl 1 rfl) ?_
    obtain ⟨hg, hf⟩ := ck_gd_e hf
    refine ck_ai (x := (st1 29 (x1).toNatClampNeg)) C h (show sh_C[29]? = some (.inr (0, 60)) from rfl) hg rfl dT_testsAbove_13 ?_
    refine lv_goto (tgt := 18) hx hb dT_testsAbove_14 rfl ?_
    exact ck_ri hf hret h dT_testsAbove_18
def fT_clauseAt (x1 : Int32) (st : ck_S) : Option (Int32 × ck_S) := (ck_b (fT_has x1 st) fun v2 st1 => (if v2 = 0 then (some ((-1 : Int32), st1)) else (ck_gd x1 60 (some ((st1 32 (x1).toNatClampNeg), st1)))))
set_option maxRecDepth 100000 in
set_option maxHeartbeats 4000000 in
theorem cT_clauseAt (l : Launch) (D : va_G) (cA : Nat → ClassId) (ad : Nat → Nat) {x1 : Int32} {st : ck_S} {r0 : Int32} {st0 : ck_S} (hf : fT_clauseAt x1 st = some (r0, st0)) : Met l yT_clauseAt (.code yT_clauseAt bT_clauseAt 2 (some .int) :: ck_T) (ck_R 1) (va_Pc [.ref (ad 5), .int x1] (ck_P sh_C cm_cl D cA ad st)) (va_Qi (fun a u => a = r0 ∧ u = st0) (ck_P sh_C cm_cl D cA ad) (ck_A ad sh_C.length)) 0 0 (ck_A ad sh_C.length) := by
  refine ck_met_i (own := R_T) (by decide +kernel) rfl (Nat.le_of_ble_eq_true rfl) (fun p e R s m args below meth c H0 Q ls C hret h hl => ?_)
  have C1 := C
  obtain ⟨hx, hb, hml, hown, hts, hK, hlv, hlo⟩ := C1
  have hl : lv_has ls 2 [(0, .ref (ad 5)), (1, .int x1)] := hl
  unfold fT_clauseAt at hf
  refine lv_aload_n hx hb dT_clauseAt_0 rfl (lv_at hl 0 rfl) ?_
  refine lv_iload_n hx hb dT_clauseAt_1 rfl (lv_at hl 1 rfl) ?_
  obtain ⟨v2, st1, hc, hf⟩ := ck_b_e hf
  refine ck_vi (As := [.int x1]) (rest := []) (q := 5) C h hl CT_T_has sT_has q_T (cT_has l D cA ad hc) (Nat.le_of_ble_eq_true rfl) rfl rfl (Nat.le_of_ble_eq_true rfl) dT_clauseAt_2 (fun H locs h => ?_)
  refine lv_if_eq (tgt := 17) hx hb dT_clauseAt_5 rfl (fun hq => ?_) (fun hq => ?_)
  · have hf := ck_t hq hf
    refine lv_iconst (v := (-1)) hx hb dT_clauseAt_17 (by decide) ?_
    exact ck_ri hf hret h dT_clauseAt_18
  · have hf := ck_f hq hf
    refine lv_aload_n hx hb dT_clauseAt_8 rfl (lv_at hl 0 rfl) ?_
    refine ck_gr C h FT_clause dT_clauseAt_9 ?_
    refine lv_iload_n hx hb dT_clauseAt_12 rfl (lv_at hl 1 rfl) ?_
    obtain ⟨hg, hf⟩ := ck_gd_e hf
    refine ck_ai (x := (st1 32 (x1).toNatClampNeg)) C h (show sh_C[32]? = some (.inr (0, 60)) from rfl) hg rfl dT_clauseAt_13 ?_
    refine lv_goto (tgt := 18) hx hb dT_clauseAt_14 rfl ?_
    exact ck_ri hf hret h dT_clauseAt_18
def fT_placeOf (x1 : Int32) (st : ck_S) : Option (Int32 × ck_S) := (ck_b (fT_has x1 st) fun v2 st1 => (if v2 = 0 then (some ((0 : Int32), st1)) else (ck_gd x1 60 (some ((st1 30 (x1).toNatClampNeg), st1)))))
set_option maxRecDepth 100000 in
set_option maxHeartbeats 4000000 in
theorem cT_placeOf (l : Launch) (D : va_G) (cA : Nat → ClassId) (ad : Nat → Nat) {x1 : Int32} {st : ck_S} {r0 : Int32} {st0 : ck_S} (hf : fT_placeOf x1 st = some (r0, st0)) : Met l yT_placeOf (.code yT_placeOf bT_placeOf 2 (some .int) :: ck_T) (ck_R 1) (va_Pc [.ref (ad 5), .int x1] (ck_P sh_C cm_cl D cA ad st)) (va_Qi (fun a u => a = r0 ∧ u = st0) (ck_P sh_C cm_cl D cA ad) (ck_A ad sh_C.length)) 0 0 (ck_A ad sh_C.length) := by
  refine ck_met_i (own := R_T) (by decide +kernel) rfl (Nat.le_of_ble_eq_true rfl) (fun p e R s m args below meth c H0 Q ls C hret h hl => ?_)
  have C1 := C
  obtain ⟨hx, hb, hml, hown, hts, hK, hlv, hlo⟩ := C1
  have hl : lv_has ls 2 [(0, .ref (ad 5)), (1, .int x1)] := hl
  unfold fT_placeOf at hf
  refine lv_aload_n hx hb dT_placeOf_0 rfl (lv_at hl 0 rfl) ?_
  refine lv_iload_n hx hb dT_placeOf_1 rfl (lv_at hl 1 rfl) ?_
  obtain ⟨v2, st1, hc, hf⟩ := ck_b_e hf
  refine ck_vi (As := [.int x1]) (rest := []) (q := 5) C h hl CT_T_has sT_has q_T (cT_has l D cA ad hc) (Nat.le_of_ble_eq_true rfl) rfl rfl (Nat.le_of_ble_eq_true rfl) dT_placeOf_2 (fun H locs h => ?_)
  refine lv_if_eq (tgt := 17) hx hb dT_placeOf_5 rfl (fun hq => ?_) (fun hq => ?_)
  · have hf := ck_t hq hf
    refine lv_iconst (v := 0) hx hb dT_placeOf_17 (by decide) ?_
    exact ck_ri hf hret h dT_placeOf_18
  · have hf := ck_f hq hf
    refine lv_aload_n hx hb dT_placeOf_8 rfl (lv_at hl 0 rfl) ?_
    refine ck_gr C h FT_place dT_placeOf_9 ?_
    refine lv_iload_n hx hb dT_placeOf_12 rfl (lv_at hl 1 rfl) ?_
    obtain ⟨hg, hf⟩ := ck_gd_e hf
    refine ck_ai (x := (st1 30 (x1).toNatClampNeg)) C h (show sh_C[30]? = some (.inr (0, 60)) from rfl) hg rfl dT_placeOf_13 ?_
    refine lv_goto (tgt := 18) hx hb dT_placeOf_14 rfl ?_
    exact ck_ri hf hret h dT_placeOf_18
def fT_typeOfTest (x1 : Int32) (st : ck_S) : Option (Int32 × ck_S) := (ck_b (fT_has x1 st) fun v2 st1 => (if v2 = 0 then (some ((-1 : Int32), st1)) else (ck_gd x1 60 (some ((st1 31 (x1).toNatClampNeg), st1)))))
set_option maxRecDepth 100000 in
set_option maxHeartbeats 4000000 in
theorem cT_typeOfTest (l : Launch) (D : va_G) (cA : Nat → ClassId) (ad : Nat → Nat) {x1 : Int32} {st : ck_S} {r0 : Int32} {st0 : ck_S} (hf : fT_typeOfTest x1 st = some (r0, st0)) : Met l yT_typeOfTest (.code yT_typeOfTest bT_typeOfTest 2 (some .int) :: ck_T) (ck_R 1) (va_Pc [.ref (ad 5), .int x1] (ck_P sh_C cm_cl D cA ad st)) (va_Qi (fun a u => a = r0 ∧ u = st0) (ck_P sh_C cm_cl D cA ad) (ck_A ad sh_C.length)) 0 0 (ck_A ad sh_C.length) := by
  refine ck_met_i (own := R_T) (by decide +kernel) rfl (Nat.le_of_ble_eq_true rfl) (fun p e R s m args below meth c H0 Q ls C hret h hl => ?_)
  have C1 := C
  obtain ⟨hx, hb, hml, hown, hts, hK, hlv, hlo⟩ := C1
  have hl : lv_has ls 2 [(0, .ref (ad 5)), (1, .int x1)] := hl
  unfold fT_typeOfTest at hf
  refine lv_aload_n hx hb dT_typeOfTest_0 rfl (lv_at hl 0 rfl) ?_
  refine lv_iload_n hx hb dT_typeOfTest_1 rfl (lv_at hl 1 rfl) ?_
  obtain ⟨v2, st1, hc, hf⟩ := ck_b_e hf
  refine ck_vi (As := [.int x1]) (rest := []) (q := 5) C h hl CT_T_has sT_has q_T (cT_has l D cA ad hc) (Nat.le_of_ble_eq_true rfl) rfl rfl (Nat.le_of_ble_eq_true rfl) dT_typeOfTest_2 (fun H locs h => ?_)
  refine lv_if_eq (tgt := 17) hx hb dT_typeOfTest_5 rfl (fun hq => ?_) (fun hq => ?_)
  · have hf := ck_t hq hf
    refine lv_iconst (v := (-1)) hx hb dT_typeOfTest_17 (by decide) ?_
    exact ck_ri hf hret h dT_typeOfTest_18
  · have hf := ck_f hq hf
    refine lv_aload_n hx hb dT_typeOfTest_8 rfl (lv_at hl 0 rfl) ?_
    refine ck_gr C h FT_testType dT_typeOfTest_9 ?_
    refine lv_iload_n hx hb dT_typeOfTest_12 rfl (lv_at hl 1 rfl) ?_
    obtain ⟨hg, hf⟩ := ck_gd_e hf
    refine ck_ai (x := (st1 31 (x1).toNatClampNeg)) C h (show sh_C[31]? = some (.inr (0, 60)) from rfl) hg rfl dT_typeOfTest_13 ?_
    refine lv_goto (tgt := 18) hx hb dT_typeOfTest_14 rfl ?_
    exact ck_ri hf hret h dT_typeOfTest_18
def fT_labelOf (x1 : Int32) (st : ck_S) : Option (Int32 × ck_S) := (ck_b (fT_has x1 st) fun v2 st1 => (if v2 = 0 then (some ((0 : Int32), st1)) else (ck_gd x1 60 (some ((st1 28 (x1).toNatClampNeg), st1)))))
set_option maxRecDepth 100000 in
set_option maxHeartbeats 4000000 in
theorem cT_labelOf (l : Launch) (D : va_G) (cA : Nat → ClassId) (ad : Nat → Nat) {x1 : Int32} {st : ck_S} {r0 : Int32} {st0 : ck_S} (hf : fT_labelOf x1 st = some (r0, st0)) : Met l yT_labelOf (.code yT_labelOf bT_labelOf 2 (some .int) :: ck_T) (ck_R 1) (va_Pc [.ref (ad 5), .int x1] (ck_P sh_C cm_cl D cA ad st)) (va_Qi (fun a u => a = r0 ∧ u = st0) (ck_P sh_C cm_cl D cA ad) (ck_A ad sh_C.length)) 0 0 (ck_A ad sh_C.length) := by
  refine ck_met_i (own := R_T) (by decide +kernel) rfl (Nat.le_of_ble_eq_true rfl) (fun p e R s m args below meth c H0 Q ls C hret h hl => ?_)
  have C1 := C
  obtain ⟨hx, hb, hml, hown, hts, hK, hlv, hlo⟩ := C1
  have hl : lv_has ls 2 [(0, .ref (ad 5)), (1, .int x1)] := hl
  unfold fT_labelOf at hf
  refine lv_aload_n hx hb dT_labelOf_0 rfl (lv_at hl 0 rfl) ?_
  refine lv_iload_n hx hb dT_labelOf_1 rfl (lv_at hl 1 rfl) ?_
  obtain ⟨v2, st1, hc, hf⟩ := ck_b_e hf
  refine ck_vi (As := [.int x1]) (rest := []) (q := 5) C h hl CT_T_has sT_has q_T (cT_has l D cA ad hc) (Nat.le_of_ble_eq_true rfl) rfl rfl (Nat.le_of_ble_eq_true rfl) dT_labelOf_2 (fun H locs h => ?_)
  refine lv_if_eq (tgt := 17) hx hb dT_labelOf_5 rfl (fun hq => ?_) (fun hq => ?_)
  · have hf := ck_t hq hf
    refine lv_iconst (v := 0) hx hb dT_labelOf_17 (by decide) ?_
    exact ck_ri hf hret h dT_labelOf_18
  · have hf := ck_f hq hf
    refine lv_aload_n hx hb dT_labelOf_8 rfl (lv_at hl 0 rfl) ?_
    refine ck_gr C h FT_label dT_labelOf_9 ?_
    refine lv_iload_n hx hb dT_labelOf_12 rfl (lv_at hl 1 rfl) ?_
    obtain ⟨hg, hf⟩ := ck_gd_e hf
    refine ck_ai (x := (st1 28 (x1).toNatClampNeg)) C h (show sh_C[28]? = some (.inr (0, 60)) from rfl) hg rfl dT_labelOf_13 ?_
    refine lv_goto (tgt := 18) hx hb dT_labelOf_14 rfl ?_
    exact ck_ri hf hret h dT_labelOf_18
def fT_addNode (x1 : Int32) (x2 : Int32) (x3 : Int32) (x4 : Int32) (st : ck_S) : Option (Int32 × ck_S) := (if (st 5 14) < (60 : Int32) then (ck_gd (st 5 14) 60 (ck_gd (st 5 14) 60 (ck_gd (st 5 14) 60 (ck_gd (st 5 14) 60 (ck_gd (st 5 14) 60 (ck_gd (st 5 14) 60 (ck_gd (st 5 14) 60 (ck_gd (st 5 14) 60 (ck_gd (st 5 14) 60 (some ((1 : Int32), (ck_u (ck_u (ck_u (ck_u (ck_u (ck_u (ck_u (ck_u (ck_u (ck_u st 28 ((st 5 14)).toNatClampNeg x1) 26 ((st 5 14)).toNatClampNeg x2) 27 ((st 5 14)).toNatClampNeg x3) 29 ((st 5 14)).toNatClampNeg x4) 30 ((st 5 14)).toNatClampNeg (0 : Int32)) 31 ((st 5 14)).toNatClampNeg (-1 : Int32)) 32 ((st 5 14)).toNatClampNeg (-1 : Int32)) 33 ((st 5 14)).toNatClampNeg (0 : Int32)) 34 ((st 5 14)).toNatClampNeg (0 : Int32)) 5 14 ((st 5 14) + (1 : Int32)))))))))))))) else (some ((0 : Int32), st)))
set_option maxRecDepth 100000 in
set_option maxHeartbeats 4000000 in
theorem cT_addNode (l : Launch) (D : va_G) (cA : Nat → ClassId) (ad : Nat → Nat) {x1 : Int32} {x2 : Int32} {x3 : Int32} {x4 : Int32} {st : ck_S} {r0 : Int32} {st0 : ck_S} (hf : fT_addNode x1 x2 x3 x4 st = some (r0, st0)) : Met l yT_addNode (.code yT_addNode bT_addNode 5 (some .boolean) :: ck_T) (ck_R 0) (va_Pc [.ref (ad 5), .int x1, .int x2, .int x3, .int x4] (ck_P sh_C cm_cl D cA ad st)) (va_Qi (fun a u => a = r0 ∧ u = st0) (ck_P sh_C cm_cl D cA ad) (ck_A ad sh_C.length)) 0 0 (ck_A ad sh_C.length) := by
  refine ck_met_z (own := R_T) (by decide +kernel) rfl (Nat.le_of_ble_eq_true rfl) (fun p e R s m args below meth c H0 Q ls C hret h hl => ?_)
  have C1 := C
  obtain ⟨hx, hb, hml, hown, hts, hK, hlv, hlo⟩ := C1
  have hl : lv_has ls 5 [(0, .ref (ad 5)), (1, .int x1), (2, .int x2), (3, .int x3), (4, .int x4)] := hl
  unfold fT_addNode at hf
  refine lv_aload_n hx hb dT_addNode_0 rfl (lv_at hl 0 rfl) ?_
  refine ck_gi (x := (st 5 14)) C h FT_size rfl dT_addNode_1 ?_
  refine lv_bipush (v := 60) hx hb dT_addNode_4 (by decide) ?_
  refine lv_icmp_lt (tgt := 11) hx hb dT_addNode_6 rfl (fun hq => ?_) (fun hq => ?_)
  · have hf := ck_t hq hf
    refine lv_aload_n hx hb dT_addNode_11 rfl (lv_at hl 0 rfl) ?_
    refine ck_gr C h FT_label dT_addNode_12 ?_
    refine lv_aload_n hx hb dT_addNode_15 rfl (lv_at hl 0 rfl) ?_
    refine ck_gi (x := (st 5 14)) C h FT_size rfl dT_addNode_16 ?_
    refine lv_iload_n hx hb dT_addNode_19 rfl (lv_at hl 1 rfl) ?_
    obtain ⟨hg, hf⟩ := ck_gd_e hf
    refine ck_si C h (show sh_C[28]? = some (.inr (0, 60)) from rfl) hg dT_addNode_20 (fun H locs h => ?_)
    refine lv_aload_n hx hb dT_addNode_21 rfl (lv_at hl 0 rfl) ?_
    refine ck_gr C h FT_left dT_addNode_22 ?_
    refine lv_aload_n hx hb dT_addNode_25 rfl (lv_at hl 0 rfl) ?_
    refine ck_gi (x := (st 5 14)) C h FT_size rfl dT_addNode_26 ?_
    refine lv_iload_n hx hb dT_addNode_29 rfl (lv_at hl 2 rfl) ?_
    obtain ⟨hg, hf⟩ := ck_gd_e hf
    refine ck_si C h (show sh_C[26]? = some (.inr (0, 60)) from rfl) hg dT_addNode_30 (fun H locs h => ?_)
    refine lv_aload_n hx hb dT_addNode_31 rfl (lv_at hl 0 rfl) ?_
    refine ck_gr C h FT_open dT_addNode_32 ?_
    refine lv_aload_n hx hb dT_addNode_35 rfl (lv_at hl 0 rfl) ?_
    refine ck_gi (x := (st 5 14)) C h FT_size rfl dT_addNode_36 ?_
    refine lv_iload_n hx hb dT_addNode_39 rfl (lv_at hl 3 rfl) ?_
    obtain ⟨hg, hf⟩ := ck_gd_e hf
    refine ck_si C h (show sh_C[27]? = some (.inr (0, 60)) from rfl) hg dT_addNode_40 (fun H locs h => ?_)
    refine lv_aload_n hx hb dT_addNode_41 rfl (lv_at hl 0 rfl) ?_
    refine ck_gr C h FT_above dT_addNode_42 ?_
    refine lv_aload_n hx hb dT_addNode_45 rfl (lv_at hl 0 rfl) ?_
    refine ck_gi (x := (st 5 14)) C h FT_size rfl dT_addNode_46 ?_
    refine lv_iload hx hb dT_addNode_49 (lv_at hl 4 rfl) ?_
    obtain ⟨hg, hf⟩ := ck_gd_e hf
    refine ck_si C h (show sh_C[29]? = some (.inr (0, 60)) from rfl) hg dT_addNode_51 (fun H locs h => ?_)
    refine lv_aload_n hx hb dT_addNode_52 rfl (lv_at hl 0 rfl) ?_
    refine ck_gr C h FT_place dT_addNode_53 ?_
    refine lv_aload_n hx hb dT_addNode_56 rfl (lv_at hl 0 rfl) ?_
    refine ck_gi (x := (st 5 14)) C h FT_size rfl dT_addNode_57 ?_
    refine lv_iconst (v := 0) hx hb dT_addNode_60 (by decide) ?_
    obtain ⟨hg, hf⟩ := ck_gd_e hf
    refine ck_si C h (show sh_C[30]? = some (.inr (0, 60)) from rfl) hg dT_addNode_61 (fun H locs h => ?_)
    refine lv_aload_n hx hb dT_addNode_62 rfl (lv_at hl 0 rfl) ?_
    refine ck_gr C h FT_testType dT_addNode_63 ?_
    refine lv_aload_n hx hb dT_addNode_66 rfl (lv_at hl 0 rfl) ?_
    refine ck_gi (x := (st 5 14)) C h FT_size rfl dT_addNode_67 ?_
    refine lv_iconst (v := (-1)) hx hb dT_addNode_70 (by decide) ?_
    obtain ⟨hg, hf⟩ := ck_gd_e hf
    refine ck_si C h (show sh_C[31]? = some (.inr (0, 60)) from rfl) hg dT_addNode_71 (fun H locs h => ?_)
    refine lv_aload_n hx hb dT_addNode_72 rfl (lv_at hl 0 rfl) ?_
    refine ck_gr C h FT_clause dT_addNode_73 ?_
    refine lv_aload_n hx hb dT_addNode_76 rfl (lv_at hl 0 rfl) ?_
    refine ck_gi (x := (st 5 14)) C h FT_size rfl dT_addNode_77 ?_
    refine lv_iconst (v := (-1)) hx hb dT_addNode_80 (by decide) ?_
    obtain ⟨hg, hf⟩ := ck_gd_e hf
    refine ck_si C h (show sh_C[32]? = some (.inr (0, 60)) from rfl) hg dT_addNode_81 (fun H locs h => ?_)
    refine lv_aload_n hx hb dT_addNode_82 rfl (lv_at hl 0 rfl) ?_
    refine ck_gr C h FT_firstBranch dT_addNode_83 ?_
    refine lv_aload_n hx hb dT_addNode_86 rfl (lv_at hl 0 rfl) ?_
    refine ck_gi (x := (st 5 14)) C h FT_size rfl dT_addNode_87 ?_
    refine lv_iconst (v := 0) hx hb dT_addNode_90 (by decide) ?_
    obtain ⟨hg, hf⟩ := ck_gd_e hf
    refine ck_si C h (show sh_C[33]? = some (.inr (0, 60)) from rfl) hg dT_addNode_91 (fun H locs h => ?_)
    refine lv_aload_n hx hb dT_addNode_92 rfl (lv_at hl 0 rfl) ?_
    refine ck_gr C h FT_branchCount dT_addNode_93 ?_
    refine lv_aload_n hx hb dT_addNode_96 rfl (lv_at hl 0 rfl) ?_
    refine ck_gi (x := (st 5 14)) C h FT_size rfl dT_addNode_97 ?_
    refine lv_iconst (v := 0) hx hb dT_addNode_100 (by decide) ?_
    obtain ⟨hg, hf⟩ := ck_gd_e hf
    refine ck_si C h (show sh_C[34]? = some (.inr (0, 60)) from rfl) hg dT_addNode_101 (fun H locs h => ?_)
    refine lv_aload_n hx hb dT_addNode_102 rfl (lv_at hl 0 rfl) ?_
    refine lv_dup hx hb dT_addNode_103 rfl ?_
    refine ck_gi (x := (st 5 14)) C h FT_size rfl dT_addNode_104 ?_
    refine lv_iconst (v := 1) hx hb dT_addNode_107 (by decide) ?_
    refine lv_iadd hx hb dT_addNode_108 ?_
    refine ck_pi C h GT_size rfl rfl dT_addNode_109 (fun H locs h => ?_)
    refine lv_iconst (v := 1) hx hb dT_addNode_112 (by decide) ?_
    exact ck_rz hf hret ck_z1 h dT_addNode_113
  · have hf := ck_f hq hf
    refine lv_iconst (v := 0) hx hb dT_addNode_9 (by decide) ?_
    exact ck_rz hf hret ck_z0 h dT_addNode_10
def fT_makeLeaf (x1 : Int32) (st : ck_S) : Option ck_S := (ck_gd x1 60 (ck_b (fM_firstOf (st 26 (x1).toNatClampNeg) st) fun v2 st1 => (ck_gd x1 60 (ck_gd x1 60 (if ((ck_u st1 32 (x1).toNatClampNeg v2) 32 (x1).toNatClampNeg) = (-1 : Int32) then (some (ck_u st1 32 (x1).toNatClampNeg v2)) else (ck_gd x1 60 (some (ck_u (ck_u st1 32 (x1).toNatClampNeg v2) 5 15 ((st1 5 15) ||| ((1 : Int32) <<< (((ck_u st1 32 (x1).toNatClampNeg v2) 32 (x1).toNatClampNeg) &&& 31)))))))))))
set_option maxRecDepth 100000 in
set_option maxHeartbeats 4000000 in
theorem cT_makeLeaf (l : Launch) (D : va_G) (cA : Nat → ClassId) (ad : Nat → Nat) {x1 : Int32} {st : ck_S} {st0 : ck_S} (hf : fT_makeLeaf x1 st = some st0) : Met l yT_makeLeaf (.code yT_makeLeaf bT_makeLeaf 2 none :: ck_T) (ck_R 1) (va_Pc [.ref (ad 5), .int x1] (ck_P sh_C cm_cl D cA ad st)) (va_Qv (fun u => u = st0) (ck_P sh_C cm_cl D cA ad) (ck_A ad sh_C.length)) 0 0 (ck_A ad sh_C.length) := by
  refine ck_met_v (own := R_T) (by decide +kernel) rfl (Nat.le_of_ble_eq_true rfl) (fun p e R s m args below meth c H0 Q ls C hret h hl => ?_)
  have C1 := C
  obtain ⟨hx, hb, hml, hown, hts, hK, hlv, hlo⟩ := C1
  have hl : lv_has ls 2 [(0, .ref (ad 5)), (1, .int x1)] := hl
  unfold fT_makeLeaf at hf
  refine lv_aload_n hx hb dT_makeLeaf_0 rfl (lv_at hl 0 rfl) ?_
  refine ck_gr C h FT_clause dT_makeLeaf_1 ?_
  refine lv_iload_n hx hb dT_makeLeaf_4 rfl (lv_at hl 1 rfl) ?_
  refine lv_aload_n hx hb dT_makeLeaf_5 rfl (lv_at hl 0 rfl) ?_
  refine ck_gr C h FT_match dT_makeLeaf_6 ?_
  refine lv_aload_n hx hb dT_makeLeaf_9 rfl (lv_at hl 0 rfl) ?_
  refine ck_gr C h FT_left dT_makeLeaf_10 ?_
  refine lv_iload_n hx hb dT_makeLeaf_13 rfl (lv_at hl 1 rfl) ?_
  obtain ⟨hg, hf⟩ := ck_gd_e hf
  refine ck_ai (x := (st 26 (x1).toNatClampNeg)) C h (show sh_C[26]? = some (.inr (0, 60)) from rfl) hg rfl dT_makeLeaf_14 ?_
  obtain ⟨v2, st1, hc, hf⟩ := ck_b_e hf
  refine ck_vi (As := [.int (st 26 (x1).toNatClampNeg)]) (rest := [.int x1, .ref (ad 32)]) (q := 4) C h hl CT_M_firstOf sM_firstOf q_M (cM_firstOf l D cA ad hc) (Nat.le_of_ble_eq_true rfl) rfl rfl (Nat.le_of_ble_eq_true rfl) dT_makeLeaf_15 (fun H locs h => ?_)
  obtain ⟨hg, hf⟩ := ck_gd_e hf
  refine ck_si C h (show sh_C[32]? = some (.inr (0, 60)) from rfl) hg dT_makeLeaf_18 (fun H locs h => ?_)
  refine lv_aload_n hx hb dT_makeLeaf_19 rfl (lv_at hl 0 rfl) ?_
  refine ck_gr C h FT_clause dT_makeLeaf_20 ?_
  refine lv_iload_n hx hb dT_makeLeaf_23 rfl (lv_at hl 1 rfl) ?_
  obtain ⟨hg, hf⟩ := ck_gd_e hf
  refine ck_ai (x := ((ck_u st1 32 (x1).toNatClampNeg v2) 32 (x1).toNatClampNeg)) C h (show sh_C[32]? = some (.inr (0, 60)) from rfl) hg rfl dT_makeLeaf_24 ?_
  refine lv_iconst (v := (-1)) hx hb dT_makeLeaf_25 (by decide) ?_
  refine lv_icmp_eq (tgt := 46) hx hb dT_makeLeaf_26 rfl (fun hq => ?_) (fun hq => ?_)
  · have hf := ck_t hq hf
    exact ck_rv hf hret h dT_makeLeaf_46
  · have hf := ck_f hq hf
    refine lv_aload_n hx hb dT_makeLeaf_29 rfl (lv_at hl 0 rfl) ?_
    refine lv_dup hx hb dT_makeLeaf_30 rfl ?_
    refine ck_gi (x := (st1 5 15)) C h FT_caught rfl dT_makeLeaf_31 ?_
    refine lv_iconst (v := 1) hx hb dT_makeLeaf_34 (by decide) ?_
    refine lv_aload_n hx hb dT_makeLeaf_35 rfl (lv_at hl 0 rfl) ?_
    refine ck_gr C h FT_clause dT_makeLeaf_36 ?_
    refine lv_iload_n hx hb dT_makeLeaf_39 rfl (lv_at hl 1 rfl) ?_
    obtain ⟨hg, hf⟩ := ck_gd_e hf
    refine ck_ai (x := ((ck_u st1 32 (x1).toNatClampNeg v2) 32 (x1).toNatClampNeg)) C h (show sh_C[32]? = some (.inr (0, 60)) from rfl) hg rfl dT_makeLeaf_40 ?_
    refine lv_ishl hx hb dT_makeLeaf_41 ?_
    refine lv_ior hx hb dT_makeLeaf_42 ?_
    refine ck_pi C h GT_caught rfl rfl dT_makeLeaf_43 (fun H locs h => ?_)
    exact ck_rv hf hret h dT_makeLeaf_46
def fT_addNumbers_l47 (k139 : Int32 → Int32 → Int32 → ck_S → Option (Int32 × ck_S)) : Nat → Int32 → Int32 → Int32 → Int64 → Int32 → ck_S → Option (Int32 × ck_S)
  | 0, _, _, _, _, _, _ => none
  | n + 1, x1, x2, x3, x4, x6, st => (if (16 : Int32) ≤ x6 then (k139 x1 x2 x3 st) else (if (lg_cmp x4 (4294967296 : Int64)) = 0 then (k139 x1 x2 x3 st) else (if x2 = 0 then (k139 x1 x2 x3 st) else (ck_gd x1 60 (ck_gd x1 60 (ck_b (fM_notAskingElse (st 26 (x1).toNatClampNeg) (st 30 (x1).toNatClampNeg) ((x4).toInt32) st) fun v2 st1 => (ck_gd x1 60 (ck_b (fT_addNode ((x4).toInt32) v2 x3 ((st1 29 (x1).toNatClampNeg) + (1 : Int32)) st1) fun v4 st3 => (ck_gd x1 60 (ck_gd x1 60 (ck_b (fM_leastAbove x4 (st3 26 (x1).toNatClampNeg) (st3 30 (x1).toNatClampNeg) st3) fun v6 st5 => (fT_addNumbers_l47 k139 n x1 v4 x3 v6 (x6 + 1) st5))))))))))))
set_option maxRecDepth 100000 in
set_option maxHeartbeats 4000000 in
theorem BT_addNumbers_47 (C : ck_X cm_cl D cA bT_addNumbers 8 R_T 2 p R s m args c) {r0 : Int32} {st0 : ck_S} (hret : ∀ (pc : Nat) (H : Heap) (locs : List Loc) (ls : Array Slot), decode bT_addNumbers pc = .ok (.ireturn, 1) → (r0 = 0 ∨ r0 = 1) → ck_AT sh_C cm_cl D cA ad H0 st0 H locs → W p l e R s m args below meth c H locs 0 0 Q (F0 m pc ls [.int r0])) {k139 : Int32 → Int32 → Int32 → ck_S → Option (Int32 × ck_S)} (hk139 : ∀ (x1 : Int32) (x2 : Int32) (x3 : Int32) (st : ck_S) (H : Heap) (locs : List Loc) (ls : Array Slot), ck_AT sh_C cm_cl D cA ad H0 st H locs → lv_has ls 8 [(0, .ref (ad 5)), (1, .int x1), (2, .int x2), (3, .int x3)] → k139 x1 x2 x3 st = some (r0, st0) → W p l e R s m args below meth c H locs 0 0 Q (F0 m 139 ls [])) : ∀ (n : Nat) (x1 : Int32) (x2 : Int32) (x3 : Int32) (x4 : Int64) (x6 : Int32) (st : ck_S) (H : Heap) (locs : List Loc) (ls : Array Slot), ck_AT sh_C cm_cl D cA ad H0 st H locs → lv_has ls 8 [(0, .ref (ad 5)), (1, .int x1), (2, .int x2), (3, .int x3), (4, .long x4), (6, .int x6)] → fT_addNumbers_l47 k139 n x1 x2 x3 x4 x6 st = some (r0, st0) → W p l e R s m args below meth c H locs 0 0 Q (F0 m 47 ls []) := by
  have C1 := C
  obtain ⟨hx, hb, hml, hown, hts, hK, hlv, hlo⟩ := C1
  intro n
  induction n with
  | zero => intro _ _ _ _ _ _ _ _ _ _ _ hf; cases hf
  | succ n ih =>
    intro x1 x2 x3 x4 x6 st H locs ls h hl hf
    rw [fT_addNumbers_l47] at hf
    refine lv_iload hx hb dT_addNumbers_47 (lv_at hl 5 rfl) ?_
    refine lv_bipush (v := 16) hx hb dT_addNumbers_49 (by decide) ?_
    refine lv_icmp_ge (tgt := 139) hx hb dT_addNumbers_51 rfl (fun hq => ?_) (fun hq => ?_)
    · have hf := ck_t hq hf
      exact hk139 _ _ _ _ _ _ _ h (lv_sub hl [0, 1, 2, 3] rfl) hf
    · have hf := ck_f hq hf
      refine lv_lload hx hb dT_addNumbers_54 (lv_at hl 4 rfl) ?_
      refine lv_ldc2 (v := 4294967296) hx hb hown (hts _ (ck_T_mk (List.mem_of_getElem? (i := 545) (by decide +kernel)) (by decide +kernel))) dT_addNumbers_56 ?_
      refine W.lcmp hx hb dT_addNumbers_59 ?_
      refine lv_if_eq (tgt := 139) hx hb dT_addNumbers_60 rfl (fun hq => ?_) (fun hq => ?_)
      · have hf := ck_t hq hf
        exact hk139 _ _ _ _ _ _ _ h (lv_sub hl [0, 1, 2, 3] rfl) hf
      · have hf := ck_f hq hf
        refine lv_iload_n hx hb dT_addNumbers_63 rfl (lv_at hl 2 rfl) ?_
        refine lv_if_eq (tgt := 139) hx hb dT_addNumbers_64 rfl (fun hq => ?_) (fun hq => ?_)
        · have hf := ck_t hq hf
          exact hk139 _ _ _ _ _ _ _ h (lv_sub hl [0, 1, 2, 3] rfl) hf
        · have hf := ck_f hq hf
          refine lv_aload_n hx hb dT_addNumbers_67 rfl (lv_at hl 0 rfl) ?_
          refine ck_gr C h FT_match dT_addNumbers_68 ?_
          refine lv_aload_n hx hb dT_addNumbers_71 rfl (lv_at hl 0 rfl) ?_
          refine ck_gr C h FT_left dT_addNumbers_72 ?_
          refine lv_iload_n hx hb dT_addNumbers_75 rfl (lv_at hl 1 rfl) ?_
          obtain ⟨hg, hf⟩ := ck_gd_e hf
          refine ck_ai (x := (st 26 (x1).toNatClampNeg)) C h (show sh_C[26]? = some (.inr (0, 60)) from rfl) hg rfl dT_addNumbers_76 ?_
          refine lv_aload_n hx hb dT_addNumbers_77 rfl (lv_at hl 0 rfl) ?_
          refine ck_gr C h FT_place dT_addNumbers_78 ?_
          refine lv_iload_n hx hb dT_addNumbers_81 rfl (lv_at hl 1 rfl) ?_
          obtain ⟨hg, hf⟩ := ck_gd_e hf
          refine ck_ai (x := (st 30 (x1).toNatClampNeg)) C h (show sh_C[30]? = some (.inr (0, 60)) from rfl) hg rfl dT_addNumbers_82 ?_
          refine lv_lload hx hb dT_addNumbers_83 (lv_at hl 4 rfl) ?_
          refine lv_l2i hx hb dT_addNumbers_85 rfl ?_
          obtain ⟨v2, st1, hc, hf⟩ := ck_b_e hf
          refine ck_vi (As := [.int (st 26 (x1).toNatClampNeg), .int (st 30 (x1).toNatClampNeg), .int ((x4).toInt32)]) (rest := []) (q := 4) C h hl CT_M_notAskingElse sM_notAskingElse q_M (cM_notAskingElse l D cA ad hc) (Nat.le_of_ble_eq_true rfl) rfl rfl (Nat.le_of_ble_eq_true rfl) dT_addNumbers_86 (fun H locs h => ?_)
          refine lv_istore (lv' := [(7, .int v2), (0, .ref (ad 5)), (1, .int x1), (2, .int x2), (3, .int x3), (4, .long x4), (6, .int x6)]) hx hb dT_addNumbers_89 hl (by decide) rfl (fun ls hl => ?_)
          refine lv_aload_n hx hb dT_addNumbers_91 rfl (lv_at hl 1 rfl) ?_
          refine lv_lload hx hb dT_addNumbers_92 (lv_at hl 5 rfl) ?_
          refine lv_l2i hx hb dT_addNumbers_94 rfl ?_
          refine lv_iload hx hb dT_addNumbers_95 (lv_at hl 0 rfl) ?_
          refine lv_iload_n hx hb dT_addNumbers_97 rfl (lv_at hl 4 rfl) ?_
          refine lv_aload_n hx hb dT_addNumbers_98 rfl (lv_at hl 1 rfl) ?_
          refine ck_gr C h FT_above dT_addNumbers_99 ?_
          refine lv_iload_n hx hb dT_addNumbers_102 rfl (lv_at hl 2 rfl) ?_
          obtain ⟨hg, hf⟩ := ck_gd_e hf
          refine ck_ai (x := (st1 29 (x1).toNatClampNeg)) C h (show sh_C[29]? = some (.inr (0, 60)) from rfl) hg rfl dT_addNumbers_103 ?_
          refine lv_iconst (v := 1) hx hb dT_addNumbers_104 (by decide) ?_
          refine lv_iadd hx hb dT_addNumbers_105 ?_
          obtain ⟨v4, st3, hc, hf⟩ := ck_b_e hf
          refine ck_vi (As := [.int ((x4).toInt32), .int v2, .int x3, .int ((st1 29 (x1).toNatClampNeg) + (1 : Int32))]) (rest := []) (q := 5) C h hl CT_T_addNode sT_addNode q_T (cT_addNode l D cA ad hc) (Nat.le_of_ble_eq_true rfl) rfl rfl (Nat.le_of_ble_eq_true rfl) dT_addNumbers_106 (fun H locs h => ?_)
          refine lv_istore_n (lv' := [(2, .int v4), (7, .int v2), (0, .ref (ad 5)), (1, .int x1), (3, .int x3), (4, .long x4), (6, .int x6)]) hx hb dT_addNumbers_109 rfl hl (by decide) rfl (fun ls hl => ?_)
          refine lv_aload_n hx hb dT_addNumbers_110 rfl (lv_at hl 2 rfl) ?_
          refine ck_gr C h FT_match dT_addNumbers_111 ?_
          refine lv_lload hx hb dT_addNumbers_114 (lv_at hl 5 rfl) ?_
          refine lv_aload_n hx hb dT_addNumbers_116 rfl (lv_at hl 2 rfl) ?_
          refine ck_gr C h FT_left dT_addNumbers_117 ?_
          refine lv_iload_n hx hb dT_addNumbers_120 rfl (lv_at hl 3 rfl) ?_
          obtain ⟨hg, hf⟩ := ck_gd_e hf
          refine ck_ai (x := (st3 26 (x1).toNatClampNeg)) C h (show sh_C[26]? = some (.inr (0, 60)) from rfl) hg rfl dT_addNumbers_121 ?_
          refine lv_aload_n hx hb dT_addNumbers_122 rfl (lv_at hl 2 rfl) ?_
          refine ck_gr C h FT_place dT_addNumbers_123 ?_
          refine lv_iload_n hx hb dT_addNumbers_126 rfl (lv_at hl 3 rfl) ?_
          obtain ⟨hg, hf⟩ := ck_gd_e hf
          refine ck_ai (x := (st3 30 (x1).toNatClampNeg)) C h (show sh_C[30]? = some (.inr (0, 60)) from rfl) hg rfl dT_addNumbers_127 ?_
          obtain ⟨v6, st5, hc, hf⟩ := ck_b_e hf
          refine ck_vl (As := [.long x4, .int (st3 26 (x1).toNatClampNeg), .int (st3 30 (x1).toNatClampNeg)]) (rest := []) (q := 4) C h hl CT_M_leastAbove sM_leastAbove q_M (cM_leastAbove l D cA ad hc) (Nat.le_of_ble_eq_true rfl) rfl rfl (Nat.le_of_ble_eq_true rfl) dT_addNumbers_128 (fun H locs h => ?_)
          refine lv_lstore (lv' := [(4, .long v6), (2, .int v4), (7, .int v2), (0, .ref (ad 5)), (1, .int x1), (3, .int x3), (6, .int x6)]) hx hb dT_addNumbers_131 hl (by decide) rfl (fun ls hl => ?_)
          refine lv_iinc (k := 6) (v := (x6 + 1)) (lv' := [(6, .int (x6 + 1)), (4, .long v6), (2, .int v4), (7, .int v2), (0, .ref (ad 5)), (1, .int x1), (3, .int x3)]) hx hb dT_addNumbers_133 hl rfl rfl (by decide) rfl (fun ls hl => ?_)
          refine lv_goto (tgt := 47) hx hb dT_addNumbers_136 rfl ?_
          exact ih _ _ _ _ _ _ _ _ _ h (lv_sub hl [4, 5, 2, 6, 1, 0] rfl) hf
def fT_addNumbers_b139 (x1 : Int32) (x2 : Int32) (x3 : Int32) (st : ck_S) : Option (Int32 × ck_S) := (ck_gd x1 60 (ck_gd x1 60 (ck_b (fM_notAsking (st 26 (x1).toNatClampNeg) (st 30 (x1).toNatClampNeg) st) fun v2 st1 => (if x2 = 0 then (some ((0 : Int32), st1)) else (ck_gd x1 60 (ck_b (fT_addNode (0 : Int32) v2 x3 ((st1 29 (x1).toNatClampNeg) + (1 : Int32)) st1) fun v4 st3 => (if v4 = 0 then (some ((0 : Int32), st3)) else (some ((1 : Int32), st3)))))))))
set_option maxRecDepth 100000 in
set_option maxHeartbeats 4000000 in
theorem BT_addNumbers_139 (C : ck_X cm_cl D cA bT_addNumbers 8 R_T 2 p R s m args c) {r0 : Int32} {st0 : ck_S} (hret : ∀ (pc : Nat) (H : Heap) (locs : List Loc) (ls : Array Slot), decode bT_addNumbers pc = .ok (.ireturn, 1) → (r0 = 0 ∨ r0 = 1) → ck_AT sh_C cm_cl D cA ad H0 st0 H locs → W p l e R s m args below meth c H locs 0 0 Q (F0 m pc ls [.int r0])) (x1 : Int32) (x2 : Int32) (x3 : Int32) (st : ck_S) (H : Heap) (locs : List Loc) (ls : Array Slot) (h : ck_AT sh_C cm_cl D cA ad H0 st H locs) (hl : lv_has ls 8 [(0, .ref (ad 5)), (1, .int x1), (2, .int x2), (3, .int x3)]) (hf : fT_addNumbers_b139 x1 x2 x3 st = some (r0, st0)) : W p l e R s m args below meth c H locs 0 0 Q (F0 m 139 ls []) := by
  have C1 := C
  obtain ⟨hx, hb, hml, hown, hts, hK, hlv, hlo⟩ := C1
  unfold fT_addNumbers_b139 at hf
  refine lv_aload_n hx hb dT_addNumbers_139 rfl (lv_at hl 0 rfl) ?_
  refine ck_gr C h FT_match dT_addNumbers_140 ?_
  refine lv_aload_n hx hb dT_addNumbers_143 rfl (lv_at hl 0 rfl) ?_
  refine ck_gr C h FT_left dT_addNumbers_144 ?_
  refine lv_iload_n hx hb dT_addNumbers_147 rfl (lv_at hl 1 rfl) ?_
  obtain ⟨hg, hf⟩ := ck_gd_e hf
  refine ck_ai (x := (st 26 (x1).toNatClampNeg)) C h (show sh_C[26]? = some (.inr (0, 60)) from rfl) hg rfl dT_addNumbers_148 ?_
  refine lv_aload_n hx hb dT_addNumbers_149 rfl (lv_at hl 0 rfl) ?_
  refine ck_gr C h FT_place dT_addNumbers_150 ?_
  refine lv_iload_n hx hb dT_addNumbers_153 rfl (lv_at hl 1 rfl) ?_
  obtain ⟨hg, hf⟩ := ck_gd_e hf
  refine ck_ai (x := (st 30 (x1).toNatClampNeg)) C h (show sh_C[30]? = some (.inr (0, 60)) from rfl) hg rfl dT_addNumbers_154 ?_
  obtain ⟨v2, st1, hc, hf⟩ := ck_b_e hf
  refine ck_vi (As := [.int (st 26 (x1).toNatClampNeg), .int (st 30 (x1).toNatClampNeg)]) (rest := []) (q := 4) C h hl CT_M_notAsking sM_notAsking q_M (cM_notAsking l D cA ad hc) (Nat.le_of_ble_eq_true rfl) rfl rfl (Nat.le_of_ble_eq_true rfl) dT_addNumbers_155 (fun H locs h => ?_)
  refine lv_istore (lv' := [(6, .int v2), (0, .ref (ad 5)), (1, .int x1), (2, .int x2), (3, .int x3)]) hx hb dT_addNumbers_158 hl (by decide) rfl (fun ls hl => ?_)
  refine lv_iload_n hx hb dT_addNumbers_160 rfl (lv_at hl 3 rfl) ?_
  refine lv_if_eq (tgt := 187) hx hb dT_addNumbers_161 rfl (fun hq => ?_) (fun hq => ?_)
  · have hf := ck_t hq hf
    refine lv_iconst (v := 0) hx hb dT_addNumbers_187 (by decide) ?_
    exact ck_rz hf hret ck_z0 h dT_addNumbers_188
  · have hf := ck_f hq hf
    refine lv_aload_n hx hb dT_addNumbers_164 rfl (lv_at hl 1 rfl) ?_
    refine lv_iconst (v := 0) hx hb dT_addNumbers_165 (by decide) ?_
    refine lv_iload hx hb dT_addNumbers_166 (lv_at hl 0 rfl) ?_
    refine lv_iload_n hx hb dT_addNumbers_168 rfl (lv_at hl 4 rfl) ?_
    refine lv_aload_n hx hb dT_addNumbers_169 rfl (lv_at hl 1 rfl) ?_
    refine ck_gr C h FT_above dT_addNumbers_170 ?_
    refine lv_iload_n hx hb dT_addNumbers_173 rfl (lv_at hl 2 rfl) ?_
    obtain ⟨hg, hf⟩ := ck_gd_e hf
    refine ck_ai (x := (st1 29 (x1).toNatClampNeg)) C h (show sh_C[29]? = some (.inr (0, 60)) from rfl) hg rfl dT_addNumbers_174 ?_
    refine lv_iconst (v := 1) hx hb dT_addNumbers_175 (by decide) ?_
    refine lv_iadd hx hb dT_addNumbers_176 ?_
    obtain ⟨v4, st3, hc, hf⟩ := ck_b_e hf
    refine ck_vi (As := [.int (0 : Int32), .int v2, .int x3, .int ((st1 29 (x1).toNatClampNeg) + (1 : Int32))]) (rest := []) (q := 5) C h hl CT_T_addNode sT_addNode q_T (cT_addNode l D cA ad hc) (Nat.le_of_ble_eq_true rfl) rfl rfl (Nat.le_of_ble_eq_true rfl) dT_addNumbers_177 (fun H locs h => ?_)
    refine lv_if_eq (tgt := 187) hx hb dT_addNumbers_180 rfl (fun hq => ?_) (fun hq => ?_)
    · have hf := ck_t hq hf
      refine lv_iconst (v := 0) hx hb dT_addNumbers_187 (by decide) ?_
      exact ck_rz hf hret ck_z0 h dT_addNumbers_188
    · have hf := ck_f hq hf
      refine lv_iconst (v := 1) hx hb dT_addNumbers_183 (by decide) ?_
      refine lv_goto (tgt := 188) hx hb dT_addNumbers_184 rfl ?_
      exact ck_rz hf hret ck_z1 h dT_addNumbers_188
def fT_addNumbers (x1 : Int32) (st : ck_S) : Option (Int32 × ck_S) := (ck_gd x1 60 (ck_gd x1 60 (ck_gd x1 60 (ck_gd x1 60 (ck_b (fM_leastAbove (-4294967296 : Int64) (st 26 (x1).toNatClampNeg) (st 30 (x1).toNatClampNeg) st) fun v2 st1 => (fT_addNumbers_l47 (fun x1 x2 x3 st => (fT_addNumbers_b139 x1 x2 x3 st)) 4096 x1 (1 : Int32) ((st 27 (x1).toNatClampNeg) &&& (((1 : Int32) <<< ((st 30 (x1).toNatClampNeg) &&& 31)) ^^^ (-1 : Int32))) v2 (0 : Int32) st1))))))
set_option maxRecDepth 100000 in
set_option maxHeartbeats 4000000 in
theorem cT_addNumbers (l : Launch) (D : va_G) (cA : Nat → ClassId) (ad : Nat → Nat) {x1 : Int32} {st : ck_S} {r0 : Int32} {st0 : ck_S} (hf : fT_addNumbers x1 st = some (r0, st0)) : Met l yT_addNumbers (.code yT_addNumbers bT_addNumbers 8 (some .boolean) :: ck_T) (ck_R 2) (va_Pc [.ref (ad 5), .int x1] (ck_P sh_C cm_cl D cA ad st)) (va_Qi (fun a u => a = r0 ∧ u = st0) (ck_P sh_C cm_cl D cA ad) (ck_A ad sh_C.length)) 0 0 (ck_A ad sh_C.length) := by
  refine ck_met_z (own := R_T) (by decide +kernel) rfl (Nat.le_of_ble_eq_true rfl) (fun p e R s m args below meth c H0 Q ls C hret h hl => ?_)
  have C1 := C
  obtain ⟨hx, hb, hml, hown, hts, hK, hlv, hlo⟩ := C1
  have hl : lv_has ls 8 [(0, .ref (ad 5)), (1, .int x1)] := hl
  unfold fT_addNumbers at hf
  refine lv_iconst (v := 1) hx hb dT_addNumbers_0 (by decide) ?_
  refine lv_istore_n (lv' := [(2, .int (1 : Int32)), (0, .ref (ad 5)), (1, .int x1)]) hx hb dT_addNumbers_1 rfl hl (by decide) rfl (fun ls hl => ?_)
  refine lv_aload_n hx hb dT_addNumbers_2 rfl (lv_at hl 1 rfl) ?_
  refine ck_gr C h FT_open dT_addNumbers_3 ?_
  refine lv_iload_n hx hb dT_addNumbers_6 rfl (lv_at hl 2 rfl) ?_
  obtain ⟨hg, hf⟩ := ck_gd_e hf
  refine ck_ai (x := (st 27 (x1).toNatClampNeg)) C h (show sh_C[27]? = some (.inr (0, 60)) from rfl) hg rfl dT_addNumbers_7 ?_
  refine lv_iconst (v := 1) hx hb dT_addNumbers_8 (by decide) ?_
  refine lv_aload_n hx hb dT_addNumbers_9 rfl (lv_at hl 1 rfl) ?_
  refine ck_gr C h FT_place dT_addNumbers_10 ?_
  refine lv_iload_n hx hb dT_addNumbers_13 rfl (lv_at hl 2 rfl) ?_
  obtain ⟨hg, hf⟩ := ck_gd_e hf
  refine ck_ai (x := (st 30 (x1).toNatClampNeg)) C h (show sh_C[30]? = some (.inr (0, 60)) from rfl) hg rfl dT_addNumbers_14 ?_
  refine lv_ishl hx hb dT_addNumbers_15 ?_
  refine lv_iconst (v := (-1)) hx hb dT_addNumbers_16 (by decide) ?_
  refine lv_ixor hx hb dT_addNumbers_17 ?_
  refine lv_iand hx hb dT_addNumbers_18 ?_
  refine lv_istore_n (lv' := [(3, .int ((st 27 (x1).toNatClampNeg) &&& (((1 : Int32) <<< ((st 30 (x1).toNatClampNeg) &&& 31)) ^^^ (-1 : Int32)))), (2, .int (1 : Int32)), (0, .ref (ad 5)), (1, .int x1)]) hx hb dT_addNumbers_19 rfl hl (by decide) rfl (fun ls hl => ?_)
  refine lv_aload_n hx hb dT_addNumbers_20 rfl (lv_at hl 2 rfl) ?_
  refine ck_gr C h FT_match dT_addNumbers_21 ?_
  refine lv_ldc2 (v := (-4294967296)) hx hb hown (hts _ (ck_T_mk (List.mem_of_getElem? (i := 539) (by decide +kernel)) (by decide +kernel))) dT_addNumbers_24 ?_
  refine lv_aload_n hx hb dT_addNumbers_27 rfl (lv_at hl 2 rfl) ?_
  refine ck_gr C h FT_left dT_addNumbers_28 ?_
  refine lv_iload_n hx hb dT_addNumbers_31 rfl (lv_at hl 3 rfl) ?_
  obtain ⟨hg, hf⟩ := ck_gd_e hf
  refine ck_ai (x := (st 26 (x1).toNatClampNeg)) C h (show sh_C[26]? = some (.inr (0, 60)) from rfl) hg rfl dT_addNumbers_32 ?_
  refine lv_aload_n hx hb dT_addNumbers_33 rfl (lv_at hl 2 rfl) ?_
  refine ck_gr C h FT_place dT_addNumbers_34 ?_
  refine lv_iload_n hx hb dT_addNumbers_37 rfl (lv_at hl 3 rfl) ?_
  obtain ⟨hg, hf⟩ := ck_gd_e hf
  refine ck_ai (x := (st 30 (x1).toNatClampNeg)) C h (show sh_C[30]? = some (.inr (0, 60)) from rfl) hg rfl dT_addNumbers_38 ?_
  obtain ⟨v2, st1, hc, hf⟩ := ck_b_e hf
  refine ck_vl (As := [.long (-4294967296 : Int64), .int (st 26 (x1).toNatClampNeg), .int (st 30 (x1).toNatClampNeg)]) (rest := []) (q := 4) C h hl CT_M_leastAbove sM_leastAbove q_M (cM_leastAbove l D cA ad hc) (Nat.le_of_ble_eq_true rfl) rfl rfl (Nat.le_of_ble_eq_true rfl) dT_addNumbers_39 (fun H locs h => ?_)
  refine lv_lstore (lv' := [(4, .long v2), (3, .int ((st 27 (x1).toNatClampNeg) &&& (((1 : Int32) <<< ((st 30 (x1).toNatClampNeg) &&& 31)) ^^^ (-1 : Int32)))), (2, .int (1 : Int32)), (0, .ref (ad 5)), (1, .int x1)]) hx hb dT_addNumbers_42 hl (by decide) rfl (fun ls hl => ?_)
  refine lv_iconst (v := 0) hx hb dT_addNumbers_44 (by decide) ?_
  refine lv_istore (lv' := [(6, .int (0 : Int32)), (4, .long v2), (3, .int ((st 27 (x1).toNatClampNeg) &&& (((1 : Int32) <<< ((st 30 (x1).toNatClampNeg) &&& 31)) ^^^ (-1 : Int32)))), (2, .int (1 : Int32)), (0, .ref (ad 5)), (1, .int x1)]) hx hb dT_addNumbers_45 hl (by decide) rfl (fun ls hl => ?_)
  exact BT_addNumbers_47 C hret (fun x1 x2 x3 st H locs ls h hl hf => by
      exact BT_addNumbers_139 C hret _ _ _ _ _ _ _ h (lv_sub hl [0, 1, 2, 3] rfl) hf) 4096 _ _ _ _ _ _ _ _ _ h (lv_sub hl [4, 5, 3, 2, 1, 0] rfl) hf
def fT_addConstructors_l23 : Nat → Int32 → Int32 → Int32 → Int32 → ck_S → Option (Int32 × ck_S)
  | 0, _, _, _, _, _ => none
  | n + 1, x1, x2, x3, x4, st => (ck_b (fD_constructorCount st) fun v2 st1 => (if v2 ≤ x4 then (ck_gz x2 (some (x2, st1))) else (if x2 = 0 then (ck_gz x2 (some (x2, st1))) else (ck_b (fD_ownerOf x4 st1) fun v4 st3 => (ck_gd x1 60 (if v4 = (st3 31 (x1).toNatClampNeg) then (ck_gd x1 60 (ck_gd x1 60 (ck_b (fM_notAskingElse (st3 26 (x1).toNatClampNeg) (st3 30 (x1).toNatClampNeg) x4 st3) fun v6 st5 => (ck_gd x1 60 (ck_b (fD_argumentPlaces x4 (st5 30 (x1).toNatClampNeg) st5) fun v8 st7 => (ck_gd x1 60 (ck_b (fT_addNode x4 v6 (x3 ||| v8) ((st7 29 (x1).toNatClampNeg) + (1 : Int32)) st7) fun v10 st9 => (fT_addConstructors_l23 n x1 v10 x3 (x4 + 1) st9)))))))) else (fT_addConstructors_l23 n x1 x2 x3 (x4 + 1) st3)))))))
set_option maxRecDepth 100000 in
set_option maxHeartbeats 4000000 in
theorem BT_addConstructors_23 (C : ck_X cm_cl D cA bT_addConstructors 7 R_T 3 p R s m args c) {r0 : Int32} {st0 : ck_S} (hret : ∀ (pc : Nat) (H : Heap) (locs : List Loc) (ls : Array Slot), decode bT_addConstructors pc = .ok (.ireturn, 1) → (r0 = 0 ∨ r0 = 1) → ck_AT sh_C cm_cl D cA ad H0 st0 H locs → W p l e R s m args below meth c H locs 0 0 Q (F0 m pc ls [.int r0])) : ∀ (n : Nat) (x1 : Int32) (x2 : Int32) (x3 : Int32) (x4 : Int32) (st : ck_S) (H : Heap) (locs : List Loc) (ls : Array Slot), ck_AT sh_C cm_cl D cA ad H0 st H locs → lv_has ls 7 [(0, .ref (ad 5)), (1, .int x1), (2, .int x2), (3, .int x3), (4, .int x4)] → fT_addConstructors_l23  n x1 x2 x3 x4 st = some (r0, st0) → W p l e R s m args below meth c H locs 0 0 Q (F0 m 23 ls []) := by
  have C1 := C
  obtain ⟨hx, hb, hml, hown, hts, hK, hlv, hlo⟩ := C1
  intro n
  induction n with
  | zero => intro _ _ _ _ _ _ _ _ _ _ hf; cases hf
  | succ n ih =>
    intro x1 x2 x3 x4 st H locs ls h hl hf
    rw [fT_addConstructors_l23] at hf
    refine lv_iload hx hb dT_addConstructors_23 (lv_at hl 4 rfl) ?_
    refine lv_aload_n hx hb dT_addConstructors_25 rfl (lv_at hl 0 rfl) ?_
    refine ck_gr C h FT_declared dT_addConstructors_26 ?_
    obtain ⟨v2, st1, hc, hf⟩ := ck_b_e hf
    refine ck_vi (As := []) (rest := [.int x4]) (q := 1) C h hl CT_D_constructorCount sD_constructorCount q_D (cD_constructorCount l D cA ad hc) (Nat.le_of_ble_eq_true rfl) rfl rfl (Nat.le_of_ble_eq_true rfl) dT_addConstructors_29 (fun H locs h => ?_)
    refine lv_icmp_ge (tgt := 124) hx hb dT_addConstructors_32 rfl (fun hq => ?_) (fun hq => ?_)
    · have hf := ck_t hq hf
      refine lv_iload_n hx hb dT_addConstructors_124 rfl (lv_at hl 2 rfl) ?_
      obtain ⟨hz, hf⟩ := ck_gz_e hf
      exact ck_rz hf hret hz h dT_addConstructors_125
    · have hf := ck_f hq hf
      refine lv_iload_n hx hb dT_addConstructors_35 rfl (lv_at hl 2 rfl) ?_
      refine lv_if_eq (tgt := 124) hx hb dT_addConstructors_36 rfl (fun hq => ?_) (fun hq => ?_)
      · have hf := ck_t hq hf
        refine lv_iload_n hx hb dT_addConstructors_124 rfl (lv_at hl 2 rfl) ?_
        obtain ⟨hz, hf⟩ := ck_gz_e hf
        exact ck_rz hf hret hz h dT_addConstructors_125
      · have hf := ck_f hq hf
        refine lv_aload_n hx hb dT_addConstructors_39 rfl (lv_at hl 0 rfl) ?_
        refine ck_gr C h FT_declared dT_addConstructors_40 ?_
        refine lv_iload hx hb dT_addConstructors_43 (lv_at hl 4 rfl) ?_
        obtain ⟨v4, st3, hc, hf⟩ := ck_b_e hf
        refine ck_vi (As := [.int x4]) (rest := []) (q := 1) C h hl CT_D_ownerOf sD_ownerOf q_D (cD_ownerOf l D cA ad hc) (Nat.le_of_ble_eq_true rfl) rfl rfl (Nat.le_of_ble_eq_true rfl) dT_addConstructors_45 (fun H locs h => ?_)
        refine lv_aload_n hx hb dT_addConstructors_48 rfl (lv_at hl 0 rfl) ?_
        refine ck_gr C h FT_testType dT_addConstructors_49 ?_
        refine lv_iload_n hx hb dT_addConstructors_52 rfl (lv_at hl 1 rfl) ?_
        obtain ⟨hg, hf⟩ := ck_gd_e hf
        refine ck_ai (x := (st3 31 (x1).toNatClampNeg)) C h (show sh_C[31]? = some (.inr (0, 60)) from rfl) hg rfl dT_addConstructors_53 ?_
        refine lv_icmp_ne (tgt := 118) hx hb dT_addConstructors_54 rfl (fun hq => ?_) (fun hq => ?_)
        · have hf := ck_f hq hf
          refine lv_iinc (k := 4) (v := (x4 + 1)) (lv' := [(4, .int (x4 + 1)), (0, .ref (ad 5)), (1, .int x1), (2, .int x2), (3, .int x3)]) hx hb dT_addConstructors_118 hl rfl rfl (by decide) rfl (fun ls hl => ?_)
          refine lv_goto (tgt := 23) hx hb dT_addConstructors_121 rfl ?_
          exact ih _ _ _ _ _ _ _ _ h (lv_sub hl [1, 2, 3, 4, 0] rfl) hf
        · have hf := ck_t hq hf
          refine lv_aload_n hx hb dT_addConstructors_57 rfl (lv_at hl 0 rfl) ?_
          refine ck_gr C h FT_match dT_addConstructors_58 ?_
          refine lv_aload_n hx hb dT_addConstructors_61 rfl (lv_at hl 0 rfl) ?_
          refine ck_gr C h FT_left dT_addConstructors_62 ?_
          refine lv_iload_n hx hb dT_addConstructors_65 rfl (lv_at hl 1 rfl) ?_
          obtain ⟨hg, hf⟩ := ck_gd_e hf
          refine ck_ai (x := (st3 26 (x1).toNatClampNeg)) C h (show sh_C[26]? = some (.inr (0, 60)) from rfl) hg rfl dT_addConstructors_66 ?_
          refine lv_aload_n hx hb dT_addConstructors_67 rfl (lv_at hl 0 rfl) ?_
          refine ck_gr C h FT_place dT_addConstructors_68 ?_
          refine lv_iload_n hx hb dT_addConstructors_71 rfl (lv_at hl 1 rfl) ?_
          obtain ⟨hg, hf⟩ := ck_gd_e hf
          refine ck_ai (x := (st3 30 (x1).toNatClampNeg)) C h (show sh_C[30]? = some (.inr (0, 60)) from rfl) hg rfl dT_addConstructors_72 ?_
          refine lv_iload hx hb dT_addConstructors_73 (lv_at hl 4 rfl) ?_
          obtain ⟨v6, st5, hc, hf⟩ := ck_b_e hf
          refine ck_vi (As := [.int (st3 26 (x1).toNatClampNeg), .int (st3 30 (x1).toNatClampNeg), .int x4]) (rest := []) (q := 4) C h hl CT_M_notAskingElse sM_notAskingElse q_M (cM_notAskingElse l D cA ad hc) (Nat.le_of_ble_eq_true rfl) rfl rfl (Nat.le_of_ble_eq_true rfl) dT_addConstructors_75 (fun H locs h => ?_)
          refine lv_istore (lv' := [(5, .int v6), (0, .ref (ad 5)), (1, .int x1), (2, .int x2), (3, .int x3), (4, .int x4)]) hx hb dT_addConstructors_78 hl (by decide) rfl (fun ls hl => ?_)
          refine lv_aload_n hx hb dT_addConstructors_80 rfl (lv_at hl 1 rfl) ?_
          refine ck_gr C h FT_declared dT_addConstructors_81 ?_
          refine lv_iload hx hb dT_addConstructors_84 (lv_at hl 5 rfl) ?_
          refine lv_aload_n hx hb dT_addConstructors_86 rfl (lv_at hl 1 rfl) ?_
          refine ck_gr C h FT_place dT_addConstructors_87 ?_
          refine lv_iload_n hx hb dT_addConstructors_90 rfl (lv_at hl 2 rfl) ?_
          obtain ⟨hg, hf⟩ := ck_gd_e hf
          refine ck_ai (x := (st5 30 (x1).toNatClampNeg)) C h (show sh_C[30]? = some (.inr (0, 60)) from rfl) hg rfl dT_addConstructors_91 ?_
          obtain ⟨v8, st7, hc, hf⟩ := ck_b_e hf
          refine ck_vi (As := [.int x4, .int (st5 30 (x1).toNatClampNeg)]) (rest := []) (q := 1) C h hl CT_D_argumentPlaces sD_argumentPlaces q_D (cD_argumentPlaces l D cA ad hc) (Nat.le_of_ble_eq_true rfl) rfl rfl (Nat.le_of_ble_eq_true rfl) dT_addConstructors_92 (fun H locs h => ?_)
          refine lv_istore (lv' := [(6, .int v8), (5, .int v6), (0, .ref (ad 5)), (1, .int x1), (2, .int x2), (3, .int x3), (4, .int x4)]) hx hb dT_addConstructors_95 hl (by decide) rfl (fun ls hl => ?_)
          refine lv_aload_n hx hb dT_addConstructors_97 rfl (lv_at hl 2 rfl) ?_
          refine lv_iload hx hb dT_addConstructors_98 (lv_at hl 6 rfl) ?_
          refine lv_iload hx hb dT_addConstructors_100 (lv_at hl 1 rfl) ?_
          refine lv_iload_n hx hb dT_addConstructors_102 rfl (lv_at hl 5 rfl) ?_
          refine lv_iload hx hb dT_addConstructors_103 (lv_at hl 0 rfl) ?_
          refine lv_ior hx hb dT_addConstructors_105 ?_
          refine lv_aload_n hx hb dT_addConstructors_106 rfl (lv_at hl 2 rfl) ?_
          refine ck_gr C h FT_above dT_addConstructors_107 ?_
          refine lv_iload_n hx hb dT_addConstructors_110 rfl (lv_at hl 3 rfl) ?_
          obtain ⟨hg, hf⟩ := ck_gd_e hf
          refine ck_ai (x := (st7 29 (x1).toNatClampNeg)) C h (show sh_C[29]? = some (.inr (0, 60)) from rfl) hg rfl dT_addConstructors_111 ?_
          refine lv_iconst (v := 1) hx hb dT_addConstructors_112 (by decide) ?_
          refine lv_iadd hx hb dT_addConstructors_113 ?_
          obtain ⟨v10, st9, hc, hf⟩ := ck_b_e hf
          refine ck_vi (As := [.int x4, .int v6, .int (x3 ||| v8), .int ((st7 29 (x1).toNatClampNeg) + (1 : Int32))]) (rest := []) (q := 5) C h hl CT_T_addNode sT_addNode q_T (cT_addNode l D cA ad hc) (Nat.le_of_ble_eq_true rfl) rfl rfl (Nat.le_of_ble_eq_true rfl) dT_addConstructors_114 (fun H locs h => ?_)
          refine lv_istore_n (lv' := [(2, .int v10), (6, .int v8), (5, .int v6), (0, .ref (ad 5)), (1, .int x1), (3, .int x3), (4, .int x4)]) hx hb dT_addConstructors_117 rfl hl (by decide) rfl (fun ls hl => ?_)
          refine lv_iinc (k := 6) (v := (x4 + 1)) (lv' := [(4, .int (x4 + 1)), (2, .int v10), (6, .int v8), (5, .int v6), (0, .ref (ad 5)), (1, .int x1), (3, .int x3)]) hx hb dT_addConstructors_118 hl rfl rfl (by decide) rfl (fun ls hl => ?_)
          refine lv_goto (tgt := 23) hx hb dT_addConstructors_121 rfl ?_
          exact ih _ _ _ _ _ _ _ _ h (lv_sub hl [4, 5, 1, 6, 0] rfl) hf
def fT_addConstructors (x1 : Int32) (st : ck_S) : Option (Int32 × ck_S) := (ck_gd x1 60 (ck_gd x1 60 (fT_addConstructors_l23  4096 x1 (1 : Int32) ((st 27 (x1).toNatClampNeg) &&& (((1 : Int32) <<< ((st 30 (x1).toNatClampNeg) &&& 31)) ^^^ (-1 : Int32))) (0 : Int32) st)))
set_option maxRecDepth 100000 in
set_option maxHeartbeats 4000000 in
theorem cT_addConstructors (l : Launch) (D : va_G) (cA : Nat → ClassId) (ad : Nat → Nat) {x1 : Int32} {st : ck_S} {r0 : Int32} {st0 : ck_S} (hf : fT_addConstructors x1 st = some (r0, st0)) : Met l yT_addConstructors (.code yT_addConstructors bT_addConstructors 7 (some .boolean) :: ck_T) (ck_R 3) (va_Pc [.ref (ad 5), .int x1] (ck_P sh_C cm_cl D cA ad st)) (va_Qi (fun a u => a = r0 ∧ u = st0) (ck_P sh_C cm_cl D cA ad) (ck_A ad sh_C.length)) 0 0 (ck_A ad sh_C.length) := by
  refine ck_met_z (own := R_T) (by decide +kernel) rfl (Nat.le_of_ble_eq_true rfl) (fun p e R s m args below meth c H0 Q ls C hret h hl => ?_)
  have C1 := C
  obtain ⟨hx, hb, hml, hown, hts, hK, hlv, hlo⟩ := C1
  have hl : lv_has ls 7 [(0, .ref (ad 5)), (1, .int x1)] := hl
  unfold fT_addConstructors at hf
  refine lv_iconst (v := 1) hx hb dT_addConstructors_0 (by decide) ?_
  refine lv_istore_n (lv' := [(2, .int (1 : Int32)), (0, .ref (ad 5)), (1, .int x1)]) hx hb dT_addConstructors_1 rfl hl (by decide) rfl (fun ls hl => ?_)
  refine lv_aload_n hx hb dT_addConstructors_2 rfl (lv_at hl 1 rfl) ?_
  refine ck_gr C h FT_open dT_addConstructors_3 ?_
  refine lv_iload_n hx hb dT_addConstructors_6 rfl (lv_at hl 2 rfl) ?_
  obtain ⟨hg, hf⟩ := ck_gd_e hf
  refine ck_ai (x := (st 27 (x1).toNatClampNeg)) C h (show sh_C[27]? = some (.inr (0, 60)) from rfl) hg rfl dT_addConstructors_7 ?_
  refine lv_iconst (v := 1) hx hb dT_addConstructors_8 (by decide) ?_
  refine lv_aload_n hx hb dT_addConstructors_9 rfl (lv_at hl 1 rfl) ?_
  refine ck_gr C h FT_place dT_addConstructors_10 ?_
  refine lv_iload_n hx hb dT_addConstructors_13 rfl (lv_at hl 2 rfl) ?_
  obtain ⟨hg, hf⟩ := ck_gd_e hf
  refine ck_ai (x := (st 30 (x1).toNatClampNeg)) C h (show sh_C[30]? = some (.inr (0, 60)) from rfl) hg rfl dT_addConstructors_14 ?_
  refine lv_ishl hx hb dT_addConstructors_15 ?_
  refine lv_iconst (v := (-1)) hx hb dT_addConstructors_16 (by decide) ?_
  refine lv_ixor hx hb dT_addConstructors_17 ?_
  refine lv_iand hx hb dT_addConstructors_18 ?_
  refine lv_istore_n (lv' := [(3, .int ((st 27 (x1).toNatClampNeg) &&& (((1 : Int32) <<< ((st 30 (x1).toNatClampNeg) &&& 31)) ^^^ (-1 : Int32)))), (2, .int (1 : Int32)), (0, .ref (ad 5)), (1, .int x1)]) hx hb dT_addConstructors_19 rfl hl (by decide) rfl (fun ls hl => ?_)
  refine lv_iconst (v := 0) hx hb dT_addConstructors_20 (by decide) ?_
  refine lv_istore (lv' := [(4, .int (0 : Int32)), (3, .int ((st 27 (x1).toNatClampNeg) &&& (((1 : Int32) <<< ((st 30 (x1).toNatClampNeg) &&& 31)) ^^^ (-1 : Int32)))), (2, .int (1 : Int32)), (0, .ref (ad 5)), (1, .int x1)]) hx hb dT_addConstructors_21 hl (by decide) rfl (fun ls hl => ?_)
  exact BT_addConstructors_23 C hret  4096 _ _ _ _ _ _ _ _ h (lv_sub hl [3, 4, 2, 1, 0] rfl) hf
def fT_expand_b98 (y0 : Int32) (x1 : Int32) (st : ck_S) : Option (Int32 × ck_S) := (ck_gd x1 60 (ck_gd x1 60 (ck_gz y0 (some (y0, (ck_u st 34 (x1).toNatClampNeg ((st 5 14) - (st 33 (x1).toNatClampNeg))))))))
set_option maxRecDepth 100000 in
set_option maxHeartbeats 4000000 in
theorem BT_expand_98 (C : ck_X cm_cl D cA bT_expand 3 R_T 4 p R s m args c) {r0 : Int32} {st0 : ck_S} (hret : ∀ (pc : Nat) (H : Heap) (locs : List Loc) (ls : Array Slot), decode bT_expand pc = .ok (.ireturn, 1) → (r0 = 0 ∨ r0 = 1) → ck_AT sh_C cm_cl D cA ad H0 st0 H locs → W p l e R s m args below meth c H locs 0 0 Q (F0 m pc ls [.int r0])) (y0 : Int32) (x1 : Int32) (st : ck_S) (H : Heap) (locs : List Loc) (ls : Array Slot) (h : ck_AT sh_C cm_cl D cA ad H0 st H locs) (hl : lv_has ls 3 [(0, .ref (ad 5)), (1, .int x1)]) (hf : fT_expand_b98 y0 x1 st = some (r0, st0)) : W p l e R s m args below meth c H locs 0 0 Q (F0 m 98 ls [.int y0]) := by
  have C1 := C
  obtain ⟨hx, hb, hml, hown, hts, hK, hlv, hlo⟩ := C1
  unfold fT_expand_b98 at hf
  refine lv_istore_n (lv' := [(2, .int y0), (0, .ref (ad 5)), (1, .int x1)]) hx hb dT_expand_98 rfl hl (by decide) rfl (fun ls hl => ?_)
  refine lv_aload_n hx hb dT_expand_99 rfl (lv_at hl 1 rfl) ?_
  refine ck_gr C h FT_branchCount dT_expand_100 ?_
  refine lv_iload_n hx hb dT_expand_103 rfl (lv_at hl 2 rfl) ?_
  refine lv_aload_n hx hb dT_expand_104 rfl (lv_at hl 1 rfl) ?_
  refine ck_gi (x := (st 5 14)) C h FT_size rfl dT_expand_105 ?_
  refine lv_aload_n hx hb dT_expand_108 rfl (lv_at hl 1 rfl) ?_
  refine ck_gr C h FT_firstBranch dT_expand_109 ?_
  refine lv_iload_n hx hb dT_expand_112 rfl (lv_at hl 2 rfl) ?_
  obtain ⟨hg, hf⟩ := ck_gd_e hf
  refine ck_ai (x := (st 33 (x1).toNatClampNeg)) C h (show sh_C[33]? = some (.inr (0, 60)) from rfl) hg rfl dT_expand_113 ?_
  refine lv_isub hx hb dT_expand_114 ?_
  obtain ⟨hg, hf⟩ := ck_gd_e hf
  refine ck_si C h (show sh_C[34]? = some (.inr (0, 60)) from rfl) hg dT_expand_115 (fun H locs h => ?_)
  refine lv_iload_n hx hb dT_expand_116 rfl (lv_at hl 0 rfl) ?_
  obtain ⟨hz, hf⟩ := ck_gz_e hf
  exact ck_rz hf hret hz h dT_expand_117
def fT_expand (x1 : Int32) (st : ck_S) : Option (Int32 × ck_S) := (ck_gd x1 60 (ck_gd x1 60 (ck_b (fM_placeToTest (st 26 (x1).toNatClampNeg) (st 27 (x1).toNatClampNeg) st) fun v2 st1 => (ck_gd x1 60 (ck_gd x1 60 (if ((ck_u st1 30 (x1).toNatClampNeg v2) 30 (x1).toNatClampNeg) = 0 then (ck_bv (fT_makeLeaf x1 (ck_u st1 30 (x1).toNatClampNeg v2)) fun st3 => (some ((1 : Int32), st3))) else (ck_gd x1 60 (ck_gd x1 60 (ck_b (fM_typeAskedAt ((ck_u st1 30 (x1).toNatClampNeg v2) 30 (x1).toNatClampNeg) (st1 26 (x1).toNatClampNeg) (ck_u st1 30 (x1).toNatClampNeg v2)) fun v4 st3 => (ck_gd x1 60 (ck_gd x1 60 (ck_gd x1 60 (if ((ck_u st3 31 (x1).toNatClampNeg v4) 31 (x1).toNatClampNeg) = 0 then (ck_b (fT_addNumbers x1 (ck_u (ck_u st3 31 (x1).toNatClampNeg v4) 33 (x1).toNatClampNeg (st3 5 14))) fun v6 st5 => (fT_expand_b98 v6 x1 st5)) else (ck_b (fT_addConstructors x1 (ck_u (ck_u st3 31 (x1).toNatClampNeg v4) 33 (x1).toNatClampNeg (st3 5 14))) fun v6 st5 => (fT_expand_b98 v6 x1 st5)))))))))))))))
set_option maxRecDepth 100000 in
set_option maxHeartbeats 4000000 in
theorem cT_expand (l : Launch) (D : va_G) (cA : Nat → ClassId) (ad : Nat → Nat) {x1 : Int32} {st : ck_S} {r0 : Int32} {st0 : ck_S} (hf : fT_expand x1 st = some (r0, st0)) : Met l yT_expand (.code yT_expand bT_expand 3 (some .boolean) :: ck_T) (ck_R 4) (va_Pc [.ref (ad 5), .int x1] (ck_P sh_C cm_cl D cA ad st)) (va_Qi (fun a u => a = r0 ∧ u = st0) (ck_P sh_C cm_cl D cA ad) (ck_A ad sh_C.length)) 0 0 (ck_A ad sh_C.length) := by
  refine ck_met_z (own := R_T) (by decide +kernel) rfl (Nat.le_of_ble_eq_true rfl) (fun p e R s m args below meth c H0 Q ls C hret h hl => ?_)
  have C1 := C
  obtain ⟨hx, hb, hml, hown, hts, hK, hlv, hlo⟩ := C1
  have hl : lv_has ls 3 [(0, .ref (ad 5)), (1, .int x1)] := hl
  unfold fT_expand at hf
  refine lv_aload_n hx hb dT_expand_0 rfl (lv_at hl 0 rfl) ?_
  refine ck_gr C h FT_place dT_expand_1 ?_
  refine lv_iload_n hx hb dT_expand_4 rfl (lv_at hl 1 rfl) ?_
  refine lv_aload_n hx hb dT_expand_5 rfl (lv_at hl 0 rfl) ?_
  refine ck_gr C h FT_match dT_expand_6 ?_
  refine lv_aload_n hx hb dT_expand_9 rfl (lv_at hl 0 rfl) ?_
  refine ck_gr C h FT_left dT_expand_10 ?_
  refine lv_iload_n hx hb dT_expand_13 rfl (lv_at hl 1 rfl) ?_
  obtain ⟨hg, hf⟩ := ck_gd_e hf
  refine ck_ai (x := (st 26 (x1).toNatClampNeg)) C h (show sh_C[26]? = some (.inr (0, 60)) from rfl) hg rfl dT_expand_14 ?_
  refine lv_aload_n hx hb dT_expand_15 rfl (lv_at hl 0 rfl) ?_
  refine ck_gr C h FT_open dT_expand_16 ?_
  refine lv_iload_n hx hb dT_expand_19 rfl (lv_at hl 1 rfl) ?_
  obtain ⟨hg, hf⟩ := ck_gd_e hf
  refine ck_ai (x := (st 27 (x1).toNatClampNeg)) C h (show sh_C[27]? = some (.inr (0, 60)) from rfl) hg rfl dT_expand_20 ?_
  obtain ⟨v2, st1, hc, hf⟩ := ck_b_e hf
  refine ck_vi (As := [.int (st 26 (x1).toNatClampNeg), .int (st 27 (x1).toNatClampNeg)]) (rest := [.int x1, .ref (ad 30)]) (q := 4) C h hl CT_M_placeToTest sM_placeToTest q_M (cM_placeToTest l D cA ad hc) (Nat.le_of_ble_eq_true rfl) rfl rfl (Nat.le_of_ble_eq_true rfl) dT_expand_21 (fun H locs h => ?_)
  obtain ⟨hg, hf⟩ := ck_gd_e hf
  refine ck_si C h (show sh_C[30]? = some (.inr (0, 60)) from rfl) hg dT_expand_24 (fun H locs h => ?_)
  refine lv_aload_n hx hb dT_expand_25 rfl (lv_at hl 0 rfl) ?_
  refine ck_gr C h FT_place dT_expand_26 ?_
  refine lv_iload_n hx hb dT_expand_29 rfl (lv_at hl 1 rfl) ?_
  obtain ⟨hg, hf⟩ := ck_gd_e hf
  refine ck_ai (x := ((ck_u st1 30 (x1).toNatClampNeg v2) 30 (x1).toNatClampNeg)) C h (show sh_C[30]? = some (.inr (0, 60)) from rfl) hg rfl dT_expand_30 ?_
  refine lv_if_ne (tgt := 41) hx hb dT_expand_31 rfl (fun hq => ?_) (fun hq => ?_)
  · have hf := ck_f hq hf
    refine lv_aload_n hx hb dT_expand_41 rfl (lv_at hl 0 rfl) ?_
    refine ck_gr C h FT_testType dT_expand_42 ?_
    refine lv_iload_n hx hb dT_expand_45 rfl (lv_at hl 1 rfl) ?_
    refine lv_aload_n hx hb dT_expand_46 rfl (lv_at hl 0 rfl) ?_
    refine ck_gr C h FT_match dT_expand_47 ?_
    refine lv_aload_n hx hb dT_expand_50 rfl (lv_at hl 0 rfl) ?_
    refine ck_gr C h FT_place dT_expand_51 ?_
    refine lv_iload_n hx hb dT_expand_54 rfl (lv_at hl 1 rfl) ?_
    obtain ⟨hg, hf⟩ := ck_gd_e hf
    refine ck_ai (x := ((ck_u st1 30 (x1).toNatClampNeg v2) 30 (x1).toNatClampNeg)) C h (show sh_C[30]? = some (.inr (0, 60)) from rfl) hg rfl dT_expand_55 ?_
    refine lv_aload_n hx hb dT_expand_56 rfl (lv_at hl 0 rfl) ?_
    refine ck_gr C h FT_left dT_expand_57 ?_
    refine lv_iload_n hx hb dT_expand_60 rfl (lv_at hl 1 rfl) ?_
    obtain ⟨hg, hf⟩ := ck_gd_e hf
    refine ck_ai (x := (st1 26 (x1).toNatClampNeg)) C h (show sh_C[26]? = some (.inr (0, 60)) from rfl) hg rfl dT_expand_61 ?_
    obtain ⟨v4, st3, hc, hf⟩ := ck_b_e hf
    refine ck_vi (As := [.int ((ck_u st1 30 (x1).toNatClampNeg v2) 30 (x1).toNatClampNeg), .int (st1 26 (x1).toNatClampNeg)]) (rest := [.int x1, .ref (ad 31)]) (q := 4) C h hl CT_M_typeAskedAt sM_typeAskedAt q_M (cM_typeAskedAt l D cA ad hc) (Nat.le_of_ble_eq_true rfl) rfl rfl (Nat.le_of_ble_eq_true rfl) dT_expand_62 (fun H locs h => ?_)
    obtain ⟨hg, hf⟩ := ck_gd_e hf
    refine ck_si C h (show sh_C[31]? = some (.inr (0, 60)) from rfl) hg dT_expand_65 (fun H locs h => ?_)
    refine lv_aload_n hx hb dT_expand_66 rfl (lv_at hl 0 rfl) ?_
    refine ck_gr C h FT_firstBranch dT_expand_67 ?_
    refine lv_iload_n hx hb dT_expand_70 rfl (lv_at hl 1 rfl) ?_
    refine lv_aload_n hx hb dT_expand_71 rfl (lv_at hl 0 rfl) ?_
    refine ck_gi (x := (st3 5 14)) C h FT_size rfl dT_expand_72 ?_
    obtain ⟨hg, hf⟩ := ck_gd_e hf
    refine ck_si C h (show sh_C[33]? = some (.inr (0, 60)) from rfl) hg dT_expand_75 (fun H locs h => ?_)
    refine lv_aload_n hx hb dT_expand_76 rfl (lv_at hl 0 rfl) ?_
    refine ck_gr C h FT_testType dT_expand_77 ?_
    refine lv_iload_n hx hb dT_expand_80 rfl (lv_at hl 1 rfl) ?_
    obtain ⟨hg, hf⟩ := ck_gd_e hf
    refine ck_ai (x := ((ck_u st3 31 (x1).toNatClampNeg v4) 31 (x1).toNatClampNeg)) C h (show sh_C[31]? = some (.inr (0, 60)) from rfl) hg rfl dT_expand_81 ?_
    refine lv_if_ne (tgt := 93) hx hb dT_expand_82 rfl (fun hq => ?_) (fun hq => ?_)
    · have hf := ck_f hq hf
      refine lv_aload_n hx hb dT_expand_93 rfl (lv_at hl 0 rfl) ?_
      refine lv_iload_n hx hb dT_expand_94 rfl (lv_at hl 1 rfl) ?_
      obtain ⟨v6, st5, hc, hf⟩ := ck_b_e hf
      refine ck_vi (As := [.int x1]) (rest := []) (q := 5) C h hl CT_T_addConstructors sT_addConstructors q_T (cT_addConstructors l D cA ad hc) (Nat.le_of_ble_eq_true rfl) rfl rfl (Nat.le_of_ble_eq_true rfl) dT_expand_95 (fun H locs h => ?_)
      exact BT_expand_98 C hret _ _ _ _ _ _ h (lv_sub hl [0, 1] rfl) hf
    · have hf := ck_t hq hf
      refine lv_aload_n hx hb dT_expand_85 rfl (lv_at hl 0 rfl) ?_
      refine lv_iload_n hx hb dT_expand_86 rfl (lv_at hl 1 rfl) ?_
      obtain ⟨v6, st5, hc, hf⟩ := ck_b_e hf
      refine ck_vi (As := [.int x1]) (rest := []) (q := 5) C h hl CT_T_addNumbers sT_addNumbers q_T (cT_addNumbers l D cA ad hc) (Nat.le_of_ble_eq_true rfl) rfl rfl (Nat.le_of_ble_eq_true rfl) dT_expand_87 (fun H locs h => ?_)
      refine lv_goto (tgt := 98) hx hb dT_expand_90 rfl ?_
      exact BT_expand_98 C hret _ _ _ _ _ _ h (lv_sub hl [0, 1] rfl) hf
  · have hf := ck_t hq hf
    refine lv_aload_n hx hb dT_expand_34 rfl (lv_at hl 0 rfl) ?_
    refine lv_iload_n hx hb dT_expand_35 rfl (lv_at hl 1 rfl) ?_
    obtain ⟨st3, hc, hf⟩ := ck_bv_e hf
    refine ck_vv (As := [.int x1]) (rest := []) (q := 5) C h hl CT_T_makeLeaf sT_makeLeaf q_T (cT_makeLeaf l D cA ad hc) (Nat.le_of_ble_eq_true rfl) rfl rfl (Nat.le_of_ble_eq_true rfl) dT_expand_36 (fun H locs h => ?_)
    refine lv_iconst (v := 1) hx hb dT_expand_39 (by decide) ?_
    exact ck_rz hf hret ck_z1 h dT_expand_40
def fT_failingBranch_l12 : Nat → Int32 → Int32 → ck_S → Option (Int32 × ck_S)
  | 0, _, _, _ => none
  | n + 1, x1, x2, st => (ck_gd x1 60 (if (st 34 (x1).toNatClampNeg) ≤ x2 then (some (x1, st)) else (ck_gd x1 60 (ck_gd ((st 33 (x1).toNatClampNeg) + x2) 60 (if (st 36 (((st 33 (x1).toNatClampNeg) + x2)).toNatClampNeg) = 0 then (fT_failingBranch_l12 n x1 (x2 + 1) st) else (ck_gd x1 60 (some (((st 33 (x1).toNatClampNeg) + x2), st))))))))
set_option maxRecDepth 100000 in
set_option maxHeartbeats 4000000 in
theorem BT_failingBranch_12 (C : ck_X cm_cl D cA bT_failingBranch 3 R_T 1 p R s m args c) {r0 : Int32} {st0 : ck_S} (hret : ∀ (pc : Nat) (H : Heap) (locs : List Loc) (ls : Array Slot), decode bT_failingBranch pc = .ok (.ireturn, 1) → ck_AT sh_C cm_cl D cA ad H0 st0 H locs → W p l e R s m args below meth c H locs 0 0 Q (F0 m pc ls [.int r0])) : ∀ (n : Nat) (x1 : Int32) (x2 : Int32) (st : ck_S) (H : Heap) (locs : List Loc) (ls : Array Slot), ck_AT sh_C cm_cl D cA ad H0 st H locs → lv_has ls 3 [(0, .ref (ad 5)), (1, .int x1), (2, .int x2)] → fT_failingBranch_l12  n x1 x2 st = some (r0, st0) → W p l e R s m args below meth c H locs 0 0 Q (F0 m 12 ls []) := by
  have C1 := C
  obtain ⟨hx, hb, hml, hown, hts, hK, hlv, hlo⟩ := C1
  intro n
  induction n with
  | zero => intro _ _ _ _ _ _ _ _ hf; cases hf
  | succ n ih =>
    intro x1 x2 st H locs ls h hl hf
    rw [fT_failingBranch_l12] at hf
    refine lv_iload_n hx hb dT_failingBranch_12 rfl (lv_at hl 2 rfl) ?_
    refine lv_aload_n hx hb dT_failingBranch_13 rfl (lv_at hl 0 rfl) ?_
    refine ck_gr C h FT_branchCount dT_failingBranch_14 ?_
    refine lv_iload_n hx hb dT_failingBranch_17 rfl (lv_at hl 1 rfl) ?_
    obtain ⟨hg, hf⟩ := ck_gd_e hf
    refine ck_ai (x := (st 34 (x1).toNatClampNeg)) C h (show sh_C[34]? = some (.inr (0, 60)) from rfl) hg rfl dT_failingBranch_18 ?_
    refine lv_icmp_ge (tgt := 53) hx hb dT_failingBranch_19 rfl (fun hq => ?_) (fun hq => ?_)
    · have hf := ck_t hq hf
      refine lv_iload_n hx hb dT_failingBranch_53 rfl (lv_at hl 1 rfl) ?_
      exact ck_ri hf hret h dT_failingBranch_54
    · have hf := ck_f hq hf
      refine lv_aload_n hx hb dT_failingBranch_22 rfl (lv_at hl 0 rfl) ?_
      refine ck_gr C h FT_failing dT_failingBranch_23 ?_
      refine lv_aload_n hx hb dT_failingBranch_26 rfl (lv_at hl 0 rfl) ?_
      refine ck_gr C h FT_firstBranch dT_failingBranch_27 ?_
      refine lv_iload_n hx hb dT_failingBranch_30 rfl (lv_at hl 1 rfl) ?_
      obtain ⟨hg, hf⟩ := ck_gd_e hf
      refine ck_ai (x := (st 33 (x1).toNatClampNeg)) C h (show sh_C[33]? = some (.inr (0, 60)) from rfl) hg rfl dT_failingBranch_31 ?_
      refine lv_iload_n hx hb dT_failingBranch_32 rfl (lv_at hl 2 rfl) ?_
      refine lv_iadd hx hb dT_failingBranch_33 ?_
      obtain ⟨hg, hf⟩ := ck_gd_e hf
      refine ck_az (x := (st 36 (((st 33 (x1).toNatClampNeg) + x2)).toNatClampNeg)) C h (show sh_C[36]? = some (.inr (1, 60)) from rfl) hg rfl dT_failingBranch_34 ?_
      refine lv_if_eq (tgt := 47) hx hb dT_failingBranch_35 rfl (fun hq => ?_) (fun hq => ?_)
      · have hf := ck_t hq hf
        refine lv_iinc (k := 2) (v := (x2 + 1)) (lv' := [(2, .int (x2 + 1)), (0, .ref (ad 5)), (1, .int x1)]) hx hb dT_failingBranch_47 hl rfl rfl (by decide) rfl (fun ls hl => ?_)
        refine lv_goto (tgt := 12) hx hb dT_failingBranch_50 rfl ?_
        exact ih _ _ _ _ _ _ h (lv_sub hl [1, 2, 0] rfl) hf
      · have hf := ck_f hq hf
        refine lv_aload_n hx hb dT_failingBranch_38 rfl (lv_at hl 0 rfl) ?_
        refine ck_gr C h FT_firstBranch dT_failingBranch_39 ?_
        refine lv_iload_n hx hb dT_failingBranch_42 rfl (lv_at hl 1 rfl) ?_
        obtain ⟨hg, hf⟩ := ck_gd_e hf
        refine ck_ai (x := (st 33 (x1).toNatClampNeg)) C h (show sh_C[33]? = some (.inr (0, 60)) from rfl) hg rfl dT_failingBranch_43 ?_
        refine lv_iload_n hx hb dT_failingBranch_44 rfl (lv_at hl 2 rfl) ?_
        refine lv_iadd hx hb dT_failingBranch_45 ?_
        exact ck_ri hf hret h dT_failingBranch_46
def fT_failingBranch (x1 : Int32) (st : ck_S) : Option (Int32 × ck_S) := (ck_b (fT_has x1 st) fun v2 st1 => (if v2 = 0 then (some (x1, st1)) else (fT_failingBranch_l12  4096 x1 (0 : Int32) st1)))
set_option maxRecDepth 100000 in
set_option maxHeartbeats 4000000 in
theorem cT_failingBranch (l : Launch) (D : va_G) (cA : Nat → ClassId) (ad : Nat → Nat) {x1 : Int32} {st : ck_S} {r0 : Int32} {st0 : ck_S} (hf : fT_failingBranch x1 st = some (r0, st0)) : Met l yT_failingBranch (.code yT_failingBranch bT_failingBranch 3 (some .int) :: ck_T) (ck_R 1) (va_Pc [.ref (ad 5), .int x1] (ck_P sh_C cm_cl D cA ad st)) (va_Qi (fun a u => a = r0 ∧ u = st0) (ck_P sh_C cm_cl D cA ad) (ck_A ad sh_C.length)) 0 0 (ck_A ad sh_C.length) := by
  refine ck_met_i (own := R_T) (by decide +kernel) rfl (Nat.le_of_ble_eq_true rfl) (fun p e R s m args below meth c H0 Q ls C hret h hl => ?_)
  have C1 := C
  obtain ⟨hx, hb, hml, hown, hts, hK, hlv, hlo⟩ := C1
  have hl : lv_has ls 3 [(0, .ref (ad 5)), (1, .int x1)] := hl
  unfold fT_failingBranch at hf
  refine lv_aload_n hx hb dT_failingBranch_0 rfl (lv_at hl 0 rfl) ?_
  refine lv_iload_n hx hb dT_failingBranch_1 rfl (lv_at hl 1 rfl) ?_
  obtain ⟨v2, st1, hc, hf⟩ := ck_b_e hf
  refine ck_vi (As := [.int x1]) (rest := []) (q := 5) C h hl CT_T_has sT_has q_T (cT_has l D cA ad hc) (Nat.le_of_ble_eq_true rfl) rfl rfl (Nat.le_of_ble_eq_true rfl) dT_failingBranch_2 (fun H locs h => ?_)
  refine lv_if_ne (tgt := 10) hx hb dT_failingBranch_5 rfl (fun hq => ?_) (fun hq => ?_)
  · have hf := ck_f hq hf
    refine lv_iconst (v := 0) hx hb dT_failingBranch_10 (by decide) ?_
    refine lv_istore_n (lv' := [(2, .int (0 : Int32)), (0, .ref (ad 5)), (1, .int x1)]) hx hb dT_failingBranch_11 rfl hl (by decide) rfl (fun ls hl => ?_)
    exact BT_failingBranch_12 C hret  4096 _ _ _ _ _ _ h (lv_sub hl [1, 2, 0] rfl) hf
  · have hf := ck_t hq hf
    refine lv_iload_n hx hb dT_failingBranch_8 rfl (lv_at hl 1 rfl) ?_
    exact ck_ri hf hret h dT_failingBranch_9
def fT_markFailing_b25 (k7 : Int32 → ck_S → Option ck_S) (y0 : Int32) (x1 : Int32) (st : ck_S) : Option ck_S := (if y0 = 0 then (ck_b (fT_failingBranch x1 st) fun v2 st1 => (if v2 = x1 then (ck_gd x1 60 (k7 (x1 + (-1)) (ck_u st1 36 (x1).toNatClampNeg (vp_nar .boolean (0 : Int32))))) else (ck_gd x1 60 (k7 (x1 + (-1)) (ck_u st1 36 (x1).toNatClampNeg (vp_nar .boolean (1 : Int32))))))) else (ck_gd x1 60 (if (st 32 (x1).toNatClampNeg) = (-1 : Int32) then (ck_gd x1 60 (k7 (x1 + (-1)) (ck_u st 36 (x1).toNatClampNeg (vp_nar .boolean (1 : Int32))))) else (ck_gd x1 60 (k7 (x1 + (-1)) (ck_u st 36 (x1).toNatClampNeg (vp_nar .boolean (0 : Int32))))))))
set_option maxRecDepth 100000 in
set_option maxHeartbeats 4000000 in
theorem BT_markFailing_25 (C : ck_X cm_cl D cA bT_markFailing 3 R_T 2 p R s m args c) {st0 : ck_S} (hret : ∀ (pc : Nat) (H : Heap) (locs : List Loc) (ls : Array Slot), decode bT_markFailing pc = .ok (.return_, 1) → ck_AT sh_C cm_cl D cA ad H0 st0 H locs → W p l e R s m args below meth c H locs 0 0 Q (F0 m pc ls [])) {k7 : Int32 → ck_S → Option ck_S} (hk7 : ∀ (x1 : Int32) (st : ck_S) (H : Heap) (locs : List Loc) (ls : Array Slot), ck_AT sh_C cm_cl D cA ad H0 st H locs → lv_has ls 3 [(0, .ref (ad 5)), (1, .int x1)] → k7 x1 st = some st0 → W p l e R s m args below meth c H locs 0 0 Q (F0 m 7 ls [])) (y0 : Int32) (x1 : Int32) (st : ck_S) (H : Heap) (locs : List Loc) (ls : Array Slot) (h : ck_AT sh_C cm_cl D cA ad H0 st H locs) (hl : lv_has ls 3 [(0, .ref (ad 5)), (1, .int x1)]) (hf : fT_markFailing_b25 k7 y0 x1 st = some st0) : W p l e R s m args below meth c H locs 0 0 Q (F0 m 25 ls [.int y0]) := by
  have C1 := C
  obtain ⟨hx, hb, hml, hown, hts, hK, hlv, hlo⟩ := C1
  unfold fT_markFailing_b25 at hf
  refine lv_istore_n (lv' := [(2, .int y0), (0, .ref (ad 5)), (1, .int x1)]) hx hb dT_markFailing_25 rfl hl (by decide) rfl (fun ls hl => ?_)
  refine lv_aload_n hx hb dT_markFailing_26 rfl (lv_at hl 1 rfl) ?_
  refine ck_gr C h FT_failing dT_markFailing_27 ?_
  refine lv_iload_n hx hb dT_markFailing_30 rfl (lv_at hl 2 rfl) ?_
  refine lv_iload_n hx hb dT_markFailing_31 rfl (lv_at hl 0 rfl) ?_
  refine lv_if_eq (tgt := 53) hx hb dT_markFailing_32 rfl (fun hq => ?_) (fun hq => ?_)
  · have hf := ck_t hq hf
    refine lv_aload_n hx hb dT_markFailing_53 rfl (lv_at hl 1 rfl) ?_
    refine lv_iload_n hx hb dT_markFailing_54 rfl (lv_at hl 2 rfl) ?_
    obtain ⟨v2, st1, hc, hf⟩ := ck_b_e hf
    refine ck_vi (As := [.int x1]) (rest := [.int x1, .ref (ad 36)]) (q := 5) C h hl CT_T_failingBranch sT_failingBranch q_T (cT_failingBranch l D cA ad hc) (Nat.le_of_ble_eq_true rfl) rfl rfl (Nat.le_of_ble_eq_true rfl) dT_markFailing_55 (fun H locs h => ?_)
    refine lv_iload_n hx hb dT_markFailing_58 rfl (lv_at hl 2 rfl) ?_
    refine lv_icmp_eq (tgt := 66) hx hb dT_markFailing_59 rfl (fun hq => ?_) (fun hq => ?_)
    · have hf := ck_t hq hf
      refine lv_iconst (v := 0) hx hb dT_markFailing_66 (by decide) ?_
      obtain ⟨hg, hf⟩ := ck_gd_e hf
      refine ck_sz C h (show sh_C[36]? = some (.inr (1, 60)) from rfl) hg dT_markFailing_67 (fun H locs h => ?_)
      refine lv_iinc (k := 2) (v := (x1 + (-1))) (lv' := [(1, .int (x1 + (-1))), (2, .int y0), (0, .ref (ad 5))]) hx hb dT_markFailing_68 hl rfl rfl (by decide) rfl (fun ls hl => ?_)
      refine lv_goto (tgt := 7) hx hb dT_markFailing_71 rfl ?_
      exact hk7 _ _ _ _ _ h (lv_sub hl [2, 0] rfl) hf
    · have hf := ck_f hq hf
      refine lv_iconst (v := 1) hx hb dT_markFailing_62 (by decide) ?_
      refine lv_goto (tgt := 67) hx hb dT_markFailing_63 rfl ?_
      obtain ⟨hg, hf⟩ := ck_gd_e hf
      refine ck_sz C h (show sh_C[36]? = some (.inr (1, 60)) from rfl) hg dT_markFailing_67 (fun H locs h => ?_)
      refine lv_iinc (k := 2) (v := (x1 + (-1))) (lv' := [(1, .int (x1 + (-1))), (2, .int y0), (0, .ref (ad 5))]) hx hb dT_markFailing_68 hl rfl rfl (by decide) rfl (fun ls hl => ?_)
      refine lv_goto (tgt := 7) hx hb dT_markFailing_71 rfl ?_
      exact hk7 _ _ _ _ _ h (lv_sub hl [2, 0] rfl) hf
  · have hf := ck_f hq hf
    refine lv_aload_n hx hb dT_markFailing_35 rfl (lv_at hl 1 rfl) ?_
    refine ck_gr C h FT_clause dT_markFailing_36 ?_
    refine lv_iload_n hx hb dT_markFailing_39 rfl (lv_at hl 2 rfl) ?_
    obtain ⟨hg, hf⟩ := ck_gd_e hf
    refine ck_ai (x := (st 32 (x1).toNatClampNeg)) C h (show sh_C[32]? = some (.inr (0, 60)) from rfl) hg rfl dT_markFailing_40 ?_
    refine lv_iconst (v := (-1)) hx hb dT_markFailing_41 (by decide) ?_
    refine lv_icmp_ne (tgt := 49) hx hb dT_markFailing_42 rfl (fun hq => ?_) (fun hq => ?_)
    · have hf := ck_f hq hf
      refine lv_iconst (v := 0) hx hb dT_markFailing_49 (by decide) ?_
      refine lv_goto (tgt := 67) hx hb dT_markFailing_50 rfl ?_
      obtain ⟨hg, hf⟩ := ck_gd_e hf
      refine ck_sz C h (show sh_C[36]? = some (.inr (1, 60)) from rfl) hg dT_markFailing_67 (fun H locs h => ?_)
      refine lv_iinc (k := 2) (v := (x1 + (-1))) (lv' := [(1, .int (x1 + (-1))), (2, .int y0), (0, .ref (ad 5))]) hx hb dT_markFailing_68 hl rfl rfl (by decide) rfl (fun ls hl => ?_)
      refine lv_goto (tgt := 7) hx hb dT_markFailing_71 rfl ?_
      exact hk7 _ _ _ _ _ h (lv_sub hl [2, 0] rfl) hf
    · have hf := ck_t hq hf
      refine lv_iconst (v := 1) hx hb dT_markFailing_45 (by decide) ?_
      refine lv_goto (tgt := 67) hx hb dT_markFailing_46 rfl ?_
      obtain ⟨hg, hf⟩ := ck_gd_e hf
      refine ck_sz C h (show sh_C[36]? = some (.inr (1, 60)) from rfl) hg dT_markFailing_67 (fun H locs h => ?_)
      refine lv_iinc (k := 2) (v := (x1 + (-1))) (lv' := [(1, .int (x1 + (-1))), (2, .int y0), (0, .ref (ad 5))]) hx hb dT_markFailing_68 hl rfl rfl (by decide) rfl (fun ls hl => ?_)
      refine lv_goto (tgt := 7) hx hb dT_markFailing_71 rfl ?_
      exact hk7 _ _ _ _ _ h (lv_sub hl [2, 0] rfl) hf
def fT_markFailing_l7 : Nat → Int32 → ck_S → Option ck_S
  | 0, _, _ => none
  | n + 1, x1, st => (if x1 < 0 then (some st) else (ck_gd x1 60 (if (st 30 (x1).toNatClampNeg) = 0 then (fT_markFailing_b25 (fT_markFailing_l7 n) (1 : Int32) x1 st) else (fT_markFailing_b25 (fT_markFailing_l7 n) (0 : Int32) x1 st))))
set_option maxRecDepth 100000 in
set_option maxHeartbeats 4000000 in
theorem BT_markFailing_7 (C : ck_X cm_cl D cA bT_markFailing 3 R_T 2 p R s m args c) {st0 : ck_S} (hret : ∀ (pc : Nat) (H : Heap) (locs : List Loc) (ls : Array Slot), decode bT_markFailing pc = .ok (.return_, 1) → ck_AT sh_C cm_cl D cA ad H0 st0 H locs → W p l e R s m args below meth c H locs 0 0 Q (F0 m pc ls [])) : ∀ (n : Nat) (x1 : Int32) (st : ck_S) (H : Heap) (locs : List Loc) (ls : Array Slot), ck_AT sh_C cm_cl D cA ad H0 st H locs → lv_has ls 3 [(0, .ref (ad 5)), (1, .int x1)] → fT_markFailing_l7  n x1 st = some st0 → W p l e R s m args below meth c H locs 0 0 Q (F0 m 7 ls []) := by
  have C1 := C
  obtain ⟨hx, hb, hml, hown, hts, hK, hlv, hlo⟩ := C1
  intro n
  induction n with
  | zero => intro _ _ _ _ _ _ _ hf; cases hf
  | succ n ih =>
    intro x1 st H locs ls h hl hf
    rw [fT_markFailing_l7] at hf
    refine lv_iload_n hx hb dT_markFailing_7 rfl (lv_at hl 1 rfl) ?_
    refine lv_if_lt (tgt := 74) hx hb dT_markFailing_8 rfl (fun hq => ?_) (fun hq => ?_)
    · have hf := ck_t hq hf
      exact ck_rv hf hret h dT_markFailing_74
    · have hf := ck_f hq hf
      refine lv_aload_n hx hb dT_markFailing_11 rfl (lv_at hl 0 rfl) ?_
      refine ck_gr C h FT_place dT_markFailing_12 ?_
      refine lv_iload_n hx hb dT_markFailing_15 rfl (lv_at hl 1 rfl) ?_
      obtain ⟨hg, hf⟩ := ck_gd_e hf
      refine ck_ai (x := (st 30 (x1).toNatClampNeg)) C h (show sh_C[30]? = some (.inr (0, 60)) from rfl) hg rfl dT_markFailing_16 ?_
      refine lv_if_ne (tgt := 24) hx hb dT_markFailing_17 rfl (fun hq => ?_) (fun hq => ?_)
      · have hf := ck_f hq hf
        refine lv_iconst (v := 0) hx hb dT_markFailing_24 (by decide) ?_
        exact BT_markFailing_25 C hret ih _ _ _ _ _ _ h (lv_sub hl [0, 1] rfl) hf
      · have hf := ck_t hq hf
        refine lv_iconst (v := 1) hx hb dT_markFailing_20 (by decide) ?_
        refine lv_goto (tgt := 25) hx hb dT_markFailing_21 rfl ?_
        exact BT_markFailing_25 C hret ih _ _ _ _ _ _ h (lv_sub hl [0, 1] rfl) hf
def fT_markFailing (st : ck_S) : Option ck_S := (fT_markFailing_l7  4096 ((st 5 14) - (1 : Int32)) st)
set_option maxRecDepth 100000 in
set_option maxHeartbeats 4000000 in
theorem cT_markFailing (l : Launch) (D : va_G) (cA : Nat → ClassId) (ad : Nat → Nat) {st : ck_S} {st0 : ck_S} (hf : fT_markFailing st = some st0) : Met l yT_markFailing (.code yT_markFailing bT_markFailing 3 none :: ck_T) (ck_R 2) (va_Pc [.ref (ad 5)] (ck_P sh_C cm_cl D cA ad st)) (va_Qv (fun u => u = st0) (ck_P sh_C cm_cl D cA ad) (ck_A ad sh_C.length)) 0 0 (ck_A ad sh_C.length) := by
  refine ck_met_v (own := R_T) (by decide +kernel) rfl (Nat.le_of_ble_eq_true rfl) (fun p e R s m args below meth c H0 Q ls C hret h hl => ?_)
  have C1 := C
  obtain ⟨hx, hb, hml, hown, hts, hK, hlv, hlo⟩ := C1
  have hl : lv_has ls 3 [(0, .ref (ad 5))] := hl
  unfold fT_markFailing at hf
  refine lv_aload_n hx hb dT_markFailing_0 rfl (lv_at hl 0 rfl) ?_
  refine ck_gi (x := (st 5 14)) C h FT_size rfl dT_markFailing_1 ?_
  refine lv_iconst (v := 1) hx hb dT_markFailing_4 (by decide) ?_
  refine lv_isub hx hb dT_markFailing_5 ?_
  refine lv_istore_n (lv' := [(1, .int ((st 5 14) - (1 : Int32))), (0, .ref (ad 5))]) hx hb dT_markFailing_6 rfl hl (by decide) rfl (fun ls hl => ?_)
  exact BT_markFailing_7 C hret  4096 _ _ _ _ _ h (lv_sub hl [1, 0] rfl) hf
def fT_grow_l32 (k62 : Int32 → ck_S → Option (Int32 × ck_S)) : Nat → Int32 → Int32 → ck_S → Option (Int32 × ck_S)
  | 0, _, _, _ => none
  | n + 1, x1, x2, st => (if (60 : Int32) ≤ x2 then (k62 x1 st) else (if (st 5 14) ≤ x2 then (k62 x1 st) else (if x1 = 0 then (k62 x1 st) else (ck_b (fT_expand x2 st) fun v2 st1 => (fT_grow_l32 k62 n v2 (x2 + 1) st1)))))
set_option maxRecDepth 100000 in
set_option maxHeartbeats 4000000 in
theorem BT_grow_32 (C : ck_X cm_cl D cA bT_grow 3 R_T 5 p R s m args c) {r0 : Int32} {st0 : ck_S} (hret : ∀ (pc : Nat) (H : Heap) (locs : List Loc) (ls : Array Slot), decode bT_grow pc = .ok (.ireturn, 1) → (r0 = 0 ∨ r0 = 1) → ck_AT sh_C cm_cl D cA ad H0 st0 H locs → W p l e R s m args below meth c H locs 0 0 Q (F0 m pc ls [.int r0])) {k62 : Int32 → ck_S → Option (Int32 × ck_S)} (hk62 : ∀ (x1 : Int32) (st : ck_S) (H : Heap) (locs : List Loc) (ls : Array Slot), ck_AT sh_C cm_cl D cA ad H0 st H locs → lv_has ls 3 [(0, .ref (ad 5)), (1, .int x1)] → k62 x1 st = some (r0, st0) → W p l e R s m args below meth c H locs 0 0 Q (F0 m 62 ls [])) : ∀ (n : Nat) (x1 : Int32) (x2 : Int32) (st : ck_S) (H : Heap) (locs : List Loc) (ls : Array Slot), ck_AT sh_C cm_cl D cA ad H0 st H locs → lv_has ls 3 [(0, .ref (ad 5)), (1, .int x1), (2, .int x2)] → fT_grow_l32 k62 n x1 x2 st = some (r0, st0) → W p l e R s m args below meth c H locs 0 0 Q (F0 m 32 ls []) := by
  have C1 := C
  obtain ⟨hx, hb, hml, hown, hts, hK, hlv, hlo⟩ := C1
  intro n
  induction n with
  | zero => intro _ _ _ _ _ _ _ _ hf; cases hf
  | succ n ih =>
    intro x1 x2 st H locs ls h hl hf
    rw [fT_grow_l32] at hf
    refine lv_iload_n hx hb dT_grow_32 rfl (lv_at hl 2 rfl) ?_
    refine lv_bipush (v := 60) hx hb dT_grow_33 (by decide) ?_
    refine lv_icmp_ge (tgt := 62) hx hb dT_grow_35 rfl (fun hq => ?_) (fun hq => ?_)
    · have hf := ck_t hq hf
      exact hk62 _ _ _ _ _ h (lv_sub hl [0, 1] rfl) hf
    · have hf := ck_f hq hf
      refine lv_iload_n hx hb dT_grow_38 rfl (lv_at hl 2 rfl) ?_
      refine lv_aload_n hx hb dT_grow_39 rfl (lv_at hl 0 rfl) ?_
      refine ck_gi (x := (st 5 14)) C h FT_size rfl dT_grow_40 ?_
      refine lv_icmp_ge (tgt := 62) hx hb dT_grow_43 rfl (fun hq => ?_) (fun hq => ?_)
      · have hf := ck_t hq hf
        exact hk62 _ _ _ _ _ h (lv_sub hl [0, 1] rfl) hf
      · have hf := ck_f hq hf
        refine lv_iload_n hx hb dT_grow_46 rfl (lv_at hl 1 rfl) ?_
        refine lv_if_eq (tgt := 62) hx hb dT_grow_47 rfl (fun hq => ?_) (fun hq => ?_)
        · have hf := ck_t hq hf
          exact hk62 _ _ _ _ _ h (lv_sub hl [0, 1] rfl) hf
        · have hf := ck_f hq hf
          refine lv_aload_n hx hb dT_grow_50 rfl (lv_at hl 0 rfl) ?_
          refine lv_iload_n hx hb dT_grow_51 rfl (lv_at hl 2 rfl) ?_
          obtain ⟨v2, st1, hc, hf⟩ := ck_b_e hf
          refine ck_vi (As := [.int x2]) (rest := []) (q := 5) C h hl CT_T_expand sT_expand q_T (cT_expand l D cA ad hc) (Nat.le_of_ble_eq_true rfl) rfl rfl (Nat.le_of_ble_eq_true rfl) dT_grow_52 (fun H locs h => ?_)
          refine lv_istore_n (lv' := [(1, .int v2), (0, .ref (ad 5)), (2, .int x2)]) hx hb dT_grow_55 rfl hl (by decide) rfl (fun ls hl => ?_)
          refine lv_iinc (k := 2) (v := (x2 + 1)) (lv' := [(2, .int (x2 + 1)), (1, .int v2), (0, .ref (ad 5))]) hx hb dT_grow_56 hl rfl rfl (by decide) rfl (fun ls hl => ?_)
          refine lv_goto (tgt := 32) hx hb dT_grow_59 rfl ?_
          exact ih _ _ _ _ _ _ h (lv_sub hl [2, 1, 0] rfl) hf
def fT_grow_b62 (x1 : Int32) (st : ck_S) : Option (Int32 × ck_S) := (if x1 = 0 then (ck_gz x1 (some (x1, st))) else (ck_bv (fT_markFailing st) fun st1 => (ck_gz x1 (some (x1, (ck_u st1 5 16 (1 : Int32)))))))
set_option maxRecDepth 100000 in
set_option maxHeartbeats 4000000 in
theorem BT_grow_62 (C : ck_X cm_cl D cA bT_grow 3 R_T 5 p R s m args c) {r0 : Int32} {st0 : ck_S} (hret : ∀ (pc : Nat) (H : Heap) (locs : List Loc) (ls : Array Slot), decode bT_grow pc = .ok (.ireturn, 1) → (r0 = 0 ∨ r0 = 1) → ck_AT sh_C cm_cl D cA ad H0 st0 H locs → W p l e R s m args below meth c H locs 0 0 Q (F0 m pc ls [.int r0])) (x1 : Int32) (st : ck_S) (H : Heap) (locs : List Loc) (ls : Array Slot) (h : ck_AT sh_C cm_cl D cA ad H0 st H locs) (hl : lv_has ls 3 [(0, .ref (ad 5)), (1, .int x1)]) (hf : fT_grow_b62 x1 st = some (r0, st0)) : W p l e R s m args below meth c H locs 0 0 Q (F0 m 62 ls []) := by
  have C1 := C
  obtain ⟨hx, hb, hml, hown, hts, hK, hlv, hlo⟩ := C1
  unfold fT_grow_b62 at hf
  refine lv_iload_n hx hb dT_grow_62 rfl (lv_at hl 1 rfl) ?_
  refine lv_if_eq (tgt := 75) hx hb dT_grow_63 rfl (fun hq => ?_) (fun hq => ?_)
  · have hf := ck_t hq hf
    refine lv_iload_n hx hb dT_grow_75 rfl (lv_at hl 1 rfl) ?_
    obtain ⟨hz, hf⟩ := ck_gz_e hf
    exact ck_rz hf hret hz h dT_grow_76
  · have hf := ck_f hq hf
    refine lv_aload_n hx hb dT_grow_66 rfl (lv_at hl 0 rfl) ?_
    obtain ⟨st1, hc, hf⟩ := ck_bv_e hf
    refine ck_vv (As := []) (rest := []) (q := 5) C h hl CT_T_markFailing sT_markFailing q_T (cT_markFailing l D cA ad hc) (Nat.le_of_ble_eq_true rfl) rfl rfl (Nat.le_of_ble_eq_true rfl) dT_grow_67 (fun H locs h => ?_)
    refine lv_aload_n hx hb dT_grow_70 rfl (lv_at hl 0 rfl) ?_
    refine lv_iconst (v := 1) hx hb dT_grow_71 (by decide) ?_
    refine ck_pi C h GT_there (ck_nz ck_z1) rfl dT_grow_72 (fun H locs h => ?_)
    refine lv_iload_n hx hb dT_grow_75 rfl (lv_at hl 1 rfl) ?_
    obtain ⟨hz, hf⟩ := ck_gz_e hf
    exact ck_rz hf hret hz h dT_grow_76
def fT_grow (st : ck_S) : Option (Int32 × ck_S) := (ck_b (fM_allClauses (ck_u (ck_u (ck_u st 5 16 (0 : Int32)) 5 14 (0 : Int32)) 5 15 (0 : Int32))) fun v2 st1 => (ck_b (fT_addNode (0 : Int32) v2 (2 : Int32) (0 : Int32) st1) fun v4 st3 => (fT_grow_l32 (fun x1 st => (fT_grow_b62 x1 st)) 4096 v4 (0 : Int32) st3)))
set_option maxRecDepth 100000 in
set_option maxHeartbeats 4000000 in
theorem cT_grow (l : Launch) (D : va_G) (cA : Nat → ClassId) (ad : Nat → Nat) {st : ck_S} {r0 : Int32} {st0 : ck_S} (hf : fT_grow st = some (r0, st0)) : Met l yT_grow (.code yT_grow bT_grow 3 (some .boolean) :: ck_T) (ck_R 5) (va_Pc [.ref (ad 5)] (ck_P sh_C cm_cl D cA ad st)) (va_Qi (fun a u => a = r0 ∧ u = st0) (ck_P sh_C cm_cl D cA ad) (ck_A ad sh_C.length)) 0 0 (ck_A ad sh_C.length) := by
  refine ck_met_z (own := R_T) (by decide +kernel) rfl (Nat.le_of_ble_eq_true rfl) (fun p e R s m args below meth c H0 Q ls C hret h hl => ?_)
  have C1 := C
  obtain ⟨hx, hb, hml, hown, hts, hK, hlv, hlo⟩ := C1
  have hl : lv_has ls 3 [(0, .ref (ad 5))] := hl
  unfold fT_grow at hf
  refine lv_aload_n hx hb dT_grow_0 rfl (lv_at hl 0 rfl) ?_
  refine lv_iconst (v := 0) hx hb dT_grow_1 (by decide) ?_
  refine ck_pi C h GT_there (ck_nz ck_z0) rfl dT_grow_2 (fun H locs h => ?_)
  refine lv_aload_n hx hb dT_grow_5 rfl (lv_at hl 0 rfl) ?_
  refine lv_iconst (v := 0) hx hb dT_grow_6 (by decide) ?_
  refine ck_pi C h GT_size rfl rfl dT_grow_7 (fun H locs h => ?_)
  refine lv_aload_n hx hb dT_grow_10 rfl (lv_at hl 0 rfl) ?_
  refine lv_iconst (v := 0) hx hb dT_grow_11 (by decide) ?_
  refine ck_pi C h GT_caught rfl rfl dT_grow_12 (fun H locs h => ?_)
  refine lv_aload_n hx hb dT_grow_15 rfl (lv_at hl 0 rfl) ?_
  refine lv_iconst (v := 0) hx hb dT_grow_16 (by decide) ?_
  refine lv_aload_n hx hb dT_grow_17 rfl (lv_at hl 0 rfl) ?_
  refine ck_gr C h FT_match dT_grow_18 ?_
  obtain ⟨v2, st1, hc, hf⟩ := ck_b_e hf
  refine ck_vi (As := []) (rest := [.int (0 : Int32), .ref (ad 5)]) (q := 4) C h hl CT_M_allClauses sM_allClauses q_M (cM_allClauses l D cA ad hc) (Nat.le_of_ble_eq_true rfl) rfl rfl (Nat.le_of_ble_eq_true rfl) dT_grow_21 (fun H locs h => ?_)
  refine lv_iconst (v := 2) hx hb dT_grow_24 (by decide) ?_
  refine lv_iconst (v := 0) hx hb dT_grow_25 (by decide) ?_
  obtain ⟨v4, st3, hc, hf⟩ := ck_b_e hf
  refine ck_vi (As := [.int (0 : Int32), .int v2, .int (2 : Int32), .int (0 : Int32)]) (rest := []) (q := 5) C h hl CT_T_addNode sT_addNode q_T (cT_addNode l D cA ad hc) (Nat.le_of_ble_eq_true rfl) rfl rfl (Nat.le_of_ble_eq_true rfl) dT_grow_26 (fun H locs h => ?_)
  refine lv_istore_n (lv' := [(1, .int v4), (0, .ref (ad 5))]) hx hb dT_grow_29 rfl hl (by decide) rfl (fun ls hl => ?_)
  refine lv_iconst (v := 0) hx hb dT_grow_30 (by decide) ?_
  refine lv_istore_n (lv' := [(2, .int (0 : Int32)), (1, .int v4), (0, .ref (ad 5))]) hx hb dT_grow_31 rfl hl (by decide) rfl (fun ls hl => ?_)
  exact BT_grow_32 C hret (fun x1 st H locs ls h hl hf => by
      exact BT_grow_62 C hret _ _ _ _ _ h (lv_sub hl [0, 1] rfl) hf) 4096 _ _ _ _ _ _ h (lv_sub hl [2, 1, 0] rfl) hf
def fT_hasFailing (st : ck_S) : Option (Int32 × ck_S) := (if (st 5 14) ≤ 0 then (some ((0 : Int32), st)) else (ck_gd (0 : Int32) 60 (if (st 36 ((0 : Int32)).toNatClampNeg) = 0 then (some ((0 : Int32), st)) else (some ((1 : Int32), st)))))
set_option maxRecDepth 100000 in
set_option maxHeartbeats 4000000 in
theorem cT_hasFailing (l : Launch) (D : va_G) (cA : Nat → ClassId) (ad : Nat → Nat) {st : ck_S} {r0 : Int32} {st0 : ck_S} (hf : fT_hasFailing st = some (r0, st0)) : Met l yT_hasFailing (.code yT_hasFailing bT_hasFailing 1 (some .boolean) :: ck_T) (ck_R 0) (va_Pc [.ref (ad 5)] (ck_P sh_C cm_cl D cA ad st)) (va_Qi (fun a u => a = r0 ∧ u = st0) (ck_P sh_C cm_cl D cA ad) (ck_A ad sh_C.length)) 0 0 (ck_A ad sh_C.length) := by
  refine ck_met_z (own := R_T) (by decide +kernel) rfl (Nat.le_of_ble_eq_true rfl) (fun p e R s m args below meth c H0 Q ls C hret h hl => ?_)
  have C1 := C
  obtain ⟨hx, hb, hml, hown, hts, hK, hlv, hlo⟩ := C1
  have hl : lv_has ls 1 [(0, .ref (ad 5))] := hl
  unfold fT_hasFailing at hf
  refine lv_aload_n hx hb dT_hasFailing_0 rfl (lv_at hl 0 rfl) ?_
  refine ck_gi (x := (st 5 14)) C h FT_size rfl dT_hasFailing_1 ?_
  refine lv_if_le (tgt := 20) hx hb dT_hasFailing_4 rfl (fun hq => ?_) (fun hq => ?_)
  · have hf := ck_t hq hf
    refine lv_iconst (v := 0) hx hb dT_hasFailing_20 (by decide) ?_
    exact ck_rz hf hret ck_z0 h dT_hasFailing_21
  · have hf := ck_f hq hf
    refine lv_aload_n hx hb dT_hasFailing_7 rfl (lv_at hl 0 rfl) ?_
    refine ck_gr C h FT_failing dT_hasFailing_8 ?_
    refine lv_iconst (v := 0) hx hb dT_hasFailing_11 (by decide) ?_
    obtain ⟨hg, hf⟩ := ck_gd_e hf
    refine ck_az (x := (st 36 ((0 : Int32)).toNatClampNeg)) C h (show sh_C[36]? = some (.inr (1, 60)) from rfl) hg rfl dT_hasFailing_12 ?_
    refine lv_if_eq (tgt := 20) hx hb dT_hasFailing_13 rfl (fun hq => ?_) (fun hq => ?_)
    · have hf := ck_t hq hf
      refine lv_iconst (v := 0) hx hb dT_hasFailing_20 (by decide) ?_
      exact ck_rz hf hret ck_z0 h dT_hasFailing_21
    · have hf := ck_f hq hf
      refine lv_iconst (v := 1) hx hb dT_hasFailing_16 (by decide) ?_
      refine lv_goto (tgt := 21) hx hb dT_hasFailing_17 rfl ?_
      exact ck_rz hf hret ck_z1 h dT_hasFailing_21
def fT_mostTests_l4 : Nat → Int32 → Int32 → ck_S → Option (Int32 × ck_S)
  | 0, _, _, _ => none
  | n + 1, x1, x2, st => (if (st 5 14) ≤ x2 then (some (x1, st)) else (ck_gd x2 60 (fT_mostTests_l4 n (ck_mxv x1 (st 29 (x2).toNatClampNeg)) (x2 + 1) st)))
set_option maxRecDepth 100000 in
set_option maxHeartbeats 4000000 in
theorem BT_mostTests_4 (C : ck_X cm_cl D cA bT_mostTests 3 R_T 1 p R s m args c) {r0 : Int32} {st0 : ck_S} (hret : ∀ (pc : Nat) (H : Heap) (locs : List Loc) (ls : Array Slot), decode bT_mostTests pc = .ok (.ireturn, 1) → ck_AT sh_C cm_cl D cA ad H0 st0 H locs → W p l e R s m args below meth c H locs 0 0 Q (F0 m pc ls [.int r0])) : ∀ (n : Nat) (x1 : Int32) (x2 : Int32) (st : ck_S) (H : Heap) (locs : List Loc) (ls : Array Slot), ck_AT sh_C cm_cl D cA ad H0 st H locs → lv_has ls 3 [(0, .ref (ad 5)), (1, .int x1), (2, .int x2)] → fT_mostTests_l4  n x1 x2 st = some (r0, st0) → W p l e R s m args below meth c H locs 0 0 Q (F0 m 4 ls []) := by
  have C1 := C
  obtain ⟨hx, hb, hml, hown, hts, hK, hlv, hlo⟩ := C1
  intro n
  induction n with
  | zero => intro _ _ _ _ _ _ _ _ hf; cases hf
  | succ n ih =>
    intro x1 x2 st H locs ls h hl hf
    rw [fT_mostTests_l4] at hf
    refine lv_iload_n hx hb dT_mostTests_4 rfl (lv_at hl 2 rfl) ?_
    refine lv_aload_n hx hb dT_mostTests_5 rfl (lv_at hl 0 rfl) ?_
    refine ck_gi (x := (st 5 14)) C h FT_size rfl dT_mostTests_6 ?_
    refine lv_icmp_ge (tgt := 29) hx hb dT_mostTests_9 rfl (fun hq => ?_) (fun hq => ?_)
    · have hf := ck_t hq hf
      refine lv_iload_n hx hb dT_mostTests_29 rfl (lv_at hl 1 rfl) ?_
      exact ck_ri hf hret h dT_mostTests_30
    · have hf := ck_f hq hf
      refine lv_iload_n hx hb dT_mostTests_12 rfl (lv_at hl 1 rfl) ?_
      refine lv_aload_n hx hb dT_mostTests_13 rfl (lv_at hl 0 rfl) ?_
      refine ck_gr C h FT_above dT_mostTests_14 ?_
      refine lv_iload_n hx hb dT_mostTests_17 rfl (lv_at hl 2 rfl) ?_
      obtain ⟨hg, hf⟩ := ck_gd_e hf
      refine ck_ai (x := (st 29 (x2).toNatClampNeg)) C h (show sh_C[29]? = some (.inr (0, 60)) from rfl) hg rfl dT_mostTests_18 ?_
      refine ck_mx C hl (ck_T_mk (List.mem_of_getElem? (i := 659) (by decide +kernel)) (by decide +kernel)) (Nat.le_of_ble_eq_true rfl) (Nat.le_of_ble_eq_true rfl) dT_mostTests_19 ?_
      refine lv_istore_n (lv' := [(1, .int (ck_mxv x1 (st 29 (x2).toNatClampNeg))), (0, .ref (ad 5)), (2, .int x2)]) hx hb dT_mostTests_22 rfl hl (by decide) rfl (fun ls hl => ?_)
      refine lv_iinc (k := 2) (v := (x2 + 1)) (lv' := [(2, .int (x2 + 1)), (1, .int (ck_mxv x1 (st 29 (x2).toNatClampNeg))), (0, .ref (ad 5))]) hx hb dT_mostTests_23 hl rfl rfl (by decide) rfl (fun ls hl => ?_)
      refine lv_goto (tgt := 4) hx hb dT_mostTests_26 rfl ?_
      exact ih _ _ _ _ _ _ h (lv_sub hl [2, 1, 0] rfl) hf
def fT_mostTests (st : ck_S) : Option (Int32 × ck_S) := (fT_mostTests_l4  4096 (0 : Int32) (0 : Int32) st)
set_option maxRecDepth 100000 in
set_option maxHeartbeats 4000000 in
theorem cT_mostTests (l : Launch) (D : va_G) (cA : Nat → ClassId) (ad : Nat → Nat) {st : ck_S} {r0 : Int32} {st0 : ck_S} (hf : fT_mostTests st = some (r0, st0)) : Met l yT_mostTests (.code yT_mostTests bT_mostTests 3 (some .int) :: ck_T) (ck_R 1) (va_Pc [.ref (ad 5)] (ck_P sh_C cm_cl D cA ad st)) (va_Qi (fun a u => a = r0 ∧ u = st0) (ck_P sh_C cm_cl D cA ad) (ck_A ad sh_C.length)) 0 0 (ck_A ad sh_C.length) := by
  refine ck_met_i (own := R_T) (by decide +kernel) rfl (Nat.le_of_ble_eq_true rfl) (fun p e R s m args below meth c H0 Q ls C hret h hl => ?_)
  have C1 := C
  obtain ⟨hx, hb, hml, hown, hts, hK, hlv, hlo⟩ := C1
  have hl : lv_has ls 3 [(0, .ref (ad 5))] := hl
  unfold fT_mostTests at hf
  refine lv_iconst (v := 0) hx hb dT_mostTests_0 (by decide) ?_
  refine lv_istore_n (lv' := [(1, .int (0 : Int32)), (0, .ref (ad 5))]) hx hb dT_mostTests_1 rfl hl (by decide) rfl (fun ls hl => ?_)
  refine lv_iconst (v := 0) hx hb dT_mostTests_2 (by decide) ?_
  refine lv_istore_n (lv' := [(2, .int (0 : Int32)), (1, .int (0 : Int32)), (0, .ref (ad 5))]) hx hb dT_mostTests_3 rfl hl (by decide) rfl (fun ls hl => ?_)
  exact BT_mostTests_4 C hret  4096 _ _ _ _ _ _ h (lv_sub hl [2, 1, 0] rfl) hf
def fT_alike_l69 : Nat → Int32 → Int32 → Int32 → Int32 → ck_S → Option (Int32 × ck_S)
  | 0, _, _, _, _, _ => none
  | n + 1, x1, x2, x3, x4, st => (ck_gd x1 60 (if (st 34 (x1).toNatClampNeg) ≤ x4 then (ck_gz x3 (some (x3, st))) else (if x3 = 0 then (ck_gz x3 (some (x3, st))) else (ck_gd x1 60 (ck_gd x2 60 (ck_gd ((st 33 (x1).toNatClampNeg) + x4) 60 (ck_gd ((st 33 (x2).toNatClampNeg) + x4) 60 (if (st 28 (((st 33 (x1).toNatClampNeg) + x4)).toNatClampNeg) = (st 28 (((st 33 (x2).toNatClampNeg) + x4)).toNatClampNeg) then (ck_gd ((st 33 (x1).toNatClampNeg) + x4) 60 (ck_gd ((st 33 (x2).toNatClampNeg) + x4) 60 (if (st 35 (((st 33 (x1).toNatClampNeg) + x4)).toNatClampNeg) = (st 35 (((st 33 (x2).toNatClampNeg) + x4)).toNatClampNeg) then (fT_alike_l69 n x1 x2 (1 : Int32) (x4 + 1) st) else (fT_alike_l69 n x1 x2 (0 : Int32) (x4 + 1) st)))) else (fT_alike_l69 n x1 x2 (0 : Int32) (x4 + 1) st)))))))))
set_option maxRecDepth 100000 in
set_option maxHeartbeats 4000000 in
theorem BT_alike_69 (C : ck_X cm_cl D cA bT_alike 7 R_T 0 p R s m args c) {r0 : Int32} {st0 : ck_S} (hret : ∀ (pc : Nat) (H : Heap) (locs : List Loc) (ls : Array Slot), decode bT_alike pc = .ok (.ireturn, 1) → (r0 = 0 ∨ r0 = 1) → ck_AT sh_C cm_cl D cA ad H0 st0 H locs → W p l e R s m args below meth c H locs 0 0 Q (F0 m pc ls [.int r0])) : ∀ (n : Nat) (x1 : Int32) (x2 : Int32) (x3 : Int32) (x4 : Int32) (st : ck_S) (H : Heap) (locs : List Loc) (ls : Array Slot), ck_AT sh_C cm_cl D cA ad H0 st H locs → lv_has ls 7 [(0, .ref (ad 5)), (1, .int x1), (2, .int x2), (3, .int x3), (4, .int x4)] → fT_alike_l69  n x1 x2 x3 x4 st = some (r0, st0) → W p l e R s m args below meth c H locs 0 0 Q (F0 m 69 ls []) := by
  have C1 := C
  obtain ⟨hx, hb, hml, hown, hts, hK, hlv, hlo⟩ := C1
  intro n
  induction n with
  | zero => intro _ _ _ _ _ _ _ _ _ _ hf; cases hf
  | succ n ih =>
    intro x1 x2 x3 x4 st H locs ls h hl hf
    rw [fT_alike_l69] at hf
    refine lv_iload hx hb dT_alike_69 (lv_at hl 4 rfl) ?_
    refine lv_aload_n hx hb dT_alike_71 rfl (lv_at hl 0 rfl) ?_
    refine ck_gr C h FT_branchCount dT_alike_72 ?_
    refine lv_iload_n hx hb dT_alike_75 rfl (lv_at hl 1 rfl) ?_
    obtain ⟨hg, hf⟩ := ck_gd_e hf
    refine ck_ai (x := (st 34 (x1).toNatClampNeg)) C h (show sh_C[34]? = some (.inr (0, 60)) from rfl) hg rfl dT_alike_76 ?_
    refine lv_icmp_ge (tgt := 152) hx hb dT_alike_77 rfl (fun hq => ?_) (fun hq => ?_)
    · have hf := ck_t hq hf
      refine lv_iload_n hx hb dT_alike_152 rfl (lv_at hl 3 rfl) ?_
      obtain ⟨hz, hf⟩ := ck_gz_e hf
      exact ck_rz hf hret hz h dT_alike_153
    · have hf := ck_f hq hf
      refine lv_iload_n hx hb dT_alike_80 rfl (lv_at hl 3 rfl) ?_
      refine lv_if_eq (tgt := 152) hx hb dT_alike_81 rfl (fun hq => ?_) (fun hq => ?_)
      · have hf := ck_t hq hf
        refine lv_iload_n hx hb dT_alike_152 rfl (lv_at hl 3 rfl) ?_
        obtain ⟨hz, hf⟩ := ck_gz_e hf
        exact ck_rz hf hret hz h dT_alike_153
      · have hf := ck_f hq hf
        refine lv_aload_n hx hb dT_alike_84 rfl (lv_at hl 0 rfl) ?_
        refine ck_gr C h FT_firstBranch dT_alike_85 ?_
        refine lv_iload_n hx hb dT_alike_88 rfl (lv_at hl 1 rfl) ?_
        obtain ⟨hg, hf⟩ := ck_gd_e hf
        refine ck_ai (x := (st 33 (x1).toNatClampNeg)) C h (show sh_C[33]? = some (.inr (0, 60)) from rfl) hg rfl dT_alike_89 ?_
        refine lv_iload hx hb dT_alike_90 (lv_at hl 4 rfl) ?_
        refine lv_iadd hx hb dT_alike_92 ?_
        refine lv_istore (lv' := [(5, .int ((st 33 (x1).toNatClampNeg) + x4)), (0, .ref (ad 5)), (1, .int x1), (2, .int x2), (3, .int x3), (4, .int x4)]) hx hb dT_alike_93 hl (by decide) rfl (fun ls hl => ?_)
        refine lv_aload_n hx hb dT_alike_95 rfl (lv_at hl 1 rfl) ?_
        refine ck_gr C h FT_firstBranch dT_alike_96 ?_
        refine lv_iload_n hx hb dT_alike_99 rfl (lv_at hl 3 rfl) ?_
        obtain ⟨hg, hf⟩ := ck_gd_e hf
        refine ck_ai (x := (st 33 (x2).toNatClampNeg)) C h (show sh_C[33]? = some (.inr (0, 60)) from rfl) hg rfl dT_alike_100 ?_
        refine lv_iload hx hb dT_alike_101 (lv_at hl 5 rfl) ?_
        refine lv_iadd hx hb dT_alike_103 ?_
        refine lv_istore (lv' := [(6, .int ((st 33 (x2).toNatClampNeg) + x4)), (5, .int ((st 33 (x1).toNatClampNeg) + x4)), (0, .ref (ad 5)), (1, .int x1), (2, .int x2), (3, .int x3), (4, .int x4)]) hx hb dT_alike_104 hl (by decide) rfl (fun ls hl => ?_)
        refine lv_aload_n hx hb dT_alike_106 rfl (lv_at hl 2 rfl) ?_
        refine ck_gr C h FT_label dT_alike_107 ?_
        refine lv_iload hx hb dT_alike_110 (lv_at hl 1 rfl) ?_
        obtain ⟨hg, hf⟩ := ck_gd_e hf
        refine ck_ai (x := (st 28 (((st 33 (x1).toNatClampNeg) + x4)).toNatClampNeg)) C h (show sh_C[28]? = some (.inr (0, 60)) from rfl) hg rfl dT_alike_112 ?_
        refine lv_aload_n hx hb dT_alike_113 rfl (lv_at hl 2 rfl) ?_
        refine ck_gr C h FT_label dT_alike_114 ?_
        refine lv_iload hx hb dT_alike_117 (lv_at hl 0 rfl) ?_
        obtain ⟨hg, hf⟩ := ck_gd_e hf
        refine ck_ai (x := (st 28 (((st 33 (x2).toNatClampNeg) + x4)).toNatClampNeg)) C h (show sh_C[28]? = some (.inr (0, 60)) from rfl) hg rfl dT_alike_119 ?_
        refine lv_icmp_ne (tgt := 144) hx hb dT_alike_120 rfl (fun hq => ?_) (fun hq => ?_)
        · have hf := ck_f hq hf
          refine lv_iconst (v := 0) hx hb dT_alike_144 (by decide) ?_
          refine lv_istore_n (lv' := [(3, .int (0 : Int32)), (6, .int ((st 33 (x2).toNatClampNeg) + x4)), (5, .int ((st 33 (x1).toNatClampNeg) + x4)), (0, .ref (ad 5)), (1, .int x1), (2, .int x2), (4, .int x4)]) hx hb dT_alike_145 rfl hl (by decide) rfl (fun ls hl => ?_)
          refine lv_iinc (k := 6) (v := (x4 + 1)) (lv' := [(4, .int (x4 + 1)), (3, .int (0 : Int32)), (6, .int ((st 33 (x2).toNatClampNeg) + x4)), (5, .int ((st 33 (x1).toNatClampNeg) + x4)), (0, .ref (ad 5)), (1, .int x1), (2, .int x2)]) hx hb dT_alike_146 hl rfl rfl (by decide) rfl (fun ls hl => ?_)
          refine lv_goto (tgt := 69) hx hb dT_alike_149 rfl ?_
          exact ih _ _ _ _ _ _ _ _ h (lv_sub hl [4, 5, 6, 1, 0] rfl) hf
        · have hf := ck_t hq hf
          refine lv_aload_n hx hb dT_alike_123 rfl (lv_at hl 2 rfl) ?_
          refine ck_gr C h FT_kind dT_alike_124 ?_
          refine lv_iload hx hb dT_alike_127 (lv_at hl 1 rfl) ?_
          obtain ⟨hg, hf⟩ := ck_gd_e hf
          refine ck_ai (x := (st 35 (((st 33 (x1).toNatClampNeg) + x4)).toNatClampNeg)) C h (show sh_C[35]? = some (.inr (0, 60)) from rfl) hg rfl dT_alike_129 ?_
          refine lv_aload_n hx hb dT_alike_130 rfl (lv_at hl 2 rfl) ?_
          refine ck_gr C h FT_kind dT_alike_131 ?_
          refine lv_iload hx hb dT_alike_134 (lv_at hl 0 rfl) ?_
          obtain ⟨hg, hf⟩ := ck_gd_e hf
          refine ck_ai (x := (st 35 (((st 33 (x2).toNatClampNeg) + x4)).toNatClampNeg)) C h (show sh_C[35]? = some (.inr (0, 60)) from rfl) hg rfl dT_alike_136 ?_
          refine lv_icmp_ne (tgt := 144) hx hb dT_alike_137 rfl (fun hq => ?_) (fun hq => ?_)
          · have hf := ck_f hq hf
            refine lv_iconst (v := 0) hx hb dT_alike_144 (by decide) ?_
            refine lv_istore_n (lv' := [(3, .int (0 : Int32)), (6, .int ((st 33 (x2).toNatClampNeg) + x4)), (5, .int ((st 33 (x1).toNatClampNeg) + x4)), (0, .ref (ad 5)), (1, .int x1), (2, .int x2), (4, .int x4)]) hx hb dT_alike_145 rfl hl (by decide) rfl (fun ls hl => ?_)
            refine lv_iinc (k := 6) (v := (x4 + 1)) (lv' := [(4, .int (x4 + 1)), (3, .int (0 : Int32)), (6, .int ((st 33 (x2).toNatClampNeg) + x4)), (5, .int ((st 33 (x1).toNatClampNeg) + x4)), (0, .ref (ad 5)), (1, .int x1), (2, .int x2)]) hx hb dT_alike_146 hl rfl rfl (by decide) rfl (fun ls hl => ?_)
            refine lv_goto (tgt := 69) hx hb dT_alike_149 rfl ?_
            exact ih _ _ _ _ _ _ _ _ h (lv_sub hl [4, 5, 6, 1, 0] rfl) hf
          · have hf := ck_t hq hf
            refine lv_iconst (v := 1) hx hb dT_alike_140 (by decide) ?_
            refine lv_goto (tgt := 145) hx hb dT_alike_141 rfl ?_
            refine lv_istore_n (lv' := [(3, .int (1 : Int32)), (6, .int ((st 33 (x2).toNatClampNeg) + x4)), (5, .int ((st 33 (x1).toNatClampNeg) + x4)), (0, .ref (ad 5)), (1, .int x1), (2, .int x2), (4, .int x4)]) hx hb dT_alike_145 rfl hl (by decide) rfl (fun ls hl => ?_)
            refine lv_iinc (k := 6) (v := (x4 + 1)) (lv' := [(4, .int (x4 + 1)), (3, .int (1 : Int32)), (6, .int ((st 33 (x2).toNatClampNeg) + x4)), (5, .int ((st 33 (x1).toNatClampNeg) + x4)), (0, .ref (ad 5)), (1, .int x1), (2, .int x2)]) hx hb dT_alike_146 hl rfl rfl (by decide) rfl (fun ls hl => ?_)
            refine lv_goto (tgt := 69) hx hb dT_alike_149 rfl ?_
            exact ih _ _ _ _ _ _ _ _ h (lv_sub hl [4, 5, 6, 1, 0] rfl) hf
def fT_alike (x1 : Int32) (x2 : Int32) (st : ck_S) : Option (Int32 × ck_S) := (ck_gd x1 60 (ck_gd x2 60 (if (st 30 (x1).toNatClampNeg) = (st 30 (x2).toNatClampNeg) then (ck_gd x1 60 (ck_gd x2 60 (if (st 31 (x1).toNatClampNeg) = (st 31 (x2).toNatClampNeg) then (ck_gd x1 60 (ck_gd x2 60 (if (st 32 (x1).toNatClampNeg) = (st 32 (x2).toNatClampNeg) then (ck_gd x1 60 (ck_gd x2 60 (if (st 34 (x1).toNatClampNeg) = (st 34 (x2).toNatClampNeg) then (fT_alike_l69  4096 x1 x2 (1 : Int32) (0 : Int32) st) else (fT_alike_l69  4096 x1 x2 (0 : Int32) (0 : Int32) st)))) else (fT_alike_l69  4096 x1 x2 (0 : Int32) (0 : Int32) st)))) else (fT_alike_l69  4096 x1 x2 (0 : Int32) (0 : Int32) st)))) else (fT_alike_l69  4096 x1 x2 (0 : Int32) (0 : Int32) st))))
set_option maxRecDepth 100000 in
set_option maxHeartbeats 4000000 in
theorem cT_alike (l : Launch) (D : va_G) (cA : Nat → ClassId) (ad : Nat → Nat) {x1 : Int32} {x2 : Int32} {st : ck_S} {r0 : Int32} {st0 : ck_S} (hf : fT_alike x1 x2 st = some (r0, st0)) : Met l yT_alike (.code yT_alike bT_alike 7 (some .boolean) :: ck_T) (ck_R 0) (va_Pc [.ref (ad 5), .int x1, .int x2] (ck_P sh_C cm_cl D cA ad st)) (va_Qi (fun a u => a = r0 ∧ u = st0) (ck_P sh_C cm_cl D cA ad) (ck_A ad sh_C.length)) 0 0 (ck_A ad sh_C.length) := by
  refine ck_met_z (own := R_T) (by decide +kernel) rfl (Nat.le_of_ble_eq_true rfl) (fun p e R s m args below meth c H0 Q ls C hret h hl => ?_)
  have C1 := C
  obtain ⟨hx, hb, hml, hown, hts, hK, hlv, hlo⟩ := C1
  have hl : lv_has ls 7 [(0, .ref (ad 5)), (1, .int x1), (2, .int x2)] := hl
  unfold fT_alike at hf
  refine lv_aload_n hx hb dT_alike_0 rfl (lv_at hl 0 rfl) ?_
  refine ck_gr C h FT_place dT_alike_1 ?_
  refine lv_iload_n hx hb dT_alike_4 rfl (lv_at hl 1 rfl) ?_
  obtain ⟨hg, hf⟩ := ck_gd_e hf
  refine ck_ai (x := (st 30 (x1).toNatClampNeg)) C h (show sh_C[30]? = some (.inr (0, 60)) from rfl) hg rfl dT_alike_5 ?_
  refine lv_aload_n hx hb dT_alike_6 rfl (lv_at hl 0 rfl) ?_
  refine ck_gr C h FT_place dT_alike_7 ?_
  refine lv_iload_n hx hb dT_alike_10 rfl (lv_at hl 2 rfl) ?_
  obtain ⟨hg, hf⟩ := ck_gd_e hf
  refine ck_ai (x := (st 30 (x2).toNatClampNeg)) C h (show sh_C[30]? = some (.inr (0, 60)) from rfl) hg rfl dT_alike_11 ?_
  refine lv_icmp_ne (tgt := 64) hx hb dT_alike_12 rfl (fun hq => ?_) (fun hq => ?_)
  · have hf := ck_f hq hf
    refine lv_iconst (v := 0) hx hb dT_alike_64 (by decide) ?_
    refine lv_istore_n (lv' := [(3, .int (0 : Int32)), (0, .ref (ad 5)), (1, .int x1), (2, .int x2)]) hx hb dT_alike_65 rfl hl (by decide) rfl (fun ls hl => ?_)
    refine lv_iconst (v := 0) hx hb dT_alike_66 (by decide) ?_
    refine lv_istore (lv' := [(4, .int (0 : Int32)), (3, .int (0 : Int32)), (0, .ref (ad 5)), (1, .int x1), (2, .int x2)]) hx hb dT_alike_67 hl (by decide) rfl (fun ls hl => ?_)
    exact BT_alike_69 C hret  4096 _ _ _ _ _ _ _ _ h (lv_sub hl [2, 3, 4, 1, 0] rfl) hf
  · have hf := ck_t hq hf
    refine lv_aload_n hx hb dT_alike_15 rfl (lv_at hl 0 rfl) ?_
    refine ck_gr C h FT_testType dT_alike_16 ?_
    refine lv_iload_n hx hb dT_alike_19 rfl (lv_at hl 1 rfl) ?_
    obtain ⟨hg, hf⟩ := ck_gd_e hf
    refine ck_ai (x := (st 31 (x1).toNatClampNeg)) C h (show sh_C[31]? = some (.inr (0, 60)) from rfl) hg rfl dT_alike_20 ?_
    refine lv_aload_n hx hb dT_alike_21 rfl (lv_at hl 0 rfl) ?_
    refine ck_gr C h FT_testType dT_alike_22 ?_
    refine lv_iload_n hx hb dT_alike_25 rfl (lv_at hl 2 rfl) ?_
    obtain ⟨hg, hf⟩ := ck_gd_e hf
    refine ck_ai (x := (st 31 (x2).toNatClampNeg)) C h (show sh_C[31]? = some (.inr (0, 60)) from rfl) hg rfl dT_alike_26 ?_
    refine lv_icmp_ne (tgt := 64) hx hb dT_alike_27 rfl (fun hq => ?_) (fun hq => ?_)
    · have hf := ck_f hq hf
      refine lv_iconst (v := 0) hx hb dT_alike_64 (by decide) ?_
      refine lv_istore_n (lv' := [(3, .int (0 : Int32)), (0, .ref (ad 5)), (1, .int x1), (2, .int x2)]) hx hb dT_alike_65 rfl hl (by decide) rfl (fun ls hl => ?_)
      refine lv_iconst (v := 0) hx hb dT_alike_66 (by decide) ?_
      refine lv_istore (lv' := [(4, .int (0 : Int32)), (3, .int (0 : Int32)), (0, .ref (ad 5)), (1, .int x1), (2, .int x2)]) hx hb dT_alike_67 hl (by decide) rfl (fun ls hl => ?_)
      exact BT_alike_69 C hret  4096 _ _ _ _ _ _ _ _ h (lv_sub hl [2, 3, 4, 1, 0] rfl) hf
    · have hf := ck_t hq hf
      refine lv_aload_n hx hb dT_alike_30 rfl (lv_at hl 0 rfl) ?_
      refine ck_gr C h FT_clause dT_alike_31 ?_
      refine lv_iload_n hx hb dT_alike_34 rfl (lv_at hl 1 rfl) ?_
      obtain ⟨hg, hf⟩ := ck_gd_e hf
      refine ck_ai (x := (st 32 (x1).toNatClampNeg)) C h (show sh_C[32]? = some (.inr (0, 60)) from rfl) hg rfl dT_alike_35 ?_
      refine lv_aload_n hx hb dT_alike_36 rfl (lv_at hl 0 rfl) ?_
      refine ck_gr C h FT_clause dT_alike_37 ?_
      refine lv_iload_n hx hb dT_alike_40 rfl (lv_at hl 2 rfl) ?_
      obtain ⟨hg, hf⟩ := ck_gd_e hf
      refine ck_ai (x := (st 32 (x2).toNatClampNeg)) C h (show sh_C[32]? = some (.inr (0, 60)) from rfl) hg rfl dT_alike_41 ?_
      refine lv_icmp_ne (tgt := 64) hx hb dT_alike_42 rfl (fun hq => ?_) (fun hq => ?_)
      · have hf := ck_f hq hf
        refine lv_iconst (v := 0) hx hb dT_alike_64 (by decide) ?_
        refine lv_istore_n (lv' := [(3, .int (0 : Int32)), (0, .ref (ad 5)), (1, .int x1), (2, .int x2)]) hx hb dT_alike_65 rfl hl (by decide) rfl (fun ls hl => ?_)
        refine lv_iconst (v := 0) hx hb dT_alike_66 (by decide) ?_
        refine lv_istore (lv' := [(4, .int (0 : Int32)), (3, .int (0 : Int32)), (0, .ref (ad 5)), (1, .int x1), (2, .int x2)]) hx hb dT_alike_67 hl (by decide) rfl (fun ls hl => ?_)
        exact BT_alike_69 C hret  4096 _ _ _ _ _ _ _ _ h (lv_sub hl [2, 3, 4, 1, 0] rfl) hf
      · have hf := ck_t hq hf
        refine lv_aload_n hx hb dT_alike_45 rfl (lv_at hl 0 rfl) ?_
        refine ck_gr C h FT_branchCount dT_alike_46 ?_
        refine lv_iload_n hx hb dT_alike_49 rfl (lv_at hl 1 rfl) ?_
        obtain ⟨hg, hf⟩ := ck_gd_e hf
        refine ck_ai (x := (st 34 (x1).toNatClampNeg)) C h (show sh_C[34]? = some (.inr (0, 60)) from rfl) hg rfl dT_alike_50 ?_
        refine lv_aload_n hx hb dT_alike_51 rfl (lv_at hl 0 rfl) ?_
        refine ck_gr C h FT_branchCount dT_alike_52 ?_
        refine lv_iload_n hx hb dT_alike_55 rfl (lv_at hl 2 rfl) ?_
        obtain ⟨hg, hf⟩ := ck_gd_e hf
        refine ck_ai (x := (st 34 (x2).toNatClampNeg)) C h (show sh_C[34]? = some (.inr (0, 60)) from rfl) hg rfl dT_alike_56 ?_
        refine lv_icmp_ne (tgt := 64) hx hb dT_alike_57 rfl (fun hq => ?_) (fun hq => ?_)
        · have hf := ck_f hq hf
          refine lv_iconst (v := 0) hx hb dT_alike_64 (by decide) ?_
          refine lv_istore_n (lv' := [(3, .int (0 : Int32)), (0, .ref (ad 5)), (1, .int x1), (2, .int x2)]) hx hb dT_alike_65 rfl hl (by decide) rfl (fun ls hl => ?_)
          refine lv_iconst (v := 0) hx hb dT_alike_66 (by decide) ?_
          refine lv_istore (lv' := [(4, .int (0 : Int32)), (3, .int (0 : Int32)), (0, .ref (ad 5)), (1, .int x1), (2, .int x2)]) hx hb dT_alike_67 hl (by decide) rfl (fun ls hl => ?_)
          exact BT_alike_69 C hret  4096 _ _ _ _ _ _ _ _ h (lv_sub hl [2, 3, 4, 1, 0] rfl) hf
        · have hf := ck_t hq hf
          refine lv_iconst (v := 1) hx hb dT_alike_60 (by decide) ?_
          refine lv_goto (tgt := 65) hx hb dT_alike_61 rfl ?_
          refine lv_istore_n (lv' := [(3, .int (1 : Int32)), (0, .ref (ad 5)), (1, .int x1), (2, .int x2)]) hx hb dT_alike_65 rfl hl (by decide) rfl (fun ls hl => ?_)
          refine lv_iconst (v := 0) hx hb dT_alike_66 (by decide) ?_
          refine lv_istore (lv' := [(4, .int (0 : Int32)), (3, .int (1 : Int32)), (0, .ref (ad 5)), (1, .int x1), (2, .int x2)]) hx hb dT_alike_67 hl (by decide) rfl (fun ls hl => ?_)
          exact BT_alike_69 C hret  4096 _ _ _ _ _ _ _ _ h (lv_sub hl [2, 3, 4, 1, 0] rfl) hf
def fT_countKinds_l27 (k74 : Int32 → Int32 → ck_S → Option (Int32 × ck_S)) : Nat → Int32 → Int32 → Int32 → ck_S → Option (Int32 × ck_S)
  | 0, _, _, _, _ => none
  | n + 1, x1, x2, x3, st => (if x3 ≤ x2 then (k74 x1 x2 st) else (ck_gd x2 60 (if (st 35 (x2).toNatClampNeg) = x2 then (ck_gd x3 60 (if (st 35 (x3).toNatClampNeg) = x3 then (ck_b (fT_alike x2 x3 st) fun v2 st1 => (if v2 = 0 then (fT_countKinds_l27 k74 n x1 x2 (x3 + (-1)) st1) else (ck_gd x2 60 (fT_countKinds_l27 k74 n x1 x2 (x3 + (-1)) (ck_u st1 35 (x2).toNatClampNeg x3))))) else (fT_countKinds_l27 k74 n x1 x2 (x3 + (-1)) st))) else (k74 x1 x2 st))))
set_option maxRecDepth 100000 in
set_option maxHeartbeats 4000000 in
theorem BT_countKinds_27 (C : ck_X cm_cl D cA bT_countKinds 4 R_T 1 p R s m args c) {r0 : Int32} {st0 : ck_S} (hret : ∀ (pc : Nat) (H : Heap) (locs : List Loc) (ls : Array Slot), decode bT_countKinds pc = .ok (.ireturn, 1) → ck_AT sh_C cm_cl D cA ad H0 st0 H locs → W p l e R s m args below meth c H locs 0 0 Q (F0 m pc ls [.int r0])) {k74 : Int32 → Int32 → ck_S → Option (Int32 × ck_S)} (hk74 : ∀ (x1 : Int32) (x2 : Int32) (st : ck_S) (H : Heap) (locs : List Loc) (ls : Array Slot), ck_AT sh_C cm_cl D cA ad H0 st H locs → lv_has ls 4 [(0, .ref (ad 5)), (1, .int x1), (2, .int x2)] → k74 x1 x2 st = some (r0, st0) → W p l e R s m args below meth c H locs 0 0 Q (F0 m 74 ls [])) : ∀ (n : Nat) (x1 : Int32) (x2 : Int32) (x3 : Int32) (st : ck_S) (H : Heap) (locs : List Loc) (ls : Array Slot), ck_AT sh_C cm_cl D cA ad H0 st H locs → lv_has ls 4 [(0, .ref (ad 5)), (1, .int x1), (2, .int x2), (3, .int x3)] → fT_countKinds_l27 k74 n x1 x2 x3 st = some (r0, st0) → W p l e R s m args below meth c H locs 0 0 Q (F0 m 27 ls []) := by
  have C1 := C
  obtain ⟨hx, hb, hml, hown, hts, hK, hlv, hlo⟩ := C1
  intro n
  induction n with
  | zero => intro _ _ _ _ _ _ _ _ _ hf; cases hf
  | succ n ih =>
    intro x1 x2 x3 st H locs ls h hl hf
    rw [fT_countKinds_l27] at hf
    refine lv_iload_n hx hb dT_countKinds_27 rfl (lv_at hl 3 rfl) ?_
    refine lv_iload_n hx hb dT_countKinds_28 rfl (lv_at hl 2 rfl) ?_
    refine lv_icmp_le (tgt := 74) hx hb dT_countKinds_29 rfl (fun hq => ?_) (fun hq => ?_)
    · have hf := ck_t hq hf
      exact hk74 _ _ _ _ _ _ h (lv_sub hl [0, 1, 2] rfl) hf
    · have hf := ck_f hq hf
      refine lv_aload_n hx hb dT_countKinds_32 rfl (lv_at hl 0 rfl) ?_
      refine ck_gr C h FT_kind dT_countKinds_33 ?_
      refine lv_iload_n hx hb dT_countKinds_36 rfl (lv_at hl 2 rfl) ?_
      obtain ⟨hg, hf⟩ := ck_gd_e hf
      refine ck_ai (x := (st 35 (x2).toNatClampNeg)) C h (show sh_C[35]? = some (.inr (0, 60)) from rfl) hg rfl dT_countKinds_37 ?_
      refine lv_iload_n hx hb dT_countKinds_38 rfl (lv_at hl 2 rfl) ?_
      refine lv_icmp_ne (tgt := 74) hx hb dT_countKinds_39 rfl (fun hq => ?_) (fun hq => ?_)
      · have hf := ck_f hq hf
        exact hk74 _ _ _ _ _ _ h (lv_sub hl [0, 1, 2] rfl) hf
      · have hf := ck_t hq hf
        refine lv_aload_n hx hb dT_countKinds_42 rfl (lv_at hl 0 rfl) ?_
        refine ck_gr C h FT_kind dT_countKinds_43 ?_
        refine lv_iload_n hx hb dT_countKinds_46 rfl (lv_at hl 3 rfl) ?_
        obtain ⟨hg, hf⟩ := ck_gd_e hf
        refine ck_ai (x := (st 35 (x3).toNatClampNeg)) C h (show sh_C[35]? = some (.inr (0, 60)) from rfl) hg rfl dT_countKinds_47 ?_
        refine lv_iload_n hx hb dT_countKinds_48 rfl (lv_at hl 3 rfl) ?_
        refine lv_icmp_ne (tgt := 68) hx hb dT_countKinds_49 rfl (fun hq => ?_) (fun hq => ?_)
        · have hf := ck_f hq hf
          refine lv_iinc (k := 3) (v := (x3 + (-1))) (lv' := [(3, .int (x3 + (-1))), (0, .ref (ad 5)), (1, .int x1), (2, .int x2)]) hx hb dT_countKinds_68 hl rfl rfl (by decide) rfl (fun ls hl => ?_)
          refine lv_goto (tgt := 27) hx hb dT_countKinds_71 rfl ?_
          exact ih _ _ _ _ _ _ _ h (lv_sub hl [1, 2, 3, 0] rfl) hf
        · have hf := ck_t hq hf
          refine lv_aload_n hx hb dT_countKinds_52 rfl (lv_at hl 0 rfl) ?_
          refine lv_iload_n hx hb dT_countKinds_53 rfl (lv_at hl 2 rfl) ?_
          refine lv_iload_n hx hb dT_countKinds_54 rfl (lv_at hl 3 rfl) ?_
          obtain ⟨v2, st1, hc, hf⟩ := ck_b_e hf
          refine ck_vi (As := [.int x2, .int x3]) (rest := []) (q := 5) C h hl CT_T_alike sT_alike q_T (cT_alike l D cA ad hc) (Nat.le_of_ble_eq_true rfl) rfl rfl (Nat.le_of_ble_eq_true rfl) dT_countKinds_55 (fun H locs h => ?_)
          refine lv_if_eq (tgt := 68) hx hb dT_countKinds_58 rfl (fun hq => ?_) (fun hq => ?_)
          · have hf := ck_t hq hf
            refine lv_iinc (k := 3) (v := (x3 + (-1))) (lv' := [(3, .int (x3 + (-1))), (0, .ref (ad 5)), (1, .int x1), (2, .int x2)]) hx hb dT_countKinds_68 hl rfl rfl (by decide) rfl (fun ls hl => ?_)
            refine lv_goto (tgt := 27) hx hb dT_countKinds_71 rfl ?_
            exact ih _ _ _ _ _ _ _ h (lv_sub hl [1, 2, 3, 0] rfl) hf
          · have hf := ck_f hq hf
            refine lv_aload_n hx hb dT_countKinds_61 rfl (lv_at hl 0 rfl) ?_
            refine ck_gr C h FT_kind dT_countKinds_62 ?_
            refine lv_iload_n hx hb dT_countKinds_65 rfl (lv_at hl 2 rfl) ?_
            refine lv_iload_n hx hb dT_countKinds_66 rfl (lv_at hl 3 rfl) ?_
            obtain ⟨hg, hf⟩ := ck_gd_e hf
            refine ck_si C h (show sh_C[35]? = some (.inr (0, 60)) from rfl) hg dT_countKinds_67 (fun H locs h => ?_)
            refine lv_iinc (k := 3) (v := (x3 + (-1))) (lv' := [(3, .int (x3 + (-1))), (0, .ref (ad 5)), (1, .int x1), (2, .int x2)]) hx hb dT_countKinds_68 hl rfl rfl (by decide) rfl (fun ls hl => ?_)
            refine lv_goto (tgt := 27) hx hb dT_countKinds_71 rfl ?_
            exact ih _ _ _ _ _ _ _ h (lv_sub hl [1, 2, 3, 0] rfl) hf
def fT_countKinds_b74 (k9 : Int32 → Int32 → ck_S → Option (Int32 × ck_S)) (x1 : Int32) (x2 : Int32) (st : ck_S) : Option (Int32 × ck_S) := (ck_gd x2 60 (if (st 35 (x2).toNatClampNeg) = x2 then (k9 (x1 + 1) (x2 + (-1)) st) else (k9 x1 (x2 + (-1)) st)))
set_option maxRecDepth 100000 in
set_option maxHeartbeats 4000000 in
theorem BT_countKinds_74 (C : ck_X cm_cl D cA bT_countKinds 4 R_T 1 p R s m args c) {r0 : Int32} {st0 : ck_S} (hret : ∀ (pc : Nat) (H : Heap) (locs : List Loc) (ls : Array Slot), decode bT_countKinds pc = .ok (.ireturn, 1) → ck_AT sh_C cm_cl D cA ad H0 st0 H locs → W p l e R s m args below meth c H locs 0 0 Q (F0 m pc ls [.int r0])) {k9 : Int32 → Int32 → ck_S → Option (Int32 × ck_S)} (hk9 : ∀ (x1 : Int32) (x2 : Int32) (st : ck_S) (H : Heap) (locs : List Loc) (ls : Array Slot), ck_AT sh_C cm_cl D cA ad H0 st H locs → lv_has ls 4 [(0, .ref (ad 5)), (1, .int x1), (2, .int x2)] → k9 x1 x2 st = some (r0, st0) → W p l e R s m args below meth c H locs 0 0 Q (F0 m 9 ls [])) (x1 : Int32) (x2 : Int32) (st : ck_S) (H : Heap) (locs : List Loc) (ls : Array Slot) (h : ck_AT sh_C cm_cl D cA ad H0 st H locs) (hl : lv_has ls 4 [(0, .ref (ad 5)), (1, .int x1), (2, .int x2)]) (hf : fT_countKinds_b74 k9 x1 x2 st = some (r0, st0)) : W p l e R s m args below meth c H locs 0 0 Q (F0 m 74 ls []) := by
  have C1 := C
  obtain ⟨hx, hb, hml, hown, hts, hK, hlv, hlo⟩ := C1
  unfold fT_countKinds_b74 at hf
  refine lv_aload_n hx hb dT_countKinds_74 rfl (lv_at hl 0 rfl) ?_
  refine ck_gr C h FT_kind dT_countKinds_75 ?_
  refine lv_iload_n hx hb dT_countKinds_78 rfl (lv_at hl 2 rfl) ?_
  obtain ⟨hg, hf⟩ := ck_gd_e hf
  refine ck_ai (x := (st 35 (x2).toNatClampNeg)) C h (show sh_C[35]? = some (.inr (0, 60)) from rfl) hg rfl dT_countKinds_79 ?_
  refine lv_iload_n hx hb dT_countKinds_80 rfl (lv_at hl 2 rfl) ?_
  refine lv_icmp_ne (tgt := 87) hx hb dT_countKinds_81 rfl (fun hq => ?_) (fun hq => ?_)
  · have hf := ck_f hq hf
    refine lv_iinc (k := 2) (v := (x2 + (-1))) (lv' := [(2, .int (x2 + (-1))), (0, .ref (ad 5)), (1, .int x1)]) hx hb dT_countKinds_87 hl rfl rfl (by decide) rfl (fun ls hl => ?_)
    refine lv_goto (tgt := 9) hx hb dT_countKinds_90 rfl ?_
    exact hk9 _ _ _ _ _ _ h (lv_sub hl [1, 2, 0] rfl) hf
  · have hf := ck_t hq hf
    refine lv_iinc (k := 1) (v := (x1 + 1)) (lv' := [(1, .int (x1 + 1)), (0, .ref (ad 5)), (2, .int x2)]) hx hb dT_countKinds_84 hl rfl rfl (by decide) rfl (fun ls hl => ?_)
    refine lv_iinc (k := 2) (v := (x2 + (-1))) (lv' := [(2, .int (x2 + (-1))), (1, .int (x1 + 1)), (0, .ref (ad 5))]) hx hb dT_countKinds_87 hl rfl rfl (by decide) rfl (fun ls hl => ?_)
    refine lv_goto (tgt := 9) hx hb dT_countKinds_90 rfl ?_
    exact hk9 _ _ _ _ _ _ h (lv_sub hl [2, 1, 0] rfl) hf
def fT_countKinds_l9 : Nat → Int32 → Int32 → ck_S → Option (Int32 × ck_S)
  | 0, _, _, _ => none
  | n + 1, x1, x2, st => (if x2 < 0 then (some (x1, st)) else (ck_gd x2 60 (fT_countKinds_l27 (fun x1 x2 st => (fT_countKinds_b74 (fT_countKinds_l9 n) x1 x2 st)) 4096 x1 x2 ((st 5 14) - (1 : Int32)) (ck_u st 35 (x2).toNatClampNeg x2))))
set_option maxRecDepth 100000 in
set_option maxHeartbeats 4000000 in
theorem BT_countKinds_9 (C : ck_X cm_cl D cA bT_countKinds 4 R_T 1 p R s m args c) {r0 : Int32} {st0 : ck_S} (hret : ∀ (pc : Nat) (H : Heap) (locs : List Loc) (ls : Array Slot), decode bT_countKinds pc = .ok (.ireturn, 1) → ck_AT sh_C cm_cl D cA ad H0 st0 H locs → W p l e R s m args below meth c H locs 0 0 Q (F0 m pc ls [.int r0])) : ∀ (n : Nat) (x1 : Int32) (x2 : Int32) (st : ck_S) (H : Heap) (locs : List Loc) (ls : Array Slot), ck_AT sh_C cm_cl D cA ad H0 st H locs → lv_has ls 4 [(0, .ref (ad 5)), (1, .int x1), (2, .int x2)] → fT_countKinds_l9  n x1 x2 st = some (r0, st0) → W p l e R s m args below meth c H locs 0 0 Q (F0 m 9 ls []) := by
  have C1 := C
  obtain ⟨hx, hb, hml, hown, hts, hK, hlv, hlo⟩ := C1
  intro n
  induction n with
  | zero => intro _ _ _ _ _ _ _ _ hf; cases hf
  | succ n ih =>
    intro x1 x2 st H locs ls h hl hf
    rw [fT_countKinds_l9] at hf
    refine lv_iload_n hx hb dT_countKinds_9 rfl (lv_at hl 2 rfl) ?_
    refine lv_if_lt (tgt := 93) hx hb dT_countKinds_10 rfl (fun hq => ?_) (fun hq => ?_)
    · have hf := ck_t hq hf
      refine lv_iload_n hx hb dT_countKinds_93 rfl (lv_at hl 1 rfl) ?_
      exact ck_ri hf hret h dT_countKinds_94
    · have hf := ck_f hq hf
      refine lv_aload_n hx hb dT_countKinds_13 rfl (lv_at hl 0 rfl) ?_
      refine ck_gr C h FT_kind dT_countKinds_14 ?_
      refine lv_iload_n hx hb dT_countKinds_17 rfl (lv_at hl 2 rfl) ?_
      refine lv_iload_n hx hb dT_countKinds_18 rfl (lv_at hl 2 rfl) ?_
      obtain ⟨hg, hf⟩ := ck_gd_e hf
      refine ck_si C h (show sh_C[35]? = some (.inr (0, 60)) from rfl) hg dT_countKinds_19 (fun H locs h => ?_)
      refine lv_aload_n hx hb dT_countKinds_20 rfl (lv_at hl 0 rfl) ?_
      refine ck_gi (x := (st 5 14)) C h FT_size rfl dT_countKinds_21 ?_
      refine lv_iconst (v := 1) hx hb dT_countKinds_24 (by decide) ?_
      refine lv_isub hx hb dT_countKinds_25 ?_
      refine lv_istore_n (lv' := [(3, .int ((st 5 14) - (1 : Int32))), (0, .ref (ad 5)), (1, .int x1), (2, .int x2)]) hx hb dT_countKinds_26 rfl hl (by decide) rfl (fun ls hl => ?_)
      exact BT_countKinds_27 C hret (fun x1 x2 st H locs ls h hl hf => by
          exact BT_countKinds_74 C hret ih _ _ _ _ _ _ h (lv_sub hl [0, 1, 2] rfl) hf) 4096 _ _ _ _ _ _ _ h (lv_sub hl [1, 2, 3, 0] rfl) hf
def fT_countKinds (st : ck_S) : Option (Int32 × ck_S) := (fT_countKinds_l9  4096 (0 : Int32) ((st 5 14) - (1 : Int32)) st)
set_option maxRecDepth 100000 in
set_option maxHeartbeats 4000000 in
theorem cT_countKinds (l : Launch) (D : va_G) (cA : Nat → ClassId) (ad : Nat → Nat) {st : ck_S} {r0 : Int32} {st0 : ck_S} (hf : fT_countKinds st = some (r0, st0)) : Met l yT_countKinds (.code yT_countKinds bT_countKinds 4 (some .int) :: ck_T) (ck_R 1) (va_Pc [.ref (ad 5)] (ck_P sh_C cm_cl D cA ad st)) (va_Qi (fun a u => a = r0 ∧ u = st0) (ck_P sh_C cm_cl D cA ad) (ck_A ad sh_C.length)) 0 0 (ck_A ad sh_C.length) := by
  refine ck_met_i (own := R_T) (by decide +kernel) rfl (Nat.le_of_ble_eq_true rfl) (fun p e R s m args below meth c H0 Q ls C hret h hl => ?_)
  have C1 := C
  obtain ⟨hx, hb, hml, hown, hts, hK, hlv, hlo⟩ := C1
  have hl : lv_has ls 4 [(0, .ref (ad 5))] := hl
  unfold fT_countKinds at hf
  refine lv_iconst (v := 0) hx hb dT_countKinds_0 (by decide) ?_
  refine lv_istore_n (lv' := [(1, .int (0 : Int32)), (0, .ref (ad 5))]) hx hb dT_countKinds_1 rfl hl (by decide) rfl (fun ls hl => ?_)
  refine lv_aload_n hx hb dT_countKinds_2 rfl (lv_at hl 1 rfl) ?_
  refine ck_gi (x := (st 5 14)) C h FT_size rfl dT_countKinds_3 ?_
  refine lv_iconst (v := 1) hx hb dT_countKinds_6 (by decide) ?_
  refine lv_isub hx hb dT_countKinds_7 ?_
  refine lv_istore_n (lv' := [(2, .int ((st 5 14) - (1 : Int32))), (1, .int (0 : Int32)), (0, .ref (ad 5))]) hx hb dT_countKinds_8 rfl hl (by decide) rfl (fun ls hl => ?_)
  exact BT_countKinds_9 C hret  4096 _ _ _ _ _ _ h (lv_sub hl [2, 1, 0] rfl) hf
def fT_branchFor_l24 : Nat → Int32 → Int32 → Int32 → ck_S → Option (Int32 × ck_S)
  | 0, _, _, _, _ => none
  | n + 1, x2, x3, x4, st => (if x3 ≤ x4 then (some (x3, st)) else (ck_gd x4 60 (if (st 28 (x4).toNatClampNeg) = x2 then (some (x4, st)) else (fT_branchFor_l24 n x2 x3 (x4 + 1) st))))
set_option maxRecDepth 100000 in
set_option maxHeartbeats 4000000 in
theorem BT_branchFor_24 (C : ck_X cm_cl D cA bT_branchFor 5 R_T 0 p R s m args c) {r0 : Int32} {st0 : ck_S} (hret : ∀ (pc : Nat) (H : Heap) (locs : List Loc) (ls : Array Slot), decode bT_branchFor pc = .ok (.ireturn, 1) → ck_AT sh_C cm_cl D cA ad H0 st0 H locs → W p l e R s m args below meth c H locs 0 0 Q (F0 m pc ls [.int r0])) : ∀ (n : Nat) (x2 : Int32) (x3 : Int32) (x4 : Int32) (st : ck_S) (H : Heap) (locs : List Loc) (ls : Array Slot), ck_AT sh_C cm_cl D cA ad H0 st H locs → lv_has ls 5 [(0, .ref (ad 5)), (2, .int x2), (3, .int x3), (4, .int x4)] → fT_branchFor_l24  n x2 x3 x4 st = some (r0, st0) → W p l e R s m args below meth c H locs 0 0 Q (F0 m 24 ls []) := by
  have C1 := C
  obtain ⟨hx, hb, hml, hown, hts, hK, hlv, hlo⟩ := C1
  intro n
  induction n with
  | zero => intro _ _ _ _ _ _ _ _ _ hf; cases hf
  | succ n ih =>
    intro x2 x3 x4 st H locs ls h hl hf
    rw [fT_branchFor_l24] at hf
    refine lv_iload hx hb dT_branchFor_24 (lv_at hl 3 rfl) ?_
    refine lv_iload_n hx hb dT_branchFor_26 rfl (lv_at hl 2 rfl) ?_
    refine lv_icmp_ge (tgt := 50) hx hb dT_branchFor_27 rfl (fun hq => ?_) (fun hq => ?_)
    · have hf := ck_t hq hf
      refine lv_iload_n hx hb dT_branchFor_50 rfl (lv_at hl 2 rfl) ?_
      exact ck_ri hf hret h dT_branchFor_51
    · have hf := ck_f hq hf
      refine lv_aload_n hx hb dT_branchFor_30 rfl (lv_at hl 0 rfl) ?_
      refine ck_gr C h FT_label dT_branchFor_31 ?_
      refine lv_iload hx hb dT_branchFor_34 (lv_at hl 3 rfl) ?_
      obtain ⟨hg, hf⟩ := ck_gd_e hf
      refine ck_ai (x := (st 28 (x4).toNatClampNeg)) C h (show sh_C[28]? = some (.inr (0, 60)) from rfl) hg rfl dT_branchFor_36 ?_
      refine lv_iload_n hx hb dT_branchFor_37 rfl (lv_at hl 1 rfl) ?_
      refine lv_icmp_ne (tgt := 44) hx hb dT_branchFor_38 rfl (fun hq => ?_) (fun hq => ?_)
      · have hf := ck_f hq hf
        refine lv_iinc (k := 3) (v := (x4 + 1)) (lv' := [(4, .int (x4 + 1)), (0, .ref (ad 5)), (2, .int x2), (3, .int x3)]) hx hb dT_branchFor_44 hl rfl rfl (by decide) rfl (fun ls hl => ?_)
        refine lv_goto (tgt := 24) hx hb dT_branchFor_47 rfl ?_
        exact ih _ _ _ _ _ _ _ h (lv_sub hl [1, 2, 3, 0] rfl) hf
      · have hf := ck_t hq hf
        refine lv_iload hx hb dT_branchFor_41 (lv_at hl 3 rfl) ?_
        exact ck_ri hf hret h dT_branchFor_43
def fT_branchFor (x1 : Int32) (x2 : Int32) (st : ck_S) : Option (Int32 × ck_S) := (ck_gd x1 60 (ck_gd x1 60 (ck_gd x1 60 (fT_branchFor_l24  4096 x2 (((st 33 (x1).toNatClampNeg) + (st 34 (x1).toNatClampNeg)) - (1 : Int32)) (st 33 (x1).toNatClampNeg) st))))
set_option maxRecDepth 100000 in
set_option maxHeartbeats 4000000 in
theorem cT_branchFor (l : Launch) (D : va_G) (cA : Nat → ClassId) (ad : Nat → Nat) {x1 : Int32} {x2 : Int32} {st : ck_S} {r0 : Int32} {st0 : ck_S} (hf : fT_branchFor x1 x2 st = some (r0, st0)) : Met l yT_branchFor (.code yT_branchFor bT_branchFor 5 (some .int) :: ck_T) (ck_R 0) (va_Pc [.ref (ad 5), .int x1, .int x2] (ck_P sh_C cm_cl D cA ad st)) (va_Qi (fun a u => a = r0 ∧ u = st0) (ck_P sh_C cm_cl D cA ad) (ck_A ad sh_C.length)) 0 0 (ck_A ad sh_C.length) := by
  refine ck_met_i (own := R_T) (by decide +kernel) rfl (Nat.le_of_ble_eq_true rfl) (fun p e R s m args below meth c H0 Q ls C hret h hl => ?_)
  have C1 := C
  obtain ⟨hx, hb, hml, hown, hts, hK, hlv, hlo⟩ := C1
  have hl : lv_has ls 5 [(0, .ref (ad 5)), (1, .int x1), (2, .int x2)] := hl
  unfold fT_branchFor at hf
  refine lv_aload_n hx hb dT_branchFor_0 rfl (lv_at hl 0 rfl) ?_
  refine ck_gr C h FT_firstBranch dT_branchFor_1 ?_
  refine lv_iload_n hx hb dT_branchFor_4 rfl (lv_at hl 1 rfl) ?_
  obtain ⟨hg, hf⟩ := ck_gd_e hf
  refine ck_ai (x := (st 33 (x1).toNatClampNeg)) C h (show sh_C[33]? = some (.inr (0, 60)) from rfl) hg rfl dT_branchFor_5 ?_
  refine lv_aload_n hx hb dT_branchFor_6 rfl (lv_at hl 0 rfl) ?_
  refine ck_gr C h FT_branchCount dT_branchFor_7 ?_
  refine lv_iload_n hx hb dT_branchFor_10 rfl (lv_at hl 1 rfl) ?_
  obtain ⟨hg, hf⟩ := ck_gd_e hf
  refine ck_ai (x := (st 34 (x1).toNatClampNeg)) C h (show sh_C[34]? = some (.inr (0, 60)) from rfl) hg rfl dT_branchFor_11 ?_
  refine lv_iadd hx hb dT_branchFor_12 ?_
  refine lv_iconst (v := 1) hx hb dT_branchFor_13 (by decide) ?_
  refine lv_isub hx hb dT_branchFor_14 ?_
  refine lv_istore_n (lv' := [(3, .int (((st 33 (x1).toNatClampNeg) + (st 34 (x1).toNatClampNeg)) - (1 : Int32))), (0, .ref (ad 5)), (1, .int x1), (2, .int x2)]) hx hb dT_branchFor_15 rfl hl (by decide) rfl (fun ls hl => ?_)
  refine lv_aload_n hx hb dT_branchFor_16 rfl (lv_at hl 1 rfl) ?_
  refine ck_gr C h FT_firstBranch dT_branchFor_17 ?_
  refine lv_iload_n hx hb dT_branchFor_20 rfl (lv_at hl 2 rfl) ?_
  obtain ⟨hg, hf⟩ := ck_gd_e hf
  refine ck_ai (x := (st 33 (x1).toNatClampNeg)) C h (show sh_C[33]? = some (.inr (0, 60)) from rfl) hg rfl dT_branchFor_21 ?_
  refine lv_istore (lv' := [(4, .int (st 33 (x1).toNatClampNeg)), (3, .int (((st 33 (x1).toNatClampNeg) + (st 34 (x1).toNatClampNeg)) - (1 : Int32))), (0, .ref (ad 5)), (1, .int x1), (2, .int x2)]) hx hb dT_branchFor_22 hl (by decide) rfl (fun ls hl => ?_)
  exact BT_branchFor_24 C hret  4096 _ _ _ _ _ _ _ h (lv_sub hl [2, 4, 1, 0] rfl) hf
def fT_leafFor_l12 : Nat → Int32 → Int32 → ck_S → Option (Int32 × ck_S)
  | 0, _, _, _ => none
  | n + 1, x3, x4, st => (if (16 : Int32) ≤ x4 then (some (x3, st)) else (ck_b (fT_placeOf x3 st) fun v2 st1 => (if v2 = 0 then (some (x3, st1)) else (ck_gd x3 60 (ck_gd (st1 30 (x3).toNatClampNeg) 32 (ck_b (fV_firstOf (st1 37 ((st1 30 (x3).toNatClampNeg)).toNatClampNeg) st1) fun v4 st3 => (ck_gd ((2 : Int32) * (st1 30 (x3).toNatClampNeg)) 32 (ck_b (fV_secondOf (st1 37 ((st1 30 (x3).toNatClampNeg)).toNatClampNeg) (ck_u st3 37 (((2 : Int32) * (st1 30 (x3).toNatClampNeg))).toNatClampNeg v4)) fun v6 st5 => (ck_gd (((2 : Int32) * (st1 30 (x3).toNatClampNeg)) + (1 : Int32)) 32 (ck_b (fV_symbolOf (st1 37 ((st1 30 (x3).toNatClampNeg)).toNatClampNeg) (ck_u st5 37 ((((2 : Int32) * (st1 30 (x3).toNatClampNeg)) + (1 : Int32))).toNatClampNeg v6)) fun v8 st7 => (ck_b (fT_branchFor x3 v8 st7) fun v10 st9 => (fT_leafFor_l12 n v10 (x4 + 1) st9))))))))))))
set_option maxRecDepth 100000 in
set_option maxHeartbeats 4000000 in
theorem BT_leafFor_12 (C : ck_X cm_cl D cA bT_leafFor 7 R_T 2 p R s m args c) {r0 : Int32} {st0 : ck_S} (hret : ∀ (pc : Nat) (H : Heap) (locs : List Loc) (ls : Array Slot), decode bT_leafFor pc = .ok (.ireturn, 1) → ck_AT sh_C cm_cl D cA ad H0 st0 H locs → W p l e R s m args below meth c H locs 0 0 Q (F0 m pc ls [.int r0])) : ∀ (n : Nat) (x3 : Int32) (x4 : Int32) (st : ck_S) (H : Heap) (locs : List Loc) (ls : Array Slot), ck_AT sh_C cm_cl D cA ad H0 st H locs → lv_has ls 7 [(0, .ref (ad 5)), (1, .ref (ad 3)), (3, .int x3), (4, .int x4)] → fT_leafFor_l12  n x3 x4 st = some (r0, st0) → W p l e R s m args below meth c H locs 0 0 Q (F0 m 12 ls []) := by
  have C1 := C
  obtain ⟨hx, hb, hml, hown, hts, hK, hlv, hlo⟩ := C1
  intro n
  induction n with
  | zero => intro _ _ _ _ _ _ _ _ hf; cases hf
  | succ n ih =>
    intro x3 x4 st H locs ls h hl hf
    rw [fT_leafFor_l12] at hf
    refine lv_iload hx hb dT_leafFor_12 (lv_at hl 3 rfl) ?_
    refine lv_bipush (v := 16) hx hb dT_leafFor_14 (by decide) ?_
    refine lv_icmp_ge (tgt := 94) hx hb dT_leafFor_16 rfl (fun hq => ?_) (fun hq => ?_)
    · have hf := ck_t hq hf
      refine lv_iload_n hx hb dT_leafFor_94 rfl (lv_at hl 2 rfl) ?_
      exact ck_ri hf hret h dT_leafFor_95
    · have hf := ck_f hq hf
      refine lv_aload_n hx hb dT_leafFor_19 rfl (lv_at hl 0 rfl) ?_
      refine lv_iload_n hx hb dT_leafFor_20 rfl (lv_at hl 2 rfl) ?_
      obtain ⟨v2, st1, hc, hf⟩ := ck_b_e hf
      refine ck_vi (As := [.int x3]) (rest := []) (q := 5) C h hl CT_T_placeOf sT_placeOf q_T (cT_placeOf l D cA ad hc) (Nat.le_of_ble_eq_true rfl) rfl rfl (Nat.le_of_ble_eq_true rfl) dT_leafFor_21 (fun H locs h => ?_)
      refine lv_if_eq (tgt := 94) hx hb dT_leafFor_24 rfl (fun hq => ?_) (fun hq => ?_)
      · have hf := ck_t hq hf
        refine lv_iload_n hx hb dT_leafFor_94 rfl (lv_at hl 2 rfl) ?_
        exact ck_ri hf hret h dT_leafFor_95
      · have hf := ck_f hq hf
        refine lv_aload_n hx hb dT_leafFor_27 rfl (lv_at hl 0 rfl) ?_
        refine ck_gr C h FT_place dT_leafFor_28 ?_
        refine lv_iload_n hx hb dT_leafFor_31 rfl (lv_at hl 2 rfl) ?_
        obtain ⟨hg, hf⟩ := ck_gd_e hf
        refine ck_ai (x := (st1 30 (x3).toNatClampNeg)) C h (show sh_C[30]? = some (.inr (0, 60)) from rfl) hg rfl dT_leafFor_32 ?_
        refine lv_istore (lv' := [(5, .int (st1 30 (x3).toNatClampNeg)), (0, .ref (ad 5)), (1, .ref (ad 3)), (3, .int x3), (4, .int x4)]) hx hb dT_leafFor_33 hl (by decide) rfl (fun ls hl => ?_)
        refine lv_aload_n hx hb dT_leafFor_35 rfl (lv_at hl 1 rfl) ?_
        refine ck_gr C h FT_valueAt dT_leafFor_36 ?_
        refine lv_iload hx hb dT_leafFor_39 (lv_at hl 0 rfl) ?_
        obtain ⟨hg, hf⟩ := ck_gd_e hf
        refine ck_ai (x := (st1 37 ((st1 30 (x3).toNatClampNeg)).toNatClampNeg)) C h (show sh_C[37]? = some (.inr (0, 32)) from rfl) hg rfl dT_leafFor_41 ?_
        refine lv_istore (lv' := [(6, .int (st1 37 ((st1 30 (x3).toNatClampNeg)).toNatClampNeg)), (5, .int (st1 30 (x3).toNatClampNeg)), (0, .ref (ad 5)), (1, .ref (ad 3)), (3, .int x3), (4, .int x4)]) hx hb dT_leafFor_42 hl (by decide) rfl (fun ls hl => ?_)
        refine lv_aload_n hx hb dT_leafFor_44 rfl (lv_at hl 2 rfl) ?_
        refine ck_gr C h FT_valueAt dT_leafFor_45 ?_
        refine lv_iconst (v := 2) hx hb dT_leafFor_48 (by decide) ?_
        refine lv_iload hx hb dT_leafFor_49 (lv_at hl 1 rfl) ?_
        refine lv_imul hx hb dT_leafFor_51 ?_
        refine lv_aload_n hx hb dT_leafFor_52 rfl (lv_at hl 3 rfl) ?_
        refine lv_iload hx hb dT_leafFor_53 (lv_at hl 0 rfl) ?_
        obtain ⟨v4, st3, hc, hf⟩ := ck_b_e hf
        refine ck_vi (As := [.int (st1 37 ((st1 30 (x3).toNatClampNeg)).toNatClampNeg)]) (rest := [.int ((2 : Int32) * (st1 30 (x3).toNatClampNeg)), .ref (ad 37)]) (q := 3) C h hl CT_V_firstOf sV_firstOf q_V (cV_firstOf l D cA ad hc) (Nat.le_of_ble_eq_true rfl) rfl rfl (Nat.le_of_ble_eq_true rfl) dT_leafFor_55 (fun H locs h => ?_)
        obtain ⟨hg, hf⟩ := ck_gd_e hf
        refine ck_si C h (show sh_C[37]? = some (.inr (0, 32)) from rfl) hg dT_leafFor_58 (fun H locs h => ?_)
        refine lv_aload_n hx hb dT_leafFor_59 rfl (lv_at hl 2 rfl) ?_
        refine ck_gr C h FT_valueAt dT_leafFor_60 ?_
        refine lv_iconst (v := 2) hx hb dT_leafFor_63 (by decide) ?_
        refine lv_iload hx hb dT_leafFor_64 (lv_at hl 1 rfl) ?_
        refine lv_imul hx hb dT_leafFor_66 ?_
        refine lv_iconst (v := 1) hx hb dT_leafFor_67 (by decide) ?_
        refine lv_iadd hx hb dT_leafFor_68 ?_
        refine lv_aload_n hx hb dT_leafFor_69 rfl (lv_at hl 3 rfl) ?_
        refine lv_iload hx hb dT_leafFor_70 (lv_at hl 0 rfl) ?_
        obtain ⟨v6, st5, hc, hf⟩ := ck_b_e hf
        refine ck_vi (As := [.int (st1 37 ((st1 30 (x3).toNatClampNeg)).toNatClampNeg)]) (rest := [.int (((2 : Int32) * (st1 30 (x3).toNatClampNeg)) + (1 : Int32)), .ref (ad 37)]) (q := 3) C h hl CT_V_secondOf sV_secondOf q_V (cV_secondOf l D cA ad hc) (Nat.le_of_ble_eq_true rfl) rfl rfl (Nat.le_of_ble_eq_true rfl) dT_leafFor_72 (fun H locs h => ?_)
        obtain ⟨hg, hf⟩ := ck_gd_e hf
        refine ck_si C h (show sh_C[37]? = some (.inr (0, 32)) from rfl) hg dT_leafFor_75 (fun H locs h => ?_)
        refine lv_aload_n hx hb dT_leafFor_76 rfl (lv_at hl 2 rfl) ?_
        refine lv_iload_n hx hb dT_leafFor_77 rfl (lv_at hl 4 rfl) ?_
        refine lv_aload_n hx hb dT_leafFor_78 rfl (lv_at hl 3 rfl) ?_
        refine lv_iload hx hb dT_leafFor_79 (lv_at hl 0 rfl) ?_
        obtain ⟨v8, st7, hc, hf⟩ := ck_b_e hf
        refine ck_vi (As := [.int (st1 37 ((st1 30 (x3).toNatClampNeg)).toNatClampNeg)]) (rest := [.int x3, .ref (ad 5)]) (q := 3) C h hl CT_V_symbolOf sV_symbolOf q_V (cV_symbolOf l D cA ad hc) (Nat.le_of_ble_eq_true rfl) rfl rfl (Nat.le_of_ble_eq_true rfl) dT_leafFor_81 (fun H locs h => ?_)
        obtain ⟨v10, st9, hc, hf⟩ := ck_b_e hf
        refine ck_vi (As := [.int x3, .int v8]) (rest := []) (q := 5) C h hl CT_T_branchFor sT_branchFor q_T (cT_branchFor l D cA ad hc) (Nat.le_of_ble_eq_true rfl) rfl rfl (Nat.le_of_ble_eq_true rfl) dT_leafFor_84 (fun H locs h => ?_)
        refine lv_istore_n (lv' := [(3, .int v10), (6, .int (st1 37 ((st1 30 (x3).toNatClampNeg)).toNatClampNeg)), (5, .int (st1 30 (x3).toNatClampNeg)), (0, .ref (ad 5)), (1, .ref (ad 3)), (4, .int x4)]) hx hb dT_leafFor_87 rfl hl (by decide) rfl (fun ls hl => ?_)
        refine lv_iinc (k := 5) (v := (x4 + 1)) (lv' := [(4, .int (x4 + 1)), (3, .int v10), (6, .int (st1 37 ((st1 30 (x3).toNatClampNeg)).toNatClampNeg)), (5, .int (st1 30 (x3).toNatClampNeg)), (0, .ref (ad 5)), (1, .ref (ad 3))]) hx hb dT_leafFor_88 hl rfl rfl (by decide) rfl (fun ls hl => ?_)
        refine lv_goto (tgt := 12) hx hb dT_leafFor_91 rfl ?_
        exact ih _ _ _ _ _ _ h (lv_sub hl [4, 5, 1, 0] rfl) hf
def fT_leafFor (x2 : Int32) (st : ck_S) : Option (Int32 × ck_S) := (ck_gd (1 : Int32) 32 (fT_leafFor_l12  4096 (0 : Int32) (0 : Int32) (ck_u st 37 ((1 : Int32)).toNatClampNeg x2)))
set_option maxRecDepth 100000 in
set_option maxHeartbeats 4000000 in
theorem cT_leafFor (l : Launch) (D : va_G) (cA : Nat → ClassId) (ad : Nat → Nat) {x2 : Int32} {st : ck_S} {r0 : Int32} {st0 : ck_S} (hf : fT_leafFor x2 st = some (r0, st0)) : Met l yT_leafFor (.code yT_leafFor bT_leafFor 7 (some .int) :: ck_T) (ck_R 2) (va_Pc [.ref (ad 5), .ref (ad 3), .int x2] (ck_P sh_C cm_cl D cA ad st)) (va_Qi (fun a u => a = r0 ∧ u = st0) (ck_P sh_C cm_cl D cA ad) (ck_A ad sh_C.length)) 0 0 (ck_A ad sh_C.length) := by
  refine ck_met_i (own := R_T) (by decide +kernel) rfl (Nat.le_of_ble_eq_true rfl) (fun p e R s m args below meth c H0 Q ls C hret h hl => ?_)
  have C1 := C
  obtain ⟨hx, hb, hml, hown, hts, hK, hlv, hlo⟩ := C1
  have hl : lv_has ls 7 [(0, .ref (ad 5)), (1, .ref (ad 3)), (2, .int x2)] := hl
  unfold fT_leafFor at hf
  refine lv_iconst (v := 0) hx hb dT_leafFor_0 (by decide) ?_
  refine lv_istore_n (lv' := [(3, .int (0 : Int32)), (0, .ref (ad 5)), (1, .ref (ad 3)), (2, .int x2)]) hx hb dT_leafFor_1 rfl hl (by decide) rfl (fun ls hl => ?_)
  refine lv_aload_n hx hb dT_leafFor_2 rfl (lv_at hl 1 rfl) ?_
  refine ck_gr C h FT_valueAt dT_leafFor_3 ?_
  refine lv_iconst (v := 1) hx hb dT_leafFor_6 (by decide) ?_
  refine lv_iload_n hx hb dT_leafFor_7 rfl (lv_at hl 3 rfl) ?_
  obtain ⟨hg, hf⟩ := ck_gd_e hf
  refine ck_si C h (show sh_C[37]? = some (.inr (0, 32)) from rfl) hg dT_leafFor_8 (fun H locs h => ?_)
  refine lv_iconst (v := 0) hx hb dT_leafFor_9 (by decide) ?_
  refine lv_istore (lv' := [(4, .int (0 : Int32)), (3, .int (0 : Int32)), (0, .ref (ad 5)), (1, .ref (ad 3)), (2, .int x2)]) hx hb dT_leafFor_10 hl (by decide) rfl (fun ls hl => ?_)
  exact BT_leafFor_12 C hret  4096 _ _ _ _ _ _ h (lv_sub hl [2, 3, 1, 0] rfl) hf
def fT_lastBranch (x1 : Int32) (st : ck_S) : Option (Int32 × ck_S) := (ck_b (fT_has x1 st) fun v2 st1 => (if v2 = 0 then (some (x1, st1)) else (ck_gd x1 60 (ck_gd x1 60 (some ((((st1 33 (x1).toNatClampNeg) + (st1 34 (x1).toNatClampNeg)) - (1 : Int32)), st1))))))
set_option maxRecDepth 100000 in
set_option maxHeartbeats 4000000 in
theorem cT_lastBranch (l : Launch) (D : va_G) (cA : Nat → ClassId) (ad : Nat → Nat) {x1 : Int32} {st : ck_S} {r0 : Int32} {st0 : ck_S} (hf : fT_lastBranch x1 st = some (r0, st0)) : Met l yT_lastBranch (.code yT_lastBranch bT_lastBranch 2 (some .int) :: ck_T) (ck_R 1) (va_Pc [.ref (ad 5), .int x1] (ck_P sh_C cm_cl D cA ad st)) (va_Qi (fun a u => a = r0 ∧ u = st0) (ck_P sh_C cm_cl D cA ad) (ck_A ad sh_C.length)) 0 0 (ck_A ad sh_C.length) := by
  refine ck_met_i (own := R_T) (by decide +kernel) rfl (Nat.le_of_ble_eq_true rfl) (fun p e R s m args below meth c H0 Q ls C hret h hl => ?_)
  have C1 := C
  obtain ⟨hx, hb, hml, hown, hts, hK, hlv, hlo⟩ := C1
  have hl : lv_has ls 2 [(0, .ref (ad 5)), (1, .int x1)] := hl
  unfold fT_lastBranch at hf
  refine lv_aload_n hx hb dT_lastBranch_0 rfl (lv_at hl 0 rfl) ?_
  refine lv_iload_n hx hb dT_lastBranch_1 rfl (lv_at hl 1 rfl) ?_
  obtain ⟨v2, st1, hc, hf⟩ := ck_b_e hf
  refine ck_vi (As := [.int x1]) (rest := []) (q := 5) C h hl CT_T_has sT_has q_T (cT_has l D cA ad hc) (Nat.le_of_ble_eq_true rfl) rfl rfl (Nat.le_of_ble_eq_true rfl) dT_lastBranch_2 (fun H locs h => ?_)
  refine lv_if_eq (tgt := 26) hx hb dT_lastBranch_5 rfl (fun hq => ?_) (fun hq => ?_)
  · have hf := ck_t hq hf
    refine lv_iload_n hx hb dT_lastBranch_26 rfl (lv_at hl 1 rfl) ?_
    exact ck_ri hf hret h dT_lastBranch_27
  · have hf := ck_f hq hf
    refine lv_aload_n hx hb dT_lastBranch_8 rfl (lv_at hl 0 rfl) ?_
    refine ck_gr C h FT_firstBranch dT_lastBranch_9 ?_
    refine lv_iload_n hx hb dT_lastBranch_12 rfl (lv_at hl 1 rfl) ?_
    obtain ⟨hg, hf⟩ := ck_gd_e hf
    refine ck_ai (x := (st1 33 (x1).toNatClampNeg)) C h (show sh_C[33]? = some (.inr (0, 60)) from rfl) hg rfl dT_lastBranch_13 ?_
    refine lv_aload_n hx hb dT_lastBranch_14 rfl (lv_at hl 0 rfl) ?_
    refine ck_gr C h FT_branchCount dT_lastBranch_15 ?_
    refine lv_iload_n hx hb dT_lastBranch_18 rfl (lv_at hl 1 rfl) ?_
    obtain ⟨hg, hf⟩ := ck_gd_e hf
    refine ck_ai (x := (st1 34 (x1).toNatClampNeg)) C h (show sh_C[34]? = some (.inr (0, 60)) from rfl) hg rfl dT_lastBranch_19 ?_
    refine lv_iadd hx hb dT_lastBranch_20 ?_
    refine lv_iconst (v := 1) hx hb dT_lastBranch_21 (by decide) ?_
    refine lv_isub hx hb dT_lastBranch_22 ?_
    refine lv_goto (tgt := 27) hx hb dT_lastBranch_23 rfl ?_
    exact ck_ri hf hret h dT_lastBranch_27
def fT_leastWithoutBranch_l21 : Nat → Int32 → Int32 → Int32 → Int32 → ck_S → Option (Int32 × ck_S)
  | 0, _, _, _, _, _ => none
  | n + 1, x1, x2, x3, x4, st => (if (16 : Int32) ≤ x4 then (some (x3, st)) else (ck_b (fT_branchFor x1 x3 st) fun v2 st1 => (if v2 = x2 then (some (x3, st1)) else (fT_leastWithoutBranch_l21 n x1 x2 (x3 + 1) (x4 + 1) st1))))
set_option maxRecDepth 100000 in
set_option maxHeartbeats 4000000 in
theorem BT_leastWithoutBranch_21 (C : ck_X cm_cl D cA bT_leastWithoutBranch 5 R_T 2 p R s m args c) {r0 : Int32} {st0 : ck_S} (hret : ∀ (pc : Nat) (H : Heap) (locs : List Loc) (ls : Array Slot), decode bT_leastWithoutBranch pc = .ok (.ireturn, 1) → ck_AT sh_C cm_cl D cA ad H0 st0 H locs → W p l e R s m args below meth c H locs 0 0 Q (F0 m pc ls [.int r0])) : ∀ (n : Nat) (x1 : Int32) (x2 : Int32) (x3 : Int32) (x4 : Int32) (st : ck_S) (H : Heap) (locs : List Loc) (ls : Array Slot), ck_AT sh_C cm_cl D cA ad H0 st H locs → lv_has ls 5 [(0, .ref (ad 5)), (1, .int x1), (2, .int x2), (3, .int x3), (4, .int x4)] → fT_leastWithoutBranch_l21  n x1 x2 x3 x4 st = some (r0, st0) → W p l e R s m args below meth c H locs 0 0 Q (F0 m 21 ls []) := by
  have C1 := C
  obtain ⟨hx, hb, hml, hown, hts, hK, hlv, hlo⟩ := C1
  intro n
  induction n with
  | zero => intro _ _ _ _ _ _ _ _ _ _ hf; cases hf
  | succ n ih =>
    intro x1 x2 x3 x4 st H locs ls h hl hf
    rw [fT_leastWithoutBranch_l21] at hf
    refine lv_iload hx hb dT_leastWithoutBranch_21 (lv_at hl 4 rfl) ?_
    refine lv_bipush (v := 16) hx hb dT_leastWithoutBranch_23 (by decide) ?_
    refine lv_icmp_ge (tgt := 47) hx hb dT_leastWithoutBranch_25 rfl (fun hq => ?_) (fun hq => ?_)
    · have hf := ck_t hq hf
      refine lv_iload_n hx hb dT_leastWithoutBranch_47 rfl (lv_at hl 3 rfl) ?_
      exact ck_ri hf hret h dT_leastWithoutBranch_48
    · have hf := ck_f hq hf
      refine lv_aload_n hx hb dT_leastWithoutBranch_28 rfl (lv_at hl 0 rfl) ?_
      refine lv_iload_n hx hb dT_leastWithoutBranch_29 rfl (lv_at hl 1 rfl) ?_
      refine lv_iload_n hx hb dT_leastWithoutBranch_30 rfl (lv_at hl 3 rfl) ?_
      obtain ⟨v2, st1, hc, hf⟩ := ck_b_e hf
      refine ck_vi (As := [.int x1, .int x3]) (rest := []) (q := 5) C h hl CT_T_branchFor sT_branchFor q_T (cT_branchFor l D cA ad hc) (Nat.le_of_ble_eq_true rfl) rfl rfl (Nat.le_of_ble_eq_true rfl) dT_leastWithoutBranch_31 (fun H locs h => ?_)
      refine lv_iload_n hx hb dT_leastWithoutBranch_34 rfl (lv_at hl 2 rfl) ?_
      refine lv_icmp_eq (tgt := 47) hx hb dT_leastWithoutBranch_35 rfl (fun hq => ?_) (fun hq => ?_)
      · have hf := ck_t hq hf
        refine lv_iload_n hx hb dT_leastWithoutBranch_47 rfl (lv_at hl 3 rfl) ?_
        exact ck_ri hf hret h dT_leastWithoutBranch_48
      · have hf := ck_f hq hf
        refine lv_iinc (k := 3) (v := (x3 + 1)) (lv' := [(3, .int (x3 + 1)), (0, .ref (ad 5)), (1, .int x1), (2, .int x2), (4, .int x4)]) hx hb dT_leastWithoutBranch_38 hl rfl rfl (by decide) rfl (fun ls hl => ?_)
        refine lv_iinc (k := 4) (v := (x4 + 1)) (lv' := [(4, .int (x4 + 1)), (3, .int (x3 + 1)), (0, .ref (ad 5)), (1, .int x1), (2, .int x2)]) hx hb dT_leastWithoutBranch_41 hl rfl rfl (by decide) rfl (fun ls hl => ?_)
        refine lv_goto (tgt := 21) hx hb dT_leastWithoutBranch_44 rfl ?_
        exact ih _ _ _ _ _ _ _ _ h (lv_sub hl [2, 3, 4, 1, 0] rfl) hf
def fT_leastWithoutBranch (x1 : Int32) (st : ck_S) : Option (Int32 × ck_S) := (ck_b (fT_has x1 st) fun v2 st1 => (if v2 = 0 then (some ((0 : Int32), st1)) else (ck_b (fT_lastBranch x1 st1) fun v4 st3 => (fT_leastWithoutBranch_l21  4096 x1 v4 (0 : Int32) (0 : Int32) st3))))
set_option maxRecDepth 100000 in
set_option maxHeartbeats 4000000 in
theorem cT_leastWithoutBranch (l : Launch) (D : va_G) (cA : Nat → ClassId) (ad : Nat → Nat) {x1 : Int32} {st : ck_S} {r0 : Int32} {st0 : ck_S} (hf : fT_leastWithoutBranch x1 st = some (r0, st0)) : Met l yT_leastWithoutBranch (.code yT_leastWithoutBranch bT_leastWithoutBranch 5 (some .int) :: ck_T) (ck_R 2) (va_Pc [.ref (ad 5), .int x1] (ck_P sh_C cm_cl D cA ad st)) (va_Qi (fun a u => a = r0 ∧ u = st0) (ck_P sh_C cm_cl D cA ad) (ck_A ad sh_C.length)) 0 0 (ck_A ad sh_C.length) := by
  refine ck_met_i (own := R_T) (by decide +kernel) rfl (Nat.le_of_ble_eq_true rfl) (fun p e R s m args below meth c H0 Q ls C hret h hl => ?_)
  have C1 := C
  obtain ⟨hx, hb, hml, hown, hts, hK, hlv, hlo⟩ := C1
  have hl : lv_has ls 5 [(0, .ref (ad 5)), (1, .int x1)] := hl
  unfold fT_leastWithoutBranch at hf
  refine lv_aload_n hx hb dT_leastWithoutBranch_0 rfl (lv_at hl 0 rfl) ?_
  refine lv_iload_n hx hb dT_leastWithoutBranch_1 rfl (lv_at hl 1 rfl) ?_
  obtain ⟨v2, st1, hc, hf⟩ := ck_b_e hf
  refine ck_vi (As := [.int x1]) (rest := []) (q := 5) C h hl CT_T_has sT_has q_T (cT_has l D cA ad hc) (Nat.le_of_ble_eq_true rfl) rfl rfl (Nat.le_of_ble_eq_true rfl) dT_leastWithoutBranch_2 (fun H locs h => ?_)
  refine lv_if_ne (tgt := 10) hx hb dT_leastWithoutBranch_5 rfl (fun hq => ?_) (fun hq => ?_)
  · have hf := ck_f hq hf
    refine lv_aload_n hx hb dT_leastWithoutBranch_10 rfl (lv_at hl 0 rfl) ?_
    refine lv_iload_n hx hb dT_leastWithoutBranch_11 rfl (lv_at hl 1 rfl) ?_
    obtain ⟨v4, st3, hc, hf⟩ := ck_b_e hf
    refine ck_vi (As := [.int x1]) (rest := []) (q := 5) C h hl CT_T_lastBranch sT_lastBranch q_T (cT_lastBranch l D cA ad hc) (Nat.le_of_ble_eq_true rfl) rfl rfl (Nat.le_of_ble_eq_true rfl) dT_leastWithoutBranch_12 (fun H locs h => ?_)
    refine lv_istore_n (lv' := [(2, .int v4), (0, .ref (ad 5)), (1, .int x1)]) hx hb dT_leastWithoutBranch_15 rfl hl (by decide) rfl (fun ls hl => ?_)
    refine lv_iconst (v := 0) hx hb dT_leastWithoutBranch_16 (by decide) ?_
    refine lv_istore_n (lv' := [(3, .int (0 : Int32)), (2, .int v4), (0, .ref (ad 5)), (1, .int x1)]) hx hb dT_leastWithoutBranch_17 rfl hl (by decide) rfl (fun ls hl => ?_)
    refine lv_iconst (v := 0) hx hb dT_leastWithoutBranch_18 (by decide) ?_
    refine lv_istore (lv' := [(4, .int (0 : Int32)), (3, .int (0 : Int32)), (2, .int v4), (0, .ref (ad 5)), (1, .int x1)]) hx hb dT_leastWithoutBranch_19 hl (by decide) rfl (fun ls hl => ?_)
    exact BT_leastWithoutBranch_21 C hret  4096 _ _ _ _ _ _ _ _ h (lv_sub hl [3, 4, 2, 1, 0] rfl) hf
  · have hf := ck_t hq hf
    refine lv_iconst (v := 0) hx hb dT_leastWithoutBranch_8 (by decide) ?_
    exact ck_ri hf hret h dT_leastWithoutBranch_9
end Stree
end
section
theorem dG_length_0 : decode bG_length 0 = .ok (.aload_n 0, 1) := by decide +kernel
theorem dG_length_1 : decode bG_length 1 = .ok (.getfield 24, 3) := by decide +kernel
theorem dG_length_4 : decode bG_length 4 = .ok (.ireturn, 1) := by decide +kernel
theorem dG_has_0 : decode bG_has 0 = .ok (.iload_n 1, 1) := by decide +kernel
theorem dG_has_1 : decode bG_has 1 = .ok (.ifCond .lt 15, 3) := by decide +kernel
theorem dG_has_4 : decode bG_has 4 = .ok (.iload_n 1, 1) := by decide +kernel
theorem dG_has_5 : decode bG_has 5 = .ok (.aload_n 0, 1) := by decide +kernel
theorem dG_has_6 : decode bG_has 6 = .ok (.getfield 24, 3) := by decide +kernel
theorem dG_has_9 : decode bG_has 9 = .ok (.if_icmp .ge 7, 3) := by decide +kernel
theorem dG_has_12 : decode bG_has 12 = .ok (.iconst 1, 1) := by decide +kernel
theorem dG_has_13 : decode bG_has 13 = .ok (.goto 4, 3) := by decide +kernel
theorem dG_has_16 : decode bG_has 16 = .ok (.iconst 0, 1) := by decide +kernel
theorem dG_has_17 : decode bG_has 17 = .ok (.ireturn, 1) := by decide +kernel
theorem dG_kindOf_0 : decode bG_kindOf 0 = .ok (.aload_n 0, 1) := by decide +kernel
theorem dG_kindOf_1 : decode bG_kindOf 1 = .ok (.iload_n 1, 1) := by decide +kernel
theorem dG_kindOf_2 : decode bG_kindOf 2 = .ok (.invokevirtual 36, 3) := by decide +kernel
theorem dG_kindOf_5 : decode bG_kindOf 5 = .ok (.ifCond .eq 12, 3) := by decide +kernel
theorem dG_kindOf_8 : decode bG_kindOf 8 = .ok (.aload_n 0, 1) := by decide +kernel
theorem dG_kindOf_9 : decode bG_kindOf 9 = .ok (.getfield 18, 3) := by decide +kernel
theorem dG_kindOf_12 : decode bG_kindOf 12 = .ok (.iload_n 1, 1) := by decide +kernel
theorem dG_kindOf_13 : decode bG_kindOf 13 = .ok (.iaload, 1) := by decide +kernel
theorem dG_kindOf_14 : decode bG_kindOf 14 = .ok (.goto 4, 3) := by decide +kernel
theorem dG_kindOf_17 : decode bG_kindOf 17 = .ok (.iconst 0, 1) := by decide +kernel
theorem dG_kindOf_18 : decode bG_kindOf 18 = .ok (.ireturn, 1) := by decide +kernel
theorem dG_symbolOf_0 : decode bG_symbolOf 0 = .ok (.aload_n 0, 1) := by decide +kernel
theorem dG_symbolOf_1 : decode bG_symbolOf 1 = .ok (.iload_n 1, 1) := by decide +kernel
theorem dG_symbolOf_2 : decode bG_symbolOf 2 = .ok (.invokevirtual 36, 3) := by decide +kernel
theorem dG_symbolOf_5 : decode bG_symbolOf 5 = .ok (.ifCond .eq 12, 3) := by decide +kernel
theorem dG_symbolOf_8 : decode bG_symbolOf 8 = .ok (.aload_n 0, 1) := by decide +kernel
theorem dG_symbolOf_9 : decode bG_symbolOf 9 = .ok (.getfield 21, 3) := by decide +kernel
theorem dG_symbolOf_12 : decode bG_symbolOf 12 = .ok (.iload_n 1, 1) := by decide +kernel
theorem dG_symbolOf_13 : decode bG_symbolOf 13 = .ok (.iaload, 1) := by decide +kernel
theorem dG_symbolOf_14 : decode bG_symbolOf 14 = .ok (.goto 4, 3) := by decide +kernel
theorem dG_symbolOf_17 : decode bG_symbolOf 17 = .ok (.iconst 0, 1) := by decide +kernel
theorem dG_symbolOf_18 : decode bG_symbolOf 18 = .ok (.ireturn, 1) := by decide +kernel
theorem dG_noteBranch_0 : decode bG_noteBranch 0 = .ok (.aload_n 0, 1) := by decide +kernel
theorem dG_noteBranch_1 : decode bG_noteBranch 1 = .ok (.getfield 32, 3) := by decide +kernel
theorem dG_noteBranch_4 : decode bG_noteBranch 4 = .ok (.iload_n 1, 1) := by decide +kernel
theorem dG_noteBranch_5 : decode bG_noteBranch 5 = .ok (.invokevirtual 59, 3) := by decide +kernel
theorem dG_noteBranch_8 : decode bG_noteBranch 8 = .ok (.istore_n 3, 1) := by decide +kernel
theorem dG_noteBranch_9 : decode bG_noteBranch 9 = .ok (.aload_n 0, 1) := by decide +kernel
theorem dG_noteBranch_10 : decode bG_noteBranch 10 = .ok (.getfield 32, 3) := by decide +kernel
theorem dG_noteBranch_13 : decode bG_noteBranch 13 = .ok (.iload_n 1, 1) := by decide +kernel
theorem dG_noteBranch_14 : decode bG_noteBranch 14 = .ok (.invokevirtual 70, 3) := by decide +kernel
theorem dG_noteBranch_17 : decode bG_noteBranch 17 = .ok (.ifCond .ne 7, 3) := by decide +kernel
theorem dG_noteBranch_20 : decode bG_noteBranch 20 = .ok (.iconst 1, 1) := by decide +kernel
theorem dG_noteBranch_21 : decode bG_noteBranch 21 = .ok (.goto 4, 3) := by decide +kernel
theorem dG_noteBranch_24 : decode bG_noteBranch 24 = .ok (.iconst 0, 1) := by decide +kernel
theorem dG_noteBranch_25 : decode bG_noteBranch 25 = .ok (.istore 4, 2) := by decide +kernel
theorem dG_noteBranch_27 : decode bG_noteBranch 27 = .ok (.iload 4, 2) := by decide +kernel
theorem dG_noteBranch_29 : decode bG_noteBranch 29 = .ok (.ifCond .eq 19, 3) := by decide +kernel
theorem dG_noteBranch_32 : decode bG_noteBranch 32 = .ok (.iload_n 2, 1) := by decide +kernel
theorem dG_noteBranch_33 : decode bG_noteBranch 33 = .ok (.aload_n 0, 1) := by decide +kernel
theorem dG_noteBranch_34 : decode bG_noteBranch 34 = .ok (.getfield 32, 3) := by decide +kernel
theorem dG_noteBranch_37 : decode bG_noteBranch 37 = .ok (.iload_n 1, 1) := by decide +kernel
theorem dG_noteBranch_38 : decode bG_noteBranch 38 = .ok (.invokevirtual 73, 3) := by decide +kernel
theorem dG_noteBranch_41 : decode bG_noteBranch 41 = .ok (.if_icmp .ne 7, 3) := by decide +kernel
theorem dG_noteBranch_44 : decode bG_noteBranch 44 = .ok (.iconst 1, 1) := by decide +kernel
theorem dG_noteBranch_45 : decode bG_noteBranch 45 = .ok (.goto 4, 3) := by decide +kernel
theorem dG_noteBranch_48 : decode bG_noteBranch 48 = .ok (.iconst 0, 1) := by decide +kernel
theorem dG_noteBranch_49 : decode bG_noteBranch 49 = .ok (.istore 5, 2) := by decide +kernel
theorem dG_noteBranch_51 : decode bG_noteBranch 51 = .ok (.aload_n 0, 1) := by decide +kernel
theorem dG_noteBranch_52 : decode bG_noteBranch 52 = .ok (.getfield 9, 3) := by decide +kernel
theorem dG_noteBranch_55 : decode bG_noteBranch 55 = .ok (.iload_n 3, 1) := by decide +kernel
theorem dG_noteBranch_56 : decode bG_noteBranch 56 = .ok (.iload 4, 2) := by decide +kernel
theorem dG_noteBranch_58 : decode bG_noteBranch 58 = .ok (.ifCond .eq 7, 3) := by decide +kernel
theorem dG_noteBranch_61 : decode bG_noteBranch 61 = .ok (.iconst 1, 1) := by decide +kernel
theorem dG_noteBranch_62 : decode bG_noteBranch 62 = .ok (.goto 4, 3) := by decide +kernel
theorem dG_noteBranch_65 : decode bG_noteBranch 65 = .ok (.iconst 2, 1) := by decide +kernel
theorem dG_noteBranch_66 : decode bG_noteBranch 66 = .ok (.iastore, 1) := by decide +kernel
theorem dG_noteBranch_67 : decode bG_noteBranch 67 = .ok (.aload_n 0, 1) := by decide +kernel
theorem dG_noteBranch_68 : decode bG_noteBranch 68 = .ok (.getfield 15, 3) := by decide +kernel
theorem dG_noteBranch_71 : decode bG_noteBranch 71 = .ok (.iload_n 3, 1) := by decide +kernel
theorem dG_noteBranch_72 : decode bG_noteBranch 72 = .ok (.iload 5, 2) := by decide +kernel
theorem dG_noteBranch_74 : decode bG_noteBranch 74 = .ok (.ifCond .eq 14, 3) := by decide +kernel
theorem dG_noteBranch_77 : decode bG_noteBranch 77 = .ok (.aload_n 0, 1) := by decide +kernel
theorem dG_noteBranch_78 : decode bG_noteBranch 78 = .ok (.getfield 32, 3) := by decide +kernel
theorem dG_noteBranch_81 : decode bG_noteBranch 81 = .ok (.iload_n 1, 1) := by decide +kernel
theorem dG_noteBranch_82 : decode bG_noteBranch 82 = .ok (.invokevirtual 76, 3) := by decide +kernel
theorem dG_noteBranch_85 : decode bG_noteBranch 85 = .ok (.goto 11, 3) := by decide +kernel
theorem dG_noteBranch_88 : decode bG_noteBranch 88 = .ok (.aload_n 0, 1) := by decide +kernel
theorem dG_noteBranch_89 : decode bG_noteBranch 89 = .ok (.getfield 32, 3) := by decide +kernel
theorem dG_noteBranch_92 : decode bG_noteBranch 92 = .ok (.iload_n 2, 1) := by decide +kernel
theorem dG_noteBranch_93 : decode bG_noteBranch 93 = .ok (.invokevirtual 79, 3) := by decide +kernel
theorem dG_noteBranch_96 : decode bG_noteBranch 96 = .ok (.iastore, 1) := by decide +kernel
theorem dG_noteBranch_97 : decode bG_noteBranch 97 = .ok (.return_, 1) := by decide +kernel
theorem dG_followWayToFail_0 : decode bG_followWayToFail 0 = .ok (.iconst 0, 1) := by decide +kernel
theorem dG_followWayToFail_1 : decode bG_followWayToFail 1 = .ok (.istore_n 1, 1) := by decide +kernel
theorem dG_followWayToFail_2 : decode bG_followWayToFail 2 = .ok (.iconst 0, 1) := by decide +kernel
theorem dG_followWayToFail_3 : decode bG_followWayToFail 3 = .ok (.istore_n 2, 1) := by decide +kernel
theorem dG_followWayToFail_4 : decode bG_followWayToFail 4 = .ok (.iload_n 2, 1) := by decide +kernel
theorem dG_followWayToFail_5 : decode bG_followWayToFail 5 = .ok (.bipush 16, 2) := by decide +kernel
theorem dG_followWayToFail_7 : decode bG_followWayToFail 7 = .ok (.if_icmp .ge 37, 3) := by decide +kernel
theorem dG_followWayToFail_10 : decode bG_followWayToFail 10 = .ok (.aload_n 0, 1) := by decide +kernel
theorem dG_followWayToFail_11 : decode bG_followWayToFail 11 = .ok (.getfield 32, 3) := by decide +kernel
theorem dG_followWayToFail_14 : decode bG_followWayToFail 14 = .ok (.iload_n 1, 1) := by decide +kernel
theorem dG_followWayToFail_15 : decode bG_followWayToFail 15 = .ok (.invokevirtual 59, 3) := by decide +kernel
theorem dG_followWayToFail_18 : decode bG_followWayToFail 18 = .ok (.ifCond .eq 26, 3) := by decide +kernel
theorem dG_followWayToFail_21 : decode bG_followWayToFail 21 = .ok (.aload_n 0, 1) := by decide +kernel
theorem dG_followWayToFail_22 : decode bG_followWayToFail 22 = .ok (.getfield 32, 3) := by decide +kernel
theorem dG_followWayToFail_25 : decode bG_followWayToFail 25 = .ok (.iload_n 1, 1) := by decide +kernel
theorem dG_followWayToFail_26 : decode bG_followWayToFail 26 = .ok (.invokevirtual 63, 3) := by decide +kernel
theorem dG_followWayToFail_29 : decode bG_followWayToFail 29 = .ok (.istore_n 3, 1) := by decide +kernel
theorem dG_followWayToFail_30 : decode bG_followWayToFail 30 = .ok (.aload_n 0, 1) := by decide +kernel
theorem dG_followWayToFail_31 : decode bG_followWayToFail 31 = .ok (.iload_n 1, 1) := by decide +kernel
theorem dG_followWayToFail_32 : decode bG_followWayToFail 32 = .ok (.iload_n 3, 1) := by decide +kernel
theorem dG_followWayToFail_33 : decode bG_followWayToFail 33 = .ok (.invokevirtual 66, 3) := by decide +kernel
theorem dG_followWayToFail_36 : decode bG_followWayToFail 36 = .ok (.iload_n 3, 1) := by decide +kernel
theorem dG_followWayToFail_37 : decode bG_followWayToFail 37 = .ok (.istore_n 1, 1) := by decide +kernel
theorem dG_followWayToFail_38 : decode bG_followWayToFail 38 = .ok (.iinc 2 1, 3) := by decide +kernel
theorem dG_followWayToFail_41 : decode bG_followWayToFail 41 = .ok (.goto (-37), 3) := by decide +kernel
theorem dG_followWayToFail_44 : decode bG_followWayToFail 44 = .ok (.return_, 1) := by decide +kernel
theorem dG_write_0 : decode bG_write 0 = .ok (.iload_n 1, 1) := by decide +kernel
theorem dG_write_1 : decode bG_write 1 = .ok (.bipush 32, 2) := by decide +kernel
theorem dG_write_3 : decode bG_write 3 = .ok (.if_icmp .ge 12, 3) := by decide +kernel
theorem dG_write_6 : decode bG_write 6 = .ok (.aload_n 0, 1) := by decide +kernel
theorem dG_write_7 : decode bG_write 7 = .ok (.getfield 24, 3) := by decide +kernel
theorem dG_write_10 : decode bG_write 10 = .ok (.bipush 32, 2) := by decide +kernel
theorem dG_write_12 : decode bG_write 12 = .ok (.if_icmp .lt 4, 3) := by decide +kernel
theorem dG_write_15 : decode bG_write 15 = .ok (.return_, 1) := by decide +kernel
theorem dG_write_16 : decode bG_write 16 = .ok (.aload_n 0, 1) := by decide +kernel
theorem dG_write_17 : decode bG_write 17 = .ok (.getfield 18, 3) := by decide +kernel
theorem dG_write_20 : decode bG_write 20 = .ok (.aload_n 0, 1) := by decide +kernel
theorem dG_write_21 : decode bG_write 21 = .ok (.getfield 24, 3) := by decide +kernel
theorem dG_write_24 : decode bG_write 24 = .ok (.aload_n 0, 1) := by decide +kernel
theorem dG_write_25 : decode bG_write 25 = .ok (.getfield 9, 3) := by decide +kernel
theorem dG_write_28 : decode bG_write 28 = .ok (.iload_n 1, 1) := by decide +kernel
theorem dG_write_29 : decode bG_write 29 = .ok (.iaload, 1) := by decide +kernel
theorem dG_write_30 : decode bG_write 30 = .ok (.iastore, 1) := by decide +kernel
theorem dG_write_31 : decode bG_write 31 = .ok (.aload_n 0, 1) := by decide +kernel
theorem dG_write_32 : decode bG_write 32 = .ok (.getfield 21, 3) := by decide +kernel
theorem dG_write_35 : decode bG_write 35 = .ok (.aload_n 0, 1) := by decide +kernel
theorem dG_write_36 : decode bG_write 36 = .ok (.getfield 24, 3) := by decide +kernel
theorem dG_write_39 : decode bG_write 39 = .ok (.aload_n 0, 1) := by decide +kernel
theorem dG_write_40 : decode bG_write 40 = .ok (.getfield 15, 3) := by decide +kernel
theorem dG_write_43 : decode bG_write 43 = .ok (.iload_n 1, 1) := by decide +kernel
theorem dG_write_44 : decode bG_write 44 = .ok (.iaload, 1) := by decide +kernel
theorem dG_write_45 : decode bG_write 45 = .ok (.iastore, 1) := by decide +kernel
theorem dG_write_46 : decode bG_write 46 = .ok (.aload_n 0, 1) := by decide +kernel
theorem dG_write_47 : decode bG_write 47 = .ok (.dup, 1) := by decide +kernel
theorem dG_write_48 : decode bG_write 48 = .ok (.getfield 24, 3) := by decide +kernel
theorem dG_write_51 : decode bG_write 51 = .ok (.iconst 1, 1) := by decide +kernel
theorem dG_write_52 : decode bG_write 52 = .ok (.iadd, 1) := by decide +kernel
theorem dG_write_53 : decode bG_write 53 = .ok (.putfield 24, 3) := by decide +kernel
theorem dG_write_56 : decode bG_write 56 = .ok (.aload_n 0, 1) := by decide +kernel
theorem dG_write_57 : decode bG_write 57 = .ok (.getfield 9, 3) := by decide +kernel
theorem dG_write_60 : decode bG_write 60 = .ok (.iload_n 1, 1) := by decide +kernel
theorem dG_write_61 : decode bG_write 61 = .ok (.iaload, 1) := by decide +kernel
theorem dG_write_62 : decode bG_write 62 = .ok (.iconst 2, 1) := by decide +kernel
theorem dG_write_63 : decode bG_write 63 = .ok (.if_icmp .eq 4, 3) := by decide +kernel
theorem dG_write_66 : decode bG_write 66 = .ok (.return_, 1) := by decide +kernel
theorem dG_write_67 : decode bG_write 67 = .ok (.aload_n 0, 1) := by decide +kernel
theorem dG_write_68 : decode bG_write 68 = .ok (.getfield 28, 3) := by decide +kernel
theorem dG_write_71 : decode bG_write 71 = .ok (.aload_n 0, 1) := by decide +kernel
theorem dG_write_72 : decode bG_write 72 = .ok (.getfield 15, 3) := by decide +kernel
theorem dG_write_75 : decode bG_write 75 = .ok (.iload_n 1, 1) := by decide +kernel
theorem dG_write_76 : decode bG_write 76 = .ok (.iaload, 1) := by decide +kernel
theorem dG_write_77 : decode bG_write 77 = .ok (.invokevirtual 82, 3) := by decide +kernel
theorem dG_write_80 : decode bG_write 80 = .ok (.iconst (-1), 1) := by decide +kernel
theorem dG_write_81 : decode bG_write 81 = .ok (.if_icmp .eq 10, 3) := by decide +kernel
theorem dG_write_84 : decode bG_write 84 = .ok (.aload_n 0, 1) := by decide +kernel
theorem dG_write_85 : decode bG_write 85 = .ok (.iconst 2, 1) := by decide +kernel
theorem dG_write_86 : decode bG_write 86 = .ok (.iload_n 1, 1) := by decide +kernel
theorem dG_write_87 : decode bG_write 87 = .ok (.imul, 1) := by decide +kernel
theorem dG_write_88 : decode bG_write 88 = .ok (.invokevirtual 55, 3) := by decide +kernel
theorem dG_write_91 : decode bG_write 91 = .ok (.aload_n 0, 1) := by decide +kernel
theorem dG_write_92 : decode bG_write 92 = .ok (.getfield 28, 3) := by decide +kernel
theorem dG_write_95 : decode bG_write 95 = .ok (.aload_n 0, 1) := by decide +kernel
theorem dG_write_96 : decode bG_write 96 = .ok (.getfield 15, 3) := by decide +kernel
theorem dG_write_99 : decode bG_write 99 = .ok (.iload_n 1, 1) := by decide +kernel
theorem dG_write_100 : decode bG_write 100 = .ok (.iaload, 1) := by decide +kernel
theorem dG_write_101 : decode bG_write 101 = .ok (.invokevirtual 87, 3) := by decide +kernel
theorem dG_write_104 : decode bG_write 104 = .ok (.iconst (-1), 1) := by decide +kernel
theorem dG_write_105 : decode bG_write 105 = .ok (.if_icmp .eq 12, 3) := by decide +kernel
theorem dG_write_108 : decode bG_write 108 = .ok (.aload_n 0, 1) := by decide +kernel
theorem dG_write_109 : decode bG_write 109 = .ok (.iconst 2, 1) := by decide +kernel
theorem dG_write_110 : decode bG_write 110 = .ok (.iload_n 1, 1) := by decide +kernel
theorem dG_write_111 : decode bG_write 111 = .ok (.imul, 1) := by decide +kernel
theorem dG_write_112 : decode bG_write 112 = .ok (.iconst 1, 1) := by decide +kernel
theorem dG_write_113 : decode bG_write 113 = .ok (.iadd, 1) := by decide +kernel
theorem dG_write_114 : decode bG_write 114 = .ok (.invokevirtual 55, 3) := by decide +kernel
theorem dG_write_117 : decode bG_write 117 = .ok (.return_, 1) := by decide +kernel
theorem dG_readFromTree_0 : decode bG_readFromTree 0 = .ok (.aload_n 0, 1) := by decide +kernel
theorem dG_readFromTree_1 : decode bG_readFromTree 1 = .ok (.iconst 0, 1) := by decide +kernel
theorem dG_readFromTree_2 : decode bG_readFromTree 2 = .ok (.putfield 24, 3) := by decide +kernel
theorem dG_readFromTree_5 : decode bG_readFromTree 5 = .ok (.aload_n 0, 1) := by decide +kernel
theorem dG_readFromTree_6 : decode bG_readFromTree 6 = .ok (.getfield 32, 3) := by decide +kernel
theorem dG_readFromTree_9 : decode bG_readFromTree 9 = .ok (.invokevirtual 40, 3) := by decide +kernel
theorem dG_readFromTree_12 : decode bG_readFromTree 12 = .ok (.ifCond .eq 28, 3) := by decide +kernel
theorem dG_readFromTree_15 : decode bG_readFromTree 15 = .ok (.aload_n 0, 1) := by decide +kernel
theorem dG_readFromTree_16 : decode bG_readFromTree 16 = .ok (.getfield 9, 3) := by decide +kernel
theorem dG_readFromTree_19 : decode bG_readFromTree 19 = .ok (.iconst 0, 1) := by decide +kernel
theorem dG_readFromTree_20 : decode bG_readFromTree 20 = .ok (.invokestatic 46, 3) := by decide +kernel
theorem dG_readFromTree_23 : decode bG_readFromTree 23 = .ok (.aload_n 0, 1) := by decide +kernel
theorem dG_readFromTree_24 : decode bG_readFromTree 24 = .ok (.getfield 15, 3) := by decide +kernel
theorem dG_readFromTree_27 : decode bG_readFromTree 27 = .ok (.iconst 0, 1) := by decide +kernel
theorem dG_readFromTree_28 : decode bG_readFromTree 28 = .ok (.invokestatic 46, 3) := by decide +kernel
theorem dG_readFromTree_31 : decode bG_readFromTree 31 = .ok (.aload_n 0, 1) := by decide +kernel
theorem dG_readFromTree_32 : decode bG_readFromTree 32 = .ok (.invokevirtual 52, 3) := by decide +kernel
theorem dG_readFromTree_35 : decode bG_readFromTree 35 = .ok (.aload_n 0, 1) := by decide +kernel
theorem dG_readFromTree_36 : decode bG_readFromTree 36 = .ok (.iconst 1, 1) := by decide +kernel
theorem dG_readFromTree_37 : decode bG_readFromTree 37 = .ok (.invokevirtual 55, 3) := by decide +kernel
theorem dG_readFromTree_40 : decode bG_readFromTree 40 = .ok (.return_, 1) := by decide +kernel
section Switn
variable {p : Program} {l : Launch} {e : Env} {R : Room} {s : State} {m : MethodId} {args : Array Value} {below : List Frame} {meth : Method} {c : Code} {Q : State → Prop} {D : va_G} {cA : Nat → ClassId} {ad : Nat → Nat} {H0 : Heap}
def fG_length (st : ck_S) : Option (Int32 × ck_S) := (some ((st 6 6), st))
set_option maxRecDepth 100000 in
set_option maxHeartbeats 4000000 in
theorem cG_length (l : Launch) (D : va_G) (cA : Nat → ClassId) (ad : Nat → Nat) {st : ck_S} {r0 : Int32} {st0 : ck_S} (hf : fG_length st = some (r0, st0)) : Met l yG_length (.code yG_length bG_length 1 (some .int) :: ck_T) (ck_R 0) (va_Pc [.ref (ad 6)] (ck_P sh_C cm_cl D cA ad st)) (va_Qi (fun a u => a = r0 ∧ u = st0) (ck_P sh_C cm_cl D cA ad) (ck_A ad sh_C.length)) 0 0 (ck_A ad sh_C.length) := by
  refine ck_met_i (own := R_G) (by decide +kernel) rfl (Nat.le_of_ble_eq_true rfl) (fun p e R s m args below meth c H0 Q ls C hret h hl => ?_)
  have C1 := C
  obtain ⟨hx, hb, hml, hown, hts, hK, hlv, hlo⟩ := C1
  have hl : lv_has ls 1 [(0, .ref (ad 6))] := hl
  unfold fG_length at hf
  refine lv_aload_n hx hb dG_length_0 rfl (lv_at hl 0 rfl) ?_
  refine ck_gi (x := (st 6 6)) C h FG_length rfl dG_length_1 ?_
  exact ck_ri hf hret h dG_length_4
def fG_has (x1 : Int32) (st : ck_S) : Option (Int32 × ck_S) := (if x1 < 0 then (some ((0 : Int32), st)) else (if (st 6 6) ≤ x1 then (some ((0 : Int32), st)) else (some ((1 : Int32), st))))
set_option maxRecDepth 100000 in
set_option maxHeartbeats 4000000 in
theorem cG_has (l : Launch) (D : va_G) (cA : Nat → ClassId) (ad : Nat → Nat) {x1 : Int32} {st : ck_S} {r0 : Int32} {st0 : ck_S} (hf : fG_has x1 st = some (r0, st0)) : Met l yG_has (.code yG_has bG_has 2 (some .boolean) :: ck_T) (ck_R 0) (va_Pc [.ref (ad 6), .int x1] (ck_P sh_C cm_cl D cA ad st)) (va_Qi (fun a u => a = r0 ∧ u = st0) (ck_P sh_C cm_cl D cA ad) (ck_A ad sh_C.length)) 0 0 (ck_A ad sh_C.length) := by
  refine ck_met_z (own := R_G) (by decide +kernel) rfl (Nat.le_of_ble_eq_true rfl) (fun p e R s m args below meth c H0 Q ls C hret h hl => ?_)
  have C1 := C
  obtain ⟨hx, hb, hml, hown, hts, hK, hlv, hlo⟩ := C1
  have hl : lv_has ls 2 [(0, .ref (ad 6)), (1, .int x1)] := hl
  unfold fG_has at hf
  refine lv_iload_n hx hb dG_has_0 rfl (lv_at hl 1 rfl) ?_
  refine lv_if_lt (tgt := 16) hx hb dG_has_1 rfl (fun hq => ?_) (fun hq => ?_)
  · have hf := ck_t hq hf
    refine lv_iconst (v := 0) hx hb dG_has_16 (by decide) ?_
    exact ck_rz hf hret ck_z0 h dG_has_17
  · have hf := ck_f hq hf
    refine lv_iload_n hx hb dG_has_4 rfl (lv_at hl 1 rfl) ?_
    refine lv_aload_n hx hb dG_has_5 rfl (lv_at hl 0 rfl) ?_
    refine ck_gi (x := (st 6 6)) C h FG_length rfl dG_has_6 ?_
    refine lv_icmp_ge (tgt := 16) hx hb dG_has_9 rfl (fun hq => ?_) (fun hq => ?_)
    · have hf := ck_t hq hf
      refine lv_iconst (v := 0) hx hb dG_has_16 (by decide) ?_
      exact ck_rz hf hret ck_z0 h dG_has_17
    · have hf := ck_f hq hf
      refine lv_iconst (v := 1) hx hb dG_has_12 (by decide) ?_
      refine lv_goto (tgt := 17) hx hb dG_has_13 rfl ?_
      exact ck_rz hf hret ck_z1 h dG_has_17
def fG_kindOf (x1 : Int32) (st : ck_S) : Option (Int32 × ck_S) := (ck_b (fG_has x1 st) fun v2 st1 => (if v2 = 0 then (some ((0 : Int32), st1)) else (ck_gd x1 32 (some ((st1 40 (x1).toNatClampNeg), st1)))))
set_option maxRecDepth 100000 in
set_option maxHeartbeats 4000000 in
theorem cG_kindOf (l : Launch) (D : va_G) (cA : Nat → ClassId) (ad : Nat → Nat) {x1 : Int32} {st : ck_S} {r0 : Int32} {st0 : ck_S} (hf : fG_kindOf x1 st = some (r0, st0)) : Met l yG_kindOf (.code yG_kindOf bG_kindOf 2 (some .int) :: ck_T) (ck_R 1) (va_Pc [.ref (ad 6), .int x1] (ck_P sh_C cm_cl D cA ad st)) (va_Qi (fun a u => a = r0 ∧ u = st0) (ck_P sh_C cm_cl D cA ad) (ck_A ad sh_C.length)) 0 0 (ck_A ad sh_C.length) := by
  refine ck_met_i (own := R_G) (by decide +kernel) rfl (Nat.le_of_ble_eq_true rfl) (fun p e R s m args below meth c H0 Q ls C hret h hl => ?_)
  have C1 := C
  obtain ⟨hx, hb, hml, hown, hts, hK, hlv, hlo⟩ := C1
  have hl : lv_has ls 2 [(0, .ref (ad 6)), (1, .int x1)] := hl
  unfold fG_kindOf at hf
  refine lv_aload_n hx hb dG_kindOf_0 rfl (lv_at hl 0 rfl) ?_
  refine lv_iload_n hx hb dG_kindOf_1 rfl (lv_at hl 1 rfl) ?_
  obtain ⟨v2, st1, hc, hf⟩ := ck_b_e hf
  refine ck_vi (As := [.int x1]) (rest := []) (q := 6) C h hl CG_G_has sG_has q_G (cG_has l D cA ad hc) (Nat.le_of_ble_eq_true rfl) rfl rfl (Nat.le_of_ble_eq_true rfl) dG_kindOf_2 (fun H locs h => ?_)
  refine lv_if_eq (tgt := 17) hx hb dG_kindOf_5 rfl (fun hq => ?_) (fun hq => ?_)
  · have hf := ck_t hq hf
    refine lv_iconst (v := 0) hx hb dG_kindOf_17 (by decide) ?_
    exact ck_ri hf hret h dG_kindOf_18
  · have hf := ck_f hq hf
    refine lv_aload_n hx hb dG_kindOf_8 rfl (lv_at hl 0 rfl) ?_
    refine ck_gr C h FG_kind dG_kindOf_9 ?_
    refine lv_iload_n hx hb dG_kindOf_12 rfl (lv_at hl 1 rfl) ?_
    obtain ⟨hg, hf⟩ := ck_gd_e hf
    refine ck_ai (x := (st1 40 (x1).toNatClampNeg)) C h (show sh_C[40]? = some (.inr (0, 32)) from rfl) hg rfl dG_kindOf_13 ?_
    refine lv_goto (tgt := 18) hx hb dG_kindOf_14 rfl ?_
    exact ck_ri hf hret h dG_kindOf_18
def fG_symbolOf (x1 : Int32) (st : ck_S) : Option (Int32 × ck_S) := (ck_b (fG_has x1 st) fun v2 st1 => (if v2 = 0 then (some ((0 : Int32), st1)) else (ck_gd x1 32 (some ((st1 41 (x1).toNatClampNeg), st1)))))
set_option maxRecDepth 100000 in
set_option maxHeartbeats 4000000 in
theorem cG_symbolOf (l : Launch) (D : va_G) (cA : Nat → ClassId) (ad : Nat → Nat) {x1 : Int32} {st : ck_S} {r0 : Int32} {st0 : ck_S} (hf : fG_symbolOf x1 st = some (r0, st0)) : Met l yG_symbolOf (.code yG_symbolOf bG_symbolOf 2 (some .int) :: ck_T) (ck_R 1) (va_Pc [.ref (ad 6), .int x1] (ck_P sh_C cm_cl D cA ad st)) (va_Qi (fun a u => a = r0 ∧ u = st0) (ck_P sh_C cm_cl D cA ad) (ck_A ad sh_C.length)) 0 0 (ck_A ad sh_C.length) := by
  refine ck_met_i (own := R_G) (by decide +kernel) rfl (Nat.le_of_ble_eq_true rfl) (fun p e R s m args below meth c H0 Q ls C hret h hl => ?_)
  have C1 := C
  obtain ⟨hx, hb, hml, hown, hts, hK, hlv, hlo⟩ := C1
  have hl : lv_has ls 2 [(0, .ref (ad 6)), (1, .int x1)] := hl
  unfold fG_symbolOf at hf
  refine lv_aload_n hx hb dG_symbolOf_0 rfl (lv_at hl 0 rfl) ?_
  refine lv_iload_n hx hb dG_symbolOf_1 rfl (lv_at hl 1 rfl) ?_
  obtain ⟨v2, st1, hc, hf⟩ := ck_b_e hf
  refine ck_vi (As := [.int x1]) (rest := []) (q := 6) C h hl CG_G_has sG_has q_G (cG_has l D cA ad hc) (Nat.le_of_ble_eq_true rfl) rfl rfl (Nat.le_of_ble_eq_true rfl) dG_symbolOf_2 (fun H locs h => ?_)
  refine lv_if_eq (tgt := 17) hx hb dG_symbolOf_5 rfl (fun hq => ?_) (fun hq => ?_)
  · have hf := ck_t hq hf
    refine lv_iconst (v := 0) hx hb dG_symbolOf_17 (by decide) ?_
    exact ck_ri hf hret h dG_symbolOf_18
  · have hf := ck_f hq hf
    refine lv_aload_n hx hb dG_symbolOf_8 rfl (lv_at hl 0 rfl) ?_
    refine ck_gr C h FG_symbol dG_symbolOf_9 ?_
    refine lv_iload_n hx hb dG_symbolOf_12 rfl (lv_at hl 1 rfl) ?_
    obtain ⟨hg, hf⟩ := ck_gd_e hf
    refine ck_ai (x := (st1 41 (x1).toNatClampNeg)) C h (show sh_C[41]? = some (.inr (0, 32)) from rfl) hg rfl dG_symbolOf_13 ?_
    refine lv_goto (tgt := 18) hx hb dG_symbolOf_14 rfl ?_
    exact ck_ri hf hret h dG_symbolOf_18
def fG_noteBranch_b66 (y0 : Int32) (y1 : Int32) (x1 : Int32) (x2 : Int32) (x3 : Int32) (x5 : Int32) (st : ck_S) : Option ck_S := (ck_gd y1 32 (if x5 = 0 then (ck_b (fT_labelOf x2 (ck_u st 38 (y1).toNatClampNeg y0)) fun v2 st1 => (ck_gd x3 32 (some (ck_u st1 39 (x3).toNatClampNeg v2)))) else (ck_b (fT_leastWithoutBranch x1 (ck_u st 38 (y1).toNatClampNeg y0)) fun v2 st1 => (ck_gd x3 32 (some (ck_u st1 39 (x3).toNatClampNeg v2))))))
set_option maxRecDepth 100000 in
set_option maxHeartbeats 4000000 in
theorem BG_noteBranch_66 (C : ck_X cm_cl D cA bG_noteBranch 6 R_G 3 p R s m args c) {st0 : ck_S} (hret : ∀ (pc : Nat) (H : Heap) (locs : List Loc) (ls : Array Slot), decode bG_noteBranch pc = .ok (.return_, 1) → ck_AT sh_C cm_cl D cA ad H0 st0 H locs → W p l e R s m args below meth c H locs 0 0 Q (F0 m pc ls [])) (y0 : Int32) (y1 : Int32) (x1 : Int32) (x2 : Int32) (x3 : Int32) (x5 : Int32) (st : ck_S) (H : Heap) (locs : List Loc) (ls : Array Slot) (h : ck_AT sh_C cm_cl D cA ad H0 st H locs) (hl : lv_has ls 6 [(0, .ref (ad 6)), (1, .int x1), (2, .int x2), (3, .int x3), (5, .int x5)]) (hf : fG_noteBranch_b66 y0 y1 x1 x2 x3 x5 st = some st0) : W p l e R s m args below meth c H locs 0 0 Q (F0 m 66 ls [.int y0, .int y1, .ref (ad 38)]) := by
  have C1 := C
  obtain ⟨hx, hb, hml, hown, hts, hK, hlv, hlo⟩ := C1
  unfold fG_noteBranch_b66 at hf
  obtain ⟨hg, hf⟩ := ck_gd_e hf
  refine ck_si C h (show sh_C[38]? = some (.inr (0, 32)) from rfl) hg dG_noteBranch_66 (fun H locs h => ?_)
  refine lv_aload_n hx hb dG_noteBranch_67 rfl (lv_at hl 0 rfl) ?_
  refine ck_gr C h FG_symbolAt dG_noteBranch_68 ?_
  refine lv_iload_n hx hb dG_noteBranch_71 rfl (lv_at hl 3 rfl) ?_
  refine lv_iload hx hb dG_noteBranch_72 (lv_at hl 4 rfl) ?_
  refine lv_if_eq (tgt := 88) hx hb dG_noteBranch_74 rfl (fun hq => ?_) (fun hq => ?_)
  · have hf := ck_t hq hf
    refine lv_aload_n hx hb dG_noteBranch_88 rfl (lv_at hl 0 rfl) ?_
    refine ck_gr C h FG_tree dG_noteBranch_89 ?_
    refine lv_iload_n hx hb dG_noteBranch_92 rfl (lv_at hl 2 rfl) ?_
    obtain ⟨v2, st1, hc, hf⟩ := ck_b_e hf
    refine ck_vi (As := [.int x2]) (rest := [.int x3, .ref (ad 39)]) (q := 5) C h hl CG_T_labelOf sT_labelOf q_T (cT_labelOf l D cA ad hc) (Nat.le_of_ble_eq_true rfl) rfl rfl (Nat.le_of_ble_eq_true rfl) dG_noteBranch_93 (fun H locs h => ?_)
    obtain ⟨hg, hf⟩ := ck_gd_e hf
    refine ck_si C h (show sh_C[39]? = some (.inr (0, 32)) from rfl) hg dG_noteBranch_96 (fun H locs h => ?_)
    exact ck_rv hf hret h dG_noteBranch_97
  · have hf := ck_f hq hf
    refine lv_aload_n hx hb dG_noteBranch_77 rfl (lv_at hl 0 rfl) ?_
    refine ck_gr C h FG_tree dG_noteBranch_78 ?_
    refine lv_iload_n hx hb dG_noteBranch_81 rfl (lv_at hl 1 rfl) ?_
    obtain ⟨v2, st1, hc, hf⟩ := ck_b_e hf
    refine ck_vi (As := [.int x1]) (rest := [.int x3, .ref (ad 39)]) (q := 5) C h hl CG_T_leastWithoutBranch sT_leastWithoutBranch q_T (cT_leastWithoutBranch l D cA ad hc) (Nat.le_of_ble_eq_true rfl) rfl rfl (Nat.le_of_ble_eq_true rfl) dG_noteBranch_82 (fun H locs h => ?_)
    refine lv_goto (tgt := 96) hx hb dG_noteBranch_85 rfl ?_
    obtain ⟨hg, hf⟩ := ck_gd_e hf
    refine ck_si C h (show sh_C[39]? = some (.inr (0, 32)) from rfl) hg dG_noteBranch_96 (fun H locs h => ?_)
    exact ck_rv hf hret h dG_noteBranch_97
def fG_noteBranch_b49 (y0 : Int32) (x1 : Int32) (x2 : Int32) (x3 : Int32) (x4 : Int32) (st : ck_S) : Option ck_S := (if x4 = 0 then (fG_noteBranch_b66 (2 : Int32) x3 x1 x2 x3 y0 st) else (fG_noteBranch_b66 (1 : Int32) x3 x1 x2 x3 y0 st))
set_option maxRecDepth 100000 in
set_option maxHeartbeats 4000000 in
theorem BG_noteBranch_49 (C : ck_X cm_cl D cA bG_noteBranch 6 R_G 3 p R s m args c) {st0 : ck_S} (hret : ∀ (pc : Nat) (H : Heap) (locs : List Loc) (ls : Array Slot), decode bG_noteBranch pc = .ok (.return_, 1) → ck_AT sh_C cm_cl D cA ad H0 st0 H locs → W p l e R s m args below meth c H locs 0 0 Q (F0 m pc ls [])) (y0 : Int32) (x1 : Int32) (x2 : Int32) (x3 : Int32) (x4 : Int32) (st : ck_S) (H : Heap) (locs : List Loc) (ls : Array Slot) (h : ck_AT sh_C cm_cl D cA ad H0 st H locs) (hl : lv_has ls 6 [(0, .ref (ad 6)), (1, .int x1), (2, .int x2), (3, .int x3), (4, .int x4)]) (hf : fG_noteBranch_b49 y0 x1 x2 x3 x4 st = some st0) : W p l e R s m args below meth c H locs 0 0 Q (F0 m 49 ls [.int y0]) := by
  have C1 := C
  obtain ⟨hx, hb, hml, hown, hts, hK, hlv, hlo⟩ := C1
  unfold fG_noteBranch_b49 at hf
  refine lv_istore (lv' := [(5, .int y0), (0, .ref (ad 6)), (1, .int x1), (2, .int x2), (3, .int x3), (4, .int x4)]) hx hb dG_noteBranch_49 hl (by decide) rfl (fun ls hl => ?_)
  refine lv_aload_n hx hb dG_noteBranch_51 rfl (lv_at hl 1 rfl) ?_
  refine ck_gr C h FG_kindAt dG_noteBranch_52 ?_
  refine lv_iload_n hx hb dG_noteBranch_55 rfl (lv_at hl 4 rfl) ?_
  refine lv_iload hx hb dG_noteBranch_56 (lv_at hl 5 rfl) ?_
  refine lv_if_eq (tgt := 65) hx hb dG_noteBranch_58 rfl (fun hq => ?_) (fun hq => ?_)
  · have hf := ck_t hq hf
    refine lv_iconst (v := 2) hx hb dG_noteBranch_65 (by decide) ?_
    exact BG_noteBranch_66 C hret _ _ _ _ _ _ _ _ _ _ h (lv_sub hl [1, 2, 3, 4, 0] rfl) hf
  · have hf := ck_f hq hf
    refine lv_iconst (v := 1) hx hb dG_noteBranch_61 (by decide) ?_
    refine lv_goto (tgt := 66) hx hb dG_noteBranch_62 rfl ?_
    exact BG_noteBranch_66 C hret _ _ _ _ _ _ _ _ _ _ h (lv_sub hl [1, 2, 3, 4, 0] rfl) hf
def fG_noteBranch_b25 (y0 : Int32) (x1 : Int32) (x2 : Int32) (x3 : Int32) (st : ck_S) : Option ck_S := (if y0 = 0 then (fG_noteBranch_b49 (0 : Int32) x1 x2 x3 y0 st) else (ck_b (fT_lastBranch x1 st) fun v2 st1 => (if x2 = v2 then (fG_noteBranch_b49 (1 : Int32) x1 x2 x3 y0 st1) else (fG_noteBranch_b49 (0 : Int32) x1 x2 x3 y0 st1))))
set_option maxRecDepth 100000 in
set_option maxHeartbeats 4000000 in
theorem BG_noteBranch_25 (C : ck_X cm_cl D cA bG_noteBranch 6 R_G 3 p R s m args c) {st0 : ck_S} (hret : ∀ (pc : Nat) (H : Heap) (locs : List Loc) (ls : Array Slot), decode bG_noteBranch pc = .ok (.return_, 1) → ck_AT sh_C cm_cl D cA ad H0 st0 H locs → W p l e R s m args below meth c H locs 0 0 Q (F0 m pc ls [])) (y0 : Int32) (x1 : Int32) (x2 : Int32) (x3 : Int32) (st : ck_S) (H : Heap) (locs : List Loc) (ls : Array Slot) (h : ck_AT sh_C cm_cl D cA ad H0 st H locs) (hl : lv_has ls 6 [(0, .ref (ad 6)), (1, .int x1), (2, .int x2), (3, .int x3)]) (hf : fG_noteBranch_b25 y0 x1 x2 x3 st = some st0) : W p l e R s m args below meth c H locs 0 0 Q (F0 m 25 ls [.int y0]) := by
  have C1 := C
  obtain ⟨hx, hb, hml, hown, hts, hK, hlv, hlo⟩ := C1
  unfold fG_noteBranch_b25 at hf
  refine lv_istore (lv' := [(4, .int y0), (0, .ref (ad 6)), (1, .int x1), (2, .int x2), (3, .int x3)]) hx hb dG_noteBranch_25 hl (by decide) rfl (fun ls hl => ?_)
  refine lv_iload hx hb dG_noteBranch_27 (lv_at hl 0 rfl) ?_
  refine lv_if_eq (tgt := 48) hx hb dG_noteBranch_29 rfl (fun hq => ?_) (fun hq => ?_)
  · have hf := ck_t hq hf
    refine lv_iconst (v := 0) hx hb dG_noteBranch_48 (by decide) ?_
    exact BG_noteBranch_49 C hret _ _ _ _ _ _ _ _ _ h (lv_sub hl [1, 2, 3, 4, 0] rfl) hf
  · have hf := ck_f hq hf
    refine lv_iload_n hx hb dG_noteBranch_32 rfl (lv_at hl 3 rfl) ?_
    refine lv_aload_n hx hb dG_noteBranch_33 rfl (lv_at hl 1 rfl) ?_
    refine ck_gr C h FG_tree dG_noteBranch_34 ?_
    refine lv_iload_n hx hb dG_noteBranch_37 rfl (lv_at hl 2 rfl) ?_
    obtain ⟨v2, st1, hc, hf⟩ := ck_b_e hf
    refine ck_vi (As := [.int x1]) (rest := [.int x2]) (q := 5) C h hl CG_T_lastBranch sT_lastBranch q_T (cT_lastBranch l D cA ad hc) (Nat.le_of_ble_eq_true rfl) rfl rfl (Nat.le_of_ble_eq_true rfl) dG_noteBranch_38 (fun H locs h => ?_)
    refine lv_icmp_ne (tgt := 48) hx hb dG_noteBranch_41 rfl (fun hq => ?_) (fun hq => ?_)
    · have hf := ck_f hq hf
      refine lv_iconst (v := 0) hx hb dG_noteBranch_48 (by decide) ?_
      exact BG_noteBranch_49 C hret _ _ _ _ _ _ _ _ _ h (lv_sub hl [1, 2, 3, 4, 0] rfl) hf
    · have hf := ck_t hq hf
      refine lv_iconst (v := 1) hx hb dG_noteBranch_44 (by decide) ?_
      refine lv_goto (tgt := 49) hx hb dG_noteBranch_45 rfl ?_
      exact BG_noteBranch_49 C hret _ _ _ _ _ _ _ _ _ h (lv_sub hl [1, 2, 3, 4, 0] rfl) hf
def fG_noteBranch (x1 : Int32) (x2 : Int32) (st : ck_S) : Option ck_S := (ck_b (fT_placeOf x1 st) fun v2 st1 => (ck_b (fT_typeOfTest x1 st1) fun v4 st3 => (if v4 = 0 then (fG_noteBranch_b25 (1 : Int32) x1 x2 v2 st3) else (fG_noteBranch_b25 (0 : Int32) x1 x2 v2 st3))))
set_option maxRecDepth 100000 in
set_option maxHeartbeats 4000000 in
theorem cG_noteBranch (l : Launch) (D : va_G) (cA : Nat → ClassId) (ad : Nat → Nat) {x1 : Int32} {x2 : Int32} {st : ck_S} {st0 : ck_S} (hf : fG_noteBranch x1 x2 st = some st0) : Met l yG_noteBranch (.code yG_noteBranch bG_noteBranch 6 none :: ck_T) (ck_R 3) (va_Pc [.ref (ad 6), .int x1, .int x2] (ck_P sh_C cm_cl D cA ad st)) (va_Qv (fun u => u = st0) (ck_P sh_C cm_cl D cA ad) (ck_A ad sh_C.length)) 0 0 (ck_A ad sh_C.length) := by
  refine ck_met_v (own := R_G) (by decide +kernel) rfl (Nat.le_of_ble_eq_true rfl) (fun p e R s m args below meth c H0 Q ls C hret h hl => ?_)
  have C1 := C
  obtain ⟨hx, hb, hml, hown, hts, hK, hlv, hlo⟩ := C1
  have hl : lv_has ls 6 [(0, .ref (ad 6)), (1, .int x1), (2, .int x2)] := hl
  unfold fG_noteBranch at hf
  refine lv_aload_n hx hb dG_noteBranch_0 rfl (lv_at hl 0 rfl) ?_
  refine ck_gr C h FG_tree dG_noteBranch_1 ?_
  refine lv_iload_n hx hb dG_noteBranch_4 rfl (lv_at hl 1 rfl) ?_
  obtain ⟨v2, st1, hc, hf⟩ := ck_b_e hf
  refine ck_vi (As := [.int x1]) (rest := []) (q := 5) C h hl CG_T_placeOf sT_placeOf q_T (cT_placeOf l D cA ad hc) (Nat.le_of_ble_eq_true rfl) rfl rfl (Nat.le_of_ble_eq_true rfl) dG_noteBranch_5 (fun H locs h => ?_)
  refine lv_istore_n (lv' := [(3, .int v2), (0, .ref (ad 6)), (1, .int x1), (2, .int x2)]) hx hb dG_noteBranch_8 rfl hl (by decide) rfl (fun ls hl => ?_)
  refine lv_aload_n hx hb dG_noteBranch_9 rfl (lv_at hl 1 rfl) ?_
  refine ck_gr C h FG_tree dG_noteBranch_10 ?_
  refine lv_iload_n hx hb dG_noteBranch_13 rfl (lv_at hl 2 rfl) ?_
  obtain ⟨v4, st3, hc, hf⟩ := ck_b_e hf
  refine ck_vi (As := [.int x1]) (rest := []) (q := 5) C h hl CG_T_typeOfTest sT_typeOfTest q_T (cT_typeOfTest l D cA ad hc) (Nat.le_of_ble_eq_true rfl) rfl rfl (Nat.le_of_ble_eq_true rfl) dG_noteBranch_14 (fun H locs h => ?_)
  refine lv_if_ne (tgt := 24) hx hb dG_noteBranch_17 rfl (fun hq => ?_) (fun hq => ?_)
  · have hf := ck_f hq hf
    refine lv_iconst (v := 0) hx hb dG_noteBranch_24 (by decide) ?_
    exact BG_noteBranch_25 C hret _ _ _ _ _ _ _ _ h (lv_sub hl [1, 2, 3, 0] rfl) hf
  · have hf := ck_t hq hf
    refine lv_iconst (v := 1) hx hb dG_noteBranch_20 (by decide) ?_
    refine lv_goto (tgt := 25) hx hb dG_noteBranch_21 rfl ?_
    exact BG_noteBranch_25 C hret _ _ _ _ _ _ _ _ h (lv_sub hl [1, 2, 3, 0] rfl) hf
def fG_followWayToFail_l4 : Nat → Int32 → Int32 → ck_S → Option ck_S
  | 0, _, _, _ => none
  | n + 1, x1, x2, st => (if (16 : Int32) ≤ x2 then (some st) else (ck_b (fT_placeOf x1 st) fun v2 st1 => (if v2 = 0 then (some st1) else (ck_b (fT_failingBranch x1 st1) fun v4 st3 => (ck_bv (fG_noteBranch x1 v4 st3) fun st5 => (fG_followWayToFail_l4 n v4 (x2 + 1) st5))))))
set_option maxRecDepth 100000 in
set_option maxHeartbeats 4000000 in
theorem BG_followWayToFail_4 (C : ck_X cm_cl D cA bG_followWayToFail 4 R_G 4 p R s m args c) {st0 : ck_S} (hret : ∀ (pc : Nat) (H : Heap) (locs : List Loc) (ls : Array Slot), decode bG_followWayToFail pc = .ok (.return_, 1) → ck_AT sh_C cm_cl D cA ad H0 st0 H locs → W p l e R s m args below meth c H locs 0 0 Q (F0 m pc ls [])) : ∀ (n : Nat) (x1 : Int32) (x2 : Int32) (st : ck_S) (H : Heap) (locs : List Loc) (ls : Array Slot), ck_AT sh_C cm_cl D cA ad H0 st H locs → lv_has ls 4 [(0, .ref (ad 6)), (1, .int x1), (2, .int x2)] → fG_followWayToFail_l4  n x1 x2 st = some st0 → W p l e R s m args below meth c H locs 0 0 Q (F0 m 4 ls []) := by
  have C1 := C
  obtain ⟨hx, hb, hml, hown, hts, hK, hlv, hlo⟩ := C1
  intro n
  induction n with
  | zero => intro _ _ _ _ _ _ _ _ hf; cases hf
  | succ n ih =>
    intro x1 x2 st H locs ls h hl hf
    rw [fG_followWayToFail_l4] at hf
    refine lv_iload_n hx hb dG_followWayToFail_4 rfl (lv_at hl 2 rfl) ?_
    refine lv_bipush (v := 16) hx hb dG_followWayToFail_5 (by decide) ?_
    refine lv_icmp_ge (tgt := 44) hx hb dG_followWayToFail_7 rfl (fun hq => ?_) (fun hq => ?_)
    · have hf := ck_t hq hf
      exact ck_rv hf hret h dG_followWayToFail_44
    · have hf := ck_f hq hf
      refine lv_aload_n hx hb dG_followWayToFail_10 rfl (lv_at hl 0 rfl) ?_
      refine ck_gr C h FG_tree dG_followWayToFail_11 ?_
      refine lv_iload_n hx hb dG_followWayToFail_14 rfl (lv_at hl 1 rfl) ?_
      obtain ⟨v2, st1, hc, hf⟩ := ck_b_e hf
      refine ck_vi (As := [.int x1]) (rest := []) (q := 5) C h hl CG_T_placeOf sT_placeOf q_T (cT_placeOf l D cA ad hc) (Nat.le_of_ble_eq_true rfl) rfl rfl (Nat.le_of_ble_eq_true rfl) dG_followWayToFail_15 (fun H locs h => ?_)
      refine lv_if_eq (tgt := 44) hx hb dG_followWayToFail_18 rfl (fun hq => ?_) (fun hq => ?_)
      · have hf := ck_t hq hf
        exact ck_rv hf hret h dG_followWayToFail_44
      · have hf := ck_f hq hf
        refine lv_aload_n hx hb dG_followWayToFail_21 rfl (lv_at hl 0 rfl) ?_
        refine ck_gr C h FG_tree dG_followWayToFail_22 ?_
        refine lv_iload_n hx hb dG_followWayToFail_25 rfl (lv_at hl 1 rfl) ?_
        obtain ⟨v4, st3, hc, hf⟩ := ck_b_e hf
        refine ck_vi (As := [.int x1]) (rest := []) (q := 5) C h hl CG_T_failingBranch sT_failingBranch q_T (cT_failingBranch l D cA ad hc) (Nat.le_of_ble_eq_true rfl) rfl rfl (Nat.le_of_ble_eq_true rfl) dG_followWayToFail_26 (fun H locs h => ?_)
        refine lv_istore_n (lv' := [(3, .int v4), (0, .ref (ad 6)), (1, .int x1), (2, .int x2)]) hx hb dG_followWayToFail_29 rfl hl (by decide) rfl (fun ls hl => ?_)
        refine lv_aload_n hx hb dG_followWayToFail_30 rfl (lv_at hl 1 rfl) ?_
        refine lv_iload_n hx hb dG_followWayToFail_31 rfl (lv_at hl 2 rfl) ?_
        refine lv_iload_n hx hb dG_followWayToFail_32 rfl (lv_at hl 0 rfl) ?_
        obtain ⟨st5, hc, hf⟩ := ck_bv_e hf
        refine ck_vv (As := [.int x1, .int v4]) (rest := []) (q := 6) C h hl CG_G_noteBranch sG_noteBranch q_G (cG_noteBranch l D cA ad hc) (Nat.le_of_ble_eq_true rfl) rfl rfl (Nat.le_of_ble_eq_true rfl) dG_followWayToFail_33 (fun H locs h => ?_)
        refine lv_iload_n hx hb dG_followWayToFail_36 rfl (lv_at hl 0 rfl) ?_
        refine lv_istore_n (lv' := [(1, .int v4), (3, .int v4), (0, .ref (ad 6)), (2, .int x2)]) hx hb dG_followWayToFail_37 rfl hl (by decide) rfl (fun ls hl => ?_)
        refine lv_iinc (k := 3) (v := (x2 + 1)) (lv' := [(2, .int (x2 + 1)), (1, .int v4), (3, .int v4), (0, .ref (ad 6))]) hx hb dG_followWayToFail_38 hl rfl rfl (by decide) rfl (fun ls hl => ?_)
        refine lv_goto (tgt := 4) hx hb dG_followWayToFail_41 rfl ?_
        exact ih _ _ _ _ _ _ h (lv_sub hl [3, 1, 0] rfl) hf
def fG_followWayToFail (st : ck_S) : Option ck_S := (fG_followWayToFail_l4  4096 (0 : Int32) (0 : Int32) st)
set_option maxRecDepth 100000 in
set_option maxHeartbeats 4000000 in
theorem cG_followWayToFail (l : Launch) (D : va_G) (cA : Nat → ClassId) (ad : Nat → Nat) {st : ck_S} {st0 : ck_S} (hf : fG_followWayToFail st = some st0) : Met l yG_followWayToFail (.code yG_followWayToFail bG_followWayToFail 4 none :: ck_T) (ck_R 4) (va_Pc [.ref (ad 6)] (ck_P sh_C cm_cl D cA ad st)) (va_Qv (fun u => u = st0) (ck_P sh_C cm_cl D cA ad) (ck_A ad sh_C.length)) 0 0 (ck_A ad sh_C.length) := by
  refine ck_met_v (own := R_G) (by decide +kernel) rfl (Nat.le_of_ble_eq_true rfl) (fun p e R s m args below meth c H0 Q ls C hret h hl => ?_)
  have C1 := C
  obtain ⟨hx, hb, hml, hown, hts, hK, hlv, hlo⟩ := C1
  have hl : lv_has ls 4 [(0, .ref (ad 6))] := hl
  unfold fG_followWayToFail at hf
  refine lv_iconst (v := 0) hx hb dG_followWayToFail_0 (by decide) ?_
  refine lv_istore_n (lv' := [(1, .int (0 : Int32)), (0, .ref (ad 6))]) hx hb dG_followWayToFail_1 rfl hl (by decide) rfl (fun ls hl => ?_)
  refine lv_iconst (v := 0) hx hb dG_followWayToFail_2 (by decide) ?_
  refine lv_istore_n (lv' := [(2, .int (0 : Int32)), (1, .int (0 : Int32)), (0, .ref (ad 6))]) hx hb dG_followWayToFail_3 rfl hl (by decide) rfl (fun ls hl => ?_)
  exact BG_followWayToFail_4 C hret  4096 _ _ _ _ _ _ h (lv_sub hl [2, 1, 0] rfl) hf
def fG_write_b91 (fr : Int32 → ck_S → Option ck_S) (x1 : Int32) (st : ck_S) : Option ck_S := (ck_gd x1 32 (ck_b (fD_secondTypeOf (st 39 (x1).toNatClampNeg) st) fun v2 st1 => (if v2 = (-1 : Int32) then (some st1) else (ck_bv (fr (((2 : Int32) * x1) + (1 : Int32)) st1) fun st3 => (some st3)))))
set_option maxRecDepth 100000 in
set_option maxHeartbeats 4000000 in
theorem BG_write_91 {v : Nat} (C : ck_X cm_cl D cA bG_write 2 R_G (v + 1) p R s m args c) {st0 : ck_S} (hret : ∀ (pc : Nat) (H : Heap) (locs : List Loc) (ls : Array Slot), decode bG_write pc = .ok (.return_, 1) → ck_AT sh_C cm_cl D cA ad H0 st0 H locs → W p l e R s m args below meth c H locs 0 0 Q (F0 m pc ls [])) {fr : Int32 → ck_S → Option ck_S} (hv : 2 ≤ v) (hrec : ∀ (a0 : Int32) (st st1 : ck_S), fr a0 st = some st1 → Met l yG_write (.code yG_write bG_write 2 none :: ck_T) (ck_R v) (va_Pc [.ref (ad 6), .int a0] (ck_P sh_C cm_cl D cA ad st)) (va_Qv (fun u => u = st1) (ck_P sh_C cm_cl D cA ad) (ck_A ad sh_C.length)) 0 0 (ck_A ad sh_C.length)) (x1 : Int32) (st : ck_S) (H : Heap) (locs : List Loc) (ls : Array Slot) (h : ck_AT sh_C cm_cl D cA ad H0 st H locs) (hl : lv_has ls 2 [(0, .ref (ad 6)), (1, .int x1)]) (hf : fG_write_b91 fr x1 st = some st0) : W p l e R s m args below meth c H locs 0 0 Q (F0 m 91 ls []) := by
  have C1 := C
  obtain ⟨hx, hb, hml, hown, hts, hK, hlv, hlo⟩ := C1
  unfold fG_write_b91 at hf
  refine lv_aload_n hx hb dG_write_91 rfl (lv_at hl 0 rfl) ?_
  refine ck_gr C h FG_declared dG_write_92 ?_
  refine lv_aload_n hx hb dG_write_95 rfl (lv_at hl 0 rfl) ?_
  refine ck_gr C h FG_symbolAt dG_write_96 ?_
  refine lv_iload_n hx hb dG_write_99 rfl (lv_at hl 1 rfl) ?_
  obtain ⟨hg, hf⟩ := ck_gd_e hf
  refine ck_ai (x := (st 39 (x1).toNatClampNeg)) C h (show sh_C[39]? = some (.inr (0, 32)) from rfl) hg rfl dG_write_100 ?_
  obtain ⟨v2, st1, hc, hf⟩ := ck_b_e hf
  refine ck_vi (As := [.int (st 39 (x1).toNatClampNeg)]) (rest := []) (q := 1) C h hl CG_D_secondTypeOf sD_secondTypeOf q_D (cD_secondTypeOf l D cA ad hc) (by omega) rfl rfl (Nat.le_of_ble_eq_true rfl) dG_write_101 (fun H locs h => ?_)
  refine lv_iconst (v := (-1)) hx hb dG_write_104 (by decide) ?_
  refine lv_icmp_eq (tgt := 117) hx hb dG_write_105 rfl (fun hq => ?_) (fun hq => ?_)
  · have hf := ck_t hq hf
    exact ck_rv hf hret h dG_write_117
  · have hf := ck_f hq hf
    refine lv_aload_n hx hb dG_write_108 rfl (lv_at hl 0 rfl) ?_
    refine lv_iconst (v := 2) hx hb dG_write_109 (by decide) ?_
    refine lv_iload_n hx hb dG_write_110 rfl (lv_at hl 1 rfl) ?_
    refine lv_imul hx hb dG_write_111 ?_
    refine lv_iconst (v := 1) hx hb dG_write_112 (by decide) ?_
    refine lv_iadd hx hb dG_write_113 ?_
    obtain ⟨st3, hc, hf⟩ := ck_bv_e hf
    refine ck_vv (As := [.int (((2 : Int32) * x1) + (1 : Int32))]) (rest := []) (q := 6) C h hl CG_G_write sG_write q_G (hrec _ _ _ hc) (Nat.le_refl _) rfl rfl (Nat.le_of_ble_eq_true rfl) dG_write_114 (fun H locs h => ?_)
    exact ck_rv hf hret h dG_write_117
def fG_write_s (fr : Int32 → ck_S → Option ck_S) (x1 : Int32) (st : ck_S) : Option ck_S := (if (32 : Int32) ≤ x1 then (some st) else (if (st 6 6) < (32 : Int32) then (ck_gd x1 32 (ck_gd (st 6 6) 32 (ck_gd x1 32 (ck_gd (st 6 6) 32 (ck_gd x1 32 (if (st 38 (x1).toNatClampNeg) = (2 : Int32) then (ck_gd x1 32 (ck_b (fD_firstTypeOf (st 39 (x1).toNatClampNeg) (ck_u (ck_u (ck_u st 40 ((st 6 6)).toNatClampNeg (st 38 (x1).toNatClampNeg)) 41 ((st 6 6)).toNatClampNeg (st 39 (x1).toNatClampNeg)) 6 6 ((st 6 6) + (1 : Int32)))) fun v2 st1 => (if v2 = (-1 : Int32) then (fG_write_b91 fr x1 st1) else (ck_bv (fr ((2 : Int32) * x1) st1) fun st3 => (fG_write_b91 fr x1 st3))))) else (some (ck_u (ck_u (ck_u st 40 ((st 6 6)).toNatClampNeg (st 38 (x1).toNatClampNeg)) 41 ((st 6 6)).toNatClampNeg (st 39 (x1).toNatClampNeg)) 6 6 ((st 6 6) + (1 : Int32)))))))))) else (some st)))
def fG_write_r : Nat → Int32 → ck_S → Option ck_S
  | 0, _, _ => none
  | n + 1, x1, st => fG_write_s (fG_write_r n) x1 st
def fG_write (x1 : Int32) (st : ck_S) : Option ck_S := fG_write_r 8 x1 st
set_option maxRecDepth 100000 in
set_option maxHeartbeats 4000000 in
theorem cG_write_s (l : Launch) (D : va_G) (cA : Nat → ClassId) (ad : Nat → Nat) {v : Nat} {fr : Int32 → ck_S → Option ck_S} (hv : 2 ≤ v) (hrec : ∀ (a0 : Int32) (st st1 : ck_S), fr a0 st = some st1 → Met l yG_write (.code yG_write bG_write 2 none :: ck_T) (ck_R v) (va_Pc [.ref (ad 6), .int a0] (ck_P sh_C cm_cl D cA ad st)) (va_Qv (fun u => u = st1) (ck_P sh_C cm_cl D cA ad) (ck_A ad sh_C.length)) 0 0 (ck_A ad sh_C.length)) {x1 : Int32} {st : ck_S} {st0 : ck_S} (hf : fG_write_s fr x1 st = some st0) : Met l yG_write (.code yG_write bG_write 2 none :: ck_T) (ck_R (v + 1)) (va_Pc [.ref (ad 6), .int x1] (ck_P sh_C cm_cl D cA ad st)) (va_Qv (fun u => u = st0) (ck_P sh_C cm_cl D cA ad) (ck_A ad sh_C.length)) 0 0 (ck_A ad sh_C.length) := by
  refine ck_met_v (own := R_G) (by decide +kernel) rfl (Nat.le_of_ble_eq_true rfl) (fun p e R s m args below meth c H0 Q ls C hret h hl => ?_)
  have C1 := C
  obtain ⟨hx, hb, hml, hown, hts, hK, hlv, hlo⟩ := C1
  have hl : lv_has ls 2 [(0, .ref (ad 6)), (1, .int x1)] := hl
  unfold fG_write_s at hf
  refine lv_iload_n hx hb dG_write_0 rfl (lv_at hl 1 rfl) ?_
  refine lv_bipush (v := 32) hx hb dG_write_1 (by decide) ?_
  refine lv_icmp_ge (tgt := 15) hx hb dG_write_3 rfl (fun hq => ?_) (fun hq => ?_)
  · have hf := ck_t hq hf
    exact ck_rv hf hret h dG_write_15
  · have hf := ck_f hq hf
    refine lv_aload_n hx hb dG_write_6 rfl (lv_at hl 0 rfl) ?_
    refine ck_gi (x := (st 6 6)) C h FG_length rfl dG_write_7 ?_
    refine lv_bipush (v := 32) hx hb dG_write_10 (by decide) ?_
    refine lv_icmp_lt (tgt := 16) hx hb dG_write_12 rfl (fun hq => ?_) (fun hq => ?_)
    · have hf := ck_t hq hf
      refine lv_aload_n hx hb dG_write_16 rfl (lv_at hl 0 rfl) ?_
      refine ck_gr C h FG_kind dG_write_17 ?_
      refine lv_aload_n hx hb dG_write_20 rfl (lv_at hl 0 rfl) ?_
      refine ck_gi (x := (st 6 6)) C h FG_length rfl dG_write_21 ?_
      refine lv_aload_n hx hb dG_write_24 rfl (lv_at hl 0 rfl) ?_
      refine ck_gr C h FG_kindAt dG_write_25 ?_
      refine lv_iload_n hx hb dG_write_28 rfl (lv_at hl 1 rfl) ?_
      obtain ⟨hg, hf⟩ := ck_gd_e hf
      refine ck_ai (x := (st 38 (x1).toNatClampNeg)) C h (show sh_C[38]? = some (.inr (0, 32)) from rfl) hg rfl dG_write_29 ?_
      obtain ⟨hg, hf⟩ := ck_gd_e hf
      refine ck_si C h (show sh_C[40]? = some (.inr (0, 32)) from rfl) hg dG_write_30 (fun H locs h => ?_)
      refine lv_aload_n hx hb dG_write_31 rfl (lv_at hl 0 rfl) ?_
      refine ck_gr C h FG_symbol dG_write_32 ?_
      refine lv_aload_n hx hb dG_write_35 rfl (lv_at hl 0 rfl) ?_
      refine ck_gi (x := (st 6 6)) C h FG_length rfl dG_write_36 ?_
      refine lv_aload_n hx hb dG_write_39 rfl (lv_at hl 0 rfl) ?_
      refine ck_gr C h FG_symbolAt dG_write_40 ?_
      refine lv_iload_n hx hb dG_write_43 rfl (lv_at hl 1 rfl) ?_
      obtain ⟨hg, hf⟩ := ck_gd_e hf
      refine ck_ai (x := (st 39 (x1).toNatClampNeg)) C h (show sh_C[39]? = some (.inr (0, 32)) from rfl) hg rfl dG_write_44 ?_
      obtain ⟨hg, hf⟩ := ck_gd_e hf
      refine ck_si C h (show sh_C[41]? = some (.inr (0, 32)) from rfl) hg dG_write_45 (fun H locs h => ?_)
      refine lv_aload_n hx hb dG_write_46 rfl (lv_at hl 0 rfl) ?_
      refine lv_dup hx hb dG_write_47 rfl ?_
      refine ck_gi (x := (st 6 6)) C h FG_length rfl dG_write_48 ?_
      refine lv_iconst (v := 1) hx hb dG_write_51 (by decide) ?_
      refine lv_iadd hx hb dG_write_52 ?_
      refine ck_pi C h GG_length rfl rfl dG_write_53 (fun H locs h => ?_)
      refine lv_aload_n hx hb dG_write_56 rfl (lv_at hl 0 rfl) ?_
      refine ck_gr C h FG_kindAt dG_write_57 ?_
      refine lv_iload_n hx hb dG_write_60 rfl (lv_at hl 1 rfl) ?_
      obtain ⟨hg, hf⟩ := ck_gd_e hf
      refine ck_ai (x := (st 38 (x1).toNatClampNeg)) C h (show sh_C[38]? = some (.inr (0, 32)) from rfl) hg rfl dG_write_61 ?_
      refine lv_iconst (v := 2) hx hb dG_write_62 (by decide) ?_
      refine lv_icmp_eq (tgt := 67) hx hb dG_write_63 rfl (fun hq => ?_) (fun hq => ?_)
      · have hf := ck_t hq hf
        refine lv_aload_n hx hb dG_write_67 rfl (lv_at hl 0 rfl) ?_
        refine ck_gr C h FG_declared dG_write_68 ?_
        refine lv_aload_n hx hb dG_write_71 rfl (lv_at hl 0 rfl) ?_
        refine ck_gr C h FG_symbolAt dG_write_72 ?_
        refine lv_iload_n hx hb dG_write_75 rfl (lv_at hl 1 rfl) ?_
        obtain ⟨hg, hf⟩ := ck_gd_e hf
        refine ck_ai (x := (st 39 (x1).toNatClampNeg)) C h (show sh_C[39]? = some (.inr (0, 32)) from rfl) hg rfl dG_write_76 ?_
        obtain ⟨v2, st1, hc, hf⟩ := ck_b_e hf
        refine ck_vi (As := [.int (st 39 (x1).toNatClampNeg)]) (rest := []) (q := 1) C h hl CG_D_firstTypeOf sD_firstTypeOf q_D (cD_firstTypeOf l D cA ad hc) (by omega) rfl rfl (Nat.le_of_ble_eq_true rfl) dG_write_77 (fun H locs h => ?_)
        refine lv_iconst (v := (-1)) hx hb dG_write_80 (by decide) ?_
        refine lv_icmp_eq (tgt := 91) hx hb dG_write_81 rfl (fun hq => ?_) (fun hq => ?_)
        · have hf := ck_t hq hf
          exact BG_write_91 C hret hv hrec _ _ _ _ _ h (lv_sub hl [0, 1] rfl) hf
        · have hf := ck_f hq hf
          refine lv_aload_n hx hb dG_write_84 rfl (lv_at hl 0 rfl) ?_
          refine lv_iconst (v := 2) hx hb dG_write_85 (by decide) ?_
          refine lv_iload_n hx hb dG_write_86 rfl (lv_at hl 1 rfl) ?_
          refine lv_imul hx hb dG_write_87 ?_
          obtain ⟨st3, hc, hf⟩ := ck_bv_e hf
          refine ck_vv (As := [.int ((2 : Int32) * x1)]) (rest := []) (q := 6) C h hl CG_G_write sG_write q_G (hrec _ _ _ hc) (Nat.le_refl _) rfl rfl (Nat.le_of_ble_eq_true rfl) dG_write_88 (fun H locs h => ?_)
          exact BG_write_91 C hret hv hrec _ _ _ _ _ h (lv_sub hl [0, 1] rfl) hf
      · have hf := ck_f hq hf
        exact ck_rv hf hret h dG_write_66
    · have hf := ck_f hq hf
      exact ck_rv hf hret h dG_write_15
set_option maxRecDepth 100000 in
set_option maxHeartbeats 4000000 in
theorem cG_write_r (l : Launch) (D : va_G) (cA : Nat → ClassId) (ad : Nat → Nat) : ∀ (n : Nat) (x1 : Int32) (st st0 : ck_S), fG_write_r n x1 st = some st0 → Met l yG_write (.code yG_write bG_write 2 none :: ck_T) (ck_R (2 + n)) (va_Pc [.ref (ad 6), .int x1] (ck_P sh_C cm_cl D cA ad st)) (va_Qv (fun u => u = st0) (ck_P sh_C cm_cl D cA ad) (ck_A ad sh_C.length)) 0 0 (ck_A ad sh_C.length) := by
  intro n
  induction n with
  | zero => intro _ _ _ hf; cases hf
  | succ n ih =>
    intro x1 st st0 hf
    have hf : fG_write_s (fG_write_r n) x1 st = some st0 := hf
    exact cG_write_s l D cA ad (Nat.le_add_right _ _) ih hf
theorem cG_write (l : Launch) (D : va_G) (cA : Nat → ClassId) (ad : Nat → Nat) {x1 : Int32} {st : ck_S} {st0 : ck_S} (hf : fG_write x1 st = some st0) : Met l yG_write (.code yG_write bG_write 2 none :: ck_T) (ck_R 10) (va_Pc [.ref (ad 6), .int x1] (ck_P sh_C cm_cl D cA ad st)) (va_Qv (fun u => u = st0) (ck_P sh_C cm_cl D cA ad) (ck_A ad sh_C.length)) 0 0 (ck_A ad sh_C.length) := cG_write_r l D cA ad 8 _ _ _ hf
def fG_readFromTree (st : ck_S) : Option ck_S := (ck_b (fT_hasFailing (ck_u st 6 6 (0 : Int32))) fun v2 st1 => (if v2 = 0 then (some st1) else (ck_bv (fA_fill_38_C (0 : Int32) st1) fun st3 => (ck_bv (fA_fill_39_C (0 : Int32) st3) fun st4 => (ck_bv (fG_followWayToFail st4) fun st5 => (ck_bv (fG_write (1 : Int32) st5) fun st6 => (some st6)))))))
set_option maxRecDepth 100000 in
set_option maxHeartbeats 4000000 in
theorem cG_readFromTree (l : Launch) (D : va_G) (cA : Nat → ClassId) (ad : Nat → Nat) {st : ck_S} {st0 : ck_S} (hf : fG_readFromTree st = some st0) : Met l yG_readFromTree (.code yG_readFromTree bG_readFromTree 1 none :: ck_T) (ck_R 11) (va_Pc [.ref (ad 6)] (ck_P sh_C cm_cl D cA ad st)) (va_Qv (fun u => u = st0) (ck_P sh_C cm_cl D cA ad) (ck_A ad sh_C.length)) 0 0 (ck_A ad sh_C.length) := by
  refine ck_met_v (own := R_G) (by decide +kernel) rfl (Nat.le_of_ble_eq_true rfl) (fun p e R s m args below meth c H0 Q ls C hret h hl => ?_)
  have C1 := C
  obtain ⟨hx, hb, hml, hown, hts, hK, hlv, hlo⟩ := C1
  have hl : lv_has ls 1 [(0, .ref (ad 6))] := hl
  unfold fG_readFromTree at hf
  refine lv_aload_n hx hb dG_readFromTree_0 rfl (lv_at hl 0 rfl) ?_
  refine lv_iconst (v := 0) hx hb dG_readFromTree_1 (by decide) ?_
  refine ck_pi C h GG_length rfl rfl dG_readFromTree_2 (fun H locs h => ?_)
  refine lv_aload_n hx hb dG_readFromTree_5 rfl (lv_at hl 0 rfl) ?_
  refine ck_gr C h FG_tree dG_readFromTree_6 ?_
  obtain ⟨v2, st1, hc, hf⟩ := ck_b_e hf
  refine ck_vi (As := []) (rest := []) (q := 5) C h hl CG_T_hasFailing sT_hasFailing q_T (cT_hasFailing l D cA ad hc) (Nat.le_of_ble_eq_true rfl) rfl rfl (Nat.le_of_ble_eq_true rfl) dG_readFromTree_9 (fun H locs h => ?_)
  refine lv_if_eq (tgt := 40) hx hb dG_readFromTree_12 rfl (fun hq => ?_) (fun hq => ?_)
  · have hf := ck_t hq hf
    exact ck_rv hf hret h dG_readFromTree_40
  · have hf := ck_f hq hf
    refine lv_aload_n hx hb dG_readFromTree_15 rfl (lv_at hl 0 rfl) ?_
    refine ck_gr C h FG_kindAt dG_readFromTree_16 ?_
    refine lv_iconst (v := 0) hx hb dG_readFromTree_19 (by decide) ?_
    obtain ⟨st3, hc, hf⟩ := ck_bv_e hf
    refine ck_tv (As := [.ref (ad 38), .int (0 : Int32)]) (rest := []) C h hl CG_A_fill sA_fill (cA_fill_38_C l D cA ad hc) (Nat.le_of_ble_eq_true rfl) rfl rfl (Nat.le_of_ble_eq_true rfl) dG_readFromTree_20 (fun H locs h => ?_)
    refine lv_aload_n hx hb dG_readFromTree_23 rfl (lv_at hl 0 rfl) ?_
    refine ck_gr C h FG_symbolAt dG_readFromTree_24 ?_
    refine lv_iconst (v := 0) hx hb dG_readFromTree_27 (by decide) ?_
    obtain ⟨st4, hc, hf⟩ := ck_bv_e hf
    refine ck_tv (As := [.ref (ad 39), .int (0 : Int32)]) (rest := []) C h hl CG_A_fill sA_fill (cA_fill_39_C l D cA ad hc) (Nat.le_of_ble_eq_true rfl) rfl rfl (Nat.le_of_ble_eq_true rfl) dG_readFromTree_28 (fun H locs h => ?_)
    refine lv_aload_n hx hb dG_readFromTree_31 rfl (lv_at hl 0 rfl) ?_
    obtain ⟨st5, hc, hf⟩ := ck_bv_e hf
    refine ck_vv (As := []) (rest := []) (q := 6) C h hl CG_G_followWayToFail sG_followWayToFail q_G (cG_followWayToFail l D cA ad hc) (Nat.le_of_ble_eq_true rfl) rfl rfl (Nat.le_of_ble_eq_true rfl) dG_readFromTree_32 (fun H locs h => ?_)
    refine lv_aload_n hx hb dG_readFromTree_35 rfl (lv_at hl 0 rfl) ?_
    refine lv_iconst (v := 1) hx hb dG_readFromTree_36 (by decide) ?_
    obtain ⟨st6, hc, hf⟩ := ck_bv_e hf
    refine ck_vv (As := [.int (1 : Int32)]) (rest := []) (q := 6) C h hl CG_G_write sG_write q_G (cG_write l D cA ad hc) (Nat.le_of_ble_eq_true rfl) rfl rfl (Nat.le_of_ble_eq_true rfl) dG_readFromTree_37 (fun H locs h => ?_)
    exact ck_rv hf hret h dG_readFromTree_40
end Switn
end
section
theorem dC_clear_0 : decode bC_clear 0 = .ok (.aload_n 0, 1) := by decide +kernel
theorem dC_clear_1 : decode bC_clear 1 = .ok (.getfield 10, 3) := by decide +kernel
theorem dC_clear_4 : decode bC_clear 4 = .ok (.invokevirtual 61, 3) := by decide +kernel
theorem dC_clear_7 : decode bC_clear 7 = .ok (.aload_n 0, 1) := by decide +kernel
theorem dC_clear_8 : decode bC_clear 8 = .ok (.getfield 19, 3) := by decide +kernel
theorem dC_clear_11 : decode bC_clear 11 = .ok (.invokevirtual 64, 3) := by decide +kernel
theorem dC_clear_14 : decode bC_clear 14 = .ok (.aload_n 0, 1) := by decide +kernel
theorem dC_clear_15 : decode bC_clear 15 = .ok (.getfield 26, 3) := by decide +kernel
theorem dC_clear_18 : decode bC_clear 18 = .ok (.invokevirtual 65, 3) := by decide +kernel
theorem dC_clear_21 : decode bC_clear 21 = .ok (.aload_n 0, 1) := by decide +kernel
theorem dC_clear_22 : decode bC_clear 22 = .ok (.getfield 35, 3) := by decide +kernel
theorem dC_clear_25 : decode bC_clear 25 = .ok (.invokevirtual 66, 3) := by decide +kernel
theorem dC_clear_28 : decode bC_clear 28 = .ok (.aload_n 0, 1) := by decide +kernel
theorem dC_clear_29 : decode bC_clear 29 = .ok (.getfield 44, 3) := by decide +kernel
theorem dC_clear_32 : decode bC_clear 32 = .ok (.invokevirtual 67, 3) := by decide +kernel
theorem dC_clear_35 : decode bC_clear 35 = .ok (.aload_n 0, 1) := by decide +kernel
theorem dC_clear_36 : decode bC_clear 36 = .ok (.iconst 0, 1) := by decide +kernel
theorem dC_clear_37 : decode bC_clear 37 = .ok (.putfield 57, 3) := by decide +kernel
theorem dC_clear_40 : decode bC_clear 40 = .ok (.return_, 1) := by decide +kernel
theorem dC_type_0 : decode bC_type 0 = .ok (.aload_n 0, 1) := by decide +kernel
theorem dC_type_1 : decode bC_type 1 = .ok (.getfield 35, 3) := by decide +kernel
theorem dC_type_4 : decode bC_type 4 = .ok (.invokevirtual 70, 3) := by decide +kernel
theorem dC_type_7 : decode bC_type 7 = .ok (.ifCond .eq 6, 3) := by decide +kernel
theorem dC_type_10 : decode bC_type 10 = .ok (.bipush (-2), 2) := by decide +kernel
theorem dC_type_12 : decode bC_type 12 = .ok (.ireturn, 1) := by decide +kernel
theorem dC_type_13 : decode bC_type 13 = .ok (.aload_n 0, 1) := by decide +kernel
theorem dC_type_14 : decode bC_type 14 = .ok (.getfield 10, 3) := by decide +kernel
theorem dC_type_17 : decode bC_type 17 = .ok (.invokevirtual 74, 3) := by decide +kernel
theorem dC_type_20 : decode bC_type 20 = .ok (.ireturn, 1) := by decide +kernel
theorem dC_constructor_0 : decode bC_constructor 0 = .ok (.aload_n 0, 1) := by decide +kernel
theorem dC_constructor_1 : decode bC_constructor 1 = .ok (.getfield 35, 3) := by decide +kernel
theorem dC_constructor_4 : decode bC_constructor 4 = .ok (.invokevirtual 70, 3) := by decide +kernel
theorem dC_constructor_7 : decode bC_constructor 7 = .ok (.ifCond .eq 6, 3) := by decide +kernel
theorem dC_constructor_10 : decode bC_constructor 10 = .ok (.bipush (-2), 2) := by decide +kernel
theorem dC_constructor_12 : decode bC_constructor 12 = .ok (.ireturn, 1) := by decide +kernel
theorem dC_constructor_13 : decode bC_constructor 13 = .ok (.aload_n 0, 1) := by decide +kernel
theorem dC_constructor_14 : decode bC_constructor 14 = .ok (.getfield 10, 3) := by decide +kernel
theorem dC_constructor_17 : decode bC_constructor 17 = .ok (.iload_n 1, 1) := by decide +kernel
theorem dC_constructor_18 : decode bC_constructor 18 = .ok (.invokevirtual 78, 3) := by decide +kernel
theorem dC_constructor_21 : decode bC_constructor 21 = .ok (.ifCond .eq 15, 3) := by decide +kernel
theorem dC_constructor_24 : decode bC_constructor 24 = .ok (.aload_n 0, 1) := by decide +kernel
theorem dC_constructor_25 : decode bC_constructor 25 = .ok (.getfield 10, 3) := by decide +kernel
theorem dC_constructor_28 : decode bC_constructor 28 = .ok (.iload_n 2, 1) := by decide +kernel
theorem dC_constructor_29 : decode bC_constructor 29 = .ok (.iload_n 3, 1) := by decide +kernel
theorem dC_constructor_30 : decode bC_constructor 30 = .ok (.invokevirtual 82, 3) := by decide +kernel
theorem dC_constructor_33 : decode bC_constructor 33 = .ok (.ifCond .ne 6, 3) := by decide +kernel
theorem dC_constructor_36 : decode bC_constructor 36 = .ok (.bipush (-3), 2) := by decide +kernel
theorem dC_constructor_38 : decode bC_constructor 38 = .ok (.ireturn, 1) := by decide +kernel
theorem dC_constructor_39 : decode bC_constructor 39 = .ok (.aload_n 0, 1) := by decide +kernel
theorem dC_constructor_40 : decode bC_constructor 40 = .ok (.getfield 10, 3) := by decide +kernel
theorem dC_constructor_43 : decode bC_constructor 43 = .ok (.iload_n 1, 1) := by decide +kernel
theorem dC_constructor_44 : decode bC_constructor 44 = .ok (.iload_n 2, 1) := by decide +kernel
theorem dC_constructor_45 : decode bC_constructor 45 = .ok (.iload_n 3, 1) := by decide +kernel
theorem dC_constructor_46 : decode bC_constructor 46 = .ok (.invokevirtual 86, 3) := by decide +kernel
theorem dC_constructor_49 : decode bC_constructor 49 = .ok (.ireturn, 1) := by decide +kernel
theorem dC_begin_0 : decode bC_begin 0 = .ok (.aload_n 0, 1) := by decide +kernel
theorem dC_begin_1 : decode bC_begin 1 = .ok (.getfield 35, 3) := by decide +kernel
theorem dC_begin_4 : decode bC_begin 4 = .ok (.invokevirtual 70, 3) := by decide +kernel
theorem dC_begin_7 : decode bC_begin 7 = .ok (.ifCond .eq 6, 3) := by decide +kernel
theorem dC_begin_10 : decode bC_begin 10 = .ok (.bipush (-2), 2) := by decide +kernel
theorem dC_begin_12 : decode bC_begin 12 = .ok (.ireturn, 1) := by decide +kernel
theorem dC_begin_13 : decode bC_begin 13 = .ok (.aload_n 0, 1) := by decide +kernel
theorem dC_begin_14 : decode bC_begin 14 = .ok (.getfield 10, 3) := by decide +kernel
theorem dC_begin_17 : decode bC_begin 17 = .ok (.iload_n 1, 1) := by decide +kernel
theorem dC_begin_18 : decode bC_begin 18 = .ok (.invokevirtual 90, 3) := by decide +kernel
theorem dC_begin_21 : decode bC_begin 21 = .ok (.ifCond .ne 6, 3) := by decide +kernel
theorem dC_begin_24 : decode bC_begin 24 = .ok (.bipush (-3), 2) := by decide +kernel
theorem dC_begin_26 : decode bC_begin 26 = .ok (.ireturn, 1) := by decide +kernel
theorem dC_begin_27 : decode bC_begin 27 = .ok (.aload_n 0, 1) := by decide +kernel
theorem dC_begin_28 : decode bC_begin 28 = .ok (.getfield 10, 3) := by decide +kernel
theorem dC_begin_31 : decode bC_begin 31 = .ok (.invokevirtual 93, 3) := by decide +kernel
theorem dC_begin_34 : decode bC_begin 34 = .ok (.ifCond .ne 6, 3) := by decide +kernel
theorem dC_begin_37 : decode bC_begin 37 = .ok (.bipush (-11), 2) := by decide +kernel
theorem dC_begin_39 : decode bC_begin 39 = .ok (.ireturn, 1) := by decide +kernel
theorem dC_begin_40 : decode bC_begin 40 = .ok (.aload_n 0, 1) := by decide +kernel
theorem dC_begin_41 : decode bC_begin 41 = .ok (.getfield 35, 3) := by decide +kernel
theorem dC_begin_44 : decode bC_begin 44 = .ok (.iload_n 1, 1) := by decide +kernel
theorem dC_begin_45 : decode bC_begin 45 = .ok (.invokevirtual 96, 3) := by decide +kernel
theorem dC_begin_48 : decode bC_begin 48 = .ok (.iconst 0, 1) := by decide +kernel
theorem dC_begin_49 : decode bC_begin 49 = .ok (.ireturn, 1) := by decide +kernel
theorem dC_any_0 : decode bC_any 0 = .ok (.aload_n 0, 1) := by decide +kernel
theorem dC_any_1 : decode bC_any 1 = .ok (.getfield 19, 3) := by decide +kernel
theorem dC_any_4 : decode bC_any 4 = .ok (.invokevirtual 100, 3) := by decide +kernel
theorem dC_any_7 : decode bC_any 7 = .ok (.ireturn, 1) := by decide +kernel
theorem dC_number_0 : decode bC_number 0 = .ok (.aload_n 0, 1) := by decide +kernel
theorem dC_number_1 : decode bC_number 1 = .ok (.getfield 19, 3) := by decide +kernel
theorem dC_number_4 : decode bC_number 4 = .ok (.iload_n 1, 1) := by decide +kernel
theorem dC_number_5 : decode bC_number 5 = .ok (.invokevirtual 103, 3) := by decide +kernel
theorem dC_number_8 : decode bC_number 8 = .ok (.ireturn, 1) := by decide +kernel
theorem dC_standsFor_0 : decode bC_standsFor 0 = .ok (.iload_n 2, 1) := by decide +kernel
theorem dC_standsFor_1 : decode bC_standsFor 1 = .ok (.iconst (-1), 1) := by decide +kernel
theorem dC_standsFor_2 : decode bC_standsFor 2 = .ok (.if_icmp .ne 16, 3) := by decide +kernel
theorem dC_standsFor_5 : decode bC_standsFor 5 = .ok (.iload_n 0, 1) := by decide +kernel
theorem dC_standsFor_6 : decode bC_standsFor 6 = .ok (.iconst (-1), 1) := by decide +kernel
theorem dC_standsFor_7 : decode bC_standsFor 7 = .ok (.if_icmp .ne 7, 3) := by decide +kernel
theorem dC_standsFor_10 : decode bC_standsFor 10 = .ok (.iconst 1, 1) := by decide +kernel
theorem dC_standsFor_11 : decode bC_standsFor 11 = .ok (.goto 8, 3) := by decide +kernel
theorem dC_standsFor_14 : decode bC_standsFor 14 = .ok (.iconst 0, 1) := by decide +kernel
theorem dC_standsFor_15 : decode bC_standsFor 15 = .ok (.goto 4, 3) := by decide +kernel
theorem dC_standsFor_18 : decode bC_standsFor 18 = .ok (.iload_n 1, 1) := by decide +kernel
theorem dC_standsFor_19 : decode bC_standsFor 19 = .ok (.ireturn, 1) := by decide +kernel
theorem dC_build_0 : decode bC_build 0 = .ok (.aload_n 0, 1) := by decide +kernel
theorem dC_build_1 : decode bC_build 1 = .ok (.getfield 10, 3) := by decide +kernel
theorem dC_build_4 : decode bC_build 4 = .ok (.iload_n 1, 1) := by decide +kernel
theorem dC_build_5 : decode bC_build 5 = .ok (.invokevirtual 107, 3) := by decide +kernel
theorem dC_build_8 : decode bC_build 8 = .ok (.ifCond .ne 6, 3) := by decide +kernel
theorem dC_build_11 : decode bC_build 11 = .ok (.bipush (-4), 2) := by decide +kernel
theorem dC_build_13 : decode bC_build 13 = .ok (.ireturn, 1) := by decide +kernel
theorem dC_build_14 : decode bC_build 14 = .ok (.aload_n 0, 1) := by decide +kernel
theorem dC_build_15 : decode bC_build 15 = .ok (.getfield 10, 3) := by decide +kernel
theorem dC_build_18 : decode bC_build 18 = .ok (.iload_n 1, 1) := by decide +kernel
theorem dC_build_19 : decode bC_build 19 = .ok (.invokevirtual 110, 3) := by decide +kernel
theorem dC_build_22 : decode bC_build 22 = .ok (.istore 4, 2) := by decide +kernel
theorem dC_build_24 : decode bC_build 24 = .ok (.aload_n 0, 1) := by decide +kernel
theorem dC_build_25 : decode bC_build 25 = .ok (.getfield 10, 3) := by decide +kernel
theorem dC_build_28 : decode bC_build 28 = .ok (.iload_n 1, 1) := by decide +kernel
theorem dC_build_29 : decode bC_build 29 = .ok (.invokevirtual 113, 3) := by decide +kernel
theorem dC_build_32 : decode bC_build 32 = .ok (.istore 5, 2) := by decide +kernel
theorem dC_build_34 : decode bC_build 34 = .ok (.iload_n 2, 1) := by decide +kernel
theorem dC_build_35 : decode bC_build 35 = .ok (.aload_n 0, 1) := by decide +kernel
theorem dC_build_36 : decode bC_build 36 = .ok (.getfield 19, 3) := by decide +kernel
theorem dC_build_39 : decode bC_build 39 = .ok (.iload_n 2, 1) := by decide +kernel
theorem dC_build_40 : decode bC_build 40 = .ok (.invokevirtual 116, 3) := by decide +kernel
theorem dC_build_43 : decode bC_build 43 = .ok (.iload 4, 2) := by decide +kernel
theorem dC_build_45 : decode bC_build 45 = .ok (.invokestatic 119, 3) := by decide +kernel
theorem dC_build_48 : decode bC_build 48 = .ok (.ifCond .eq 20, 3) := by decide +kernel
theorem dC_build_51 : decode bC_build 51 = .ok (.iload_n 3, 1) := by decide +kernel
theorem dC_build_52 : decode bC_build 52 = .ok (.aload_n 0, 1) := by decide +kernel
theorem dC_build_53 : decode bC_build 53 = .ok (.getfield 19, 3) := by decide +kernel
theorem dC_build_56 : decode bC_build 56 = .ok (.iload_n 3, 1) := by decide +kernel
theorem dC_build_57 : decode bC_build 57 = .ok (.invokevirtual 116, 3) := by decide +kernel
theorem dC_build_60 : decode bC_build 60 = .ok (.iload 5, 2) := by decide +kernel
theorem dC_build_62 : decode bC_build 62 = .ok (.invokestatic 119, 3) := by decide +kernel
theorem dC_build_65 : decode bC_build 65 = .ok (.ifCond .ne 6, 3) := by decide +kernel
theorem dC_build_68 : decode bC_build 68 = .ok (.bipush (-5), 2) := by decide +kernel
theorem dC_build_70 : decode bC_build 70 = .ok (.ireturn, 1) := by decide +kernel
theorem dC_build_71 : decode bC_build 71 = .ok (.aload_n 0, 1) := by decide +kernel
theorem dC_build_72 : decode bC_build 72 = .ok (.getfield 19, 3) := by decide +kernel
theorem dC_build_75 : decode bC_build 75 = .ok (.iload_n 2, 1) := by decide +kernel
theorem dC_build_76 : decode bC_build 76 = .ok (.iload 4, 2) := by decide +kernel
theorem dC_build_78 : decode bC_build 78 = .ok (.invokevirtual 123, 3) := by decide +kernel
theorem dC_build_81 : decode bC_build 81 = .ok (.ifCond .eq 16, 3) := by decide +kernel
theorem dC_build_84 : decode bC_build 84 = .ok (.aload_n 0, 1) := by decide +kernel
theorem dC_build_85 : decode bC_build 85 = .ok (.getfield 19, 3) := by decide +kernel
theorem dC_build_88 : decode bC_build 88 = .ok (.iload_n 3, 1) := by decide +kernel
theorem dC_build_89 : decode bC_build 89 = .ok (.iload 5, 2) := by decide +kernel
theorem dC_build_91 : decode bC_build 91 = .ok (.invokevirtual 123, 3) := by decide +kernel
theorem dC_build_94 : decode bC_build 94 = .ok (.ifCond .ne 6, 3) := by decide +kernel
theorem dC_build_97 : decode bC_build 97 = .ok (.bipush (-7), 2) := by decide +kernel
theorem dC_build_99 : decode bC_build 99 = .ok (.ireturn, 1) := by decide +kernel
theorem dC_build_100 : decode bC_build 100 = .ok (.aload_n 0, 1) := by decide +kernel
theorem dC_build_101 : decode bC_build 101 = .ok (.getfield 19, 3) := by decide +kernel
theorem dC_build_104 : decode bC_build 104 = .ok (.iload_n 1, 1) := by decide +kernel
theorem dC_build_105 : decode bC_build 105 = .ok (.aload_n 0, 1) := by decide +kernel
theorem dC_build_106 : decode bC_build 106 = .ok (.getfield 10, 3) := by decide +kernel
theorem dC_build_109 : decode bC_build 109 = .ok (.iload_n 1, 1) := by decide +kernel
theorem dC_build_110 : decode bC_build 110 = .ok (.invokevirtual 126, 3) := by decide +kernel
theorem dC_build_113 : decode bC_build 113 = .ok (.iload_n 2, 1) := by decide +kernel
theorem dC_build_114 : decode bC_build 114 = .ok (.iload_n 3, 1) := by decide +kernel
theorem dC_build_115 : decode bC_build 115 = .ok (.invokevirtual 129, 3) := by decide +kernel
theorem dC_build_118 : decode bC_build 118 = .ok (.ireturn, 1) := by decide +kernel
theorem dC_either_0 : decode bC_either 0 = .ok (.aload_n 0, 1) := by decide +kernel
theorem dC_either_1 : decode bC_either 1 = .ok (.getfield 19, 3) := by decide +kernel
theorem dC_either_4 : decode bC_either 4 = .ok (.iload_n 1, 1) := by decide +kernel
theorem dC_either_5 : decode bC_either 5 = .ok (.invokevirtual 116, 3) := by decide +kernel
theorem dC_either_8 : decode bC_either 8 = .ok (.ifCond .eq 14, 3) := by decide +kernel
theorem dC_either_11 : decode bC_either 11 = .ok (.aload_n 0, 1) := by decide +kernel
theorem dC_either_12 : decode bC_either 12 = .ok (.getfield 19, 3) := by decide +kernel
theorem dC_either_15 : decode bC_either 15 = .ok (.iload_n 2, 1) := by decide +kernel
theorem dC_either_16 : decode bC_either 16 = .ok (.invokevirtual 116, 3) := by decide +kernel
theorem dC_either_19 : decode bC_either 19 = .ok (.ifCond .ne 6, 3) := by decide +kernel
theorem dC_either_22 : decode bC_either 22 = .ok (.bipush (-5), 2) := by decide +kernel
theorem dC_either_24 : decode bC_either 24 = .ok (.ireturn, 1) := by decide +kernel
theorem dC_either_25 : decode bC_either 25 = .ok (.aload_n 0, 1) := by decide +kernel
theorem dC_either_26 : decode bC_either 26 = .ok (.getfield 19, 3) := by decide +kernel
theorem dC_either_29 : decode bC_either 29 = .ok (.iload_n 1, 1) := by decide +kernel
theorem dC_either_30 : decode bC_either 30 = .ok (.iload_n 2, 1) := by decide +kernel
theorem dC_either_31 : decode bC_either 31 = .ok (.invokevirtual 133, 3) := by decide +kernel
theorem dC_either_34 : decode bC_either 34 = .ok (.ifCond .ne 6, 3) := by decide +kernel
theorem dC_either_37 : decode bC_either 37 = .ok (.bipush (-7), 2) := by decide +kernel
theorem dC_either_39 : decode bC_either 39 = .ok (.ireturn, 1) := by decide +kernel
theorem dC_either_40 : decode bC_either 40 = .ok (.aload_n 0, 1) := by decide +kernel
theorem dC_either_41 : decode bC_either 41 = .ok (.getfield 19, 3) := by decide +kernel
theorem dC_either_44 : decode bC_either 44 = .ok (.iload_n 1, 1) := by decide +kernel
theorem dC_either_45 : decode bC_either 45 = .ok (.iload_n 2, 1) := by decide +kernel
theorem dC_either_46 : decode bC_either 46 = .ok (.invokevirtual 136, 3) := by decide +kernel
theorem dC_either_49 : decode bC_either 49 = .ok (.ireturn, 1) := by decide +kernel
theorem dC_row_0 : decode bC_row 0 = .ok (.aload_n 0, 1) := by decide +kernel
theorem dC_row_1 : decode bC_row 1 = .ok (.getfield 35, 3) := by decide +kernel
theorem dC_row_4 : decode bC_row 4 = .ok (.invokevirtual 70, 3) := by decide +kernel
theorem dC_row_7 : decode bC_row 7 = .ok (.ifCond .ne 6, 3) := by decide +kernel
theorem dC_row_10 : decode bC_row 10 = .ok (.bipush (-12), 2) := by decide +kernel
theorem dC_row_12 : decode bC_row 12 = .ok (.ireturn, 1) := by decide +kernel
theorem dC_row_13 : decode bC_row 13 = .ok (.aload_n 0, 1) := by decide +kernel
theorem dC_row_14 : decode bC_row 14 = .ok (.getfield 19, 3) := by decide +kernel
theorem dC_row_17 : decode bC_row 17 = .ok (.iload_n 1, 1) := by decide +kernel
theorem dC_row_18 : decode bC_row 18 = .ok (.invokevirtual 116, 3) := by decide +kernel
theorem dC_row_21 : decode bC_row 21 = .ok (.ifCond .ne 6, 3) := by decide +kernel
theorem dC_row_24 : decode bC_row 24 = .ok (.bipush (-5), 2) := by decide +kernel
theorem dC_row_26 : decode bC_row 26 = .ok (.ireturn, 1) := by decide +kernel
theorem dC_row_27 : decode bC_row 27 = .ok (.aload_n 0, 1) := by decide +kernel
theorem dC_row_28 : decode bC_row 28 = .ok (.getfield 19, 3) := by decide +kernel
theorem dC_row_31 : decode bC_row 31 = .ok (.iload_n 1, 1) := by decide +kernel
theorem dC_row_32 : decode bC_row 32 = .ok (.aload_n 0, 1) := by decide +kernel
theorem dC_row_33 : decode bC_row 33 = .ok (.getfield 35, 3) := by decide +kernel
theorem dC_row_36 : decode bC_row 36 = .ok (.invokevirtual 140, 3) := by decide +kernel
theorem dC_row_39 : decode bC_row 39 = .ok (.invokevirtual 123, 3) := by decide +kernel
theorem dC_row_42 : decode bC_row 42 = .ok (.ifCond .ne 6, 3) := by decide +kernel
theorem dC_row_45 : decode bC_row 45 = .ok (.bipush (-7), 2) := by decide +kernel
theorem dC_row_47 : decode bC_row 47 = .ok (.ireturn, 1) := by decide +kernel
theorem dC_row_48 : decode bC_row 48 = .ok (.aload_n 0, 1) := by decide +kernel
theorem dC_row_49 : decode bC_row 49 = .ok (.getfield 35, 3) := by decide +kernel
theorem dC_row_52 : decode bC_row 52 = .ok (.iload_n 1, 1) := by decide +kernel
theorem dC_row_53 : decode bC_row 53 = .ok (.invokevirtual 143, 3) := by decide +kernel
theorem dC_row_56 : decode bC_row 56 = .ok (.istore_n 2, 1) := by decide +kernel
theorem dC_row_57 : decode bC_row 57 = .ok (.iload_n 2, 1) := by decide +kernel
theorem dC_row_58 : decode bC_row 58 = .ok (.bipush (-8), 2) := by decide +kernel
theorem dC_row_60 : decode bC_row 60 = .ok (.if_icmp .eq 10, 3) := by decide +kernel
theorem dC_row_63 : decode bC_row 63 = .ok (.aload_n 0, 1) := by decide +kernel
theorem dC_row_64 : decode bC_row 64 = .ok (.getfield 44, 3) := by decide +kernel
theorem dC_row_67 : decode bC_row 67 = .ok (.invokevirtual 67, 3) := by decide +kernel
theorem dC_row_70 : decode bC_row 70 = .ok (.iload_n 2, 1) := by decide +kernel
theorem dC_row_71 : decode bC_row 71 = .ok (.ireturn, 1) := by decide +kernel
theorem dC_compile_0 : decode bC_compile 0 = .ok (.aload_n 0, 1) := by decide +kernel
theorem dC_compile_1 : decode bC_compile 1 = .ok (.getfield 35, 3) := by decide +kernel
theorem dC_compile_4 : decode bC_compile 4 = .ok (.invokevirtual 70, 3) := by decide +kernel
theorem dC_compile_7 : decode bC_compile 7 = .ok (.ifCond .ne 6, 3) := by decide +kernel
theorem dC_compile_10 : decode bC_compile 10 = .ok (.bipush (-12), 2) := by decide +kernel
theorem dC_compile_12 : decode bC_compile 12 = .ok (.ireturn, 1) := by decide +kernel
theorem dC_compile_13 : decode bC_compile 13 = .ok (.aload_n 0, 1) := by decide +kernel
theorem dC_compile_14 : decode bC_compile 14 = .ok (.getfield 44, 3) := by decide +kernel
theorem dC_compile_17 : decode bC_compile 17 = .ok (.invokevirtual 146, 3) := by decide +kernel
theorem dC_compile_20 : decode bC_compile 20 = .ok (.ifCond .ne 6, 3) := by decide +kernel
theorem dC_compile_23 : decode bC_compile 23 = .ok (.bipush (-14), 2) := by decide +kernel
theorem dC_compile_25 : decode bC_compile 25 = .ok (.ireturn, 1) := by decide +kernel
theorem dC_compile_26 : decode bC_compile 26 = .ok (.aload_n 0, 1) := by decide +kernel
theorem dC_compile_27 : decode bC_compile 27 = .ok (.getfield 53, 3) := by decide +kernel
theorem dC_compile_30 : decode bC_compile 30 = .ok (.invokevirtual 149, 3) := by decide +kernel
theorem dC_compile_33 : decode bC_compile 33 = .ok (.aload_n 0, 1) := by decide +kernel
theorem dC_compile_34 : decode bC_compile 34 = .ok (.getfield 44, 3) := by decide +kernel
theorem dC_compile_37 : decode bC_compile 37 = .ok (.invokevirtual 152, 3) := by decide +kernel
theorem dC_compile_40 : decode bC_compile 40 = .ok (.ireturn, 1) := by decide +kernel
theorem dC_kinds_0 : decode bC_kinds 0 = .ok (.aload_n 0, 1) := by decide +kernel
theorem dC_kinds_1 : decode bC_kinds 1 = .ok (.getfield 44, 3) := by decide +kernel
theorem dC_kinds_4 : decode bC_kinds 4 = .ok (.invokevirtual 155, 3) := by decide +kernel
theorem dC_kinds_7 : decode bC_kinds 7 = .ok (.ifCond .eq 13, 3) := by decide +kernel
theorem dC_kinds_10 : decode bC_kinds 10 = .ok (.aload_n 0, 1) := by decide +kernel
theorem dC_kinds_11 : decode bC_kinds 11 = .ok (.getfield 44, 3) := by decide +kernel
theorem dC_kinds_14 : decode bC_kinds 14 = .ok (.invokevirtual 158, 3) := by decide +kernel
theorem dC_kinds_17 : decode bC_kinds 17 = .ok (.goto 5, 3) := by decide +kernel
theorem dC_kinds_20 : decode bC_kinds 20 = .ok (.bipush (-13), 2) := by decide +kernel
theorem dC_kinds_22 : decode bC_kinds 22 = .ok (.ireturn, 1) := by decide +kernel
theorem dC_longest_0 : decode bC_longest 0 = .ok (.aload_n 0, 1) := by decide +kernel
theorem dC_longest_1 : decode bC_longest 1 = .ok (.getfield 44, 3) := by decide +kernel
theorem dC_longest_4 : decode bC_longest 4 = .ok (.invokevirtual 155, 3) := by decide +kernel
theorem dC_longest_7 : decode bC_longest 7 = .ok (.ifCond .eq 13, 3) := by decide +kernel
theorem dC_longest_10 : decode bC_longest 10 = .ok (.aload_n 0, 1) := by decide +kernel
theorem dC_longest_11 : decode bC_longest 11 = .ok (.getfield 44, 3) := by decide +kernel
theorem dC_longest_14 : decode bC_longest 14 = .ok (.invokevirtual 161, 3) := by decide +kernel
theorem dC_longest_17 : decode bC_longest 17 = .ok (.goto 5, 3) := by decide +kernel
theorem dC_longest_20 : decode bC_longest 20 = .ok (.bipush (-13), 2) := by decide +kernel
theorem dC_longest_22 : decode bC_longest 22 = .ok (.ireturn, 1) := by decide +kernel
theorem dC_useless_0 : decode bC_useless 0 = .ok (.aload_n 0, 1) := by decide +kernel
theorem dC_useless_1 : decode bC_useless 1 = .ok (.getfield 44, 3) := by decide +kernel
theorem dC_useless_4 : decode bC_useless 4 = .ok (.invokevirtual 155, 3) := by decide +kernel
theorem dC_useless_7 : decode bC_useless 7 = .ok (.ifCond .ne 6, 3) := by decide +kernel
theorem dC_useless_10 : decode bC_useless 10 = .ok (.bipush (-13), 2) := by decide +kernel
theorem dC_useless_12 : decode bC_useless 12 = .ok (.ireturn, 1) := by decide +kernel
theorem dC_useless_13 : decode bC_useless 13 = .ok (.aload_n 0, 1) := by decide +kernel
theorem dC_useless_14 : decode bC_useless 14 = .ok (.getfield 35, 3) := by decide +kernel
theorem dC_useless_17 : decode bC_useless 17 = .ok (.iload_n 1, 1) := by decide +kernel
theorem dC_useless_18 : decode bC_useless 18 = .ok (.invokevirtual 164, 3) := by decide +kernel
theorem dC_useless_21 : decode bC_useless 21 = .ok (.ifCond .ne 6, 3) := by decide +kernel
theorem dC_useless_24 : decode bC_useless 24 = .ok (.bipush (-15), 2) := by decide +kernel
theorem dC_useless_26 : decode bC_useless 26 = .ok (.ireturn, 1) := by decide +kernel
theorem dC_useless_27 : decode bC_useless 27 = .ok (.aload_n 0, 1) := by decide +kernel
theorem dC_useless_28 : decode bC_useless 28 = .ok (.getfield 35, 3) := by decide +kernel
theorem dC_useless_31 : decode bC_useless 31 = .ok (.aload_n 0, 1) := by decide +kernel
theorem dC_useless_32 : decode bC_useless 32 = .ok (.getfield 44, 3) := by decide +kernel
theorem dC_useless_35 : decode bC_useless 35 = .ok (.invokevirtual 167, 3) := by decide +kernel
theorem dC_useless_38 : decode bC_useless 38 = .ok (.iload_n 1, 1) := by decide +kernel
theorem dC_useless_39 : decode bC_useless 39 = .ok (.invokevirtual 170, 3) := by decide +kernel
theorem dC_useless_42 : decode bC_useless 42 = .ok (.ireturn, 1) := by decide +kernel
theorem dC_witnessLength_0 : decode bC_witnessLength 0 = .ok (.aload_n 0, 1) := by decide +kernel
theorem dC_witnessLength_1 : decode bC_witnessLength 1 = .ok (.getfield 44, 3) := by decide +kernel
theorem dC_witnessLength_4 : decode bC_witnessLength 4 = .ok (.invokevirtual 155, 3) := by decide +kernel
theorem dC_witnessLength_7 : decode bC_witnessLength 7 = .ok (.ifCond .eq 13, 3) := by decide +kernel
theorem dC_witnessLength_10 : decode bC_witnessLength 10 = .ok (.aload_n 0, 1) := by decide +kernel
theorem dC_witnessLength_11 : decode bC_witnessLength 11 = .ok (.getfield 53, 3) := by decide +kernel
theorem dC_witnessLength_14 : decode bC_witnessLength 14 = .ok (.invokevirtual 173, 3) := by decide +kernel
theorem dC_witnessLength_17 : decode bC_witnessLength 17 = .ok (.goto 5, 3) := by decide +kernel
theorem dC_witnessLength_20 : decode bC_witnessLength 20 = .ok (.bipush (-13), 2) := by decide +kernel
theorem dC_witnessLength_22 : decode bC_witnessLength 22 = .ok (.ireturn, 1) := by decide +kernel
theorem dC_witnessKind_0 : decode bC_witnessKind 0 = .ok (.aload_n 0, 1) := by decide +kernel
theorem dC_witnessKind_1 : decode bC_witnessKind 1 = .ok (.getfield 44, 3) := by decide +kernel
theorem dC_witnessKind_4 : decode bC_witnessKind 4 = .ok (.invokevirtual 155, 3) := by decide +kernel
theorem dC_witnessKind_7 : decode bC_witnessKind 7 = .ok (.ifCond .ne 6, 3) := by decide +kernel
theorem dC_witnessKind_10 : decode bC_witnessKind 10 = .ok (.bipush (-13), 2) := by decide +kernel
theorem dC_witnessKind_12 : decode bC_witnessKind 12 = .ok (.ireturn, 1) := by decide +kernel
theorem dC_witnessKind_13 : decode bC_witnessKind 13 = .ok (.aload_n 0, 1) := by decide +kernel
theorem dC_witnessKind_14 : decode bC_witnessKind 14 = .ok (.getfield 53, 3) := by decide +kernel
theorem dC_witnessKind_17 : decode bC_witnessKind 17 = .ok (.iload_n 1, 1) := by decide +kernel
theorem dC_witnessKind_18 : decode bC_witnessKind 18 = .ok (.invokevirtual 176, 3) := by decide +kernel
theorem dC_witnessKind_21 : decode bC_witnessKind 21 = .ok (.ifCond .eq 14, 3) := by decide +kernel
theorem dC_witnessKind_24 : decode bC_witnessKind 24 = .ok (.aload_n 0, 1) := by decide +kernel
theorem dC_witnessKind_25 : decode bC_witnessKind 25 = .ok (.getfield 53, 3) := by decide +kernel
theorem dC_witnessKind_28 : decode bC_witnessKind 28 = .ok (.iload_n 1, 1) := by decide +kernel
theorem dC_witnessKind_29 : decode bC_witnessKind 29 = .ok (.invokevirtual 177, 3) := by decide +kernel
theorem dC_witnessKind_32 : decode bC_witnessKind 32 = .ok (.goto 5, 3) := by decide +kernel
theorem dC_witnessKind_35 : decode bC_witnessKind 35 = .ok (.bipush (-15), 2) := by decide +kernel
theorem dC_witnessKind_37 : decode bC_witnessKind 37 = .ok (.ireturn, 1) := by decide +kernel
theorem dC_witness_0 : decode bC_witness 0 = .ok (.aload_n 0, 1) := by decide +kernel
theorem dC_witness_1 : decode bC_witness 1 = .ok (.getfield 44, 3) := by decide +kernel
theorem dC_witness_4 : decode bC_witness 4 = .ok (.invokevirtual 155, 3) := by decide +kernel
theorem dC_witness_7 : decode bC_witness 7 = .ok (.ifCond .eq 25, 3) := by decide +kernel
theorem dC_witness_10 : decode bC_witness 10 = .ok (.aload_n 0, 1) := by decide +kernel
theorem dC_witness_11 : decode bC_witness 11 = .ok (.getfield 53, 3) := by decide +kernel
theorem dC_witness_14 : decode bC_witness 14 = .ok (.iload_n 1, 1) := by decide +kernel
theorem dC_witness_15 : decode bC_witness 15 = .ok (.invokevirtual 176, 3) := by decide +kernel
theorem dC_witness_18 : decode bC_witness 18 = .ok (.ifCond .eq 14, 3) := by decide +kernel
theorem dC_witness_21 : decode bC_witness 21 = .ok (.aload_n 0, 1) := by decide +kernel
theorem dC_witness_22 : decode bC_witness 22 = .ok (.getfield 53, 3) := by decide +kernel
theorem dC_witness_25 : decode bC_witness 25 = .ok (.iload_n 1, 1) := by decide +kernel
theorem dC_witness_26 : decode bC_witness 26 = .ok (.invokevirtual 180, 3) := by decide +kernel
theorem dC_witness_29 : decode bC_witness 29 = .ok (.goto 4, 3) := by decide +kernel
theorem dC_witness_32 : decode bC_witness 32 = .ok (.iconst 0, 1) := by decide +kernel
theorem dC_witness_33 : decode bC_witness 33 = .ok (.ireturn, 1) := by decide +kernel
theorem dC_valueNumber_0 : decode bC_valueNumber 0 = .ok (.aload_n 0, 1) := by decide +kernel
theorem dC_valueNumber_1 : decode bC_valueNumber 1 = .ok (.getfield 26, 3) := by decide +kernel
theorem dC_valueNumber_4 : decode bC_valueNumber 4 = .ok (.iload_n 1, 1) := by decide +kernel
theorem dC_valueNumber_5 : decode bC_valueNumber 5 = .ok (.invokevirtual 183, 3) := by decide +kernel
theorem dC_valueNumber_8 : decode bC_valueNumber 8 = .ok (.ireturn, 1) := by decide +kernel
theorem dC_valueOf_0 : decode bC_valueOf 0 = .ok (.aload_n 0, 1) := by decide +kernel
theorem dC_valueOf_1 : decode bC_valueOf 1 = .ok (.getfield 10, 3) := by decide +kernel
theorem dC_valueOf_4 : decode bC_valueOf 4 = .ok (.iload_n 1, 1) := by decide +kernel
theorem dC_valueOf_5 : decode bC_valueOf 5 = .ok (.invokevirtual 107, 3) := by decide +kernel
theorem dC_valueOf_8 : decode bC_valueOf 8 = .ok (.ifCond .ne 6, 3) := by decide +kernel
theorem dC_valueOf_11 : decode bC_valueOf 11 = .ok (.bipush (-4), 2) := by decide +kernel
theorem dC_valueOf_13 : decode bC_valueOf 13 = .ok (.ireturn, 1) := by decide +kernel
theorem dC_valueOf_14 : decode bC_valueOf 14 = .ok (.aload_n 0, 1) := by decide +kernel
theorem dC_valueOf_15 : decode bC_valueOf 15 = .ok (.getfield 10, 3) := by decide +kernel
theorem dC_valueOf_18 : decode bC_valueOf 18 = .ok (.iload_n 1, 1) := by decide +kernel
theorem dC_valueOf_19 : decode bC_valueOf 19 = .ok (.invokevirtual 110, 3) := by decide +kernel
theorem dC_valueOf_22 : decode bC_valueOf 22 = .ok (.istore 4, 2) := by decide +kernel
theorem dC_valueOf_24 : decode bC_valueOf 24 = .ok (.aload_n 0, 1) := by decide +kernel
theorem dC_valueOf_25 : decode bC_valueOf 25 = .ok (.getfield 10, 3) := by decide +kernel
theorem dC_valueOf_28 : decode bC_valueOf 28 = .ok (.iload_n 1, 1) := by decide +kernel
theorem dC_valueOf_29 : decode bC_valueOf 29 = .ok (.invokevirtual 113, 3) := by decide +kernel
theorem dC_valueOf_32 : decode bC_valueOf 32 = .ok (.istore 5, 2) := by decide +kernel
theorem dC_valueOf_34 : decode bC_valueOf 34 = .ok (.iload_n 2, 1) := by decide +kernel
theorem dC_valueOf_35 : decode bC_valueOf 35 = .ok (.aload_n 0, 1) := by decide +kernel
theorem dC_valueOf_36 : decode bC_valueOf 36 = .ok (.getfield 26, 3) := by decide +kernel
theorem dC_valueOf_39 : decode bC_valueOf 39 = .ok (.iload_n 2, 1) := by decide +kernel
theorem dC_valueOf_40 : decode bC_valueOf 40 = .ok (.invokevirtual 186, 3) := by decide +kernel
theorem dC_valueOf_43 : decode bC_valueOf 43 = .ok (.iload 4, 2) := by decide +kernel
theorem dC_valueOf_45 : decode bC_valueOf 45 = .ok (.invokestatic 119, 3) := by decide +kernel
theorem dC_valueOf_48 : decode bC_valueOf 48 = .ok (.ifCond .eq 20, 3) := by decide +kernel
theorem dC_valueOf_51 : decode bC_valueOf 51 = .ok (.iload_n 3, 1) := by decide +kernel
theorem dC_valueOf_52 : decode bC_valueOf 52 = .ok (.aload_n 0, 1) := by decide +kernel
theorem dC_valueOf_53 : decode bC_valueOf 53 = .ok (.getfield 26, 3) := by decide +kernel
theorem dC_valueOf_56 : decode bC_valueOf 56 = .ok (.iload_n 3, 1) := by decide +kernel
theorem dC_valueOf_57 : decode bC_valueOf 57 = .ok (.invokevirtual 186, 3) := by decide +kernel
theorem dC_valueOf_60 : decode bC_valueOf 60 = .ok (.iload 5, 2) := by decide +kernel
theorem dC_valueOf_62 : decode bC_valueOf 62 = .ok (.invokestatic 119, 3) := by decide +kernel
theorem dC_valueOf_65 : decode bC_valueOf 65 = .ok (.ifCond .ne 6, 3) := by decide +kernel
theorem dC_valueOf_68 : decode bC_valueOf 68 = .ok (.bipush (-6), 2) := by decide +kernel
theorem dC_valueOf_70 : decode bC_valueOf 70 = .ok (.ireturn, 1) := by decide +kernel
theorem dC_valueOf_71 : decode bC_valueOf 71 = .ok (.aload_n 0, 1) := by decide +kernel
theorem dC_valueOf_72 : decode bC_valueOf 72 = .ok (.getfield 26, 3) := by decide +kernel
theorem dC_valueOf_75 : decode bC_valueOf 75 = .ok (.iload_n 2, 1) := by decide +kernel
theorem dC_valueOf_76 : decode bC_valueOf 76 = .ok (.iload 4, 2) := by decide +kernel
theorem dC_valueOf_78 : decode bC_valueOf 78 = .ok (.invokevirtual 187, 3) := by decide +kernel
theorem dC_valueOf_81 : decode bC_valueOf 81 = .ok (.ifCond .eq 16, 3) := by decide +kernel
theorem dC_valueOf_84 : decode bC_valueOf 84 = .ok (.aload_n 0, 1) := by decide +kernel
theorem dC_valueOf_85 : decode bC_valueOf 85 = .ok (.getfield 26, 3) := by decide +kernel
theorem dC_valueOf_88 : decode bC_valueOf 88 = .ok (.iload_n 3, 1) := by decide +kernel
theorem dC_valueOf_89 : decode bC_valueOf 89 = .ok (.iload 5, 2) := by decide +kernel
theorem dC_valueOf_91 : decode bC_valueOf 91 = .ok (.invokevirtual 187, 3) := by decide +kernel
theorem dC_valueOf_94 : decode bC_valueOf 94 = .ok (.ifCond .ne 6, 3) := by decide +kernel
theorem dC_valueOf_97 : decode bC_valueOf 97 = .ok (.bipush (-7), 2) := by decide +kernel
theorem dC_valueOf_99 : decode bC_valueOf 99 = .ok (.ireturn, 1) := by decide +kernel
theorem dC_valueOf_100 : decode bC_valueOf 100 = .ok (.aload_n 0, 1) := by decide +kernel
theorem dC_valueOf_101 : decode bC_valueOf 101 = .ok (.getfield 26, 3) := by decide +kernel
theorem dC_valueOf_104 : decode bC_valueOf 104 = .ok (.iload_n 1, 1) := by decide +kernel
theorem dC_valueOf_105 : decode bC_valueOf 105 = .ok (.aload_n 0, 1) := by decide +kernel
theorem dC_valueOf_106 : decode bC_valueOf 106 = .ok (.getfield 10, 3) := by decide +kernel
theorem dC_valueOf_109 : decode bC_valueOf 109 = .ok (.iload_n 1, 1) := by decide +kernel
theorem dC_valueOf_110 : decode bC_valueOf 110 = .ok (.invokevirtual 126, 3) := by decide +kernel
theorem dC_valueOf_113 : decode bC_valueOf 113 = .ok (.iload_n 2, 1) := by decide +kernel
theorem dC_valueOf_114 : decode bC_valueOf 114 = .ok (.iload_n 3, 1) := by decide +kernel
theorem dC_valueOf_115 : decode bC_valueOf 115 = .ok (.invokevirtual 190, 3) := by decide +kernel
theorem dC_valueOf_118 : decode bC_valueOf 118 = .ok (.ireturn, 1) := by decide +kernel
theorem dC_run_0 : decode bC_run 0 = .ok (.aload_n 0, 1) := by decide +kernel
theorem dC_run_1 : decode bC_run 1 = .ok (.getfield 44, 3) := by decide +kernel
theorem dC_run_4 : decode bC_run 4 = .ok (.invokevirtual 155, 3) := by decide +kernel
theorem dC_run_7 : decode bC_run 7 = .ok (.ifCond .ne 6, 3) := by decide +kernel
theorem dC_run_10 : decode bC_run 10 = .ok (.bipush (-13), 2) := by decide +kernel
theorem dC_run_12 : decode bC_run 12 = .ok (.ireturn, 1) := by decide +kernel
theorem dC_run_13 : decode bC_run 13 = .ok (.aload_n 0, 1) := by decide +kernel
theorem dC_run_14 : decode bC_run 14 = .ok (.getfield 26, 3) := by decide +kernel
theorem dC_run_17 : decode bC_run 17 = .ok (.iload_n 1, 1) := by decide +kernel
theorem dC_run_18 : decode bC_run 18 = .ok (.invokevirtual 186, 3) := by decide +kernel
theorem dC_run_21 : decode bC_run 21 = .ok (.ifCond .ne 6, 3) := by decide +kernel
theorem dC_run_24 : decode bC_run 24 = .ok (.bipush (-6), 2) := by decide +kernel
theorem dC_run_26 : decode bC_run 26 = .ok (.ireturn, 1) := by decide +kernel
theorem dC_run_27 : decode bC_run 27 = .ok (.aload_n 0, 1) := by decide +kernel
theorem dC_run_28 : decode bC_run 28 = .ok (.getfield 26, 3) := by decide +kernel
theorem dC_run_31 : decode bC_run 31 = .ok (.iload_n 1, 1) := by decide +kernel
theorem dC_run_32 : decode bC_run 32 = .ok (.aload_n 0, 1) := by decide +kernel
theorem dC_run_33 : decode bC_run 33 = .ok (.getfield 35, 3) := by decide +kernel
theorem dC_run_36 : decode bC_run 36 = .ok (.invokevirtual 140, 3) := by decide +kernel
theorem dC_run_39 : decode bC_run 39 = .ok (.invokevirtual 187, 3) := by decide +kernel
theorem dC_run_42 : decode bC_run 42 = .ok (.ifCond .ne 6, 3) := by decide +kernel
theorem dC_run_45 : decode bC_run 45 = .ok (.bipush (-7), 2) := by decide +kernel
theorem dC_run_47 : decode bC_run 47 = .ok (.ireturn, 1) := by decide +kernel
theorem dC_run_48 : decode bC_run 48 = .ok (.aload_n 0, 1) := by decide +kernel
theorem dC_run_49 : decode bC_run 49 = .ok (.getfield 44, 3) := by decide +kernel
theorem dC_run_52 : decode bC_run 52 = .ok (.aload_n 0, 1) := by decide +kernel
theorem dC_run_53 : decode bC_run 53 = .ok (.getfield 26, 3) := by decide +kernel
theorem dC_run_56 : decode bC_run 56 = .ok (.iload_n 1, 1) := by decide +kernel
theorem dC_run_57 : decode bC_run 57 = .ok (.invokevirtual 193, 3) := by decide +kernel
theorem dC_run_60 : decode bC_run 60 = .ok (.istore_n 2, 1) := by decide +kernel
theorem dC_run_61 : decode bC_run 61 = .ok (.aload_n 0, 1) := by decide +kernel
theorem dC_run_62 : decode bC_run 62 = .ok (.aload_n 0, 1) := by decide +kernel
theorem dC_run_63 : decode bC_run 63 = .ok (.getfield 44, 3) := by decide +kernel
theorem dC_run_66 : decode bC_run 66 = .ok (.iload_n 2, 1) := by decide +kernel
theorem dC_run_67 : decode bC_run 67 = .ok (.invokevirtual 197, 3) := by decide +kernel
theorem dC_run_70 : decode bC_run 70 = .ok (.putfield 57, 3) := by decide +kernel
theorem dC_run_73 : decode bC_run 73 = .ok (.aload_n 0, 1) := by decide +kernel
theorem dC_run_74 : decode bC_run 74 = .ok (.getfield 35, 3) := by decide +kernel
theorem dC_run_77 : decode bC_run 77 = .ok (.aload_n 0, 1) := by decide +kernel
theorem dC_run_78 : decode bC_run 78 = .ok (.getfield 44, 3) := by decide +kernel
theorem dC_run_81 : decode bC_run 81 = .ok (.iload_n 2, 1) := by decide +kernel
theorem dC_run_82 : decode bC_run 82 = .ok (.invokevirtual 200, 3) := by decide +kernel
theorem dC_run_85 : decode bC_run 85 = .ok (.invokevirtual 203, 3) := by decide +kernel
theorem dC_run_88 : decode bC_run 88 = .ok (.ireturn, 1) := by decide +kernel
theorem dC_tests_0 : decode bC_tests 0 = .ok (.aload_n 0, 1) := by decide +kernel
theorem dC_tests_1 : decode bC_tests 1 = .ok (.getfield 57, 3) := by decide +kernel
theorem dC_tests_4 : decode bC_tests 4 = .ok (.ireturn, 1) := by decide +kernel
section Sface
variable {p : Program} {l : Launch} {e : Env} {R : Room} {s : State} {m : MethodId} {args : Array Value} {below : List Frame} {meth : Method} {c : Code} {Q : State → Prop} {D : va_G} {cA : Nat → ClassId} {ad : Nat → Nat} {H0 : Heap}
def fC_clear (st : ck_S) : Option ck_S := (ck_bv (fD_reset st) fun st1 => (ck_bv (fP_reset st1) fun st2 => (ck_bv (fV_reset st2) fun st3 => (ck_bv (fM_reset st3) fun st4 => (ck_bv (fT_drop st4) fun st5 => (some (ck_u st5 0 6 (0 : Int32))))))))
set_option maxRecDepth 100000 in
set_option maxHeartbeats 4000000 in
theorem cC_clear (l : Launch) (D : va_G) (cA : Nat → ClassId) (ad : Nat → Nat) {st : ck_S} {st0 : ck_S} (hf : fC_clear st = some st0) : Met l yC_clear (.code yC_clear bC_clear 1 none :: ck_T) (ck_R 2) (va_Pc [.ref (ad 0)] (ck_P sh_C cm_cl D cA ad st)) (va_Qv (fun u => u = st0) (ck_P sh_C cm_cl D cA ad) (ck_A ad sh_C.length)) 0 0 (ck_A ad sh_C.length) := by
  refine ck_met_v (own := R_C) (by decide +kernel) rfl (Nat.le_of_ble_eq_true rfl) (fun p e R s m args below meth c H0 Q ls C hret h hl => ?_)
  have C1 := C
  obtain ⟨hx, hb, hml, hown, hts, hK, hlv, hlo⟩ := C1
  have hl : lv_has ls 1 [(0, .ref (ad 0))] := hl
  unfold fC_clear at hf
  refine lv_aload_n hx hb dC_clear_0 rfl (lv_at hl 0 rfl) ?_
  refine ck_gr C h FC_declared dC_clear_1 ?_
  obtain ⟨st1, hc, hf⟩ := ck_bv_e hf
  refine ck_vv (As := []) (rest := []) (q := 1) C h hl CC_D_reset sD_reset q_D (cD_reset l D cA ad hc) (Nat.le_of_ble_eq_true rfl) rfl rfl (Nat.le_of_ble_eq_true rfl) dC_clear_4 (fun H locs h => ?_)
  refine lv_aload_n hx hb dC_clear_7 rfl (lv_at hl 0 rfl) ?_
  refine ck_gr C h FC_patterns dC_clear_8 ?_
  obtain ⟨st2, hc, hf⟩ := ck_bv_e hf
  refine ck_vv (As := []) (rest := []) (q := 2) C h hl CC_P_reset sP_reset q_P (cP_reset l D cA ad hc) (Nat.le_of_ble_eq_true rfl) rfl rfl (Nat.le_of_ble_eq_true rfl) dC_clear_11 (fun H locs h => ?_)
  refine lv_aload_n hx hb dC_clear_14 rfl (lv_at hl 0 rfl) ?_
  refine ck_gr C h FC_values dC_clear_15 ?_
  obtain ⟨st3, hc, hf⟩ := ck_bv_e hf
  refine ck_vv (As := []) (rest := []) (q := 3) C h hl CC_V_reset sV_reset q_V (cV_reset l D cA ad hc) (Nat.le_of_ble_eq_true rfl) rfl rfl (Nat.le_of_ble_eq_true rfl) dC_clear_18 (fun H locs h => ?_)
  refine lv_aload_n hx hb dC_clear_21 rfl (lv_at hl 0 rfl) ?_
  refine ck_gr C h FC_match dC_clear_22 ?_
  obtain ⟨st4, hc, hf⟩ := ck_bv_e hf
  refine ck_vv (As := []) (rest := []) (q := 4) C h hl CC_M_reset sM_reset q_M (cM_reset l D cA ad hc) (Nat.le_of_ble_eq_true rfl) rfl rfl (Nat.le_of_ble_eq_true rfl) dC_clear_25 (fun H locs h => ?_)
  refine lv_aload_n hx hb dC_clear_28 rfl (lv_at hl 0 rfl) ?_
  refine ck_gr C h FC_tree dC_clear_29 ?_
  obtain ⟨st5, hc, hf⟩ := ck_bv_e hf
  refine ck_vv (As := []) (rest := []) (q := 5) C h hl CC_T_drop sT_drop q_T (cT_drop l D cA ad hc) (Nat.le_of_ble_eq_true rfl) rfl rfl (Nat.le_of_ble_eq_true rfl) dC_clear_32 (fun H locs h => ?_)
  refine lv_aload_n hx hb dC_clear_35 rfl (lv_at hl 0 rfl) ?_
  refine lv_iconst (v := 0) hx hb dC_clear_36 (by decide) ?_
  refine ck_pi C h GC_latestTests rfl rfl dC_clear_37 (fun H locs h => ?_)
  exact ck_rv hf hret h dC_clear_40
def fC_type (st : ck_S) : Option (Int32 × ck_S) := (ck_b (fM_isBegun st) fun v2 st1 => (if v2 = 0 then (ck_b (fD_addType st1) fun v4 st3 => (some (v4, st3))) else (some ((-2 : Int32), st1))))
set_option maxRecDepth 100000 in
set_option maxHeartbeats 4000000 in
theorem cC_type (l : Launch) (D : va_G) (cA : Nat → ClassId) (ad : Nat → Nat) {st : ck_S} {r0 : Int32} {st0 : ck_S} (hf : fC_type st = some (r0, st0)) : Met l yC_type (.code yC_type bC_type 1 (some .int) :: ck_T) (ck_R 1) (va_Pc [.ref (ad 0)] (ck_P sh_C cm_cl D cA ad st)) (va_Qi (fun a u => a = r0 ∧ u = st0) (ck_P sh_C cm_cl D cA ad) (ck_A ad sh_C.length)) 0 0 (ck_A ad sh_C.length) := by
  refine ck_met_i (own := R_C) (by decide +kernel) rfl (Nat.le_of_ble_eq_true rfl) (fun p e R s m args below meth c H0 Q ls C hret h hl => ?_)
  have C1 := C
  obtain ⟨hx, hb, hml, hown, hts, hK, hlv, hlo⟩ := C1
  have hl : lv_has ls 1 [(0, .ref (ad 0))] := hl
  unfold fC_type at hf
  refine lv_aload_n hx hb dC_type_0 rfl (lv_at hl 0 rfl) ?_
  refine ck_gr C h FC_match dC_type_1 ?_
  obtain ⟨v2, st1, hc, hf⟩ := ck_b_e hf
  refine ck_vi (As := []) (rest := []) (q := 4) C h hl CC_M_isBegun sM_isBegun q_M (cM_isBegun l D cA ad hc) (Nat.le_of_ble_eq_true rfl) rfl rfl (Nat.le_of_ble_eq_true rfl) dC_type_4 (fun H locs h => ?_)
  refine lv_if_eq (tgt := 13) hx hb dC_type_7 rfl (fun hq => ?_) (fun hq => ?_)
  · have hf := ck_t hq hf
    refine lv_aload_n hx hb dC_type_13 rfl (lv_at hl 0 rfl) ?_
    refine ck_gr C h FC_declared dC_type_14 ?_
    obtain ⟨v4, st3, hc, hf⟩ := ck_b_e hf
    refine ck_vi (As := []) (rest := []) (q := 1) C h hl CC_D_addType sD_addType q_D (cD_addType l D cA ad hc) (Nat.le_of_ble_eq_true rfl) rfl rfl (Nat.le_of_ble_eq_true rfl) dC_type_17 (fun H locs h => ?_)
    exact ck_ri hf hret h dC_type_20
  · have hf := ck_f hq hf
    refine lv_bipush (v := (-2)) hx hb dC_type_10 (by decide) ?_
    exact ck_ri hf hret h dC_type_12
def fC_constructor (x1 : Int32) (x2 : Int32) (x3 : Int32) (st : ck_S) : Option (Int32 × ck_S) := (ck_b (fM_isBegun st) fun v2 st1 => (if v2 = 0 then (ck_b (fD_isOwnType x1 st1) fun v4 st3 => (if v4 = 0 then (some ((-3 : Int32), st3)) else (ck_b (fD_canBeArguments x2 x3 st3) fun v6 st5 => (if v6 = 0 then (some ((-3 : Int32), st5)) else (ck_b (fD_addConstructor x1 x2 x3 st5) fun v8 st7 => (some (v8, st7))))))) else (some ((-2 : Int32), st1))))
set_option maxRecDepth 100000 in
set_option maxHeartbeats 4000000 in
theorem cC_constructor (l : Launch) (D : va_G) (cA : Nat → ClassId) (ad : Nat → Nat) {x1 : Int32} {x2 : Int32} {x3 : Int32} {st : ck_S} {r0 : Int32} {st0 : ck_S} (hf : fC_constructor x1 x2 x3 st = some (r0, st0)) : Met l yC_constructor (.code yC_constructor bC_constructor 4 (some .int) :: ck_T) (ck_R 2) (va_Pc [.ref (ad 0), .int x1, .int x2, .int x3] (ck_P sh_C cm_cl D cA ad st)) (va_Qi (fun a u => a = r0 ∧ u = st0) (ck_P sh_C cm_cl D cA ad) (ck_A ad sh_C.length)) 0 0 (ck_A ad sh_C.length) := by
  refine ck_met_i (own := R_C) (by decide +kernel) rfl (Nat.le_of_ble_eq_true rfl) (fun p e R s m args below meth c H0 Q ls C hret h hl => ?_)
  have C1 := C
  obtain ⟨hx, hb, hml, hown, hts, hK, hlv, hlo⟩ := C1
  have hl : lv_has ls 4 [(0, .ref (ad 0)), (1, .int x1), (2, .int x2), (3, .int x3)] := hl
  unfold fC_constructor at hf
  refine lv_aload_n hx hb dC_constructor_0 rfl (lv_at hl 0 rfl) ?_
  refine ck_gr C h FC_match dC_constructor_1 ?_
  obtain ⟨v2, st1, hc, hf⟩ := ck_b_e hf
  refine ck_vi (As := []) (rest := []) (q := 4) C h hl CC_M_isBegun sM_isBegun q_M (cM_isBegun l D cA ad hc) (Nat.le_of_ble_eq_true rfl) rfl rfl (Nat.le_of_ble_eq_true rfl) dC_constructor_4 (fun H locs h => ?_)
  refine lv_if_eq (tgt := 13) hx hb dC_constructor_7 rfl (fun hq => ?_) (fun hq => ?_)
  · have hf := ck_t hq hf
    refine lv_aload_n hx hb dC_constructor_13 rfl (lv_at hl 0 rfl) ?_
    refine ck_gr C h FC_declared dC_constructor_14 ?_
    refine lv_iload_n hx hb dC_constructor_17 rfl (lv_at hl 1 rfl) ?_
    obtain ⟨v4, st3, hc, hf⟩ := ck_b_e hf
    refine ck_vi (As := [.int x1]) (rest := []) (q := 1) C h hl CC_D_isOwnType sD_isOwnType q_D (cD_isOwnType l D cA ad hc) (Nat.le_of_ble_eq_true rfl) rfl rfl (Nat.le_of_ble_eq_true rfl) dC_constructor_18 (fun H locs h => ?_)
    refine lv_if_eq (tgt := 36) hx hb dC_constructor_21 rfl (fun hq => ?_) (fun hq => ?_)
    · have hf := ck_t hq hf
      refine lv_bipush (v := (-3)) hx hb dC_constructor_36 (by decide) ?_
      exact ck_ri hf hret h dC_constructor_38
    · have hf := ck_f hq hf
      refine lv_aload_n hx hb dC_constructor_24 rfl (lv_at hl 0 rfl) ?_
      refine ck_gr C h FC_declared dC_constructor_25 ?_
      refine lv_iload_n hx hb dC_constructor_28 rfl (lv_at hl 2 rfl) ?_
      refine lv_iload_n hx hb dC_constructor_29 rfl (lv_at hl 3 rfl) ?_
      obtain ⟨v6, st5, hc, hf⟩ := ck_b_e hf
      refine ck_vi (As := [.int x2, .int x3]) (rest := []) (q := 1) C h hl CC_D_canBeArguments sD_canBeArguments q_D (cD_canBeArguments l D cA ad hc) (Nat.le_of_ble_eq_true rfl) rfl rfl (Nat.le_of_ble_eq_true rfl) dC_constructor_30 (fun H locs h => ?_)
      refine lv_if_ne (tgt := 39) hx hb dC_constructor_33 rfl (fun hq => ?_) (fun hq => ?_)
      · have hf := ck_f hq hf
        refine lv_aload_n hx hb dC_constructor_39 rfl (lv_at hl 0 rfl) ?_
        refine ck_gr C h FC_declared dC_constructor_40 ?_
        refine lv_iload_n hx hb dC_constructor_43 rfl (lv_at hl 1 rfl) ?_
        refine lv_iload_n hx hb dC_constructor_44 rfl (lv_at hl 2 rfl) ?_
        refine lv_iload_n hx hb dC_constructor_45 rfl (lv_at hl 3 rfl) ?_
        obtain ⟨v8, st7, hc, hf⟩ := ck_b_e hf
        refine ck_vi (As := [.int x1, .int x2, .int x3]) (rest := []) (q := 1) C h hl CC_D_addConstructor sD_addConstructor q_D (cD_addConstructor l D cA ad hc) (Nat.le_of_ble_eq_true rfl) rfl rfl (Nat.le_of_ble_eq_true rfl) dC_constructor_46 (fun H locs h => ?_)
        exact ck_ri hf hret h dC_constructor_49
      · have hf := ck_t hq hf
        refine lv_bipush (v := (-3)) hx hb dC_constructor_36 (by decide) ?_
        exact ck_ri hf hret h dC_constructor_38
  · have hf := ck_f hq hf
    refine lv_bipush (v := (-2)) hx hb dC_constructor_10 (by decide) ?_
    exact ck_ri hf hret h dC_constructor_12
def fC_begin (x1 : Int32) (st : ck_S) : Option (Int32 × ck_S) := (ck_b (fM_isBegun st) fun v2 st1 => (if v2 = 0 then (ck_b (fD_isType x1 st1) fun v4 st3 => (if v4 = 0 then (some ((-3 : Int32), st3)) else (ck_b (fD_everyTypeHasValues st3) fun v6 st5 => (if v6 = 0 then (some ((-11 : Int32), st5)) else (ck_bv (fM_beginOver x1 st5) fun st7 => (some ((0 : Int32), st7))))))) else (some ((-2 : Int32), st1))))
set_option maxRecDepth 100000 in
set_option maxHeartbeats 4000000 in
theorem cC_begin (l : Launch) (D : va_G) (cA : Nat → ClassId) (ad : Nat → Nat) {x1 : Int32} {st : ck_S} {r0 : Int32} {st0 : ck_S} (hf : fC_begin x1 st = some (r0, st0)) : Met l yC_begin (.code yC_begin bC_begin 2 (some .int) :: ck_T) (ck_R 3) (va_Pc [.ref (ad 0), .int x1] (ck_P sh_C cm_cl D cA ad st)) (va_Qi (fun a u => a = r0 ∧ u = st0) (ck_P sh_C cm_cl D cA ad) (ck_A ad sh_C.length)) 0 0 (ck_A ad sh_C.length) := by
  refine ck_met_i (own := R_C) (by decide +kernel) rfl (Nat.le_of_ble_eq_true rfl) (fun p e R s m args below meth c H0 Q ls C hret h hl => ?_)
  have C1 := C
  obtain ⟨hx, hb, hml, hown, hts, hK, hlv, hlo⟩ := C1
  have hl : lv_has ls 2 [(0, .ref (ad 0)), (1, .int x1)] := hl
  unfold fC_begin at hf
  refine lv_aload_n hx hb dC_begin_0 rfl (lv_at hl 0 rfl) ?_
  refine ck_gr C h FC_match dC_begin_1 ?_
  obtain ⟨v2, st1, hc, hf⟩ := ck_b_e hf
  refine ck_vi (As := []) (rest := []) (q := 4) C h hl CC_M_isBegun sM_isBegun q_M (cM_isBegun l D cA ad hc) (Nat.le_of_ble_eq_true rfl) rfl rfl (Nat.le_of_ble_eq_true rfl) dC_begin_4 (fun H locs h => ?_)
  refine lv_if_eq (tgt := 13) hx hb dC_begin_7 rfl (fun hq => ?_) (fun hq => ?_)
  · have hf := ck_t hq hf
    refine lv_aload_n hx hb dC_begin_13 rfl (lv_at hl 0 rfl) ?_
    refine ck_gr C h FC_declared dC_begin_14 ?_
    refine lv_iload_n hx hb dC_begin_17 rfl (lv_at hl 1 rfl) ?_
    obtain ⟨v4, st3, hc, hf⟩ := ck_b_e hf
    refine ck_vi (As := [.int x1]) (rest := []) (q := 1) C h hl CC_D_isType sD_isType q_D (cD_isType l D cA ad hc) (Nat.le_of_ble_eq_true rfl) rfl rfl (Nat.le_of_ble_eq_true rfl) dC_begin_18 (fun H locs h => ?_)
    refine lv_if_ne (tgt := 27) hx hb dC_begin_21 rfl (fun hq => ?_) (fun hq => ?_)
    · have hf := ck_f hq hf
      refine lv_aload_n hx hb dC_begin_27 rfl (lv_at hl 0 rfl) ?_
      refine ck_gr C h FC_declared dC_begin_28 ?_
      obtain ⟨v6, st5, hc, hf⟩ := ck_b_e hf
      refine ck_vi (As := []) (rest := []) (q := 1) C h hl CC_D_everyTypeHasValues sD_everyTypeHasValues q_D (cD_everyTypeHasValues l D cA ad hc) (Nat.le_of_ble_eq_true rfl) rfl rfl (Nat.le_of_ble_eq_true rfl) dC_begin_31 (fun H locs h => ?_)
      refine lv_if_ne (tgt := 40) hx hb dC_begin_34 rfl (fun hq => ?_) (fun hq => ?_)
      · have hf := ck_f hq hf
        refine lv_aload_n hx hb dC_begin_40 rfl (lv_at hl 0 rfl) ?_
        refine ck_gr C h FC_match dC_begin_41 ?_
        refine lv_iload_n hx hb dC_begin_44 rfl (lv_at hl 1 rfl) ?_
        obtain ⟨st7, hc, hf⟩ := ck_bv_e hf
        refine ck_vv (As := [.int x1]) (rest := []) (q := 4) C h hl CC_M_beginOver sM_beginOver q_M (cM_beginOver l D cA ad hc) (Nat.le_of_ble_eq_true rfl) rfl rfl (Nat.le_of_ble_eq_true rfl) dC_begin_45 (fun H locs h => ?_)
        refine lv_iconst (v := 0) hx hb dC_begin_48 (by decide) ?_
        exact ck_ri hf hret h dC_begin_49
      · have hf := ck_t hq hf
        refine lv_bipush (v := (-11)) hx hb dC_begin_37 (by decide) ?_
        exact ck_ri hf hret h dC_begin_39
    · have hf := ck_t hq hf
      refine lv_bipush (v := (-3)) hx hb dC_begin_24 (by decide) ?_
      exact ck_ri hf hret h dC_begin_26
  · have hf := ck_f hq hf
    refine lv_bipush (v := (-2)) hx hb dC_begin_10 (by decide) ?_
    exact ck_ri hf hret h dC_begin_12
def fC_any (st : ck_S) : Option (Int32 × ck_S) := (ck_b (fP_addAny st) fun v2 st1 => (some (v2, st1)))
set_option maxRecDepth 100000 in
set_option maxHeartbeats 4000000 in
theorem cC_any (l : Launch) (D : va_G) (cA : Nat → ClassId) (ad : Nat → Nat) {st : ck_S} {r0 : Int32} {st0 : ck_S} (hf : fC_any st = some (r0, st0)) : Met l yC_any (.code yC_any bC_any 1 (some .int) :: ck_T) (ck_R 4) (va_Pc [.ref (ad 0)] (ck_P sh_C cm_cl D cA ad st)) (va_Qi (fun a u => a = r0 ∧ u = st0) (ck_P sh_C cm_cl D cA ad) (ck_A ad sh_C.length)) 0 0 (ck_A ad sh_C.length) := by
  refine ck_met_i (own := R_C) (by decide +kernel) rfl (Nat.le_of_ble_eq_true rfl) (fun p e R s m args below meth c H0 Q ls C hret h hl => ?_)
  have C1 := C
  obtain ⟨hx, hb, hml, hown, hts, hK, hlv, hlo⟩ := C1
  have hl : lv_has ls 1 [(0, .ref (ad 0))] := hl
  unfold fC_any at hf
  refine lv_aload_n hx hb dC_any_0 rfl (lv_at hl 0 rfl) ?_
  refine ck_gr C h FC_patterns dC_any_1 ?_
  obtain ⟨v2, st1, hc, hf⟩ := ck_b_e hf
  refine ck_vi (As := []) (rest := []) (q := 2) C h hl CC_P_addAny sP_addAny q_P (cP_addAny l D cA ad hc) (Nat.le_of_ble_eq_true rfl) rfl rfl (Nat.le_of_ble_eq_true rfl) dC_any_4 (fun H locs h => ?_)
  exact ck_ri hf hret h dC_any_7
def fC_number (x1 : Int32) (st : ck_S) : Option (Int32 × ck_S) := (ck_b (fP_addNumber x1 st) fun v2 st1 => (some (v2, st1)))
set_option maxRecDepth 100000 in
set_option maxHeartbeats 4000000 in
theorem cC_number (l : Launch) (D : va_G) (cA : Nat → ClassId) (ad : Nat → Nat) {x1 : Int32} {st : ck_S} {r0 : Int32} {st0 : ck_S} (hf : fC_number x1 st = some (r0, st0)) : Met l yC_number (.code yC_number bC_number 2 (some .int) :: ck_T) (ck_R 4) (va_Pc [.ref (ad 0), .int x1] (ck_P sh_C cm_cl D cA ad st)) (va_Qi (fun a u => a = r0 ∧ u = st0) (ck_P sh_C cm_cl D cA ad) (ck_A ad sh_C.length)) 0 0 (ck_A ad sh_C.length) := by
  refine ck_met_i (own := R_C) (by decide +kernel) rfl (Nat.le_of_ble_eq_true rfl) (fun p e R s m args below meth c H0 Q ls C hret h hl => ?_)
  have C1 := C
  obtain ⟨hx, hb, hml, hown, hts, hK, hlv, hlo⟩ := C1
  have hl : lv_has ls 2 [(0, .ref (ad 0)), (1, .int x1)] := hl
  unfold fC_number at hf
  refine lv_aload_n hx hb dC_number_0 rfl (lv_at hl 0 rfl) ?_
  refine ck_gr C h FC_patterns dC_number_1 ?_
  refine lv_iload_n hx hb dC_number_4 rfl (lv_at hl 1 rfl) ?_
  obtain ⟨v2, st1, hc, hf⟩ := ck_b_e hf
  refine ck_vi (As := [.int x1]) (rest := []) (q := 2) C h hl CC_P_addNumber sP_addNumber q_P (cP_addNumber l D cA ad hc) (Nat.le_of_ble_eq_true rfl) rfl rfl (Nat.le_of_ble_eq_true rfl) dC_number_5 (fun H locs h => ?_)
  exact ck_ri hf hret h dC_number_8
def fC_standsFor (x0 : Int32) (x1 : Int32) (x2 : Int32) (st : ck_S) : Option (Int32 × ck_S) := (if x2 = (-1 : Int32) then (if x0 = (-1 : Int32) then (some ((1 : Int32), st)) else (some ((0 : Int32), st))) else (ck_gz x1 (some (x1, st))))
set_option maxRecDepth 100000 in
set_option maxHeartbeats 4000000 in
theorem cC_standsFor (l : Launch) (D : va_G) (cA : Nat → ClassId) (ad : Nat → Nat) {x0 : Int32} {x1 : Int32} {x2 : Int32} {st : ck_S} {r0 : Int32} {st0 : ck_S} (hf : fC_standsFor x0 x1 x2 st = some (r0, st0)) : Met l yC_standsFor (.code yC_standsFor bC_standsFor 3 (some .boolean) :: ck_T) (ck_R 0) (va_Pc [.int x0, .int x1, .int x2] (ck_P sh_C cm_cl D cA ad st)) (va_Qi (fun a u => a = r0 ∧ u = st0) (ck_P sh_C cm_cl D cA ad) (ck_A ad sh_C.length)) 0 0 (ck_A ad sh_C.length) := by
  refine ck_met_z (own := R_C) (by decide +kernel) rfl (Nat.le_of_ble_eq_true rfl) (fun p e R s m args below meth c H0 Q ls C hret h hl => ?_)
  have C1 := C
  obtain ⟨hx, hb, hml, hown, hts, hK, hlv, hlo⟩ := C1
  have hl : lv_has ls 3 [(0, .int x0), (1, .int x1), (2, .int x2)] := hl
  unfold fC_standsFor at hf
  refine lv_iload_n hx hb dC_standsFor_0 rfl (lv_at hl 2 rfl) ?_
  refine lv_iconst (v := (-1)) hx hb dC_standsFor_1 (by decide) ?_
  refine lv_icmp_ne (tgt := 18) hx hb dC_standsFor_2 rfl (fun hq => ?_) (fun hq => ?_)
  · have hf := ck_f hq hf
    refine lv_iload_n hx hb dC_standsFor_18 rfl (lv_at hl 1 rfl) ?_
    obtain ⟨hz, hf⟩ := ck_gz_e hf
    exact ck_rz hf hret hz h dC_standsFor_19
  · have hf := ck_t hq hf
    refine lv_iload_n hx hb dC_standsFor_5 rfl (lv_at hl 0 rfl) ?_
    refine lv_iconst (v := (-1)) hx hb dC_standsFor_6 (by decide) ?_
    refine lv_icmp_ne (tgt := 14) hx hb dC_standsFor_7 rfl (fun hq => ?_) (fun hq => ?_)
    · have hf := ck_f hq hf
      refine lv_iconst (v := 0) hx hb dC_standsFor_14 (by decide) ?_
      refine lv_goto (tgt := 19) hx hb dC_standsFor_15 rfl ?_
      exact ck_rz hf hret ck_z0 h dC_standsFor_19
    · have hf := ck_t hq hf
      refine lv_iconst (v := 1) hx hb dC_standsFor_10 (by decide) ?_
      refine lv_goto (tgt := 19) hx hb dC_standsFor_11 rfl ?_
      exact ck_rz hf hret ck_z1 h dC_standsFor_19
def fC_build (x1 : Int32) (x2 : Int32) (x3 : Int32) (st : ck_S) : Option (Int32 × ck_S) := (ck_b (fD_isConstructor x1 st) fun v2 st1 => (if v2 = 0 then (some ((-4 : Int32), st1)) else (ck_b (fD_firstTypeOf x1 st1) fun v4 st3 => (ck_b (fD_secondTypeOf x1 st3) fun v6 st5 => (ck_b (fP_has x2 st5) fun v8 st7 => (ck_b (fC_standsFor x2 v8 v4 st7) fun v10 st9 => (if v10 = 0 then (some ((-5 : Int32), st9)) else (ck_b (fP_has x3 st9) fun v12 st11 => (ck_b (fC_standsFor x3 v12 v6 st11) fun v14 st13 => (if v14 = 0 then (some ((-5 : Int32), st13)) else (ck_b (fP_fits x2 v4 st13) fun v16 st15 => (if v16 = 0 then (some ((-7 : Int32), st15)) else (ck_b (fP_fits x3 v6 st15) fun v18 st17 => (if v18 = 0 then (some ((-7 : Int32), st17)) else (ck_b (fD_ownerOf x1 st17) fun v20 st19 => (ck_b (fP_addBuild x1 v20 x2 x3 st19) fun v22 st21 => (some (v22, st21))))))))))))))))))
set_option maxRecDepth 100000 in
set_option maxHeartbeats 4000000 in
theorem cC_build (l : Launch) (D : va_G) (cA : Nat → ClassId) (ad : Nat → Nat) {x1 : Int32} {x2 : Int32} {x3 : Int32} {st : ck_S} {r0 : Int32} {st0 : ck_S} (hf : fC_build x1 x2 x3 st = some (r0, st0)) : Met l yC_build (.code yC_build bC_build 6 (some .int) :: ck_T) (ck_R 4) (va_Pc [.ref (ad 0), .int x1, .int x2, .int x3] (ck_P sh_C cm_cl D cA ad st)) (va_Qi (fun a u => a = r0 ∧ u = st0) (ck_P sh_C cm_cl D cA ad) (ck_A ad sh_C.length)) 0 0 (ck_A ad sh_C.length) := by
  refine ck_met_i (own := R_C) (by decide +kernel) rfl (Nat.le_of_ble_eq_true rfl) (fun p e R s m args below meth c H0 Q ls C hret h hl => ?_)
  have C1 := C
  obtain ⟨hx, hb, hml, hown, hts, hK, hlv, hlo⟩ := C1
  have hl : lv_has ls 6 [(0, .ref (ad 0)), (1, .int x1), (2, .int x2), (3, .int x3)] := hl
  unfold fC_build at hf
  refine lv_aload_n hx hb dC_build_0 rfl (lv_at hl 0 rfl) ?_
  refine ck_gr C h FC_declared dC_build_1 ?_
  refine lv_iload_n hx hb dC_build_4 rfl (lv_at hl 1 rfl) ?_
  obtain ⟨v2, st1, hc, hf⟩ := ck_b_e hf
  refine ck_vi (As := [.int x1]) (rest := []) (q := 1) C h hl CC_D_isConstructor sD_isConstructor q_D (cD_isConstructor l D cA ad hc) (Nat.le_of_ble_eq_true rfl) rfl rfl (Nat.le_of_ble_eq_true rfl) dC_build_5 (fun H locs h => ?_)
  refine lv_if_ne (tgt := 14) hx hb dC_build_8 rfl (fun hq => ?_) (fun hq => ?_)
  · have hf := ck_f hq hf
    refine lv_aload_n hx hb dC_build_14 rfl (lv_at hl 0 rfl) ?_
    refine ck_gr C h FC_declared dC_build_15 ?_
    refine lv_iload_n hx hb dC_build_18 rfl (lv_at hl 1 rfl) ?_
    obtain ⟨v4, st3, hc, hf⟩ := ck_b_e hf
    refine ck_vi (As := [.int x1]) (rest := []) (q := 1) C h hl CC_D_firstTypeOf sD_firstTypeOf q_D (cD_firstTypeOf l D cA ad hc) (Nat.le_of_ble_eq_true rfl) rfl rfl (Nat.le_of_ble_eq_true rfl) dC_build_19 (fun H locs h => ?_)
    refine lv_istore (lv' := [(4, .int v4), (0, .ref (ad 0)), (1, .int x1), (2, .int x2), (3, .int x3)]) hx hb dC_build_22 hl (by decide) rfl (fun ls hl => ?_)
    refine lv_aload_n hx hb dC_build_24 rfl (lv_at hl 1 rfl) ?_
    refine ck_gr C h FC_declared dC_build_25 ?_
    refine lv_iload_n hx hb dC_build_28 rfl (lv_at hl 2 rfl) ?_
    obtain ⟨v6, st5, hc, hf⟩ := ck_b_e hf
    refine ck_vi (As := [.int x1]) (rest := []) (q := 1) C h hl CC_D_secondTypeOf sD_secondTypeOf q_D (cD_secondTypeOf l D cA ad hc) (Nat.le_of_ble_eq_true rfl) rfl rfl (Nat.le_of_ble_eq_true rfl) dC_build_29 (fun H locs h => ?_)
    refine lv_istore (lv' := [(5, .int v6), (4, .int v4), (0, .ref (ad 0)), (1, .int x1), (2, .int x2), (3, .int x3)]) hx hb dC_build_32 hl (by decide) rfl (fun ls hl => ?_)
    refine lv_iload_n hx hb dC_build_34 rfl (lv_at hl 4 rfl) ?_
    refine lv_aload_n hx hb dC_build_35 rfl (lv_at hl 2 rfl) ?_
    refine ck_gr C h FC_patterns dC_build_36 ?_
    refine lv_iload_n hx hb dC_build_39 rfl (lv_at hl 4 rfl) ?_
    obtain ⟨v8, st7, hc, hf⟩ := ck_b_e hf
    refine ck_vi (As := [.int x2]) (rest := [.int x2]) (q := 2) C h hl CC_P_has sP_has q_P (cP_has l D cA ad hc) (Nat.le_of_ble_eq_true rfl) rfl rfl (Nat.le_of_ble_eq_true rfl) dC_build_40 (fun H locs h => ?_)
    refine lv_iload hx hb dC_build_43 (lv_at hl 1 rfl) ?_
    obtain ⟨v10, st9, hc, hf⟩ := ck_b_e hf
    refine ck_ti (As := [.int x2, .int v8, .int v4]) (rest := []) C h hl CC_C_standsFor sC_standsFor (cC_standsFor l D cA ad hc) (Nat.le_of_ble_eq_true rfl) rfl rfl (Nat.le_of_ble_eq_true rfl) dC_build_45 (fun H locs h => ?_)
    refine lv_if_eq (tgt := 68) hx hb dC_build_48 rfl (fun hq => ?_) (fun hq => ?_)
    · have hf := ck_t hq hf
      refine lv_bipush (v := (-5)) hx hb dC_build_68 (by decide) ?_
      exact ck_ri hf hret h dC_build_70
    · have hf := ck_f hq hf
      refine lv_iload_n hx hb dC_build_51 rfl (lv_at hl 5 rfl) ?_
      refine lv_aload_n hx hb dC_build_52 rfl (lv_at hl 2 rfl) ?_
      refine ck_gr C h FC_patterns dC_build_53 ?_
      refine lv_iload_n hx hb dC_build_56 rfl (lv_at hl 5 rfl) ?_
      obtain ⟨v12, st11, hc, hf⟩ := ck_b_e hf
      refine ck_vi (As := [.int x3]) (rest := [.int x3]) (q := 2) C h hl CC_P_has sP_has q_P (cP_has l D cA ad hc) (Nat.le_of_ble_eq_true rfl) rfl rfl (Nat.le_of_ble_eq_true rfl) dC_build_57 (fun H locs h => ?_)
      refine lv_iload hx hb dC_build_60 (lv_at hl 0 rfl) ?_
      obtain ⟨v14, st13, hc, hf⟩ := ck_b_e hf
      refine ck_ti (As := [.int x3, .int v12, .int v6]) (rest := []) C h hl CC_C_standsFor sC_standsFor (cC_standsFor l D cA ad hc) (Nat.le_of_ble_eq_true rfl) rfl rfl (Nat.le_of_ble_eq_true rfl) dC_build_62 (fun H locs h => ?_)
      refine lv_if_ne (tgt := 71) hx hb dC_build_65 rfl (fun hq => ?_) (fun hq => ?_)
      · have hf := ck_f hq hf
        refine lv_aload_n hx hb dC_build_71 rfl (lv_at hl 2 rfl) ?_
        refine ck_gr C h FC_patterns dC_build_72 ?_
        refine lv_iload_n hx hb dC_build_75 rfl (lv_at hl 4 rfl) ?_
        refine lv_iload hx hb dC_build_76 (lv_at hl 1 rfl) ?_
        obtain ⟨v16, st15, hc, hf⟩ := ck_b_e hf
        refine ck_vi (As := [.int x2, .int v4]) (rest := []) (q := 2) C h hl CC_P_fits sP_fits q_P (cP_fits l D cA ad hc) (Nat.le_of_ble_eq_true rfl) rfl rfl (Nat.le_of_ble_eq_true rfl) dC_build_78 (fun H locs h => ?_)
        refine lv_if_eq (tgt := 97) hx hb dC_build_81 rfl (fun hq => ?_) (fun hq => ?_)
        · have hf := ck_t hq hf
          refine lv_bipush (v := (-7)) hx hb dC_build_97 (by decide) ?_
          exact ck_ri hf hret h dC_build_99
        · have hf := ck_f hq hf
          refine lv_aload_n hx hb dC_build_84 rfl (lv_at hl 2 rfl) ?_
          refine ck_gr C h FC_patterns dC_build_85 ?_
          refine lv_iload_n hx hb dC_build_88 rfl (lv_at hl 5 rfl) ?_
          refine lv_iload hx hb dC_build_89 (lv_at hl 0 rfl) ?_
          obtain ⟨v18, st17, hc, hf⟩ := ck_b_e hf
          refine ck_vi (As := [.int x3, .int v6]) (rest := []) (q := 2) C h hl CC_P_fits sP_fits q_P (cP_fits l D cA ad hc) (Nat.le_of_ble_eq_true rfl) rfl rfl (Nat.le_of_ble_eq_true rfl) dC_build_91 (fun H locs h => ?_)
          refine lv_if_ne (tgt := 100) hx hb dC_build_94 rfl (fun hq => ?_) (fun hq => ?_)
          · have hf := ck_f hq hf
            refine lv_aload_n hx hb dC_build_100 rfl (lv_at hl 2 rfl) ?_
            refine ck_gr C h FC_patterns dC_build_101 ?_
            refine lv_iload_n hx hb dC_build_104 rfl (lv_at hl 3 rfl) ?_
            refine lv_aload_n hx hb dC_build_105 rfl (lv_at hl 2 rfl) ?_
            refine ck_gr C h FC_declared dC_build_106 ?_
            refine lv_iload_n hx hb dC_build_109 rfl (lv_at hl 3 rfl) ?_
            obtain ⟨v20, st19, hc, hf⟩ := ck_b_e hf
            refine ck_vi (As := [.int x1]) (rest := [.int x1, .ref (ad 2)]) (q := 1) C h hl CC_D_ownerOf sD_ownerOf q_D (cD_ownerOf l D cA ad hc) (Nat.le_of_ble_eq_true rfl) rfl rfl (Nat.le_of_ble_eq_true rfl) dC_build_110 (fun H locs h => ?_)
            refine lv_iload_n hx hb dC_build_113 rfl (lv_at hl 4 rfl) ?_
            refine lv_iload_n hx hb dC_build_114 rfl (lv_at hl 5 rfl) ?_
            obtain ⟨v22, st21, hc, hf⟩ := ck_b_e hf
            refine ck_vi (As := [.int x1, .int v20, .int x2, .int x3]) (rest := []) (q := 2) C h hl CC_P_addBuild sP_addBuild q_P (cP_addBuild l D cA ad hc) (Nat.le_of_ble_eq_true rfl) rfl rfl (Nat.le_of_ble_eq_true rfl) dC_build_115 (fun H locs h => ?_)
            exact ck_ri hf hret h dC_build_118
          · have hf := ck_t hq hf
            refine lv_bipush (v := (-7)) hx hb dC_build_97 (by decide) ?_
            exact ck_ri hf hret h dC_build_99
      · have hf := ck_t hq hf
        refine lv_bipush (v := (-5)) hx hb dC_build_68 (by decide) ?_
        exact ck_ri hf hret h dC_build_70
  · have hf := ck_t hq hf
    refine lv_bipush (v := (-4)) hx hb dC_build_11 (by decide) ?_
    exact ck_ri hf hret h dC_build_13
def fC_either (x1 : Int32) (x2 : Int32) (st : ck_S) : Option (Int32 × ck_S) := (ck_b (fP_has x1 st) fun v2 st1 => (if v2 = 0 then (some ((-5 : Int32), st1)) else (ck_b (fP_has x2 st1) fun v4 st3 => (if v4 = 0 then (some ((-5 : Int32), st3)) else (ck_b (fP_agree x1 x2 st3) fun v6 st5 => (if v6 = 0 then (some ((-7 : Int32), st5)) else (ck_b (fP_addEither x1 x2 st5) fun v8 st7 => (some (v8, st7)))))))))
set_option maxRecDepth 100000 in
set_option maxHeartbeats 4000000 in
theorem cC_either (l : Launch) (D : va_G) (cA : Nat → ClassId) (ad : Nat → Nat) {x1 : Int32} {x2 : Int32} {st : ck_S} {r0 : Int32} {st0 : ck_S} (hf : fC_either x1 x2 st = some (r0, st0)) : Met l yC_either (.code yC_either bC_either 3 (some .int) :: ck_T) (ck_R 4) (va_Pc [.ref (ad 0), .int x1, .int x2] (ck_P sh_C cm_cl D cA ad st)) (va_Qi (fun a u => a = r0 ∧ u = st0) (ck_P sh_C cm_cl D cA ad) (ck_A ad sh_C.length)) 0 0 (ck_A ad sh_C.length) := by
  refine ck_met_i (own := R_C) (by decide +kernel) rfl (Nat.le_of_ble_eq_true rfl) (fun p e R s m args below meth c H0 Q ls C hret h hl => ?_)
  have C1 := C
  obtain ⟨hx, hb, hml, hown, hts, hK, hlv, hlo⟩ := C1
  have hl : lv_has ls 3 [(0, .ref (ad 0)), (1, .int x1), (2, .int x2)] := hl
  unfold fC_either at hf
  refine lv_aload_n hx hb dC_either_0 rfl (lv_at hl 0 rfl) ?_
  refine ck_gr C h FC_patterns dC_either_1 ?_
  refine lv_iload_n hx hb dC_either_4 rfl (lv_at hl 1 rfl) ?_
  obtain ⟨v2, st1, hc, hf⟩ := ck_b_e hf
  refine ck_vi (As := [.int x1]) (rest := []) (q := 2) C h hl CC_P_has sP_has q_P (cP_has l D cA ad hc) (Nat.le_of_ble_eq_true rfl) rfl rfl (Nat.le_of_ble_eq_true rfl) dC_either_5 (fun H locs h => ?_)
  refine lv_if_eq (tgt := 22) hx hb dC_either_8 rfl (fun hq => ?_) (fun hq => ?_)
  · have hf := ck_t hq hf
    refine lv_bipush (v := (-5)) hx hb dC_either_22 (by decide) ?_
    exact ck_ri hf hret h dC_either_24
  · have hf := ck_f hq hf
    refine lv_aload_n hx hb dC_either_11 rfl (lv_at hl 0 rfl) ?_
    refine ck_gr C h FC_patterns dC_either_12 ?_
    refine lv_iload_n hx hb dC_either_15 rfl (lv_at hl 2 rfl) ?_
    obtain ⟨v4, st3, hc, hf⟩ := ck_b_e hf
    refine ck_vi (As := [.int x2]) (rest := []) (q := 2) C h hl CC_P_has sP_has q_P (cP_has l D cA ad hc) (Nat.le_of_ble_eq_true rfl) rfl rfl (Nat.le_of_ble_eq_true rfl) dC_either_16 (fun H locs h => ?_)
    refine lv_if_ne (tgt := 25) hx hb dC_either_19 rfl (fun hq => ?_) (fun hq => ?_)
    · have hf := ck_f hq hf
      refine lv_aload_n hx hb dC_either_25 rfl (lv_at hl 0 rfl) ?_
      refine ck_gr C h FC_patterns dC_either_26 ?_
      refine lv_iload_n hx hb dC_either_29 rfl (lv_at hl 1 rfl) ?_
      refine lv_iload_n hx hb dC_either_30 rfl (lv_at hl 2 rfl) ?_
      obtain ⟨v6, st5, hc, hf⟩ := ck_b_e hf
      refine ck_vi (As := [.int x1, .int x2]) (rest := []) (q := 2) C h hl CC_P_agree sP_agree q_P (cP_agree l D cA ad hc) (Nat.le_of_ble_eq_true rfl) rfl rfl (Nat.le_of_ble_eq_true rfl) dC_either_31 (fun H locs h => ?_)
      refine lv_if_ne (tgt := 40) hx hb dC_either_34 rfl (fun hq => ?_) (fun hq => ?_)
      · have hf := ck_f hq hf
        refine lv_aload_n hx hb dC_either_40 rfl (lv_at hl 0 rfl) ?_
        refine ck_gr C h FC_patterns dC_either_41 ?_
        refine lv_iload_n hx hb dC_either_44 rfl (lv_at hl 1 rfl) ?_
        refine lv_iload_n hx hb dC_either_45 rfl (lv_at hl 2 rfl) ?_
        obtain ⟨v8, st7, hc, hf⟩ := ck_b_e hf
        refine ck_vi (As := [.int x1, .int x2]) (rest := []) (q := 2) C h hl CC_P_addEither sP_addEither q_P (cP_addEither l D cA ad hc) (Nat.le_of_ble_eq_true rfl) rfl rfl (Nat.le_of_ble_eq_true rfl) dC_either_46 (fun H locs h => ?_)
        exact ck_ri hf hret h dC_either_49
      · have hf := ck_t hq hf
        refine lv_bipush (v := (-7)) hx hb dC_either_37 (by decide) ?_
        exact ck_ri hf hret h dC_either_39
    · have hf := ck_t hq hf
      refine lv_bipush (v := (-5)) hx hb dC_either_22 (by decide) ?_
      exact ck_ri hf hret h dC_either_24
def fC_row (x1 : Int32) (st : ck_S) : Option (Int32 × ck_S) := (ck_b (fM_isBegun st) fun v2 st1 => (if v2 = 0 then (some ((-12 : Int32), st1)) else (ck_b (fP_has x1 st1) fun v4 st3 => (if v4 = 0 then (some ((-5 : Int32), st3)) else (ck_b (fM_typeOver st3) fun v6 st5 => (ck_b (fP_fits x1 v6 st5) fun v8 st7 => (if v8 = 0 then (some ((-7 : Int32), st7)) else (ck_b (fM_addRow x1 st7) fun v10 st9 => (if v10 = (-8 : Int32) then (some (v10, st9)) else (ck_bv (fT_drop st9) fun st11 => (some (v10, st11))))))))))))
set_option maxRecDepth 100000 in
set_option maxHeartbeats 4000000 in
theorem cC_row (l : Launch) (D : va_G) (cA : Nat → ClassId) (ad : Nat → Nat) {x1 : Int32} {st : ck_S} {r0 : Int32} {st0 : ck_S} (hf : fC_row x1 st = some (r0, st0)) : Met l yC_row (.code yC_row bC_row 3 (some .int) :: ck_T) (ck_R 12) (va_Pc [.ref (ad 0), .int x1] (ck_P sh_C cm_cl D cA ad st)) (va_Qi (fun a u => a = r0 ∧ u = st0) (ck_P sh_C cm_cl D cA ad) (ck_A ad sh_C.length)) 0 0 (ck_A ad sh_C.length) := by
  refine ck_met_i (own := R_C) (by decide +kernel) rfl (Nat.le_of_ble_eq_true rfl) (fun p e R s m args below meth c H0 Q ls C hret h hl => ?_)
  have C1 := C
  obtain ⟨hx, hb, hml, hown, hts, hK, hlv, hlo⟩ := C1
  have hl : lv_has ls 3 [(0, .ref (ad 0)), (1, .int x1)] := hl
  unfold fC_row at hf
  refine lv_aload_n hx hb dC_row_0 rfl (lv_at hl 0 rfl) ?_
  refine ck_gr C h FC_match dC_row_1 ?_
  obtain ⟨v2, st1, hc, hf⟩ := ck_b_e hf
  refine ck_vi (As := []) (rest := []) (q := 4) C h hl CC_M_isBegun sM_isBegun q_M (cM_isBegun l D cA ad hc) (Nat.le_of_ble_eq_true rfl) rfl rfl (Nat.le_of_ble_eq_true rfl) dC_row_4 (fun H locs h => ?_)
  refine lv_if_ne (tgt := 13) hx hb dC_row_7 rfl (fun hq => ?_) (fun hq => ?_)
  · have hf := ck_f hq hf
    refine lv_aload_n hx hb dC_row_13 rfl (lv_at hl 0 rfl) ?_
    refine ck_gr C h FC_patterns dC_row_14 ?_
    refine lv_iload_n hx hb dC_row_17 rfl (lv_at hl 1 rfl) ?_
    obtain ⟨v4, st3, hc, hf⟩ := ck_b_e hf
    refine ck_vi (As := [.int x1]) (rest := []) (q := 2) C h hl CC_P_has sP_has q_P (cP_has l D cA ad hc) (Nat.le_of_ble_eq_true rfl) rfl rfl (Nat.le_of_ble_eq_true rfl) dC_row_18 (fun H locs h => ?_)
    refine lv_if_ne (tgt := 27) hx hb dC_row_21 rfl (fun hq => ?_) (fun hq => ?_)
    · have hf := ck_f hq hf
      refine lv_aload_n hx hb dC_row_27 rfl (lv_at hl 0 rfl) ?_
      refine ck_gr C h FC_patterns dC_row_28 ?_
      refine lv_iload_n hx hb dC_row_31 rfl (lv_at hl 1 rfl) ?_
      refine lv_aload_n hx hb dC_row_32 rfl (lv_at hl 0 rfl) ?_
      refine ck_gr C h FC_match dC_row_33 ?_
      obtain ⟨v6, st5, hc, hf⟩ := ck_b_e hf
      refine ck_vi (As := []) (rest := [.int x1, .ref (ad 2)]) (q := 4) C h hl CC_M_typeOver sM_typeOver q_M (cM_typeOver l D cA ad hc) (Nat.le_of_ble_eq_true rfl) rfl rfl (Nat.le_of_ble_eq_true rfl) dC_row_36 (fun H locs h => ?_)
      obtain ⟨v8, st7, hc, hf⟩ := ck_b_e hf
      refine ck_vi (As := [.int x1, .int v6]) (rest := []) (q := 2) C h hl CC_P_fits sP_fits q_P (cP_fits l D cA ad hc) (Nat.le_of_ble_eq_true rfl) rfl rfl (Nat.le_of_ble_eq_true rfl) dC_row_39 (fun H locs h => ?_)
      refine lv_if_ne (tgt := 48) hx hb dC_row_42 rfl (fun hq => ?_) (fun hq => ?_)
      · have hf := ck_f hq hf
        refine lv_aload_n hx hb dC_row_48 rfl (lv_at hl 0 rfl) ?_
        refine ck_gr C h FC_match dC_row_49 ?_
        refine lv_iload_n hx hb dC_row_52 rfl (lv_at hl 1 rfl) ?_
        obtain ⟨v10, st9, hc, hf⟩ := ck_b_e hf
        refine ck_vi (As := [.int x1]) (rest := []) (q := 4) C h hl CC_M_addRow sM_addRow q_M (cM_addRow l D cA ad hc) (Nat.le_of_ble_eq_true rfl) rfl rfl (Nat.le_of_ble_eq_true rfl) dC_row_53 (fun H locs h => ?_)
        refine lv_istore_n (lv' := [(2, .int v10), (0, .ref (ad 0)), (1, .int x1)]) hx hb dC_row_56 rfl hl (by decide) rfl (fun ls hl => ?_)
        refine lv_iload_n hx hb dC_row_57 rfl (lv_at hl 0 rfl) ?_
        refine lv_bipush (v := (-8)) hx hb dC_row_58 (by decide) ?_
        refine lv_icmp_eq (tgt := 70) hx hb dC_row_60 rfl (fun hq => ?_) (fun hq => ?_)
        · have hf := ck_t hq hf
          refine lv_iload_n hx hb dC_row_70 rfl (lv_at hl 0 rfl) ?_
          exact ck_ri hf hret h dC_row_71
        · have hf := ck_f hq hf
          refine lv_aload_n hx hb dC_row_63 rfl (lv_at hl 1 rfl) ?_
          refine ck_gr C h FC_tree dC_row_64 ?_
          obtain ⟨st11, hc, hf⟩ := ck_bv_e hf
          refine ck_vv (As := []) (rest := []) (q := 5) C h hl CC_T_drop sT_drop q_T (cT_drop l D cA ad hc) (Nat.le_of_ble_eq_true rfl) rfl rfl (Nat.le_of_ble_eq_true rfl) dC_row_67 (fun H locs h => ?_)
          refine lv_iload_n hx hb dC_row_70 rfl (lv_at hl 0 rfl) ?_
          exact ck_ri hf hret h dC_row_71
      · have hf := ck_t hq hf
        refine lv_bipush (v := (-7)) hx hb dC_row_45 (by decide) ?_
        exact ck_ri hf hret h dC_row_47
    · have hf := ck_t hq hf
      refine lv_bipush (v := (-5)) hx hb dC_row_24 (by decide) ?_
      exact ck_ri hf hret h dC_row_26
  · have hf := ck_t hq hf
    refine lv_bipush (v := (-12)) hx hb dC_row_10 (by decide) ?_
    exact ck_ri hf hret h dC_row_12
def fC_compile (st : ck_S) : Option (Int32 × ck_S) := (ck_b (fM_isBegun st) fun v2 st1 => (if v2 = 0 then (some ((-12 : Int32), st1)) else (ck_b (fT_grow st1) fun v4 st3 => (if v4 = 0 then (some ((-14 : Int32), st3)) else (ck_bv (fG_readFromTree st3) fun st5 => (ck_b (fT_size st5) fun v7 st6 => (some (v7, st6))))))))
set_option maxRecDepth 100000 in
set_option maxHeartbeats 4000000 in
theorem cC_compile (l : Launch) (D : va_G) (cA : Nat → ClassId) (ad : Nat → Nat) {st : ck_S} {r0 : Int32} {st0 : ck_S} (hf : fC_compile st = some (r0, st0)) : Met l yC_compile (.code yC_compile bC_compile 1 (some .int) :: ck_T) (ck_R 12) (va_Pc [.ref (ad 0)] (ck_P sh_C cm_cl D cA ad st)) (va_Qi (fun a u => a = r0 ∧ u = st0) (ck_P sh_C cm_cl D cA ad) (ck_A ad sh_C.length)) 0 0 (ck_A ad sh_C.length) := by
  refine ck_met_i (own := R_C) (by decide +kernel) rfl (Nat.le_of_ble_eq_true rfl) (fun p e R s m args below meth c H0 Q ls C hret h hl => ?_)
  have C1 := C
  obtain ⟨hx, hb, hml, hown, hts, hK, hlv, hlo⟩ := C1
  have hl : lv_has ls 1 [(0, .ref (ad 0))] := hl
  unfold fC_compile at hf
  refine lv_aload_n hx hb dC_compile_0 rfl (lv_at hl 0 rfl) ?_
  refine ck_gr C h FC_match dC_compile_1 ?_
  obtain ⟨v2, st1, hc, hf⟩ := ck_b_e hf
  refine ck_vi (As := []) (rest := []) (q := 4) C h hl CC_M_isBegun sM_isBegun q_M (cM_isBegun l D cA ad hc) (Nat.le_of_ble_eq_true rfl) rfl rfl (Nat.le_of_ble_eq_true rfl) dC_compile_4 (fun H locs h => ?_)
  refine lv_if_ne (tgt := 13) hx hb dC_compile_7 rfl (fun hq => ?_) (fun hq => ?_)
  · have hf := ck_f hq hf
    refine lv_aload_n hx hb dC_compile_13 rfl (lv_at hl 0 rfl) ?_
    refine ck_gr C h FC_tree dC_compile_14 ?_
    obtain ⟨v4, st3, hc, hf⟩ := ck_b_e hf
    refine ck_vi (As := []) (rest := []) (q := 5) C h hl CC_T_grow sT_grow q_T (cT_grow l D cA ad hc) (Nat.le_of_ble_eq_true rfl) rfl rfl (Nat.le_of_ble_eq_true rfl) dC_compile_17 (fun H locs h => ?_)
    refine lv_if_ne (tgt := 26) hx hb dC_compile_20 rfl (fun hq => ?_) (fun hq => ?_)
    · have hf := ck_f hq hf
      refine lv_aload_n hx hb dC_compile_26 rfl (lv_at hl 0 rfl) ?_
      refine ck_gr C h FC_gap dC_compile_27 ?_
      obtain ⟨st5, hc, hf⟩ := ck_bv_e hf
      refine ck_vv (As := []) (rest := []) (q := 6) C h hl CC_G_readFromTree sG_readFromTree q_G (cG_readFromTree l D cA ad hc) (Nat.le_of_ble_eq_true rfl) rfl rfl (Nat.le_of_ble_eq_true rfl) dC_compile_30 (fun H locs h => ?_)
      refine lv_aload_n hx hb dC_compile_33 rfl (lv_at hl 0 rfl) ?_
      refine ck_gr C h FC_tree dC_compile_34 ?_
      obtain ⟨v7, st6, hc, hf⟩ := ck_b_e hf
      refine ck_vi (As := []) (rest := []) (q := 5) C h hl CC_T_size sT_size q_T (cT_size l D cA ad hc) (Nat.le_of_ble_eq_true rfl) rfl rfl (Nat.le_of_ble_eq_true rfl) dC_compile_37 (fun H locs h => ?_)
      exact ck_ri hf hret h dC_compile_40
    · have hf := ck_t hq hf
      refine lv_bipush (v := (-14)) hx hb dC_compile_23 (by decide) ?_
      exact ck_ri hf hret h dC_compile_25
  · have hf := ck_t hq hf
    refine lv_bipush (v := (-12)) hx hb dC_compile_10 (by decide) ?_
    exact ck_ri hf hret h dC_compile_12
def fC_kinds (st : ck_S) : Option (Int32 × ck_S) := (ck_b (fT_isThere st) fun v2 st1 => (if v2 = 0 then (some ((-13 : Int32), st1)) else (ck_b (fT_countKinds st1) fun v4 st3 => (some (v4, st3)))))
set_option maxRecDepth 100000 in
set_option maxHeartbeats 4000000 in
theorem cC_kinds (l : Launch) (D : va_G) (cA : Nat → ClassId) (ad : Nat → Nat) {st : ck_S} {r0 : Int32} {st0 : ck_S} (hf : fC_kinds st = some (r0, st0)) : Met l yC_kinds (.code yC_kinds bC_kinds 1 (some .int) :: ck_T) (ck_R 2) (va_Pc [.ref (ad 0)] (ck_P sh_C cm_cl D cA ad st)) (va_Qi (fun a u => a = r0 ∧ u = st0) (ck_P sh_C cm_cl D cA ad) (ck_A ad sh_C.length)) 0 0 (ck_A ad sh_C.length) := by
  refine ck_met_i (own := R_C) (by decide +kernel) rfl (Nat.le_of_ble_eq_true rfl) (fun p e R s m args below meth c H0 Q ls C hret h hl => ?_)
  have C1 := C
  obtain ⟨hx, hb, hml, hown, hts, hK, hlv, hlo⟩ := C1
  have hl : lv_has ls 1 [(0, .ref (ad 0))] := hl
  unfold fC_kinds at hf
  refine lv_aload_n hx hb dC_kinds_0 rfl (lv_at hl 0 rfl) ?_
  refine ck_gr C h FC_tree dC_kinds_1 ?_
  obtain ⟨v2, st1, hc, hf⟩ := ck_b_e hf
  refine ck_vi (As := []) (rest := []) (q := 5) C h hl CC_T_isThere sT_isThere q_T (cT_isThere l D cA ad hc) (Nat.le_of_ble_eq_true rfl) rfl rfl (Nat.le_of_ble_eq_true rfl) dC_kinds_4 (fun H locs h => ?_)
  refine lv_if_eq (tgt := 20) hx hb dC_kinds_7 rfl (fun hq => ?_) (fun hq => ?_)
  · have hf := ck_t hq hf
    refine lv_bipush (v := (-13)) hx hb dC_kinds_20 (by decide) ?_
    exact ck_ri hf hret h dC_kinds_22
  · have hf := ck_f hq hf
    refine lv_aload_n hx hb dC_kinds_10 rfl (lv_at hl 0 rfl) ?_
    refine ck_gr C h FC_tree dC_kinds_11 ?_
    obtain ⟨v4, st3, hc, hf⟩ := ck_b_e hf
    refine ck_vi (As := []) (rest := []) (q := 5) C h hl CC_T_countKinds sT_countKinds q_T (cT_countKinds l D cA ad hc) (Nat.le_of_ble_eq_true rfl) rfl rfl (Nat.le_of_ble_eq_true rfl) dC_kinds_14 (fun H locs h => ?_)
    refine lv_goto (tgt := 22) hx hb dC_kinds_17 rfl ?_
    exact ck_ri hf hret h dC_kinds_22
def fC_longest (st : ck_S) : Option (Int32 × ck_S) := (ck_b (fT_isThere st) fun v2 st1 => (if v2 = 0 then (some ((-13 : Int32), st1)) else (ck_b (fT_mostTests st1) fun v4 st3 => (some (v4, st3)))))
set_option maxRecDepth 100000 in
set_option maxHeartbeats 4000000 in
theorem cC_longest (l : Launch) (D : va_G) (cA : Nat → ClassId) (ad : Nat → Nat) {st : ck_S} {r0 : Int32} {st0 : ck_S} (hf : fC_longest st = some (r0, st0)) : Met l yC_longest (.code yC_longest bC_longest 1 (some .int) :: ck_T) (ck_R 2) (va_Pc [.ref (ad 0)] (ck_P sh_C cm_cl D cA ad st)) (va_Qi (fun a u => a = r0 ∧ u = st0) (ck_P sh_C cm_cl D cA ad) (ck_A ad sh_C.length)) 0 0 (ck_A ad sh_C.length) := by
  refine ck_met_i (own := R_C) (by decide +kernel) rfl (Nat.le_of_ble_eq_true rfl) (fun p e R s m args below meth c H0 Q ls C hret h hl => ?_)
  have C1 := C
  obtain ⟨hx, hb, hml, hown, hts, hK, hlv, hlo⟩ := C1
  have hl : lv_has ls 1 [(0, .ref (ad 0))] := hl
  unfold fC_longest at hf
  refine lv_aload_n hx hb dC_longest_0 rfl (lv_at hl 0 rfl) ?_
  refine ck_gr C h FC_tree dC_longest_1 ?_
  obtain ⟨v2, st1, hc, hf⟩ := ck_b_e hf
  refine ck_vi (As := []) (rest := []) (q := 5) C h hl CC_T_isThere sT_isThere q_T (cT_isThere l D cA ad hc) (Nat.le_of_ble_eq_true rfl) rfl rfl (Nat.le_of_ble_eq_true rfl) dC_longest_4 (fun H locs h => ?_)
  refine lv_if_eq (tgt := 20) hx hb dC_longest_7 rfl (fun hq => ?_) (fun hq => ?_)
  · have hf := ck_t hq hf
    refine lv_bipush (v := (-13)) hx hb dC_longest_20 (by decide) ?_
    exact ck_ri hf hret h dC_longest_22
  · have hf := ck_f hq hf
    refine lv_aload_n hx hb dC_longest_10 rfl (lv_at hl 0 rfl) ?_
    refine ck_gr C h FC_tree dC_longest_11 ?_
    obtain ⟨v4, st3, hc, hf⟩ := ck_b_e hf
    refine ck_vi (As := []) (rest := []) (q := 5) C h hl CC_T_mostTests sT_mostTests q_T (cT_mostTests l D cA ad hc) (Nat.le_of_ble_eq_true rfl) rfl rfl (Nat.le_of_ble_eq_true rfl) dC_longest_14 (fun H locs h => ?_)
    refine lv_goto (tgt := 22) hx hb dC_longest_17 rfl ?_
    exact ck_ri hf hret h dC_longest_22
def fC_useless (x1 : Int32) (st : ck_S) : Option (Int32 × ck_S) := (ck_b (fT_isThere st) fun v2 st1 => (if v2 = 0 then (some ((-13 : Int32), st1)) else (ck_b (fM_hasRow x1 st1) fun v4 st3 => (if v4 = 0 then (some ((-15 : Int32), st3)) else (ck_b (fT_caught st3) fun v6 st5 => (ck_b (fM_alternativesOutside v6 x1 st5) fun v8 st7 => (some (v8, st7))))))))
set_option maxRecDepth 100000 in
set_option maxHeartbeats 4000000 in
theorem cC_useless (l : Launch) (D : va_G) (cA : Nat → ClassId) (ad : Nat → Nat) {x1 : Int32} {st : ck_S} {r0 : Int32} {st0 : ck_S} (hf : fC_useless x1 st = some (r0, st0)) : Met l yC_useless (.code yC_useless bC_useless 2 (some .int) :: ck_T) (ck_R 2) (va_Pc [.ref (ad 0), .int x1] (ck_P sh_C cm_cl D cA ad st)) (va_Qi (fun a u => a = r0 ∧ u = st0) (ck_P sh_C cm_cl D cA ad) (ck_A ad sh_C.length)) 0 0 (ck_A ad sh_C.length) := by
  refine ck_met_i (own := R_C) (by decide +kernel) rfl (Nat.le_of_ble_eq_true rfl) (fun p e R s m args below meth c H0 Q ls C hret h hl => ?_)
  have C1 := C
  obtain ⟨hx, hb, hml, hown, hts, hK, hlv, hlo⟩ := C1
  have hl : lv_has ls 2 [(0, .ref (ad 0)), (1, .int x1)] := hl
  unfold fC_useless at hf
  refine lv_aload_n hx hb dC_useless_0 rfl (lv_at hl 0 rfl) ?_
  refine ck_gr C h FC_tree dC_useless_1 ?_
  obtain ⟨v2, st1, hc, hf⟩ := ck_b_e hf
  refine ck_vi (As := []) (rest := []) (q := 5) C h hl CC_T_isThere sT_isThere q_T (cT_isThere l D cA ad hc) (Nat.le_of_ble_eq_true rfl) rfl rfl (Nat.le_of_ble_eq_true rfl) dC_useless_4 (fun H locs h => ?_)
  refine lv_if_ne (tgt := 13) hx hb dC_useless_7 rfl (fun hq => ?_) (fun hq => ?_)
  · have hf := ck_f hq hf
    refine lv_aload_n hx hb dC_useless_13 rfl (lv_at hl 0 rfl) ?_
    refine ck_gr C h FC_match dC_useless_14 ?_
    refine lv_iload_n hx hb dC_useless_17 rfl (lv_at hl 1 rfl) ?_
    obtain ⟨v4, st3, hc, hf⟩ := ck_b_e hf
    refine ck_vi (As := [.int x1]) (rest := []) (q := 4) C h hl CC_M_hasRow sM_hasRow q_M (cM_hasRow l D cA ad hc) (Nat.le_of_ble_eq_true rfl) rfl rfl (Nat.le_of_ble_eq_true rfl) dC_useless_18 (fun H locs h => ?_)
    refine lv_if_ne (tgt := 27) hx hb dC_useless_21 rfl (fun hq => ?_) (fun hq => ?_)
    · have hf := ck_f hq hf
      refine lv_aload_n hx hb dC_useless_27 rfl (lv_at hl 0 rfl) ?_
      refine ck_gr C h FC_match dC_useless_28 ?_
      refine lv_aload_n hx hb dC_useless_31 rfl (lv_at hl 0 rfl) ?_
      refine ck_gr C h FC_tree dC_useless_32 ?_
      obtain ⟨v6, st5, hc, hf⟩ := ck_b_e hf
      refine ck_vi (As := []) (rest := [.ref (ad 4)]) (q := 5) C h hl CC_T_caught sT_caught q_T (cT_caught l D cA ad hc) (Nat.le_of_ble_eq_true rfl) rfl rfl (Nat.le_of_ble_eq_true rfl) dC_useless_35 (fun H locs h => ?_)
      refine lv_iload_n hx hb dC_useless_38 rfl (lv_at hl 1 rfl) ?_
      obtain ⟨v8, st7, hc, hf⟩ := ck_b_e hf
      refine ck_vi (As := [.int v6, .int x1]) (rest := []) (q := 4) C h hl CC_M_alternativesOutside sM_alternativesOutside q_M (cM_alternativesOutside l D cA ad hc) (Nat.le_of_ble_eq_true rfl) rfl rfl (Nat.le_of_ble_eq_true rfl) dC_useless_39 (fun H locs h => ?_)
      exact ck_ri hf hret h dC_useless_42
    · have hf := ck_t hq hf
      refine lv_bipush (v := (-15)) hx hb dC_useless_24 (by decide) ?_
      exact ck_ri hf hret h dC_useless_26
  · have hf := ck_t hq hf
    refine lv_bipush (v := (-13)) hx hb dC_useless_10 (by decide) ?_
    exact ck_ri hf hret h dC_useless_12
def fC_witnessLength (st : ck_S) : Option (Int32 × ck_S) := (ck_b (fT_isThere st) fun v2 st1 => (if v2 = 0 then (some ((-13 : Int32), st1)) else (ck_b (fG_length st1) fun v4 st3 => (some (v4, st3)))))
set_option maxRecDepth 100000 in
set_option maxHeartbeats 4000000 in
theorem cC_witnessLength (l : Launch) (D : va_G) (cA : Nat → ClassId) (ad : Nat → Nat) {st : ck_S} {r0 : Int32} {st0 : ck_S} (hf : fC_witnessLength st = some (r0, st0)) : Met l yC_witnessLength (.code yC_witnessLength bC_witnessLength 1 (some .int) :: ck_T) (ck_R 1) (va_Pc [.ref (ad 0)] (ck_P sh_C cm_cl D cA ad st)) (va_Qi (fun a u => a = r0 ∧ u = st0) (ck_P sh_C cm_cl D cA ad) (ck_A ad sh_C.length)) 0 0 (ck_A ad sh_C.length) := by
  refine ck_met_i (own := R_C) (by decide +kernel) rfl (Nat.le_of_ble_eq_true rfl) (fun p e R s m args below meth c H0 Q ls C hret h hl => ?_)
  have C1 := C
  obtain ⟨hx, hb, hml, hown, hts, hK, hlv, hlo⟩ := C1
  have hl : lv_has ls 1 [(0, .ref (ad 0))] := hl
  unfold fC_witnessLength at hf
  refine lv_aload_n hx hb dC_witnessLength_0 rfl (lv_at hl 0 rfl) ?_
  refine ck_gr C h FC_tree dC_witnessLength_1 ?_
  obtain ⟨v2, st1, hc, hf⟩ := ck_b_e hf
  refine ck_vi (As := []) (rest := []) (q := 5) C h hl CC_T_isThere sT_isThere q_T (cT_isThere l D cA ad hc) (Nat.le_of_ble_eq_true rfl) rfl rfl (Nat.le_of_ble_eq_true rfl) dC_witnessLength_4 (fun H locs h => ?_)
  refine lv_if_eq (tgt := 20) hx hb dC_witnessLength_7 rfl (fun hq => ?_) (fun hq => ?_)
  · have hf := ck_t hq hf
    refine lv_bipush (v := (-13)) hx hb dC_witnessLength_20 (by decide) ?_
    exact ck_ri hf hret h dC_witnessLength_22
  · have hf := ck_f hq hf
    refine lv_aload_n hx hb dC_witnessLength_10 rfl (lv_at hl 0 rfl) ?_
    refine ck_gr C h FC_gap dC_witnessLength_11 ?_
    obtain ⟨v4, st3, hc, hf⟩ := ck_b_e hf
    refine ck_vi (As := []) (rest := []) (q := 6) C h hl CC_G_length sG_length q_G (cG_length l D cA ad hc) (Nat.le_of_ble_eq_true rfl) rfl rfl (Nat.le_of_ble_eq_true rfl) dC_witnessLength_14 (fun H locs h => ?_)
    refine lv_goto (tgt := 22) hx hb dC_witnessLength_17 rfl ?_
    exact ck_ri hf hret h dC_witnessLength_22
def fC_witnessKind (x1 : Int32) (st : ck_S) : Option (Int32 × ck_S) := (ck_b (fT_isThere st) fun v2 st1 => (if v2 = 0 then (some ((-13 : Int32), st1)) else (ck_b (fG_has x1 st1) fun v4 st3 => (if v4 = 0 then (some ((-15 : Int32), st3)) else (ck_b (fG_kindOf x1 st3) fun v6 st5 => (some (v6, st5)))))))
set_option maxRecDepth 100000 in
set_option maxHeartbeats 4000000 in
theorem cC_witnessKind (l : Launch) (D : va_G) (cA : Nat → ClassId) (ad : Nat → Nat) {x1 : Int32} {st : ck_S} {r0 : Int32} {st0 : ck_S} (hf : fC_witnessKind x1 st = some (r0, st0)) : Met l yC_witnessKind (.code yC_witnessKind bC_witnessKind 2 (some .int) :: ck_T) (ck_R 2) (va_Pc [.ref (ad 0), .int x1] (ck_P sh_C cm_cl D cA ad st)) (va_Qi (fun a u => a = r0 ∧ u = st0) (ck_P sh_C cm_cl D cA ad) (ck_A ad sh_C.length)) 0 0 (ck_A ad sh_C.length) := by
  refine ck_met_i (own := R_C) (by decide +kernel) rfl (Nat.le_of_ble_eq_true rfl) (fun p e R s m args below meth c H0 Q ls C hret h hl => ?_)
  have C1 := C
  obtain ⟨hx, hb, hml, hown, hts, hK, hlv, hlo⟩ := C1
  have hl : lv_has ls 2 [(0, .ref (ad 0)), (1, .int x1)] := hl
  unfold fC_witnessKind at hf
  refine lv_aload_n hx hb dC_witnessKind_0 rfl (lv_at hl 0 rfl) ?_
  refine ck_gr C h FC_tree dC_witnessKind_1 ?_
  obtain ⟨v2, st1, hc, hf⟩ := ck_b_e hf
  refine ck_vi (As := []) (rest := []) (q := 5) C h hl CC_T_isThere sT_isThere q_T (cT_isThere l D cA ad hc) (Nat.le_of_ble_eq_true rfl) rfl rfl (Nat.le_of_ble_eq_true rfl) dC_witnessKind_4 (fun H locs h => ?_)
  refine lv_if_ne (tgt := 13) hx hb dC_witnessKind_7 rfl (fun hq => ?_) (fun hq => ?_)
  · have hf := ck_f hq hf
    refine lv_aload_n hx hb dC_witnessKind_13 rfl (lv_at hl 0 rfl) ?_
    refine ck_gr C h FC_gap dC_witnessKind_14 ?_
    refine lv_iload_n hx hb dC_witnessKind_17 rfl (lv_at hl 1 rfl) ?_
    obtain ⟨v4, st3, hc, hf⟩ := ck_b_e hf
    refine ck_vi (As := [.int x1]) (rest := []) (q := 6) C h hl CC_G_has sG_has q_G (cG_has l D cA ad hc) (Nat.le_of_ble_eq_true rfl) rfl rfl (Nat.le_of_ble_eq_true rfl) dC_witnessKind_18 (fun H locs h => ?_)
    refine lv_if_eq (tgt := 35) hx hb dC_witnessKind_21 rfl (fun hq => ?_) (fun hq => ?_)
    · have hf := ck_t hq hf
      refine lv_bipush (v := (-15)) hx hb dC_witnessKind_35 (by decide) ?_
      exact ck_ri hf hret h dC_witnessKind_37
    · have hf := ck_f hq hf
      refine lv_aload_n hx hb dC_witnessKind_24 rfl (lv_at hl 0 rfl) ?_
      refine ck_gr C h FC_gap dC_witnessKind_25 ?_
      refine lv_iload_n hx hb dC_witnessKind_28 rfl (lv_at hl 1 rfl) ?_
      obtain ⟨v6, st5, hc, hf⟩ := ck_b_e hf
      refine ck_vi (As := [.int x1]) (rest := []) (q := 6) C h hl CC_G_kindOf sG_kindOf q_G (cG_kindOf l D cA ad hc) (Nat.le_of_ble_eq_true rfl) rfl rfl (Nat.le_of_ble_eq_true rfl) dC_witnessKind_29 (fun H locs h => ?_)
      refine lv_goto (tgt := 37) hx hb dC_witnessKind_32 rfl ?_
      exact ck_ri hf hret h dC_witnessKind_37
  · have hf := ck_t hq hf
    refine lv_bipush (v := (-13)) hx hb dC_witnessKind_10 (by decide) ?_
    exact ck_ri hf hret h dC_witnessKind_12
def fC_witness (x1 : Int32) (st : ck_S) : Option (Int32 × ck_S) := (ck_b (fT_isThere st) fun v2 st1 => (if v2 = 0 then (some ((0 : Int32), st1)) else (ck_b (fG_has x1 st1) fun v4 st3 => (if v4 = 0 then (some ((0 : Int32), st3)) else (ck_b (fG_symbolOf x1 st3) fun v6 st5 => (some (v6, st5)))))))
set_option maxRecDepth 100000 in
set_option maxHeartbeats 4000000 in
theorem cC_witness (l : Launch) (D : va_G) (cA : Nat → ClassId) (ad : Nat → Nat) {x1 : Int32} {st : ck_S} {r0 : Int32} {st0 : ck_S} (hf : fC_witness x1 st = some (r0, st0)) : Met l yC_witness (.code yC_witness bC_witness 2 (some .int) :: ck_T) (ck_R 2) (va_Pc [.ref (ad 0), .int x1] (ck_P sh_C cm_cl D cA ad st)) (va_Qi (fun a u => a = r0 ∧ u = st0) (ck_P sh_C cm_cl D cA ad) (ck_A ad sh_C.length)) 0 0 (ck_A ad sh_C.length) := by
  refine ck_met_i (own := R_C) (by decide +kernel) rfl (Nat.le_of_ble_eq_true rfl) (fun p e R s m args below meth c H0 Q ls C hret h hl => ?_)
  have C1 := C
  obtain ⟨hx, hb, hml, hown, hts, hK, hlv, hlo⟩ := C1
  have hl : lv_has ls 2 [(0, .ref (ad 0)), (1, .int x1)] := hl
  unfold fC_witness at hf
  refine lv_aload_n hx hb dC_witness_0 rfl (lv_at hl 0 rfl) ?_
  refine ck_gr C h FC_tree dC_witness_1 ?_
  obtain ⟨v2, st1, hc, hf⟩ := ck_b_e hf
  refine ck_vi (As := []) (rest := []) (q := 5) C h hl CC_T_isThere sT_isThere q_T (cT_isThere l D cA ad hc) (Nat.le_of_ble_eq_true rfl) rfl rfl (Nat.le_of_ble_eq_true rfl) dC_witness_4 (fun H locs h => ?_)
  refine lv_if_eq (tgt := 32) hx hb dC_witness_7 rfl (fun hq => ?_) (fun hq => ?_)
  · have hf := ck_t hq hf
    refine lv_iconst (v := 0) hx hb dC_witness_32 (by decide) ?_
    exact ck_ri hf hret h dC_witness_33
  · have hf := ck_f hq hf
    refine lv_aload_n hx hb dC_witness_10 rfl (lv_at hl 0 rfl) ?_
    refine ck_gr C h FC_gap dC_witness_11 ?_
    refine lv_iload_n hx hb dC_witness_14 rfl (lv_at hl 1 rfl) ?_
    obtain ⟨v4, st3, hc, hf⟩ := ck_b_e hf
    refine ck_vi (As := [.int x1]) (rest := []) (q := 6) C h hl CC_G_has sG_has q_G (cG_has l D cA ad hc) (Nat.le_of_ble_eq_true rfl) rfl rfl (Nat.le_of_ble_eq_true rfl) dC_witness_15 (fun H locs h => ?_)
    refine lv_if_eq (tgt := 32) hx hb dC_witness_18 rfl (fun hq => ?_) (fun hq => ?_)
    · have hf := ck_t hq hf
      refine lv_iconst (v := 0) hx hb dC_witness_32 (by decide) ?_
      exact ck_ri hf hret h dC_witness_33
    · have hf := ck_f hq hf
      refine lv_aload_n hx hb dC_witness_21 rfl (lv_at hl 0 rfl) ?_
      refine ck_gr C h FC_gap dC_witness_22 ?_
      refine lv_iload_n hx hb dC_witness_25 rfl (lv_at hl 1 rfl) ?_
      obtain ⟨v6, st5, hc, hf⟩ := ck_b_e hf
      refine ck_vi (As := [.int x1]) (rest := []) (q := 6) C h hl CC_G_symbolOf sG_symbolOf q_G (cG_symbolOf l D cA ad hc) (Nat.le_of_ble_eq_true rfl) rfl rfl (Nat.le_of_ble_eq_true rfl) dC_witness_26 (fun H locs h => ?_)
      refine lv_goto (tgt := 33) hx hb dC_witness_29 rfl ?_
      exact ck_ri hf hret h dC_witness_33
def fC_valueNumber (x1 : Int32) (st : ck_S) : Option (Int32 × ck_S) := (ck_b (fV_addInt x1 st) fun v2 st1 => (some (v2, st1)))
set_option maxRecDepth 100000 in
set_option maxHeartbeats 4000000 in
theorem cC_valueNumber (l : Launch) (D : va_G) (cA : Nat → ClassId) (ad : Nat → Nat) {x1 : Int32} {st : ck_S} {r0 : Int32} {st0 : ck_S} (hf : fC_valueNumber x1 st = some (r0, st0)) : Met l yC_valueNumber (.code yC_valueNumber bC_valueNumber 2 (some .int) :: ck_T) (ck_R 2) (va_Pc [.ref (ad 0), .int x1] (ck_P sh_C cm_cl D cA ad st)) (va_Qi (fun a u => a = r0 ∧ u = st0) (ck_P sh_C cm_cl D cA ad) (ck_A ad sh_C.length)) 0 0 (ck_A ad sh_C.length) := by
  refine ck_met_i (own := R_C) (by decide +kernel) rfl (Nat.le_of_ble_eq_true rfl) (fun p e R s m args below meth c H0 Q ls C hret h hl => ?_)
  have C1 := C
  obtain ⟨hx, hb, hml, hown, hts, hK, hlv, hlo⟩ := C1
  have hl : lv_has ls 2 [(0, .ref (ad 0)), (1, .int x1)] := hl
  unfold fC_valueNumber at hf
  refine lv_aload_n hx hb dC_valueNumber_0 rfl (lv_at hl 0 rfl) ?_
  refine ck_gr C h FC_values dC_valueNumber_1 ?_
  refine lv_iload_n hx hb dC_valueNumber_4 rfl (lv_at hl 1 rfl) ?_
  obtain ⟨v2, st1, hc, hf⟩ := ck_b_e hf
  refine ck_vi (As := [.int x1]) (rest := []) (q := 3) C h hl CC_V_addInt sV_addInt q_V (cV_addInt l D cA ad hc) (Nat.le_of_ble_eq_true rfl) rfl rfl (Nat.le_of_ble_eq_true rfl) dC_valueNumber_5 (fun H locs h => ?_)
  exact ck_ri hf hret h dC_valueNumber_8
def fC_valueOf (x1 : Int32) (x2 : Int32) (x3 : Int32) (st : ck_S) : Option (Int32 × ck_S) := (ck_b (fD_isConstructor x1 st) fun v2 st1 => (if v2 = 0 then (some ((-4 : Int32), st1)) else (ck_b (fD_firstTypeOf x1 st1) fun v4 st3 => (ck_b (fD_secondTypeOf x1 st3) fun v6 st5 => (ck_b (fV_has x2 st5) fun v8 st7 => (ck_b (fC_standsFor x2 v8 v4 st7) fun v10 st9 => (if v10 = 0 then (some ((-6 : Int32), st9)) else (ck_b (fV_has x3 st9) fun v12 st11 => (ck_b (fC_standsFor x3 v12 v6 st11) fun v14 st13 => (if v14 = 0 then (some ((-6 : Int32), st13)) else (ck_b (fV_isOf x2 v4 st13) fun v16 st15 => (if v16 = 0 then (some ((-7 : Int32), st15)) else (ck_b (fV_isOf x3 v6 st15) fun v18 st17 => (if v18 = 0 then (some ((-7 : Int32), st17)) else (ck_b (fD_ownerOf x1 st17) fun v20 st19 => (ck_b (fV_addBuilt x1 v20 x2 x3 st19) fun v22 st21 => (some (v22, st21))))))))))))))))))
set_option maxRecDepth 100000 in
set_option maxHeartbeats 4000000 in
theorem cC_valueOf (l : Launch) (D : va_G) (cA : Nat → ClassId) (ad : Nat → Nat) {x1 : Int32} {x2 : Int32} {x3 : Int32} {st : ck_S} {r0 : Int32} {st0 : ck_S} (hf : fC_valueOf x1 x2 x3 st = some (r0, st0)) : Met l yC_valueOf (.code yC_valueOf bC_valueOf 6 (some .int) :: ck_T) (ck_R 2) (va_Pc [.ref (ad 0), .int x1, .int x2, .int x3] (ck_P sh_C cm_cl D cA ad st)) (va_Qi (fun a u => a = r0 ∧ u = st0) (ck_P sh_C cm_cl D cA ad) (ck_A ad sh_C.length)) 0 0 (ck_A ad sh_C.length) := by
  refine ck_met_i (own := R_C) (by decide +kernel) rfl (Nat.le_of_ble_eq_true rfl) (fun p e R s m args below meth c H0 Q ls C hret h hl => ?_)
  have C1 := C
  obtain ⟨hx, hb, hml, hown, hts, hK, hlv, hlo⟩ := C1
  have hl : lv_has ls 6 [(0, .ref (ad 0)), (1, .int x1), (2, .int x2), (3, .int x3)] := hl
  unfold fC_valueOf at hf
  refine lv_aload_n hx hb dC_valueOf_0 rfl (lv_at hl 0 rfl) ?_
  refine ck_gr C h FC_declared dC_valueOf_1 ?_
  refine lv_iload_n hx hb dC_valueOf_4 rfl (lv_at hl 1 rfl) ?_
  obtain ⟨v2, st1, hc, hf⟩ := ck_b_e hf
  refine ck_vi (As := [.int x1]) (rest := []) (q := 1) C h hl CC_D_isConstructor sD_isConstructor q_D (cD_isConstructor l D cA ad hc) (Nat.le_of_ble_eq_true rfl) rfl rfl (Nat.le_of_ble_eq_true rfl) dC_valueOf_5 (fun H locs h => ?_)
  refine lv_if_ne (tgt := 14) hx hb dC_valueOf_8 rfl (fun hq => ?_) (fun hq => ?_)
  · have hf := ck_f hq hf
    refine lv_aload_n hx hb dC_valueOf_14 rfl (lv_at hl 0 rfl) ?_
    refine ck_gr C h FC_declared dC_valueOf_15 ?_
    refine lv_iload_n hx hb dC_valueOf_18 rfl (lv_at hl 1 rfl) ?_
    obtain ⟨v4, st3, hc, hf⟩ := ck_b_e hf
    refine ck_vi (As := [.int x1]) (rest := []) (q := 1) C h hl CC_D_firstTypeOf sD_firstTypeOf q_D (cD_firstTypeOf l D cA ad hc) (Nat.le_of_ble_eq_true rfl) rfl rfl (Nat.le_of_ble_eq_true rfl) dC_valueOf_19 (fun H locs h => ?_)
    refine lv_istore (lv' := [(4, .int v4), (0, .ref (ad 0)), (1, .int x1), (2, .int x2), (3, .int x3)]) hx hb dC_valueOf_22 hl (by decide) rfl (fun ls hl => ?_)
    refine lv_aload_n hx hb dC_valueOf_24 rfl (lv_at hl 1 rfl) ?_
    refine ck_gr C h FC_declared dC_valueOf_25 ?_
    refine lv_iload_n hx hb dC_valueOf_28 rfl (lv_at hl 2 rfl) ?_
    obtain ⟨v6, st5, hc, hf⟩ := ck_b_e hf
    refine ck_vi (As := [.int x1]) (rest := []) (q := 1) C h hl CC_D_secondTypeOf sD_secondTypeOf q_D (cD_secondTypeOf l D cA ad hc) (Nat.le_of_ble_eq_true rfl) rfl rfl (Nat.le_of_ble_eq_true rfl) dC_valueOf_29 (fun H locs h => ?_)
    refine lv_istore (lv' := [(5, .int v6), (4, .int v4), (0, .ref (ad 0)), (1, .int x1), (2, .int x2), (3, .int x3)]) hx hb dC_valueOf_32 hl (by decide) rfl (fun ls hl => ?_)
    refine lv_iload_n hx hb dC_valueOf_34 rfl (lv_at hl 4 rfl) ?_
    refine lv_aload_n hx hb dC_valueOf_35 rfl (lv_at hl 2 rfl) ?_
    refine ck_gr C h FC_values dC_valueOf_36 ?_
    refine lv_iload_n hx hb dC_valueOf_39 rfl (lv_at hl 4 rfl) ?_
    obtain ⟨v8, st7, hc, hf⟩ := ck_b_e hf
    refine ck_vi (As := [.int x2]) (rest := [.int x2]) (q := 3) C h hl CC_V_has sV_has q_V (cV_has l D cA ad hc) (Nat.le_of_ble_eq_true rfl) rfl rfl (Nat.le_of_ble_eq_true rfl) dC_valueOf_40 (fun H locs h => ?_)
    refine lv_iload hx hb dC_valueOf_43 (lv_at hl 1 rfl) ?_
    obtain ⟨v10, st9, hc, hf⟩ := ck_b_e hf
    refine ck_ti (As := [.int x2, .int v8, .int v4]) (rest := []) C h hl CC_C_standsFor sC_standsFor (cC_standsFor l D cA ad hc) (Nat.le_of_ble_eq_true rfl) rfl rfl (Nat.le_of_ble_eq_true rfl) dC_valueOf_45 (fun H locs h => ?_)
    refine lv_if_eq (tgt := 68) hx hb dC_valueOf_48 rfl (fun hq => ?_) (fun hq => ?_)
    · have hf := ck_t hq hf
      refine lv_bipush (v := (-6)) hx hb dC_valueOf_68 (by decide) ?_
      exact ck_ri hf hret h dC_valueOf_70
    · have hf := ck_f hq hf
      refine lv_iload_n hx hb dC_valueOf_51 rfl (lv_at hl 5 rfl) ?_
      refine lv_aload_n hx hb dC_valueOf_52 rfl (lv_at hl 2 rfl) ?_
      refine ck_gr C h FC_values dC_valueOf_53 ?_
      refine lv_iload_n hx hb dC_valueOf_56 rfl (lv_at hl 5 rfl) ?_
      obtain ⟨v12, st11, hc, hf⟩ := ck_b_e hf
      refine ck_vi (As := [.int x3]) (rest := [.int x3]) (q := 3) C h hl CC_V_has sV_has q_V (cV_has l D cA ad hc) (Nat.le_of_ble_eq_true rfl) rfl rfl (Nat.le_of_ble_eq_true rfl) dC_valueOf_57 (fun H locs h => ?_)
      refine lv_iload hx hb dC_valueOf_60 (lv_at hl 0 rfl) ?_
      obtain ⟨v14, st13, hc, hf⟩ := ck_b_e hf
      refine ck_ti (As := [.int x3, .int v12, .int v6]) (rest := []) C h hl CC_C_standsFor sC_standsFor (cC_standsFor l D cA ad hc) (Nat.le_of_ble_eq_true rfl) rfl rfl (Nat.le_of_ble_eq_true rfl) dC_valueOf_62 (fun H locs h => ?_)
      refine lv_if_ne (tgt := 71) hx hb dC_valueOf_65 rfl (fun hq => ?_) (fun hq => ?_)
      · have hf := ck_f hq hf
        refine lv_aload_n hx hb dC_valueOf_71 rfl (lv_at hl 2 rfl) ?_
        refine ck_gr C h FC_values dC_valueOf_72 ?_
        refine lv_iload_n hx hb dC_valueOf_75 rfl (lv_at hl 4 rfl) ?_
        refine lv_iload hx hb dC_valueOf_76 (lv_at hl 1 rfl) ?_
        obtain ⟨v16, st15, hc, hf⟩ := ck_b_e hf
        refine ck_vi (As := [.int x2, .int v4]) (rest := []) (q := 3) C h hl CC_V_isOf sV_isOf q_V (cV_isOf l D cA ad hc) (Nat.le_of_ble_eq_true rfl) rfl rfl (Nat.le_of_ble_eq_true rfl) dC_valueOf_78 (fun H locs h => ?_)
        refine lv_if_eq (tgt := 97) hx hb dC_valueOf_81 rfl (fun hq => ?_) (fun hq => ?_)
        · have hf := ck_t hq hf
          refine lv_bipush (v := (-7)) hx hb dC_valueOf_97 (by decide) ?_
          exact ck_ri hf hret h dC_valueOf_99
        · have hf := ck_f hq hf
          refine lv_aload_n hx hb dC_valueOf_84 rfl (lv_at hl 2 rfl) ?_
          refine ck_gr C h FC_values dC_valueOf_85 ?_
          refine lv_iload_n hx hb dC_valueOf_88 rfl (lv_at hl 5 rfl) ?_
          refine lv_iload hx hb dC_valueOf_89 (lv_at hl 0 rfl) ?_
          obtain ⟨v18, st17, hc, hf⟩ := ck_b_e hf
          refine ck_vi (As := [.int x3, .int v6]) (rest := []) (q := 3) C h hl CC_V_isOf sV_isOf q_V (cV_isOf l D cA ad hc) (Nat.le_of_ble_eq_true rfl) rfl rfl (Nat.le_of_ble_eq_true rfl) dC_valueOf_91 (fun H locs h => ?_)
          refine lv_if_ne (tgt := 100) hx hb dC_valueOf_94 rfl (fun hq => ?_) (fun hq => ?_)
          · have hf := ck_f hq hf
            refine lv_aload_n hx hb dC_valueOf_100 rfl (lv_at hl 2 rfl) ?_
            refine ck_gr C h FC_values dC_valueOf_101 ?_
            refine lv_iload_n hx hb dC_valueOf_104 rfl (lv_at hl 3 rfl) ?_
            refine lv_aload_n hx hb dC_valueOf_105 rfl (lv_at hl 2 rfl) ?_
            refine ck_gr C h FC_declared dC_valueOf_106 ?_
            refine lv_iload_n hx hb dC_valueOf_109 rfl (lv_at hl 3 rfl) ?_
            obtain ⟨v20, st19, hc, hf⟩ := ck_b_e hf
            refine ck_vi (As := [.int x1]) (rest := [.int x1, .ref (ad 3)]) (q := 1) C h hl CC_D_ownerOf sD_ownerOf q_D (cD_ownerOf l D cA ad hc) (Nat.le_of_ble_eq_true rfl) rfl rfl (Nat.le_of_ble_eq_true rfl) dC_valueOf_110 (fun H locs h => ?_)
            refine lv_iload_n hx hb dC_valueOf_113 rfl (lv_at hl 4 rfl) ?_
            refine lv_iload_n hx hb dC_valueOf_114 rfl (lv_at hl 5 rfl) ?_
            obtain ⟨v22, st21, hc, hf⟩ := ck_b_e hf
            refine ck_vi (As := [.int x1, .int v20, .int x2, .int x3]) (rest := []) (q := 3) C h hl CC_V_addBuilt sV_addBuilt q_V (cV_addBuilt l D cA ad hc) (Nat.le_of_ble_eq_true rfl) rfl rfl (Nat.le_of_ble_eq_true rfl) dC_valueOf_115 (fun H locs h => ?_)
            exact ck_ri hf hret h dC_valueOf_118
          · have hf := ck_t hq hf
            refine lv_bipush (v := (-7)) hx hb dC_valueOf_97 (by decide) ?_
            exact ck_ri hf hret h dC_valueOf_99
      · have hf := ck_t hq hf
        refine lv_bipush (v := (-6)) hx hb dC_valueOf_68 (by decide) ?_
        exact ck_ri hf hret h dC_valueOf_70
  · have hf := ck_t hq hf
    refine lv_bipush (v := (-4)) hx hb dC_valueOf_11 (by decide) ?_
    exact ck_ri hf hret h dC_valueOf_13
def fC_run (x1 : Int32) (st : ck_S) : Option (Int32 × ck_S) := (ck_b (fT_isThere st) fun v2 st1 => (if v2 = 0 then (some ((-13 : Int32), st1)) else (ck_b (fV_has x1 st1) fun v4 st3 => (if v4 = 0 then (some ((-6 : Int32), st3)) else (ck_b (fM_typeOver st3) fun v6 st5 => (ck_b (fV_isOf x1 v6 st5) fun v8 st7 => (if v8 = 0 then (some ((-7 : Int32), st7)) else (ck_b (fT_leafFor x1 st7) fun v10 st9 => (ck_b (fT_testsAbove v10 st9) fun v12 st11 => (ck_b (fT_clauseAt v10 (ck_u st11 0 6 v12)) fun v14 st13 => (ck_b (fM_rowOf v14 st13) fun v16 st15 => (some (v16, st15)))))))))))))
set_option maxRecDepth 100000 in
set_option maxHeartbeats 4000000 in
theorem cC_run (l : Launch) (D : va_G) (cA : Nat → ClassId) (ad : Nat → Nat) {x1 : Int32} {st : ck_S} {r0 : Int32} {st0 : ck_S} (hf : fC_run x1 st = some (r0, st0)) : Met l yC_run (.code yC_run bC_run 3 (some .int) :: ck_T) (ck_R 3) (va_Pc [.ref (ad 0), .int x1] (ck_P sh_C cm_cl D cA ad st)) (va_Qi (fun a u => a = r0 ∧ u = st0) (ck_P sh_C cm_cl D cA ad) (ck_A ad sh_C.length)) 0 0 (ck_A ad sh_C.length) := by
  refine ck_met_i (own := R_C) (by decide +kernel) rfl (Nat.le_of_ble_eq_true rfl) (fun p e R s m args below meth c H0 Q ls C hret h hl => ?_)
  have C1 := C
  obtain ⟨hx, hb, hml, hown, hts, hK, hlv, hlo⟩ := C1
  have hl : lv_has ls 3 [(0, .ref (ad 0)), (1, .int x1)] := hl
  unfold fC_run at hf
  refine lv_aload_n hx hb dC_run_0 rfl (lv_at hl 0 rfl) ?_
  refine ck_gr C h FC_tree dC_run_1 ?_
  obtain ⟨v2, st1, hc, hf⟩ := ck_b_e hf
  refine ck_vi (As := []) (rest := []) (q := 5) C h hl CC_T_isThere sT_isThere q_T (cT_isThere l D cA ad hc) (Nat.le_of_ble_eq_true rfl) rfl rfl (Nat.le_of_ble_eq_true rfl) dC_run_4 (fun H locs h => ?_)
  refine lv_if_ne (tgt := 13) hx hb dC_run_7 rfl (fun hq => ?_) (fun hq => ?_)
  · have hf := ck_f hq hf
    refine lv_aload_n hx hb dC_run_13 rfl (lv_at hl 0 rfl) ?_
    refine ck_gr C h FC_values dC_run_14 ?_
    refine lv_iload_n hx hb dC_run_17 rfl (lv_at hl 1 rfl) ?_
    obtain ⟨v4, st3, hc, hf⟩ := ck_b_e hf
    refine ck_vi (As := [.int x1]) (rest := []) (q := 3) C h hl CC_V_has sV_has q_V (cV_has l D cA ad hc) (Nat.le_of_ble_eq_true rfl) rfl rfl (Nat.le_of_ble_eq_true rfl) dC_run_18 (fun H locs h => ?_)
    refine lv_if_ne (tgt := 27) hx hb dC_run_21 rfl (fun hq => ?_) (fun hq => ?_)
    · have hf := ck_f hq hf
      refine lv_aload_n hx hb dC_run_27 rfl (lv_at hl 0 rfl) ?_
      refine ck_gr C h FC_values dC_run_28 ?_
      refine lv_iload_n hx hb dC_run_31 rfl (lv_at hl 1 rfl) ?_
      refine lv_aload_n hx hb dC_run_32 rfl (lv_at hl 0 rfl) ?_
      refine ck_gr C h FC_match dC_run_33 ?_
      obtain ⟨v6, st5, hc, hf⟩ := ck_b_e hf
      refine ck_vi (As := []) (rest := [.int x1, .ref (ad 3)]) (q := 4) C h hl CC_M_typeOver sM_typeOver q_M (cM_typeOver l D cA ad hc) (Nat.le_of_ble_eq_true rfl) rfl rfl (Nat.le_of_ble_eq_true rfl) dC_run_36 (fun H locs h => ?_)
      obtain ⟨v8, st7, hc, hf⟩ := ck_b_e hf
      refine ck_vi (As := [.int x1, .int v6]) (rest := []) (q := 3) C h hl CC_V_isOf sV_isOf q_V (cV_isOf l D cA ad hc) (Nat.le_of_ble_eq_true rfl) rfl rfl (Nat.le_of_ble_eq_true rfl) dC_run_39 (fun H locs h => ?_)
      refine lv_if_ne (tgt := 48) hx hb dC_run_42 rfl (fun hq => ?_) (fun hq => ?_)
      · have hf := ck_f hq hf
        refine lv_aload_n hx hb dC_run_48 rfl (lv_at hl 0 rfl) ?_
        refine ck_gr C h FC_tree dC_run_49 ?_
        refine lv_aload_n hx hb dC_run_52 rfl (lv_at hl 0 rfl) ?_
        refine ck_gr C h FC_values dC_run_53 ?_
        refine lv_iload_n hx hb dC_run_56 rfl (lv_at hl 1 rfl) ?_
        obtain ⟨v10, st9, hc, hf⟩ := ck_b_e hf
        refine ck_vi (As := [.ref (ad 3), .int x1]) (rest := []) (q := 5) C h hl CC_T_leafFor sT_leafFor q_T (cT_leafFor l D cA ad hc) (Nat.le_of_ble_eq_true rfl) rfl rfl (Nat.le_of_ble_eq_true rfl) dC_run_57 (fun H locs h => ?_)
        refine lv_istore_n (lv' := [(2, .int v10), (0, .ref (ad 0)), (1, .int x1)]) hx hb dC_run_60 rfl hl (by decide) rfl (fun ls hl => ?_)
        refine lv_aload_n hx hb dC_run_61 rfl (lv_at hl 1 rfl) ?_
        refine lv_aload_n hx hb dC_run_62 rfl (lv_at hl 1 rfl) ?_
        refine ck_gr C h FC_tree dC_run_63 ?_
        refine lv_iload_n hx hb dC_run_66 rfl (lv_at hl 0 rfl) ?_
        obtain ⟨v12, st11, hc, hf⟩ := ck_b_e hf
        refine ck_vi (As := [.int v10]) (rest := [.ref (ad 0)]) (q := 5) C h hl CC_T_testsAbove sT_testsAbove q_T (cT_testsAbove l D cA ad hc) (Nat.le_of_ble_eq_true rfl) rfl rfl (Nat.le_of_ble_eq_true rfl) dC_run_67 (fun H locs h => ?_)
        refine ck_pi C h GC_latestTests rfl rfl dC_run_70 (fun H locs h => ?_)
        refine lv_aload_n hx hb dC_run_73 rfl (lv_at hl 1 rfl) ?_
        refine ck_gr C h FC_match dC_run_74 ?_
        refine lv_aload_n hx hb dC_run_77 rfl (lv_at hl 1 rfl) ?_
        refine ck_gr C h FC_tree dC_run_78 ?_
        refine lv_iload_n hx hb dC_run_81 rfl (lv_at hl 0 rfl) ?_
        obtain ⟨v14, st13, hc, hf⟩ := ck_b_e hf
        refine ck_vi (As := [.int v10]) (rest := [.ref (ad 4)]) (q := 5) C h hl CC_T_clauseAt sT_clauseAt q_T (cT_clauseAt l D cA ad hc) (Nat.le_of_ble_eq_true rfl) rfl rfl (Nat.le_of_ble_eq_true rfl) dC_run_82 (fun H locs h => ?_)
        obtain ⟨v16, st15, hc, hf⟩ := ck_b_e hf
        refine ck_vi (As := [.int v14]) (rest := []) (q := 4) C h hl CC_M_rowOf sM_rowOf q_M (cM_rowOf l D cA ad hc) (Nat.le_of_ble_eq_true rfl) rfl rfl (Nat.le_of_ble_eq_true rfl) dC_run_85 (fun H locs h => ?_)
        exact ck_ri hf hret h dC_run_88
      · have hf := ck_t hq hf
        refine lv_bipush (v := (-7)) hx hb dC_run_45 (by decide) ?_
        exact ck_ri hf hret h dC_run_47
    · have hf := ck_t hq hf
      refine lv_bipush (v := (-6)) hx hb dC_run_24 (by decide) ?_
      exact ck_ri hf hret h dC_run_26
  · have hf := ck_t hq hf
    refine lv_bipush (v := (-13)) hx hb dC_run_10 (by decide) ?_
    exact ck_ri hf hret h dC_run_12
def fC_tests (st : ck_S) : Option (Int32 × ck_S) := (some ((st 0 6), st))
set_option maxRecDepth 100000 in
set_option maxHeartbeats 4000000 in
theorem cC_tests (l : Launch) (D : va_G) (cA : Nat → ClassId) (ad : Nat → Nat) {st : ck_S} {r0 : Int32} {st0 : ck_S} (hf : fC_tests st = some (r0, st0)) : Met l yC_tests (.code yC_tests bC_tests 1 (some .int) :: ck_T) (ck_R 0) (va_Pc [.ref (ad 0)] (ck_P sh_C cm_cl D cA ad st)) (va_Qi (fun a u => a = r0 ∧ u = st0) (ck_P sh_C cm_cl D cA ad) (ck_A ad sh_C.length)) 0 0 (ck_A ad sh_C.length) := by
  refine ck_met_i (own := R_C) (by decide +kernel) rfl (Nat.le_of_ble_eq_true rfl) (fun p e R s m args below meth c H0 Q ls C hret h hl => ?_)
  have C1 := C
  obtain ⟨hx, hb, hml, hown, hts, hK, hlv, hlo⟩ := C1
  have hl : lv_has ls 1 [(0, .ref (ad 0))] := hl
  unfold fC_tests at hf
  refine lv_aload_n hx hb dC_tests_0 rfl (lv_at hl 0 rfl) ?_
  refine ck_gi (x := (st 0 6)) C h FC_latestTests rfl dC_tests_1 ?_
  exact ck_ri hf hret h dC_tests_4
end Sface
end
