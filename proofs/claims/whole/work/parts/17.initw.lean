/-! the constructors -/
theorem KC_declared : mk_F cm_cl R_C 0 10 0 (.object "ClauseMatrix$Declarations") := ⟨_, _, _, rfl, by decide, cu_C, ck_T_mk (List.mem_of_getElem? (i := 259) (by decide +kernel)) (by decide +kernel), rfl, co_C, cn_C, by decide +kernel⟩
theorem KC_patterns : mk_F cm_cl R_C 0 19 1 (.object "ClauseMatrix$Patterns") := ⟨_, _, _, rfl, by decide, cu_C, ck_T_mk (List.mem_of_getElem? (i := 260) (by decide +kernel)) (by decide +kernel), rfl, co_C, cn_C, by decide +kernel⟩
theorem KC_values : mk_F cm_cl R_C 0 26 2 (.object "ClauseMatrix$Values") := ⟨_, _, _, rfl, by decide, cu_C, ck_T_mk (List.mem_of_getElem? (i := 261) (by decide +kernel)) (by decide +kernel), rfl, co_C, cn_C, by decide +kernel⟩
theorem KC_match : mk_F cm_cl R_C 0 35 3 (.object "ClauseMatrix$Match") := ⟨_, _, _, rfl, by decide, cu_C, ck_T_mk (List.mem_of_getElem? (i := 262) (by decide +kernel)) (by decide +kernel), rfl, co_C, cn_C, by decide +kernel⟩
theorem KC_tree : mk_F cm_cl R_C 0 44 4 (.object "ClauseMatrix$Tree") := ⟨_, _, _, rfl, by decide, cu_C, ck_T_mk (List.mem_of_getElem? (i := 263) (by decide +kernel)) (by decide +kernel), rfl, co_C, cn_C, by decide +kernel⟩
theorem KC_gap : mk_F cm_cl R_C 0 53 5 (.object "ClauseMatrix$Witness") := ⟨_, _, _, rfl, by decide, cu_C, ck_T_mk (List.mem_of_getElem? (i := 264) (by decide +kernel)) (by decide +kernel), rfl, co_C, cn_C, by decide +kernel⟩
theorem KC_latestTests : mk_F cm_cl R_C 0 57 6 .int := ⟨_, _, _, rfl, by decide, cu_C, ck_T_mk (List.mem_of_getElem? (i := 265) (by decide +kernel)) (by decide +kernel), rfl, co_C, cn_C, by decide +kernel⟩
theorem OC : Cond.methodLink R_C 1 objectInit ∈ ck_T ∧ Cond.instanceMethod objectInit ∈ ck_T ∧ Cond.code objectInit ⟨#[0xb1]⟩ 1 none ∈ ck_T := ⟨ck_T_mk (List.mem_of_getElem? (i := 59) (by decide +kernel)) (by decide +kernel), ck_T_mk (List.mem_of_getElem? (i := 60) (by decide +kernel)) (by decide +kernel), ck_T_mk (List.mem_of_getElem? (i := 61) (by decide +kernel)) (by decide +kernel)⟩
theorem IC1 : Cond.instanceMethod yC_init ∈ ck_T := ck_T_mk (List.mem_of_getElem? (i := 57) (by decide +kernel)) (by decide +kernel)
theorem IC2 : Cond.code yC_init bC_init 1 none ∈ ck_T ∧ Cond.initialized yC_init.cls ∈ ck_T ∧ (yC_init.cls ≠ "java/lang/invoke/MethodHandle" ∧ yC_init.cls ≠ "java/lang/invoke/VarHandle" ∧ (parseMethodDescriptor yC_init.desc).map (fun d => d.parameters.length) = some 0) ∧ 1 ≤ 21 := ⟨ck_T_mk (List.mem_of_getElem? (i := 58) (by decide +kernel)) (by decide +kernel), ini_C, by decide +kernel, by decide⟩
theorem IC4 : Cond.instantiable R_C 7 ∈ ck_T := ck_T_mk (List.mem_of_getElem? (i := 55) (by decide +kernel)) (by decide +kernel)
theorem KD_owner : mk_F cm_cl R_D 1 9 0 (.array .int) := ⟨_, _, _, rfl, by decide, cu_D, ck_T_mk (List.mem_of_getElem? (i := 68) (by decide +kernel)) (by decide +kernel), rfl, co_D, cn_D, by decide +kernel⟩
theorem KD_firstType : mk_F cm_cl R_D 1 15 1 (.array .int) := ⟨_, _, _, rfl, by decide, cu_D, ck_T_mk (List.mem_of_getElem? (i := 69) (by decide +kernel)) (by decide +kernel), rfl, co_D, cn_D, by decide +kernel⟩
theorem KD_secondType : mk_F cm_cl R_D 1 18 2 (.array .int) := ⟨_, _, _, rfl, by decide, cu_D, ck_T_mk (List.mem_of_getElem? (i := 70) (by decide +kernel)) (by decide +kernel), rfl, co_D, cn_D, by decide +kernel⟩
theorem KD_ownTypes : mk_F cm_cl R_D 1 21 3 .int := ⟨_, _, _, rfl, by decide, cu_D, ck_T_mk (List.mem_of_getElem? (i := 71) (by decide +kernel)) (by decide +kernel), rfl, co_D, cn_D, by decide +kernel⟩
theorem KD_constructors : mk_F cm_cl R_D 1 25 4 .int := ⟨_, _, _, rfl, by decide, cu_D, ck_T_mk (List.mem_of_getElem? (i := 72) (by decide +kernel)) (by decide +kernel), rfl, co_D, cn_D, by decide +kernel⟩
theorem OD : Cond.methodLink R_D 3 objectInit ∈ ck_T ∧ Cond.instanceMethod objectInit ∈ ck_T ∧ Cond.code objectInit ⟨#[0xb1]⟩ 1 none ∈ ck_T := ⟨ck_T_mk (List.mem_of_getElem? (i := 67) (by decide +kernel)) (by decide +kernel), ck_T_mk (List.mem_of_getElem? (i := 60) (by decide +kernel)) (by decide +kernel), ck_T_mk (List.mem_of_getElem? (i := 61) (by decide +kernel)) (by decide +kernel)⟩
theorem ID1 : Cond.instanceMethod yD_init ∈ ck_T := ck_T_mk (List.mem_of_getElem? (i := 65) (by decide +kernel)) (by decide +kernel)
theorem ID2 : Cond.code yD_init bD_init 1 none ∈ ck_T ∧ Cond.initialized yD_init.cls ∈ ck_T ∧ (yD_init.cls ≠ "java/lang/invoke/MethodHandle" ∧ yD_init.cls ≠ "java/lang/invoke/VarHandle" ∧ (parseMethodDescriptor yD_init.desc).map (fun d => d.parameters.length) = some 0) ∧ 1 ≤ 21 := ⟨ck_T_mk (List.mem_of_getElem? (i := 66) (by decide +kernel)) (by decide +kernel), ini_D, by decide +kernel, by decide⟩
theorem ID4 : Cond.classLink R_C 7 R_D ∈ ck_T ∧ Cond.instantiable R_D 5 ∈ ck_T := ⟨ck_T_mk (List.mem_of_getElem? (i := 62) (by decide +kernel)) (by decide +kernel), ck_T_mk (List.mem_of_getElem? (i := 63) (by decide +kernel)) (by decide +kernel)⟩
theorem KP_twofold : mk_F cm_cl R_P 2 9 0 (.array .boolean) := ⟨_, _, _, rfl, by decide, cu_P, ck_T_mk (List.mem_of_getElem? (i := 91) (by decide +kernel)) (by decide +kernel), rfl, co_P, cn_P, by decide +kernel⟩
theorem KP_typeOf : mk_F cm_cl R_P 2 15 1 (.array .int) := ⟨_, _, _, rfl, by decide, cu_P, ck_T_mk (List.mem_of_getElem? (i := 92) (by decide +kernel)) (by decide +kernel), rfl, co_P, cn_P, by decide +kernel⟩
theorem KP_symbol : mk_F cm_cl R_P 2 19 2 (.array .int) := ⟨_, _, _, rfl, by decide, cu_P, ck_T_mk (List.mem_of_getElem? (i := 93) (by decide +kernel)) (by decide +kernel), rfl, co_P, cn_P, by decide +kernel⟩
theorem KP_first : mk_F cm_cl R_P 2 22 3 (.array .int) := ⟨_, _, _, rfl, by decide, cu_P, ck_T_mk (List.mem_of_getElem? (i := 94) (by decide +kernel)) (by decide +kernel), rfl, co_P, cn_P, by decide +kernel⟩
theorem KP_second : mk_F cm_cl R_P 2 25 4 (.array .int) := ⟨_, _, _, rfl, by decide, cu_P, ck_T_mk (List.mem_of_getElem? (i := 95) (by decide +kernel)) (by decide +kernel), rfl, co_P, cn_P, by decide +kernel⟩
theorem KP_depth : mk_F cm_cl R_P 2 28 5 (.array .int) := ⟨_, _, _, rfl, by decide, cu_P, ck_T_mk (List.mem_of_getElem? (i := 96) (by decide +kernel)) (by decide +kernel), rfl, co_P, cn_P, by decide +kernel⟩
theorem KP_alternatives : mk_F cm_cl R_P 2 31 6 (.array .int) := ⟨_, _, _, rfl, by decide, cu_P, ck_T_mk (List.mem_of_getElem? (i := 97) (by decide +kernel)) (by decide +kernel), rfl, co_P, cn_P, by decide +kernel⟩
theorem KP_count : mk_F cm_cl R_P 2 34 7 .int := ⟨_, _, _, rfl, by decide, cu_P, ck_T_mk (List.mem_of_getElem? (i := 98) (by decide +kernel)) (by decide +kernel), rfl, co_P, cn_P, by decide +kernel⟩
theorem OP : Cond.methodLink R_P 3 objectInit ∈ ck_T ∧ Cond.instanceMethod objectInit ∈ ck_T ∧ Cond.code objectInit ⟨#[0xb1]⟩ 1 none ∈ ck_T := ⟨ck_T_mk (List.mem_of_getElem? (i := 90) (by decide +kernel)) (by decide +kernel), ck_T_mk (List.mem_of_getElem? (i := 60) (by decide +kernel)) (by decide +kernel), ck_T_mk (List.mem_of_getElem? (i := 61) (by decide +kernel)) (by decide +kernel)⟩
theorem IP1 : Cond.instanceMethod yP_init ∈ ck_T := ck_T_mk (List.mem_of_getElem? (i := 88) (by decide +kernel)) (by decide +kernel)
theorem IP2 : Cond.code yP_init bP_init 1 none ∈ ck_T ∧ Cond.initialized yP_init.cls ∈ ck_T ∧ (yP_init.cls ≠ "java/lang/invoke/MethodHandle" ∧ yP_init.cls ≠ "java/lang/invoke/VarHandle" ∧ (parseMethodDescriptor yP_init.desc).map (fun d => d.parameters.length) = some 0) ∧ 1 ≤ 21 := ⟨ck_T_mk (List.mem_of_getElem? (i := 89) (by decide +kernel)) (by decide +kernel), ini_P, by decide +kernel, by decide⟩
theorem IP4 : Cond.classLink R_C 16 R_P ∈ ck_T ∧ Cond.instantiable R_P 8 ∈ ck_T := ⟨ck_T_mk (List.mem_of_getElem? (i := 85) (by decide +kernel)) (by decide +kernel), ck_T_mk (List.mem_of_getElem? (i := 86) (by decide +kernel)) (by decide +kernel)⟩
theorem KV_typeOf : mk_F cm_cl R_V 3 9 0 (.array .int) := ⟨_, _, _, rfl, by decide, cu_V, ck_T_mk (List.mem_of_getElem? (i := 123) (by decide +kernel)) (by decide +kernel), rfl, co_V, cn_V, by decide +kernel⟩
theorem KV_symbol : mk_F cm_cl R_V 3 15 1 (.array .int) := ⟨_, _, _, rfl, by decide, cu_V, ck_T_mk (List.mem_of_getElem? (i := 124) (by decide +kernel)) (by decide +kernel), rfl, co_V, cn_V, by decide +kernel⟩
theorem KV_first : mk_F cm_cl R_V 3 18 2 (.array .int) := ⟨_, _, _, rfl, by decide, cu_V, ck_T_mk (List.mem_of_getElem? (i := 125) (by decide +kernel)) (by decide +kernel), rfl, co_V, cn_V, by decide +kernel⟩
theorem KV_second : mk_F cm_cl R_V 3 21 3 (.array .int) := ⟨_, _, _, rfl, by decide, cu_V, ck_T_mk (List.mem_of_getElem? (i := 126) (by decide +kernel)) (by decide +kernel), rfl, co_V, cn_V, by decide +kernel⟩
theorem KV_count : mk_F cm_cl R_V 3 24 4 .int := ⟨_, _, _, rfl, by decide, cu_V, ck_T_mk (List.mem_of_getElem? (i := 127) (by decide +kernel)) (by decide +kernel), rfl, co_V, cn_V, by decide +kernel⟩
theorem OV : Cond.methodLink R_V 3 objectInit ∈ ck_T ∧ Cond.instanceMethod objectInit ∈ ck_T ∧ Cond.code objectInit ⟨#[0xb1]⟩ 1 none ∈ ck_T := ⟨ck_T_mk (List.mem_of_getElem? (i := 122) (by decide +kernel)) (by decide +kernel), ck_T_mk (List.mem_of_getElem? (i := 60) (by decide +kernel)) (by decide +kernel), ck_T_mk (List.mem_of_getElem? (i := 61) (by decide +kernel)) (by decide +kernel)⟩
theorem IV1 : Cond.instanceMethod yV_init ∈ ck_T := ck_T_mk (List.mem_of_getElem? (i := 120) (by decide +kernel)) (by decide +kernel)
theorem IV2 : Cond.code yV_init bV_init 1 none ∈ ck_T ∧ Cond.initialized yV_init.cls ∈ ck_T ∧ (yV_init.cls ≠ "java/lang/invoke/MethodHandle" ∧ yV_init.cls ≠ "java/lang/invoke/VarHandle" ∧ (parseMethodDescriptor yV_init.desc).map (fun d => d.parameters.length) = some 0) ∧ 1 ≤ 21 := ⟨ck_T_mk (List.mem_of_getElem? (i := 121) (by decide +kernel)) (by decide +kernel), ini_V, by decide +kernel, by decide⟩
theorem IV4 : Cond.classLink R_C 23 R_V ∈ ck_T ∧ Cond.instantiable R_V 5 ∈ ck_T := ⟨ck_T_mk (List.mem_of_getElem? (i := 117) (by decide +kernel)) (by decide +kernel), ck_T_mk (List.mem_of_getElem? (i := 118) (by decide +kernel)) (by decide +kernel)⟩
theorem KM_patterns : mk_F cm_cl R_M 4 37 0 (.object "ClauseMatrix$Patterns") := ⟨_, _, _, rfl, by decide, cu_M, ck_T_mk (List.mem_of_getElem? (i := 145) (by decide +kernel)) (by decide +kernel), rfl, co_M, cn_M, by decide +kernel⟩
theorem KM_firstClause : mk_F cm_cl R_M 4 9 1 (.array .int) := ⟨_, _, _, rfl, by decide, cu_M, ck_T_mk (List.mem_of_getElem? (i := 146) (by decide +kernel)) (by decide +kernel), rfl, co_M, cn_M, by decide +kernel⟩
theorem KM_rowOfClause : mk_F cm_cl R_M 4 15 2 (.array .int) := ⟨_, _, _, rfl, by decide, cu_M, ck_T_mk (List.mem_of_getElem? (i := 147) (by decide +kernel)) (by decide +kernel), rfl, co_M, cn_M, by decide +kernel⟩
theorem KM_askers : mk_F cm_cl R_M 4 18 3 (.array .int) := ⟨_, _, _, rfl, by decide, cu_M, ck_T_mk (List.mem_of_getElem? (i := 148) (by decide +kernel)) (by decide +kernel), rfl, co_M, cn_M, by decide +kernel⟩
theorem KM_askedSymbol : mk_F cm_cl R_M 4 21 4 (.array .int) := ⟨_, _, _, rfl, by decide, cu_M, ck_T_mk (List.mem_of_getElem? (i := 149) (by decide +kernel)) (by decide +kernel), rfl, co_M, cn_M, by decide +kernel⟩
theorem KM_askedType : mk_F cm_cl R_M 4 24 5 (.array .int) := ⟨_, _, _, rfl, by decide, cu_M, ck_T_mk (List.mem_of_getElem? (i := 150) (by decide +kernel)) (by decide +kernel), rfl, co_M, cn_M, by decide +kernel⟩
theorem KM_over : mk_F cm_cl R_M 4 27 6 .int := ⟨_, _, _, rfl, by decide, cu_M, ck_T_mk (List.mem_of_getElem? (i := 151) (by decide +kernel)) (by decide +kernel), rfl, co_M, cn_M, by decide +kernel⟩
theorem KM_rows : mk_F cm_cl R_M 4 31 7 .int := ⟨_, _, _, rfl, by decide, cu_M, ck_T_mk (List.mem_of_getElem? (i := 152) (by decide +kernel)) (by decide +kernel), rfl, co_M, cn_M, by decide +kernel⟩
theorem KM_clauses : mk_F cm_cl R_M 4 34 8 .int := ⟨_, _, _, rfl, by decide, cu_M, ck_T_mk (List.mem_of_getElem? (i := 153) (by decide +kernel)) (by decide +kernel), rfl, co_M, cn_M, by decide +kernel⟩
theorem OM : Cond.methodLink R_M 3 objectInit ∈ ck_T ∧ Cond.instanceMethod objectInit ∈ ck_T ∧ Cond.code objectInit ⟨#[0xb1]⟩ 1 none ∈ ck_T := ⟨ck_T_mk (List.mem_of_getElem? (i := 144) (by decide +kernel)) (by decide +kernel), ck_T_mk (List.mem_of_getElem? (i := 60) (by decide +kernel)) (by decide +kernel), ck_T_mk (List.mem_of_getElem? (i := 61) (by decide +kernel)) (by decide +kernel)⟩
theorem IM1 : Cond.instanceMethod yM_init ∈ ck_T := ck_T_mk (List.mem_of_getElem? (i := 142) (by decide +kernel)) (by decide +kernel)
theorem IM2 : Cond.code yM_init bM_init 2 none ∈ ck_T ∧ Cond.initialized yM_init.cls ∈ ck_T ∧ (yM_init.cls ≠ "java/lang/invoke/MethodHandle" ∧ yM_init.cls ≠ "java/lang/invoke/VarHandle" ∧ (parseMethodDescriptor yM_init.desc).map (fun d => d.parameters.length) = some 1) ∧ 2 ≤ 21 := ⟨ck_T_mk (List.mem_of_getElem? (i := 143) (by decide +kernel)) (by decide +kernel), ini_M, by decide +kernel, by decide⟩
theorem IM3 : Cond.methodLink R_C 32 yM_init ∈ ck_T := ck_T_mk (List.mem_of_getElem? (i := 141) (by decide +kernel)) (by decide +kernel)
theorem IM4 : Cond.classLink R_C 30 R_M ∈ ck_T ∧ Cond.instantiable R_M 9 ∈ ck_T := ⟨ck_T_mk (List.mem_of_getElem? (i := 139) (by decide +kernel)) (by decide +kernel), ck_T_mk (List.mem_of_getElem? (i := 140) (by decide +kernel)) (by decide +kernel)⟩
theorem KT_declared : mk_F cm_cl R_T 5 60 0 (.object "ClauseMatrix$Declarations") := ⟨_, _, _, rfl, by decide, cu_T, ck_T_mk (List.mem_of_getElem? (i := 179) (by decide +kernel)) (by decide +kernel), rfl, co_T, cn_T, by decide +kernel⟩
theorem KT_match : mk_F cm_cl R_T 5 64 1 (.object "ClauseMatrix$Match") := ⟨_, _, _, rfl, by decide, cu_T, ck_T_mk (List.mem_of_getElem? (i := 180) (by decide +kernel)) (by decide +kernel), rfl, co_T, cn_T, by decide +kernel⟩
theorem KT_left : mk_F cm_cl R_T 5 9 2 (.array .int) := ⟨_, _, _, rfl, by decide, cu_T, ck_T_mk (List.mem_of_getElem? (i := 181) (by decide +kernel)) (by decide +kernel), rfl, co_T, cn_T, by decide +kernel⟩
theorem KT_open : mk_F cm_cl R_T 5 15 3 (.array .int) := ⟨_, _, _, rfl, by decide, cu_T, ck_T_mk (List.mem_of_getElem? (i := 182) (by decide +kernel)) (by decide +kernel), rfl, co_T, cn_T, by decide +kernel⟩
theorem KT_label : mk_F cm_cl R_T 5 18 4 (.array .int) := ⟨_, _, _, rfl, by decide, cu_T, ck_T_mk (List.mem_of_getElem? (i := 183) (by decide +kernel)) (by decide +kernel), rfl, co_T, cn_T, by decide +kernel⟩
theorem KT_above : mk_F cm_cl R_T 5 21 5 (.array .int) := ⟨_, _, _, rfl, by decide, cu_T, ck_T_mk (List.mem_of_getElem? (i := 184) (by decide +kernel)) (by decide +kernel), rfl, co_T, cn_T, by decide +kernel⟩
theorem KT_place : mk_F cm_cl R_T 5 24 6 (.array .int) := ⟨_, _, _, rfl, by decide, cu_T, ck_T_mk (List.mem_of_getElem? (i := 185) (by decide +kernel)) (by decide +kernel), rfl, co_T, cn_T, by decide +kernel⟩
theorem KT_testType : mk_F cm_cl R_T 5 27 7 (.array .int) := ⟨_, _, _, rfl, by decide, cu_T, ck_T_mk (List.mem_of_getElem? (i := 186) (by decide +kernel)) (by decide +kernel), rfl, co_T, cn_T, by decide +kernel⟩
theorem KT_clause : mk_F cm_cl R_T 5 30 8 (.array .int) := ⟨_, _, _, rfl, by decide, cu_T, ck_T_mk (List.mem_of_getElem? (i := 187) (by decide +kernel)) (by decide +kernel), rfl, co_T, cn_T, by decide +kernel⟩
theorem KT_firstBranch : mk_F cm_cl R_T 5 33 9 (.array .int) := ⟨_, _, _, rfl, by decide, cu_T, ck_T_mk (List.mem_of_getElem? (i := 188) (by decide +kernel)) (by decide +kernel), rfl, co_T, cn_T, by decide +kernel⟩
theorem KT_branchCount : mk_F cm_cl R_T 5 36 10 (.array .int) := ⟨_, _, _, rfl, by decide, cu_T, ck_T_mk (List.mem_of_getElem? (i := 189) (by decide +kernel)) (by decide +kernel), rfl, co_T, cn_T, by decide +kernel⟩
theorem KT_kind : mk_F cm_cl R_T 5 39 11 (.array .int) := ⟨_, _, _, rfl, by decide, cu_T, ck_T_mk (List.mem_of_getElem? (i := 190) (by decide +kernel)) (by decide +kernel), rfl, co_T, cn_T, by decide +kernel⟩
theorem KT_failing : mk_F cm_cl R_T 5 42 12 (.array .boolean) := ⟨_, _, _, rfl, by decide, cu_T, ck_T_mk (List.mem_of_getElem? (i := 191) (by decide +kernel)) (by decide +kernel), rfl, co_T, cn_T, by decide +kernel⟩
theorem KT_valueAt : mk_F cm_cl R_T 5 46 13 (.array .int) := ⟨_, _, _, rfl, by decide, cu_T, ck_T_mk (List.mem_of_getElem? (i := 192) (by decide +kernel)) (by decide +kernel), rfl, co_T, cn_T, by decide +kernel⟩
theorem KT_size : mk_F cm_cl R_T 5 49 14 .int := ⟨_, _, _, rfl, by decide, cu_T, ck_T_mk (List.mem_of_getElem? (i := 193) (by decide +kernel)) (by decide +kernel), rfl, co_T, cn_T, by decide +kernel⟩
theorem KT_caught : mk_F cm_cl R_T 5 53 15 .int := ⟨_, _, _, rfl, by decide, cu_T, ck_T_mk (List.mem_of_getElem? (i := 194) (by decide +kernel)) (by decide +kernel), rfl, co_T, cn_T, by decide +kernel⟩
theorem KT_there : mk_F cm_cl R_T 5 56 16 .boolean := ⟨_, _, _, rfl, by decide, cu_T, ck_T_mk (List.mem_of_getElem? (i := 195) (by decide +kernel)) (by decide +kernel), rfl, co_T, cn_T, by decide +kernel⟩
theorem OT : Cond.methodLink R_T 3 objectInit ∈ ck_T ∧ Cond.instanceMethod objectInit ∈ ck_T ∧ Cond.code objectInit ⟨#[0xb1]⟩ 1 none ∈ ck_T := ⟨ck_T_mk (List.mem_of_getElem? (i := 178) (by decide +kernel)) (by decide +kernel), ck_T_mk (List.mem_of_getElem? (i := 60) (by decide +kernel)) (by decide +kernel), ck_T_mk (List.mem_of_getElem? (i := 61) (by decide +kernel)) (by decide +kernel)⟩
theorem IT1 : Cond.instanceMethod yT_init ∈ ck_T := ck_T_mk (List.mem_of_getElem? (i := 176) (by decide +kernel)) (by decide +kernel)
theorem IT2 : Cond.code yT_init bT_init 3 none ∈ ck_T ∧ Cond.initialized yT_init.cls ∈ ck_T ∧ (yT_init.cls ≠ "java/lang/invoke/MethodHandle" ∧ yT_init.cls ≠ "java/lang/invoke/VarHandle" ∧ (parseMethodDescriptor yT_init.desc).map (fun d => d.parameters.length) = some 2) ∧ 3 ≤ 21 := ⟨ck_T_mk (List.mem_of_getElem? (i := 177) (by decide +kernel)) (by decide +kernel), ini_T, by decide +kernel, by decide⟩
theorem IT3 : Cond.methodLink R_C 41 yT_init ∈ ck_T := ck_T_mk (List.mem_of_getElem? (i := 175) (by decide +kernel)) (by decide +kernel)
theorem IT4 : Cond.classLink R_C 39 R_T ∈ ck_T ∧ Cond.instantiable R_T 17 ∈ ck_T := ⟨ck_T_mk (List.mem_of_getElem? (i := 173) (by decide +kernel)) (by decide +kernel), ck_T_mk (List.mem_of_getElem? (i := 174) (by decide +kernel)) (by decide +kernel)⟩
theorem KG_declared : mk_F cm_cl R_G 6 28 0 (.object "ClauseMatrix$Declarations") := ⟨_, _, _, rfl, by decide, cu_G, ck_T_mk (List.mem_of_getElem? (i := 237) (by decide +kernel)) (by decide +kernel), rfl, co_G, cn_G, by decide +kernel⟩
theorem KG_tree : mk_F cm_cl R_G 6 32 1 (.object "ClauseMatrix$Tree") := ⟨_, _, _, rfl, by decide, cu_G, ck_T_mk (List.mem_of_getElem? (i := 238) (by decide +kernel)) (by decide +kernel), rfl, co_G, cn_G, by decide +kernel⟩
theorem KG_kindAt : mk_F cm_cl R_G 6 9 2 (.array .int) := ⟨_, _, _, rfl, by decide, cu_G, ck_T_mk (List.mem_of_getElem? (i := 239) (by decide +kernel)) (by decide +kernel), rfl, co_G, cn_G, by decide +kernel⟩
theorem KG_symbolAt : mk_F cm_cl R_G 6 15 3 (.array .int) := ⟨_, _, _, rfl, by decide, cu_G, ck_T_mk (List.mem_of_getElem? (i := 240) (by decide +kernel)) (by decide +kernel), rfl, co_G, cn_G, by decide +kernel⟩
theorem KG_kind : mk_F cm_cl R_G 6 18 4 (.array .int) := ⟨_, _, _, rfl, by decide, cu_G, ck_T_mk (List.mem_of_getElem? (i := 241) (by decide +kernel)) (by decide +kernel), rfl, co_G, cn_G, by decide +kernel⟩
theorem KG_symbol : mk_F cm_cl R_G 6 21 5 (.array .int) := ⟨_, _, _, rfl, by decide, cu_G, ck_T_mk (List.mem_of_getElem? (i := 242) (by decide +kernel)) (by decide +kernel), rfl, co_G, cn_G, by decide +kernel⟩
theorem KG_length : mk_F cm_cl R_G 6 24 6 .int := ⟨_, _, _, rfl, by decide, cu_G, ck_T_mk (List.mem_of_getElem? (i := 243) (by decide +kernel)) (by decide +kernel), rfl, co_G, cn_G, by decide +kernel⟩
theorem OG : Cond.methodLink R_G 3 objectInit ∈ ck_T ∧ Cond.instanceMethod objectInit ∈ ck_T ∧ Cond.code objectInit ⟨#[0xb1]⟩ 1 none ∈ ck_T := ⟨ck_T_mk (List.mem_of_getElem? (i := 236) (by decide +kernel)) (by decide +kernel), ck_T_mk (List.mem_of_getElem? (i := 60) (by decide +kernel)) (by decide +kernel), ck_T_mk (List.mem_of_getElem? (i := 61) (by decide +kernel)) (by decide +kernel)⟩
theorem IG1 : Cond.instanceMethod yG_init ∈ ck_T := ck_T_mk (List.mem_of_getElem? (i := 234) (by decide +kernel)) (by decide +kernel)
theorem IG2 : Cond.code yG_init bG_init 3 none ∈ ck_T ∧ Cond.initialized yG_init.cls ∈ ck_T ∧ (yG_init.cls ≠ "java/lang/invoke/MethodHandle" ∧ yG_init.cls ≠ "java/lang/invoke/VarHandle" ∧ (parseMethodDescriptor yG_init.desc).map (fun d => d.parameters.length) = some 2) ∧ 3 ≤ 21 := ⟨ck_T_mk (List.mem_of_getElem? (i := 235) (by decide +kernel)) (by decide +kernel), ini_G, by decide +kernel, by decide⟩
theorem IG3 : Cond.methodLink R_C 50 yG_init ∈ ck_T := ck_T_mk (List.mem_of_getElem? (i := 233) (by decide +kernel)) (by decide +kernel)
theorem IG4 : Cond.classLink R_C 48 R_G ∈ ck_T ∧ Cond.instantiable R_G 7 ∈ ck_T := ⟨ck_T_mk (List.mem_of_getElem? (i := 231) (by decide +kernel)) (by decide +kernel), ck_T_mk (List.mem_of_getElem? (i := 232) (by decide +kernel)) (by decide +kernel)⟩
theorem KR_types : mk_F cm_cl R_R 7 120 0 .int := ⟨_, _, _, rfl, by decide, cu_R, ck_T_mk (List.mem_of_getElem? (i := 775) (by decide +kernel)) (by decide +kernel), rfl, co_R, cn_R, by decide +kernel⟩
theorem KR_constructors : mk_F cm_cl R_R 7 123 1 .int := ⟨_, _, _, rfl, by decide, cu_R, ck_T_mk (List.mem_of_getElem? (i := 776) (by decide +kernel)) (by decide +kernel), rfl, co_R, cn_R, by decide +kernel⟩
theorem KR_owner : mk_F cm_cl R_R 7 7 2 (.array .int) := ⟨_, _, _, rfl, by decide, cu_R, ck_T_mk (List.mem_of_getElem? (i := 777) (by decide +kernel)) (by decide +kernel), rfl, co_R, cn_R, by decide +kernel⟩
theorem KR_first : mk_F cm_cl R_R 7 13 3 (.array .int) := ⟨_, _, _, rfl, by decide, cu_R, ck_T_mk (List.mem_of_getElem? (i := 778) (by decide +kernel)) (by decide +kernel), rfl, co_R, cn_R, by decide +kernel⟩
theorem KR_second : mk_F cm_cl R_R 7 16 4 (.array .int) := ⟨_, _, _, rfl, by decide, cu_R, ck_T_mk (List.mem_of_getElem? (i := 779) (by decide +kernel)) (by decide +kernel), rfl, co_R, cn_R, by decide +kernel⟩
theorem KR_patterns : mk_F cm_cl R_R 7 126 5 .int := ⟨_, _, _, rfl, by decide, cu_R, ck_T_mk (List.mem_of_getElem? (i := 780) (by decide +kernel)) (by decide +kernel), rfl, co_R, cn_R, by decide +kernel⟩
theorem KR_kind : mk_F cm_cl R_R 7 19 6 (.array .int) := ⟨_, _, _, rfl, by decide, cu_R, ck_T_mk (List.mem_of_getElem? (i := 781) (by decide +kernel)) (by decide +kernel), rfl, co_R, cn_R, by decide +kernel⟩
theorem KR_what : mk_F cm_cl R_R 7 22 7 (.array .int) := ⟨_, _, _, rfl, by decide, cu_R, ck_T_mk (List.mem_of_getElem? (i := 782) (by decide +kernel)) (by decide +kernel), rfl, co_R, cn_R, by decide +kernel⟩
theorem KR_left : mk_F cm_cl R_R 7 25 8 (.array .int) := ⟨_, _, _, rfl, by decide, cu_R, ck_T_mk (List.mem_of_getElem? (i := 783) (by decide +kernel)) (by decide +kernel), rfl, co_R, cn_R, by decide +kernel⟩
theorem KR_right : mk_F cm_cl R_R 7 28 9 (.array .int) := ⟨_, _, _, rfl, by decide, cu_R, ck_T_mk (List.mem_of_getElem? (i := 784) (by decide +kernel)) (by decide +kernel), rfl, co_R, cn_R, by decide +kernel⟩
theorem KR_kindOfType : mk_F cm_cl R_R 7 31 10 (.array .int) := ⟨_, _, _, rfl, by decide, cu_R, ck_T_mk (List.mem_of_getElem? (i := 785) (by decide +kernel)) (by decide +kernel), rfl, co_R, cn_R, by decide +kernel⟩
theorem KR_depth : mk_F cm_cl R_R 7 34 11 (.array .int) := ⟨_, _, _, rfl, by decide, cu_R, ck_T_mk (List.mem_of_getElem? (i := 786) (by decide +kernel)) (by decide +kernel), rfl, co_R, cn_R, by decide +kernel⟩
theorem KR_choices : mk_F cm_cl R_R 7 37 12 (.array .int) := ⟨_, _, _, rfl, by decide, cu_R, ck_T_mk (List.mem_of_getElem? (i := 787) (by decide +kernel)) (by decide +kernel), rfl, co_R, cn_R, by decide +kernel⟩
theorem KR_values : mk_F cm_cl R_R 7 129 13 .int := ⟨_, _, _, rfl, by decide, cu_R, ck_T_mk (List.mem_of_getElem? (i := 788) (by decide +kernel)) (by decide +kernel), rfl, co_R, cn_R, by decide +kernel⟩
theorem KR_valueKind : mk_F cm_cl R_R 7 40 14 (.array .int) := ⟨_, _, _, rfl, by decide, cu_R, ck_T_mk (List.mem_of_getElem? (i := 789) (by decide +kernel)) (by decide +kernel), rfl, co_R, cn_R, by decide +kernel⟩
theorem KR_valueWhat : mk_F cm_cl R_R 7 43 15 (.array .int) := ⟨_, _, _, rfl, by decide, cu_R, ck_T_mk (List.mem_of_getElem? (i := 790) (by decide +kernel)) (by decide +kernel), rfl, co_R, cn_R, by decide +kernel⟩
theorem KR_valueLeft : mk_F cm_cl R_R 7 46 16 (.array .int) := ⟨_, _, _, rfl, by decide, cu_R, ck_T_mk (List.mem_of_getElem? (i := 791) (by decide +kernel)) (by decide +kernel), rfl, co_R, cn_R, by decide +kernel⟩
theorem KR_valueRight : mk_F cm_cl R_R 7 49 17 (.array .int) := ⟨_, _, _, rfl, by decide, cu_R, ck_T_mk (List.mem_of_getElem? (i := 792) (by decide +kernel)) (by decide +kernel), rfl, co_R, cn_R, by decide +kernel⟩
theorem KR_over : mk_F cm_cl R_R 7 52 18 .int := ⟨_, _, _, rfl, by decide, cu_R, ck_T_mk (List.mem_of_getElem? (i := 793) (by decide +kernel)) (by decide +kernel), rfl, co_R, cn_R, by decide +kernel⟩
theorem KR_rows : mk_F cm_cl R_R 7 132 19 .int := ⟨_, _, _, rfl, by decide, cu_R, ck_T_mk (List.mem_of_getElem? (i := 794) (by decide +kernel)) (by decide +kernel), rfl, co_R, cn_R, by decide +kernel⟩
theorem KR_clauses : mk_F cm_cl R_R 7 135 20 .int := ⟨_, _, _, rfl, by decide, cu_R, ck_T_mk (List.mem_of_getElem? (i := 795) (by decide +kernel)) (by decide +kernel), rfl, co_R, cn_R, by decide +kernel⟩
theorem KR_rowOf : mk_F cm_cl R_R 7 56 21 (.array .int) := ⟨_, _, _, rfl, by decide, cu_R, ck_T_mk (List.mem_of_getElem? (i := 796) (by decide +kernel)) (by decide +kernel), rfl, co_R, cn_R, by decide +kernel⟩
theorem KR_numberOf : mk_F cm_cl R_R 7 59 22 (.array .int) := ⟨_, _, _, rfl, by decide, cu_R, ck_T_mk (List.mem_of_getElem? (i := 797) (by decide +kernel)) (by decide +kernel), rfl, co_R, cn_R, by decide +kernel⟩
theorem KR_asks : mk_F cm_cl R_R 7 62 23 (.array .int) := ⟨_, _, _, rfl, by decide, cu_R, ck_T_mk (List.mem_of_getElem? (i := 798) (by decide +kernel)) (by decide +kernel), rfl, co_R, cn_R, by decide +kernel⟩
theorem KR_asked : mk_F cm_cl R_R 7 65 24 (.array .int) := ⟨_, _, _, rfl, by decide, cu_R, ck_T_mk (List.mem_of_getElem? (i := 799) (by decide +kernel)) (by decide +kernel), rfl, co_R, cn_R, by decide +kernel⟩
theorem KR_waits : mk_F cm_cl R_R 7 68 25 (.array .int) := ⟨_, _, _, rfl, by decide, cu_R, ck_T_mk (List.mem_of_getElem? (i := 800) (by decide +kernel)) (by decide +kernel), rfl, co_R, cn_R, by decide +kernel⟩
theorem KR_choice : mk_F cm_cl R_R 7 71 26 (.array .int) := ⟨_, _, _, rfl, by decide, cu_R, ck_T_mk (List.mem_of_getElem? (i := 801) (by decide +kernel)) (by decide +kernel), rfl, co_R, cn_R, by decide +kernel⟩
theorem KR_spot : mk_F cm_cl R_R 7 74 27 (.array .int) := ⟨_, _, _, rfl, by decide, cu_R, ck_T_mk (List.mem_of_getElem? (i := 802) (by decide +kernel)) (by decide +kernel), rfl, co_R, cn_R, by decide +kernel⟩
theorem KR_grown : mk_F cm_cl R_R 7 138 28 .boolean := ⟨_, _, _, rfl, by decide, cu_R, ck_T_mk (List.mem_of_getElem? (i := 803) (by decide +kernel)) (by decide +kernel), rfl, co_R, cn_R, by decide +kernel⟩
theorem KR_nodes : mk_F cm_cl R_R 7 182 29 .int := ⟨_, _, _, rfl, by decide, cu_R, ck_T_mk (List.mem_of_getElem? (i := 804) (by decide +kernel)) (by decide +kernel), rfl, co_R, cn_R, by decide +kernel⟩
theorem KR_tooBig : mk_F cm_cl R_R 7 185 30 .boolean := ⟨_, _, _, rfl, by decide, cu_R, ck_T_mk (List.mem_of_getElem? (i := 805) (by decide +kernel)) (by decide +kernel), rfl, co_R, cn_R, by decide +kernel⟩
theorem KR_remain : mk_F cm_cl R_R 7 77 31 (.array .int) := ⟨_, _, _, rfl, by decide, cu_R, ck_T_mk (List.mem_of_getElem? (i := 806) (by decide +kernel)) (by decide +kernel), rfl, co_R, cn_R, by decide +kernel⟩
theorem KR_open : mk_F cm_cl R_R 7 80 32 (.array .int) := ⟨_, _, _, rfl, by decide, cu_R, ck_T_mk (List.mem_of_getElem? (i := 807) (by decide +kernel)) (by decide +kernel), rfl, co_R, cn_R, by decide +kernel⟩
theorem KR_place : mk_F cm_cl R_R 7 83 33 (.array .int) := ⟨_, _, _, rfl, by decide, cu_R, ck_T_mk (List.mem_of_getElem? (i := 808) (by decide +kernel)) (by decide +kernel), rfl, co_R, cn_R, by decide +kernel⟩
theorem KR_test : mk_F cm_cl R_R 7 86 34 (.array .int) := ⟨_, _, _, rfl, by decide, cu_R, ck_T_mk (List.mem_of_getElem? (i := 809) (by decide +kernel)) (by decide +kernel), rfl, co_R, cn_R, by decide +kernel⟩
theorem KR_leaf : mk_F cm_cl R_R 7 89 35 (.array .int) := ⟨_, _, _, rfl, by decide, cu_R, ck_T_mk (List.mem_of_getElem? (i := 810) (by decide +kernel)) (by decide +kernel), rfl, co_R, cn_R, by decide +kernel⟩
theorem KR_from : mk_F cm_cl R_R 7 92 36 (.array .int) := ⟨_, _, _, rfl, by decide, cu_R, ck_T_mk (List.mem_of_getElem? (i := 811) (by decide +kernel)) (by decide +kernel), rfl, co_R, cn_R, by decide +kernel⟩
theorem KR_many : mk_F cm_cl R_R 7 95 37 (.array .int) := ⟨_, _, _, rfl, by decide, cu_R, ck_T_mk (List.mem_of_getElem? (i := 812) (by decide +kernel)) (by decide +kernel), rfl, co_R, cn_R, by decide +kernel⟩
theorem KR_label : mk_F cm_cl R_R 7 98 38 (.array .int) := ⟨_, _, _, rfl, by decide, cu_R, ck_T_mk (List.mem_of_getElem? (i := 813) (by decide +kernel)) (by decide +kernel), rfl, co_R, cn_R, by decide +kernel⟩
theorem KR_others : mk_F cm_cl R_R 7 101 39 (.array .boolean) := ⟨_, _, _, rfl, by decide, cu_R, ck_T_mk (List.mem_of_getElem? (i := 814) (by decide +kernel)) (by decide +kernel), rfl, co_R, cn_R, by decide +kernel⟩
theorem KR_work : mk_F cm_cl R_R 7 105 40 (.array .int) := ⟨_, _, _, rfl, by decide, cu_R, ck_T_mk (List.mem_of_getElem? (i := 815) (by decide +kernel)) (by decide +kernel), rfl, co_R, cn_R, by decide +kernel⟩
theorem KR_symbols : mk_F cm_cl R_R 7 216 41 .int := ⟨_, _, _, rfl, by decide, cu_R, ck_T_mk (List.mem_of_getElem? (i := 816) (by decide +kernel)) (by decide +kernel), rfl, co_R, cn_R, by decide +kernel⟩
theorem KR_symbolKind : mk_F cm_cl R_R 7 108 42 (.array .int) := ⟨_, _, _, rfl, by decide, cu_R, ck_T_mk (List.mem_of_getElem? (i := 817) (by decide +kernel)) (by decide +kernel), rfl, co_R, cn_R, by decide +kernel⟩
theorem KR_symbol : mk_F cm_cl R_R 7 111 43 (.array .int) := ⟨_, _, _, rfl, by decide, cu_R, ck_T_mk (List.mem_of_getElem? (i := 818) (by decide +kernel)) (by decide +kernel), rfl, co_R, cn_R, by decide +kernel⟩
theorem KR_wayKind : mk_F cm_cl R_R 7 114 44 (.array .int) := ⟨_, _, _, rfl, by decide, cu_R, ck_T_mk (List.mem_of_getElem? (i := 819) (by decide +kernel)) (by decide +kernel), rfl, co_R, cn_R, by decide +kernel⟩
theorem KR_way : mk_F cm_cl R_R 7 117 45 (.array .int) := ⟨_, _, _, rfl, by decide, cu_R, ck_T_mk (List.mem_of_getElem? (i := 820) (by decide +kernel)) (by decide +kernel), rfl, co_R, cn_R, by decide +kernel⟩
theorem KR_tested : mk_F cm_cl R_R 7 142 46 .int := ⟨_, _, _, rfl, by decide, cu_R, ck_T_mk (List.mem_of_getElem? (i := 821) (by decide +kernel)) (by decide +kernel), rfl, co_R, cn_R, by decide +kernel⟩
theorem OR : Cond.methodLink R_R 1 objectInit ∈ ck_T ∧ Cond.instanceMethod objectInit ∈ ck_T ∧ Cond.code objectInit ⟨#[0xb1]⟩ 1 none ∈ ck_T := ⟨ck_T_mk (List.mem_of_getElem? (i := 774) (by decide +kernel)) (by decide +kernel), ck_T_mk (List.mem_of_getElem? (i := 60) (by decide +kernel)) (by decide +kernel), ck_T_mk (List.mem_of_getElem? (i := 61) (by decide +kernel)) (by decide +kernel)⟩
theorem IR1 : Cond.instanceMethod yR_init ∈ ck_T := ck_T_mk (List.mem_of_getElem? (i := 772) (by decide +kernel)) (by decide +kernel)
theorem IR2 : Cond.code yR_init bR_init 1 none ∈ ck_T ∧ Cond.initialized yR_init.cls ∈ ck_T ∧ (yR_init.cls ≠ "java/lang/invoke/MethodHandle" ∧ yR_init.cls ≠ "java/lang/invoke/VarHandle" ∧ (parseMethodDescriptor yR_init.desc).map (fun d => d.parameters.length) = some 0) ∧ 1 ≤ 21 := ⟨ck_T_mk (List.mem_of_getElem? (i := 773) (by decide +kernel)) (by decide +kernel), ini_R, by decide +kernel, by decide⟩
theorem IR4 : Cond.instantiable R_R 47 ∈ ck_T := ck_T_mk (List.mem_of_getElem? (i := 770) (by decide +kernel)) (by decide +kernel)
def mk_N (U : State) : Prop := va_Nw (.methodLinkNest R_C 9 yD_init "ClauseMatrix") U ∧ va_Nw (.methodLinkNest R_C 18 yP_init "ClauseMatrix") U ∧ va_Nw (.methodLinkNest R_C 25 yV_init "ClauseMatrix") U
theorem mk_N_same (u U : State) (h : u.vm = U.vm) (z : mk_N u) : mk_N U := ⟨z.1.same rfl h, z.2.1.same rfl h, z.2.2.same rfl h⟩
theorem mk_N_warm {s U : State} (h : s.WarmedH U.vm) (z : mk_N s) : mk_N U := ⟨z.1.warmM h, z.2.1.warmM h, z.2.2.warmM h⟩
theorem mk_N_of {s : State} {args : Array Value} (hts : ∀ w ∈ lw_tbl, w.before args s = true) : mk_N s := ⟨va_Nw.of rfl (hts _ (List.mem_of_getElem? (i := 64) (by decide +kernel))), va_Nw.of rfl (hts _ (List.mem_of_getElem? (i := 87) (by decide +kernel))), va_Nw.of rfl (hts _ (List.mem_of_getElem? (i := 119) (by decide +kernel)))⟩
theorem dC_init_0 : decode bC_init 0 = .ok (.aload_n 0, 1) := by decide +kernel
theorem dC_init_1 : decode bC_init 1 = .ok (.invokespecial 1, 3) := by decide +kernel
theorem dC_init_4 : decode bC_init 4 = .ok (.aload_n 0, 1) := by decide +kernel
theorem dC_init_5 : decode bC_init 5 = .ok (.new 7, 3) := by decide +kernel
theorem dC_init_8 : decode bC_init 8 = .ok (.dup, 1) := by decide +kernel
theorem dC_init_9 : decode bC_init 9 = .ok (.invokespecial 9, 3) := by decide +kernel
theorem dC_init_12 : decode bC_init 12 = .ok (.putfield 10, 3) := by decide +kernel
theorem dC_init_15 : decode bC_init 15 = .ok (.aload_n 0, 1) := by decide +kernel
theorem dC_init_16 : decode bC_init 16 = .ok (.new 16, 3) := by decide +kernel
theorem dC_init_19 : decode bC_init 19 = .ok (.dup, 1) := by decide +kernel
theorem dC_init_20 : decode bC_init 20 = .ok (.invokespecial 18, 3) := by decide +kernel
theorem dC_init_23 : decode bC_init 23 = .ok (.putfield 19, 3) := by decide +kernel
theorem dC_init_26 : decode bC_init 26 = .ok (.aload_n 0, 1) := by decide +kernel
theorem dC_init_27 : decode bC_init 27 = .ok (.new 23, 3) := by decide +kernel
theorem dC_init_30 : decode bC_init 30 = .ok (.dup, 1) := by decide +kernel
theorem dC_init_31 : decode bC_init 31 = .ok (.invokespecial 25, 3) := by decide +kernel
theorem dC_init_34 : decode bC_init 34 = .ok (.putfield 26, 3) := by decide +kernel
theorem dC_init_37 : decode bC_init 37 = .ok (.aload_n 0, 1) := by decide +kernel
theorem dC_init_38 : decode bC_init 38 = .ok (.new 30, 3) := by decide +kernel
theorem dC_init_41 : decode bC_init 41 = .ok (.dup, 1) := by decide +kernel
theorem dC_init_42 : decode bC_init 42 = .ok (.aload_n 0, 1) := by decide +kernel
theorem dC_init_43 : decode bC_init 43 = .ok (.getfield 19, 3) := by decide +kernel
theorem dC_init_46 : decode bC_init 46 = .ok (.invokespecial 32, 3) := by decide +kernel
theorem dC_init_49 : decode bC_init 49 = .ok (.putfield 35, 3) := by decide +kernel
theorem dC_init_52 : decode bC_init 52 = .ok (.aload_n 0, 1) := by decide +kernel
theorem dC_init_53 : decode bC_init 53 = .ok (.new 39, 3) := by decide +kernel
theorem dC_init_56 : decode bC_init 56 = .ok (.dup, 1) := by decide +kernel
theorem dC_init_57 : decode bC_init 57 = .ok (.aload_n 0, 1) := by decide +kernel
theorem dC_init_58 : decode bC_init 58 = .ok (.getfield 10, 3) := by decide +kernel
theorem dC_init_61 : decode bC_init 61 = .ok (.aload_n 0, 1) := by decide +kernel
theorem dC_init_62 : decode bC_init 62 = .ok (.getfield 35, 3) := by decide +kernel
theorem dC_init_65 : decode bC_init 65 = .ok (.invokespecial 41, 3) := by decide +kernel
theorem dC_init_68 : decode bC_init 68 = .ok (.putfield 44, 3) := by decide +kernel
theorem dC_init_71 : decode bC_init 71 = .ok (.aload_n 0, 1) := by decide +kernel
theorem dC_init_72 : decode bC_init 72 = .ok (.new 48, 3) := by decide +kernel
theorem dC_init_75 : decode bC_init 75 = .ok (.dup, 1) := by decide +kernel
theorem dC_init_76 : decode bC_init 76 = .ok (.aload_n 0, 1) := by decide +kernel
theorem dC_init_77 : decode bC_init 77 = .ok (.getfield 10, 3) := by decide +kernel
theorem dC_init_80 : decode bC_init 80 = .ok (.aload_n 0, 1) := by decide +kernel
theorem dC_init_81 : decode bC_init 81 = .ok (.getfield 44, 3) := by decide +kernel
theorem dC_init_84 : decode bC_init 84 = .ok (.invokespecial 50, 3) := by decide +kernel
theorem dC_init_87 : decode bC_init 87 = .ok (.putfield 53, 3) := by decide +kernel
theorem dC_init_90 : decode bC_init 90 = .ok (.aload_n 0, 1) := by decide +kernel
theorem dC_init_91 : decode bC_init 91 = .ok (.iconst 0, 1) := by decide +kernel
theorem dC_init_92 : decode bC_init 92 = .ok (.putfield 57, 3) := by decide +kernel
theorem dC_init_95 : decode bC_init 95 = .ok (.return_, 1) := by decide +kernel
theorem dD_init_0 : decode bD_init 0 = .ok (.aload_n 0, 1) := by decide +kernel
theorem dD_init_1 : decode bD_init 1 = .ok (.invokespecial 3, 3) := by decide +kernel
theorem dD_init_4 : decode bD_init 4 = .ok (.aload_n 0, 1) := by decide +kernel
theorem dD_init_5 : decode bD_init 5 = .ok (.bipush 12, 2) := by decide +kernel
theorem dD_init_7 : decode bD_init 7 = .ok (.newarray .int, 2) := by decide +kernel
theorem dD_init_9 : decode bD_init 9 = .ok (.putfield 9, 3) := by decide +kernel
theorem dD_init_12 : decode bD_init 12 = .ok (.aload_n 0, 1) := by decide +kernel
theorem dD_init_13 : decode bD_init 13 = .ok (.bipush 12, 2) := by decide +kernel
theorem dD_init_15 : decode bD_init 15 = .ok (.newarray .int, 2) := by decide +kernel
theorem dD_init_17 : decode bD_init 17 = .ok (.putfield 15, 3) := by decide +kernel
theorem dD_init_20 : decode bD_init 20 = .ok (.aload_n 0, 1) := by decide +kernel
theorem dD_init_21 : decode bD_init 21 = .ok (.bipush 12, 2) := by decide +kernel
theorem dD_init_23 : decode bD_init 23 = .ok (.newarray .int, 2) := by decide +kernel
theorem dD_init_25 : decode bD_init 25 = .ok (.putfield 18, 3) := by decide +kernel
theorem dD_init_28 : decode bD_init 28 = .ok (.aload_n 0, 1) := by decide +kernel
theorem dD_init_29 : decode bD_init 29 = .ok (.iconst 0, 1) := by decide +kernel
theorem dD_init_30 : decode bD_init 30 = .ok (.putfield 21, 3) := by decide +kernel
theorem dD_init_33 : decode bD_init 33 = .ok (.aload_n 0, 1) := by decide +kernel
theorem dD_init_34 : decode bD_init 34 = .ok (.iconst 0, 1) := by decide +kernel
theorem dD_init_35 : decode bD_init 35 = .ok (.putfield 25, 3) := by decide +kernel
theorem dD_init_38 : decode bD_init 38 = .ok (.return_, 1) := by decide +kernel
theorem dP_init_0 : decode bP_init 0 = .ok (.aload_n 0, 1) := by decide +kernel
theorem dP_init_1 : decode bP_init 1 = .ok (.invokespecial 3, 3) := by decide +kernel
theorem dP_init_4 : decode bP_init 4 = .ok (.aload_n 0, 1) := by decide +kernel
theorem dP_init_5 : decode bP_init 5 = .ok (.bipush 60, 2) := by decide +kernel
theorem dP_init_7 : decode bP_init 7 = .ok (.newarray .boolean, 2) := by decide +kernel
theorem dP_init_9 : decode bP_init 9 = .ok (.putfield 9, 3) := by decide +kernel
theorem dP_init_12 : decode bP_init 12 = .ok (.aload_n 0, 1) := by decide +kernel
theorem dP_init_13 : decode bP_init 13 = .ok (.bipush 60, 2) := by decide +kernel
theorem dP_init_15 : decode bP_init 15 = .ok (.newarray .int, 2) := by decide +kernel
theorem dP_init_17 : decode bP_init 17 = .ok (.putfield 15, 3) := by decide +kernel
theorem dP_init_20 : decode bP_init 20 = .ok (.aload_n 0, 1) := by decide +kernel
theorem dP_init_21 : decode bP_init 21 = .ok (.bipush 60, 2) := by decide +kernel
theorem dP_init_23 : decode bP_init 23 = .ok (.newarray .int, 2) := by decide +kernel
theorem dP_init_25 : decode bP_init 25 = .ok (.putfield 19, 3) := by decide +kernel
theorem dP_init_28 : decode bP_init 28 = .ok (.aload_n 0, 1) := by decide +kernel
theorem dP_init_29 : decode bP_init 29 = .ok (.bipush 60, 2) := by decide +kernel
theorem dP_init_31 : decode bP_init 31 = .ok (.newarray .int, 2) := by decide +kernel
theorem dP_init_33 : decode bP_init 33 = .ok (.putfield 22, 3) := by decide +kernel
theorem dP_init_36 : decode bP_init 36 = .ok (.aload_n 0, 1) := by decide +kernel
theorem dP_init_37 : decode bP_init 37 = .ok (.bipush 60, 2) := by decide +kernel
theorem dP_init_39 : decode bP_init 39 = .ok (.newarray .int, 2) := by decide +kernel
theorem dP_init_41 : decode bP_init 41 = .ok (.putfield 25, 3) := by decide +kernel
theorem dP_init_44 : decode bP_init 44 = .ok (.aload_n 0, 1) := by decide +kernel
theorem dP_init_45 : decode bP_init 45 = .ok (.bipush 60, 2) := by decide +kernel
theorem dP_init_47 : decode bP_init 47 = .ok (.newarray .int, 2) := by decide +kernel
theorem dP_init_49 : decode bP_init 49 = .ok (.putfield 28, 3) := by decide +kernel
theorem dP_init_52 : decode bP_init 52 = .ok (.aload_n 0, 1) := by decide +kernel
theorem dP_init_53 : decode bP_init 53 = .ok (.bipush 60, 2) := by decide +kernel
theorem dP_init_55 : decode bP_init 55 = .ok (.newarray .int, 2) := by decide +kernel
theorem dP_init_57 : decode bP_init 57 = .ok (.putfield 31, 3) := by decide +kernel
theorem dP_init_60 : decode bP_init 60 = .ok (.aload_n 0, 1) := by decide +kernel
theorem dP_init_61 : decode bP_init 61 = .ok (.iconst 0, 1) := by decide +kernel
theorem dP_init_62 : decode bP_init 62 = .ok (.putfield 34, 3) := by decide +kernel
theorem dP_init_65 : decode bP_init 65 = .ok (.return_, 1) := by decide +kernel
theorem dV_init_0 : decode bV_init 0 = .ok (.aload_n 0, 1) := by decide +kernel
theorem dV_init_1 : decode bV_init 1 = .ok (.invokespecial 3, 3) := by decide +kernel
theorem dV_init_4 : decode bV_init 4 = .ok (.aload_n 0, 1) := by decide +kernel
theorem dV_init_5 : decode bV_init 5 = .ok (.bipush 60, 2) := by decide +kernel
theorem dV_init_7 : decode bV_init 7 = .ok (.newarray .int, 2) := by decide +kernel
theorem dV_init_9 : decode bV_init 9 = .ok (.putfield 9, 3) := by decide +kernel
theorem dV_init_12 : decode bV_init 12 = .ok (.aload_n 0, 1) := by decide +kernel
theorem dV_init_13 : decode bV_init 13 = .ok (.bipush 60, 2) := by decide +kernel
theorem dV_init_15 : decode bV_init 15 = .ok (.newarray .int, 2) := by decide +kernel
theorem dV_init_17 : decode bV_init 17 = .ok (.putfield 15, 3) := by decide +kernel
theorem dV_init_20 : decode bV_init 20 = .ok (.aload_n 0, 1) := by decide +kernel
theorem dV_init_21 : decode bV_init 21 = .ok (.bipush 60, 2) := by decide +kernel
theorem dV_init_23 : decode bV_init 23 = .ok (.newarray .int, 2) := by decide +kernel
theorem dV_init_25 : decode bV_init 25 = .ok (.putfield 18, 3) := by decide +kernel
theorem dV_init_28 : decode bV_init 28 = .ok (.aload_n 0, 1) := by decide +kernel
theorem dV_init_29 : decode bV_init 29 = .ok (.bipush 60, 2) := by decide +kernel
theorem dV_init_31 : decode bV_init 31 = .ok (.newarray .int, 2) := by decide +kernel
theorem dV_init_33 : decode bV_init 33 = .ok (.putfield 21, 3) := by decide +kernel
theorem dV_init_36 : decode bV_init 36 = .ok (.aload_n 0, 1) := by decide +kernel
theorem dV_init_37 : decode bV_init 37 = .ok (.iconst 0, 1) := by decide +kernel
theorem dV_init_38 : decode bV_init 38 = .ok (.putfield 24, 3) := by decide +kernel
theorem dV_init_41 : decode bV_init 41 = .ok (.return_, 1) := by decide +kernel
theorem dM_init_0 : decode bM_init 0 = .ok (.aload_n 0, 1) := by decide +kernel
theorem dM_init_1 : decode bM_init 1 = .ok (.invokespecial 3, 3) := by decide +kernel
theorem dM_init_4 : decode bM_init 4 = .ok (.aload_n 0, 1) := by decide +kernel
theorem dM_init_5 : decode bM_init 5 = .ok (.bipush 9, 2) := by decide +kernel
theorem dM_init_7 : decode bM_init 7 = .ok (.newarray .int, 2) := by decide +kernel
theorem dM_init_9 : decode bM_init 9 = .ok (.putfield 9, 3) := by decide +kernel
theorem dM_init_12 : decode bM_init 12 = .ok (.aload_n 0, 1) := by decide +kernel
theorem dM_init_13 : decode bM_init 13 = .ok (.bipush 16, 2) := by decide +kernel
theorem dM_init_15 : decode bM_init 15 = .ok (.newarray .int, 2) := by decide +kernel
theorem dM_init_17 : decode bM_init 17 = .ok (.putfield 15, 3) := by decide +kernel
theorem dM_init_20 : decode bM_init 20 = .ok (.aload_n 0, 1) := by decide +kernel
theorem dM_init_21 : decode bM_init 21 = .ok (.bipush 16, 2) := by decide +kernel
theorem dM_init_23 : decode bM_init 23 = .ok (.newarray .int, 2) := by decide +kernel
theorem dM_init_25 : decode bM_init 25 = .ok (.putfield 18, 3) := by decide +kernel
theorem dM_init_28 : decode bM_init 28 = .ok (.aload_n 0, 1) := by decide +kernel
theorem dM_init_29 : decode bM_init 29 = .ok (.sipush 256, 3) := by decide +kernel
theorem dM_init_32 : decode bM_init 32 = .ok (.newarray .int, 2) := by decide +kernel
theorem dM_init_34 : decode bM_init 34 = .ok (.putfield 21, 3) := by decide +kernel
theorem dM_init_37 : decode bM_init 37 = .ok (.aload_n 0, 1) := by decide +kernel
theorem dM_init_38 : decode bM_init 38 = .ok (.sipush 256, 3) := by decide +kernel
theorem dM_init_41 : decode bM_init 41 = .ok (.newarray .int, 2) := by decide +kernel
theorem dM_init_43 : decode bM_init 43 = .ok (.putfield 24, 3) := by decide +kernel
theorem dM_init_46 : decode bM_init 46 = .ok (.aload_n 0, 1) := by decide +kernel
theorem dM_init_47 : decode bM_init 47 = .ok (.iconst (-1), 1) := by decide +kernel
theorem dM_init_48 : decode bM_init 48 = .ok (.putfield 27, 3) := by decide +kernel
theorem dM_init_51 : decode bM_init 51 = .ok (.aload_n 0, 1) := by decide +kernel
theorem dM_init_52 : decode bM_init 52 = .ok (.iconst 0, 1) := by decide +kernel
theorem dM_init_53 : decode bM_init 53 = .ok (.putfield 31, 3) := by decide +kernel
theorem dM_init_56 : decode bM_init 56 = .ok (.aload_n 0, 1) := by decide +kernel
theorem dM_init_57 : decode bM_init 57 = .ok (.iconst 0, 1) := by decide +kernel
theorem dM_init_58 : decode bM_init 58 = .ok (.putfield 34, 3) := by decide +kernel
theorem dM_init_61 : decode bM_init 61 = .ok (.aload_n 0, 1) := by decide +kernel
theorem dM_init_62 : decode bM_init 62 = .ok (.aload_n 1, 1) := by decide +kernel
theorem dM_init_63 : decode bM_init 63 = .ok (.putfield 37, 3) := by decide +kernel
theorem dM_init_66 : decode bM_init 66 = .ok (.return_, 1) := by decide +kernel
theorem dT_init_0 : decode bT_init 0 = .ok (.aload_n 0, 1) := by decide +kernel
theorem dT_init_1 : decode bT_init 1 = .ok (.invokespecial 3, 3) := by decide +kernel
theorem dT_init_4 : decode bT_init 4 = .ok (.aload_n 0, 1) := by decide +kernel
theorem dT_init_5 : decode bT_init 5 = .ok (.bipush 60, 2) := by decide +kernel
theorem dT_init_7 : decode bT_init 7 = .ok (.newarray .int, 2) := by decide +kernel
theorem dT_init_9 : decode bT_init 9 = .ok (.putfield 9, 3) := by decide +kernel
theorem dT_init_12 : decode bT_init 12 = .ok (.aload_n 0, 1) := by decide +kernel
theorem dT_init_13 : decode bT_init 13 = .ok (.bipush 60, 2) := by decide +kernel
theorem dT_init_15 : decode bT_init 15 = .ok (.newarray .int, 2) := by decide +kernel
theorem dT_init_17 : decode bT_init 17 = .ok (.putfield 15, 3) := by decide +kernel
theorem dT_init_20 : decode bT_init 20 = .ok (.aload_n 0, 1) := by decide +kernel
theorem dT_init_21 : decode bT_init 21 = .ok (.bipush 60, 2) := by decide +kernel
theorem dT_init_23 : decode bT_init 23 = .ok (.newarray .int, 2) := by decide +kernel
theorem dT_init_25 : decode bT_init 25 = .ok (.putfield 18, 3) := by decide +kernel
theorem dT_init_28 : decode bT_init 28 = .ok (.aload_n 0, 1) := by decide +kernel
theorem dT_init_29 : decode bT_init 29 = .ok (.bipush 60, 2) := by decide +kernel
theorem dT_init_31 : decode bT_init 31 = .ok (.newarray .int, 2) := by decide +kernel
theorem dT_init_33 : decode bT_init 33 = .ok (.putfield 21, 3) := by decide +kernel
theorem dT_init_36 : decode bT_init 36 = .ok (.aload_n 0, 1) := by decide +kernel
theorem dT_init_37 : decode bT_init 37 = .ok (.bipush 60, 2) := by decide +kernel
theorem dT_init_39 : decode bT_init 39 = .ok (.newarray .int, 2) := by decide +kernel
theorem dT_init_41 : decode bT_init 41 = .ok (.putfield 24, 3) := by decide +kernel
theorem dT_init_44 : decode bT_init 44 = .ok (.aload_n 0, 1) := by decide +kernel
theorem dT_init_45 : decode bT_init 45 = .ok (.bipush 60, 2) := by decide +kernel
theorem dT_init_47 : decode bT_init 47 = .ok (.newarray .int, 2) := by decide +kernel
theorem dT_init_49 : decode bT_init 49 = .ok (.putfield 27, 3) := by decide +kernel
theorem dT_init_52 : decode bT_init 52 = .ok (.aload_n 0, 1) := by decide +kernel
theorem dT_init_53 : decode bT_init 53 = .ok (.bipush 60, 2) := by decide +kernel
theorem dT_init_55 : decode bT_init 55 = .ok (.newarray .int, 2) := by decide +kernel
theorem dT_init_57 : decode bT_init 57 = .ok (.putfield 30, 3) := by decide +kernel
theorem dT_init_60 : decode bT_init 60 = .ok (.aload_n 0, 1) := by decide +kernel
theorem dT_init_61 : decode bT_init 61 = .ok (.bipush 60, 2) := by decide +kernel
theorem dT_init_63 : decode bT_init 63 = .ok (.newarray .int, 2) := by decide +kernel
theorem dT_init_65 : decode bT_init 65 = .ok (.putfield 33, 3) := by decide +kernel
theorem dT_init_68 : decode bT_init 68 = .ok (.aload_n 0, 1) := by decide +kernel
theorem dT_init_69 : decode bT_init 69 = .ok (.bipush 60, 2) := by decide +kernel
theorem dT_init_71 : decode bT_init 71 = .ok (.newarray .int, 2) := by decide +kernel
theorem dT_init_73 : decode bT_init 73 = .ok (.putfield 36, 3) := by decide +kernel
theorem dT_init_76 : decode bT_init 76 = .ok (.aload_n 0, 1) := by decide +kernel
theorem dT_init_77 : decode bT_init 77 = .ok (.bipush 60, 2) := by decide +kernel
theorem dT_init_79 : decode bT_init 79 = .ok (.newarray .int, 2) := by decide +kernel
theorem dT_init_81 : decode bT_init 81 = .ok (.putfield 39, 3) := by decide +kernel
theorem dT_init_84 : decode bT_init 84 = .ok (.aload_n 0, 1) := by decide +kernel
theorem dT_init_85 : decode bT_init 85 = .ok (.bipush 60, 2) := by decide +kernel
theorem dT_init_87 : decode bT_init 87 = .ok (.newarray .boolean, 2) := by decide +kernel
theorem dT_init_89 : decode bT_init 89 = .ok (.putfield 42, 3) := by decide +kernel
theorem dT_init_92 : decode bT_init 92 = .ok (.aload_n 0, 1) := by decide +kernel
theorem dT_init_93 : decode bT_init 93 = .ok (.bipush 32, 2) := by decide +kernel
theorem dT_init_95 : decode bT_init 95 = .ok (.newarray .int, 2) := by decide +kernel
theorem dT_init_97 : decode bT_init 97 = .ok (.putfield 46, 3) := by decide +kernel
theorem dT_init_100 : decode bT_init 100 = .ok (.aload_n 0, 1) := by decide +kernel
theorem dT_init_101 : decode bT_init 101 = .ok (.iconst 0, 1) := by decide +kernel
theorem dT_init_102 : decode bT_init 102 = .ok (.putfield 49, 3) := by decide +kernel
theorem dT_init_105 : decode bT_init 105 = .ok (.aload_n 0, 1) := by decide +kernel
theorem dT_init_106 : decode bT_init 106 = .ok (.iconst 0, 1) := by decide +kernel
theorem dT_init_107 : decode bT_init 107 = .ok (.putfield 53, 3) := by decide +kernel
theorem dT_init_110 : decode bT_init 110 = .ok (.aload_n 0, 1) := by decide +kernel
theorem dT_init_111 : decode bT_init 111 = .ok (.iconst 0, 1) := by decide +kernel
theorem dT_init_112 : decode bT_init 112 = .ok (.putfield 56, 3) := by decide +kernel
theorem dT_init_115 : decode bT_init 115 = .ok (.aload_n 0, 1) := by decide +kernel
theorem dT_init_116 : decode bT_init 116 = .ok (.aload_n 1, 1) := by decide +kernel
theorem dT_init_117 : decode bT_init 117 = .ok (.putfield 60, 3) := by decide +kernel
theorem dT_init_120 : decode bT_init 120 = .ok (.aload_n 0, 1) := by decide +kernel
theorem dT_init_121 : decode bT_init 121 = .ok (.aload_n 2, 1) := by decide +kernel
theorem dT_init_122 : decode bT_init 122 = .ok (.putfield 64, 3) := by decide +kernel
theorem dT_init_125 : decode bT_init 125 = .ok (.return_, 1) := by decide +kernel
theorem dG_init_0 : decode bG_init 0 = .ok (.aload_n 0, 1) := by decide +kernel
theorem dG_init_1 : decode bG_init 1 = .ok (.invokespecial 3, 3) := by decide +kernel
theorem dG_init_4 : decode bG_init 4 = .ok (.aload_n 0, 1) := by decide +kernel
theorem dG_init_5 : decode bG_init 5 = .ok (.bipush 32, 2) := by decide +kernel
theorem dG_init_7 : decode bG_init 7 = .ok (.newarray .int, 2) := by decide +kernel
theorem dG_init_9 : decode bG_init 9 = .ok (.putfield 9, 3) := by decide +kernel
theorem dG_init_12 : decode bG_init 12 = .ok (.aload_n 0, 1) := by decide +kernel
theorem dG_init_13 : decode bG_init 13 = .ok (.bipush 32, 2) := by decide +kernel
theorem dG_init_15 : decode bG_init 15 = .ok (.newarray .int, 2) := by decide +kernel
theorem dG_init_17 : decode bG_init 17 = .ok (.putfield 15, 3) := by decide +kernel
theorem dG_init_20 : decode bG_init 20 = .ok (.aload_n 0, 1) := by decide +kernel
theorem dG_init_21 : decode bG_init 21 = .ok (.bipush 32, 2) := by decide +kernel
theorem dG_init_23 : decode bG_init 23 = .ok (.newarray .int, 2) := by decide +kernel
theorem dG_init_25 : decode bG_init 25 = .ok (.putfield 18, 3) := by decide +kernel
theorem dG_init_28 : decode bG_init 28 = .ok (.aload_n 0, 1) := by decide +kernel
theorem dG_init_29 : decode bG_init 29 = .ok (.bipush 32, 2) := by decide +kernel
theorem dG_init_31 : decode bG_init 31 = .ok (.newarray .int, 2) := by decide +kernel
theorem dG_init_33 : decode bG_init 33 = .ok (.putfield 21, 3) := by decide +kernel
theorem dG_init_36 : decode bG_init 36 = .ok (.aload_n 0, 1) := by decide +kernel
theorem dG_init_37 : decode bG_init 37 = .ok (.iconst 0, 1) := by decide +kernel
theorem dG_init_38 : decode bG_init 38 = .ok (.putfield 24, 3) := by decide +kernel
theorem dG_init_41 : decode bG_init 41 = .ok (.aload_n 0, 1) := by decide +kernel
theorem dG_init_42 : decode bG_init 42 = .ok (.aload_n 1, 1) := by decide +kernel
theorem dG_init_43 : decode bG_init 43 = .ok (.putfield 28, 3) := by decide +kernel
theorem dG_init_46 : decode bG_init 46 = .ok (.aload_n 0, 1) := by decide +kernel
theorem dG_init_47 : decode bG_init 47 = .ok (.aload_n 2, 1) := by decide +kernel
theorem dG_init_48 : decode bG_init 48 = .ok (.putfield 32, 3) := by decide +kernel
theorem dG_init_51 : decode bG_init 51 = .ok (.return_, 1) := by decide +kernel
theorem dR_init_0 : decode bR_init 0 = .ok (.aload_n 0, 1) := by decide +kernel
theorem dR_init_1 : decode bR_init 1 = .ok (.invokespecial 1, 3) := by decide +kernel
theorem dR_init_4 : decode bR_init 4 = .ok (.aload_n 0, 1) := by decide +kernel
theorem dR_init_5 : decode bR_init 5 = .ok (.bipush 12, 2) := by decide +kernel
theorem dR_init_7 : decode bR_init 7 = .ok (.newarray .int, 2) := by decide +kernel
theorem dR_init_9 : decode bR_init 9 = .ok (.putfield 7, 3) := by decide +kernel
theorem dR_init_12 : decode bR_init 12 = .ok (.aload_n 0, 1) := by decide +kernel
theorem dR_init_13 : decode bR_init 13 = .ok (.bipush 12, 2) := by decide +kernel
theorem dR_init_15 : decode bR_init 15 = .ok (.newarray .int, 2) := by decide +kernel
theorem dR_init_17 : decode bR_init 17 = .ok (.putfield 13, 3) := by decide +kernel
theorem dR_init_20 : decode bR_init 20 = .ok (.aload_n 0, 1) := by decide +kernel
theorem dR_init_21 : decode bR_init 21 = .ok (.bipush 12, 2) := by decide +kernel
theorem dR_init_23 : decode bR_init 23 = .ok (.newarray .int, 2) := by decide +kernel
theorem dR_init_25 : decode bR_init 25 = .ok (.putfield 16, 3) := by decide +kernel
theorem dR_init_28 : decode bR_init 28 = .ok (.aload_n 0, 1) := by decide +kernel
theorem dR_init_29 : decode bR_init 29 = .ok (.bipush 60, 2) := by decide +kernel
theorem dR_init_31 : decode bR_init 31 = .ok (.newarray .int, 2) := by decide +kernel
theorem dR_init_33 : decode bR_init 33 = .ok (.putfield 19, 3) := by decide +kernel
theorem dR_init_36 : decode bR_init 36 = .ok (.aload_n 0, 1) := by decide +kernel
theorem dR_init_37 : decode bR_init 37 = .ok (.bipush 60, 2) := by decide +kernel
theorem dR_init_39 : decode bR_init 39 = .ok (.newarray .int, 2) := by decide +kernel
theorem dR_init_41 : decode bR_init 41 = .ok (.putfield 22, 3) := by decide +kernel
theorem dR_init_44 : decode bR_init 44 = .ok (.aload_n 0, 1) := by decide +kernel
theorem dR_init_45 : decode bR_init 45 = .ok (.bipush 60, 2) := by decide +kernel
theorem dR_init_47 : decode bR_init 47 = .ok (.newarray .int, 2) := by decide +kernel
theorem dR_init_49 : decode bR_init 49 = .ok (.putfield 25, 3) := by decide +kernel
theorem dR_init_52 : decode bR_init 52 = .ok (.aload_n 0, 1) := by decide +kernel
theorem dR_init_53 : decode bR_init 53 = .ok (.bipush 60, 2) := by decide +kernel
theorem dR_init_55 : decode bR_init 55 = .ok (.newarray .int, 2) := by decide +kernel
theorem dR_init_57 : decode bR_init 57 = .ok (.putfield 28, 3) := by decide +kernel
theorem dR_init_60 : decode bR_init 60 = .ok (.aload_n 0, 1) := by decide +kernel
theorem dR_init_61 : decode bR_init 61 = .ok (.bipush 60, 2) := by decide +kernel
theorem dR_init_63 : decode bR_init 63 = .ok (.newarray .int, 2) := by decide +kernel
theorem dR_init_65 : decode bR_init 65 = .ok (.putfield 31, 3) := by decide +kernel
theorem dR_init_68 : decode bR_init 68 = .ok (.aload_n 0, 1) := by decide +kernel
theorem dR_init_69 : decode bR_init 69 = .ok (.bipush 60, 2) := by decide +kernel
theorem dR_init_71 : decode bR_init 71 = .ok (.newarray .int, 2) := by decide +kernel
theorem dR_init_73 : decode bR_init 73 = .ok (.putfield 34, 3) := by decide +kernel
theorem dR_init_76 : decode bR_init 76 = .ok (.aload_n 0, 1) := by decide +kernel
theorem dR_init_77 : decode bR_init 77 = .ok (.bipush 60, 2) := by decide +kernel
theorem dR_init_79 : decode bR_init 79 = .ok (.newarray .int, 2) := by decide +kernel
theorem dR_init_81 : decode bR_init 81 = .ok (.putfield 37, 3) := by decide +kernel
theorem dR_init_84 : decode bR_init 84 = .ok (.aload_n 0, 1) := by decide +kernel
theorem dR_init_85 : decode bR_init 85 = .ok (.bipush 60, 2) := by decide +kernel
theorem dR_init_87 : decode bR_init 87 = .ok (.newarray .int, 2) := by decide +kernel
theorem dR_init_89 : decode bR_init 89 = .ok (.putfield 40, 3) := by decide +kernel
theorem dR_init_92 : decode bR_init 92 = .ok (.aload_n 0, 1) := by decide +kernel
theorem dR_init_93 : decode bR_init 93 = .ok (.bipush 60, 2) := by decide +kernel
theorem dR_init_95 : decode bR_init 95 = .ok (.newarray .int, 2) := by decide +kernel
theorem dR_init_97 : decode bR_init 97 = .ok (.putfield 43, 3) := by decide +kernel
theorem dR_init_100 : decode bR_init 100 = .ok (.aload_n 0, 1) := by decide +kernel
theorem dR_init_101 : decode bR_init 101 = .ok (.bipush 60, 2) := by decide +kernel
theorem dR_init_103 : decode bR_init 103 = .ok (.newarray .int, 2) := by decide +kernel
theorem dR_init_105 : decode bR_init 105 = .ok (.putfield 46, 3) := by decide +kernel
theorem dR_init_108 : decode bR_init 108 = .ok (.aload_n 0, 1) := by decide +kernel
theorem dR_init_109 : decode bR_init 109 = .ok (.bipush 60, 2) := by decide +kernel
theorem dR_init_111 : decode bR_init 111 = .ok (.newarray .int, 2) := by decide +kernel
theorem dR_init_113 : decode bR_init 113 = .ok (.putfield 49, 3) := by decide +kernel
theorem dR_init_116 : decode bR_init 116 = .ok (.aload_n 0, 1) := by decide +kernel
theorem dR_init_117 : decode bR_init 117 = .ok (.iconst (-1), 1) := by decide +kernel
theorem dR_init_118 : decode bR_init 118 = .ok (.putfield 52, 3) := by decide +kernel
theorem dR_init_121 : decode bR_init 121 = .ok (.aload_n 0, 1) := by decide +kernel
theorem dR_init_122 : decode bR_init 122 = .ok (.bipush 16, 2) := by decide +kernel
theorem dR_init_124 : decode bR_init 124 = .ok (.newarray .int, 2) := by decide +kernel
theorem dR_init_126 : decode bR_init 126 = .ok (.putfield 56, 3) := by decide +kernel
theorem dR_init_129 : decode bR_init 129 = .ok (.aload_n 0, 1) := by decide +kernel
theorem dR_init_130 : decode bR_init 130 = .ok (.bipush 16, 2) := by decide +kernel
theorem dR_init_132 : decode bR_init 132 = .ok (.newarray .int, 2) := by decide +kernel
theorem dR_init_134 : decode bR_init 134 = .ok (.putfield 59, 3) := by decide +kernel
theorem dR_init_137 : decode bR_init 137 = .ok (.aload_n 0, 1) := by decide +kernel
theorem dR_init_138 : decode bR_init 138 = .ok (.sipush 256, 3) := by decide +kernel
theorem dR_init_141 : decode bR_init 141 = .ok (.newarray .int, 2) := by decide +kernel
theorem dR_init_143 : decode bR_init 143 = .ok (.putfield 62, 3) := by decide +kernel
theorem dR_init_146 : decode bR_init 146 = .ok (.aload_n 0, 1) := by decide +kernel
theorem dR_init_147 : decode bR_init 147 = .ok (.sipush 256, 3) := by decide +kernel
theorem dR_init_150 : decode bR_init 150 = .ok (.newarray .int, 2) := by decide +kernel
theorem dR_init_152 : decode bR_init 152 = .ok (.putfield 65, 3) := by decide +kernel
theorem dR_init_155 : decode bR_init 155 = .ok (.aload_n 0, 1) := by decide +kernel
theorem dR_init_156 : decode bR_init 156 = .ok (.bipush 20, 2) := by decide +kernel
theorem dR_init_158 : decode bR_init 158 = .ok (.newarray .int, 2) := by decide +kernel
theorem dR_init_160 : decode bR_init 160 = .ok (.putfield 68, 3) := by decide +kernel
theorem dR_init_163 : decode bR_init 163 = .ok (.aload_n 0, 1) := by decide +kernel
theorem dR_init_164 : decode bR_init 164 = .ok (.bipush 20, 2) := by decide +kernel
theorem dR_init_166 : decode bR_init 166 = .ok (.newarray .int, 2) := by decide +kernel
theorem dR_init_168 : decode bR_init 168 = .ok (.putfield 71, 3) := by decide +kernel
theorem dR_init_171 : decode bR_init 171 = .ok (.aload_n 0, 1) := by decide +kernel
theorem dR_init_172 : decode bR_init 172 = .ok (.bipush 20, 2) := by decide +kernel
theorem dR_init_174 : decode bR_init 174 = .ok (.newarray .int, 2) := by decide +kernel
theorem dR_init_176 : decode bR_init 176 = .ok (.putfield 74, 3) := by decide +kernel
theorem dR_init_179 : decode bR_init 179 = .ok (.aload_n 0, 1) := by decide +kernel
theorem dR_init_180 : decode bR_init 180 = .ok (.bipush 60, 2) := by decide +kernel
theorem dR_init_182 : decode bR_init 182 = .ok (.newarray .int, 2) := by decide +kernel
theorem dR_init_184 : decode bR_init 184 = .ok (.putfield 77, 3) := by decide +kernel
theorem dR_init_187 : decode bR_init 187 = .ok (.aload_n 0, 1) := by decide +kernel
theorem dR_init_188 : decode bR_init 188 = .ok (.bipush 60, 2) := by decide +kernel
theorem dR_init_190 : decode bR_init 190 = .ok (.newarray .int, 2) := by decide +kernel
theorem dR_init_192 : decode bR_init 192 = .ok (.putfield 80, 3) := by decide +kernel
theorem dR_init_195 : decode bR_init 195 = .ok (.aload_n 0, 1) := by decide +kernel
theorem dR_init_196 : decode bR_init 196 = .ok (.bipush 60, 2) := by decide +kernel
theorem dR_init_198 : decode bR_init 198 = .ok (.newarray .int, 2) := by decide +kernel
theorem dR_init_200 : decode bR_init 200 = .ok (.putfield 83, 3) := by decide +kernel
theorem dR_init_203 : decode bR_init 203 = .ok (.aload_n 0, 1) := by decide +kernel
theorem dR_init_204 : decode bR_init 204 = .ok (.bipush 60, 2) := by decide +kernel
theorem dR_init_206 : decode bR_init 206 = .ok (.newarray .int, 2) := by decide +kernel
theorem dR_init_208 : decode bR_init 208 = .ok (.putfield 86, 3) := by decide +kernel
theorem dR_init_211 : decode bR_init 211 = .ok (.aload_n 0, 1) := by decide +kernel
theorem dR_init_212 : decode bR_init 212 = .ok (.bipush 60, 2) := by decide +kernel
theorem dR_init_214 : decode bR_init 214 = .ok (.newarray .int, 2) := by decide +kernel
theorem dR_init_216 : decode bR_init 216 = .ok (.putfield 89, 3) := by decide +kernel
theorem dR_init_219 : decode bR_init 219 = .ok (.aload_n 0, 1) := by decide +kernel
theorem dR_init_220 : decode bR_init 220 = .ok (.bipush 60, 2) := by decide +kernel
theorem dR_init_222 : decode bR_init 222 = .ok (.newarray .int, 2) := by decide +kernel
theorem dR_init_224 : decode bR_init 224 = .ok (.putfield 92, 3) := by decide +kernel
theorem dR_init_227 : decode bR_init 227 = .ok (.aload_n 0, 1) := by decide +kernel
theorem dR_init_228 : decode bR_init 228 = .ok (.bipush 60, 2) := by decide +kernel
theorem dR_init_230 : decode bR_init 230 = .ok (.newarray .int, 2) := by decide +kernel
theorem dR_init_232 : decode bR_init 232 = .ok (.putfield 95, 3) := by decide +kernel
theorem dR_init_235 : decode bR_init 235 = .ok (.aload_n 0, 1) := by decide +kernel
theorem dR_init_236 : decode bR_init 236 = .ok (.bipush 60, 2) := by decide +kernel
theorem dR_init_238 : decode bR_init 238 = .ok (.newarray .int, 2) := by decide +kernel
theorem dR_init_240 : decode bR_init 240 = .ok (.putfield 98, 3) := by decide +kernel
theorem dR_init_243 : decode bR_init 243 = .ok (.aload_n 0, 1) := by decide +kernel
theorem dR_init_244 : decode bR_init 244 = .ok (.bipush 60, 2) := by decide +kernel
theorem dR_init_246 : decode bR_init 246 = .ok (.newarray .boolean, 2) := by decide +kernel
theorem dR_init_248 : decode bR_init 248 = .ok (.putfield 101, 3) := by decide +kernel
theorem dR_init_251 : decode bR_init 251 = .ok (.aload_n 0, 1) := by decide +kernel
theorem dR_init_252 : decode bR_init 252 = .ok (.bipush 60, 2) := by decide +kernel
theorem dR_init_254 : decode bR_init 254 = .ok (.newarray .int, 2) := by decide +kernel
theorem dR_init_256 : decode bR_init 256 = .ok (.putfield 105, 3) := by decide +kernel
theorem dR_init_259 : decode bR_init 259 = .ok (.aload_n 0, 1) := by decide +kernel
theorem dR_init_260 : decode bR_init 260 = .ok (.bipush 32, 2) := by decide +kernel
theorem dR_init_262 : decode bR_init 262 = .ok (.newarray .int, 2) := by decide +kernel
theorem dR_init_264 : decode bR_init 264 = .ok (.putfield 108, 3) := by decide +kernel
theorem dR_init_267 : decode bR_init 267 = .ok (.aload_n 0, 1) := by decide +kernel
theorem dR_init_268 : decode bR_init 268 = .ok (.bipush 32, 2) := by decide +kernel
theorem dR_init_270 : decode bR_init 270 = .ok (.newarray .int, 2) := by decide +kernel
theorem dR_init_272 : decode bR_init 272 = .ok (.putfield 111, 3) := by decide +kernel
theorem dR_init_275 : decode bR_init 275 = .ok (.aload_n 0, 1) := by decide +kernel
theorem dR_init_276 : decode bR_init 276 = .ok (.bipush 16, 2) := by decide +kernel
theorem dR_init_278 : decode bR_init 278 = .ok (.newarray .int, 2) := by decide +kernel
theorem dR_init_280 : decode bR_init 280 = .ok (.putfield 114, 3) := by decide +kernel
theorem dR_init_283 : decode bR_init 283 = .ok (.aload_n 0, 1) := by decide +kernel
theorem dR_init_284 : decode bR_init 284 = .ok (.bipush 16, 2) := by decide +kernel
theorem dR_init_286 : decode bR_init 286 = .ok (.newarray .int, 2) := by decide +kernel
theorem dR_init_288 : decode bR_init 288 = .ok (.putfield 117, 3) := by decide +kernel
theorem dR_init_291 : decode bR_init 291 = .ok (.return_, 1) := by decide +kernel

