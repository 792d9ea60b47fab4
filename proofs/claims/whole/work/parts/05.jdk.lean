theorem dI_bitCount_0 : decode bI_bitCount 0 = .ok (.iload_n 0, 1) := by decide +kernel
theorem dI_bitCount_1 : decode bI_bitCount 1 = .ok (.iload_n 0, 1) := by decide +kernel
theorem dI_bitCount_2 : decode bI_bitCount 2 = .ok (.iconst 1, 1) := by decide +kernel
theorem dI_bitCount_3 : decode bI_bitCount 3 = .ok (.iushr, 1) := by decide +kernel
theorem dI_bitCount_4 : decode bI_bitCount 4 = .ok (.ldc_w 265, 3) := by decide +kernel
theorem dI_bitCount_7 : decode bI_bitCount 7 = .ok (.iand, 1) := by decide +kernel
theorem dI_bitCount_8 : decode bI_bitCount 8 = .ok (.isub, 1) := by decide +kernel
theorem dI_bitCount_9 : decode bI_bitCount 9 = .ok (.istore_n 0, 1) := by decide +kernel
theorem dI_bitCount_10 : decode bI_bitCount 10 = .ok (.iload_n 0, 1) := by decide +kernel
theorem dI_bitCount_11 : decode bI_bitCount 11 = .ok (.ldc_w 266, 3) := by decide +kernel
theorem dI_bitCount_14 : decode bI_bitCount 14 = .ok (.iand, 1) := by decide +kernel
theorem dI_bitCount_15 : decode bI_bitCount 15 = .ok (.iload_n 0, 1) := by decide +kernel
theorem dI_bitCount_16 : decode bI_bitCount 16 = .ok (.iconst 2, 1) := by decide +kernel
theorem dI_bitCount_17 : decode bI_bitCount 17 = .ok (.iushr, 1) := by decide +kernel
theorem dI_bitCount_18 : decode bI_bitCount 18 = .ok (.ldc_w 266, 3) := by decide +kernel
theorem dI_bitCount_21 : decode bI_bitCount 21 = .ok (.iand, 1) := by decide +kernel
theorem dI_bitCount_22 : decode bI_bitCount 22 = .ok (.iadd, 1) := by decide +kernel
theorem dI_bitCount_23 : decode bI_bitCount 23 = .ok (.istore_n 0, 1) := by decide +kernel
theorem dI_bitCount_24 : decode bI_bitCount 24 = .ok (.iload_n 0, 1) := by decide +kernel
theorem dI_bitCount_25 : decode bI_bitCount 25 = .ok (.iload_n 0, 1) := by decide +kernel
theorem dI_bitCount_26 : decode bI_bitCount 26 = .ok (.iconst 4, 1) := by decide +kernel
theorem dI_bitCount_27 : decode bI_bitCount 27 = .ok (.iushr, 1) := by decide +kernel
theorem dI_bitCount_28 : decode bI_bitCount 28 = .ok (.iadd, 1) := by decide +kernel
theorem dI_bitCount_29 : decode bI_bitCount 29 = .ok (.ldc_w 267, 3) := by decide +kernel
theorem dI_bitCount_32 : decode bI_bitCount 32 = .ok (.iand, 1) := by decide +kernel
theorem dI_bitCount_33 : decode bI_bitCount 33 = .ok (.istore_n 0, 1) := by decide +kernel
theorem dI_bitCount_34 : decode bI_bitCount 34 = .ok (.iload_n 0, 1) := by decide +kernel
theorem dI_bitCount_35 : decode bI_bitCount 35 = .ok (.iload_n 0, 1) := by decide +kernel
theorem dI_bitCount_36 : decode bI_bitCount 36 = .ok (.bipush 8, 2) := by decide +kernel
theorem dI_bitCount_38 : decode bI_bitCount 38 = .ok (.iushr, 1) := by decide +kernel
theorem dI_bitCount_39 : decode bI_bitCount 39 = .ok (.iadd, 1) := by decide +kernel
theorem dI_bitCount_40 : decode bI_bitCount 40 = .ok (.istore_n 0, 1) := by decide +kernel
theorem dI_bitCount_41 : decode bI_bitCount 41 = .ok (.iload_n 0, 1) := by decide +kernel
theorem dI_bitCount_42 : decode bI_bitCount 42 = .ok (.iload_n 0, 1) := by decide +kernel
theorem dI_bitCount_43 : decode bI_bitCount 43 = .ok (.bipush 16, 2) := by decide +kernel
theorem dI_bitCount_45 : decode bI_bitCount 45 = .ok (.iushr, 1) := by decide +kernel
theorem dI_bitCount_46 : decode bI_bitCount 46 = .ok (.iadd, 1) := by decide +kernel
theorem dI_bitCount_47 : decode bI_bitCount 47 = .ok (.istore_n 0, 1) := by decide +kernel
theorem dI_bitCount_48 : decode bI_bitCount 48 = .ok (.iload_n 0, 1) := by decide +kernel
theorem dI_bitCount_49 : decode bI_bitCount 49 = .ok (.bipush 63, 2) := by decide +kernel
theorem dI_bitCount_51 : decode bI_bitCount 51 = .ok (.iand, 1) := by decide +kernel
theorem dI_bitCount_52 : decode bI_bitCount 52 = .ok (.ireturn, 1) := by decide +kernel
theorem dJ_max_0 : decode bJ_max 0 = .ok (.iload_n 0, 1) := by decide +kernel
theorem dJ_max_1 : decode bJ_max 1 = .ok (.iload_n 1, 1) := by decide +kernel
theorem dJ_max_2 : decode bJ_max 2 = .ok (.if_icmp .lt 7, 3) := by decide +kernel
theorem dJ_max_5 : decode bJ_max 5 = .ok (.iload_n 0, 1) := by decide +kernel
theorem dJ_max_6 : decode bJ_max 6 = .ok (.goto 4, 3) := by decide +kernel
theorem dJ_max_9 : decode bJ_max 9 = .ok (.iload_n 1, 1) := by decide +kernel
theorem dJ_max_10 : decode bJ_max 10 = .ok (.ireturn, 1) := by decide +kernel
theorem dA_fill_0 : decode bA_fill 0 = .ok (.iconst 0, 1) := by decide +kernel
theorem dA_fill_1 : decode bA_fill 1 = .ok (.istore_n 2, 1) := by decide +kernel
theorem dA_fill_2 : decode bA_fill 2 = .ok (.aload_n 0, 1) := by decide +kernel
theorem dA_fill_3 : decode bA_fill 3 = .ok (.arraylength, 1) := by decide +kernel
theorem dA_fill_4 : decode bA_fill 4 = .ok (.istore_n 3, 1) := by decide +kernel
theorem dA_fill_5 : decode bA_fill 5 = .ok (.iload_n 2, 1) := by decide +kernel
theorem dA_fill_6 : decode bA_fill 6 = .ok (.iload_n 3, 1) := by decide +kernel
theorem dA_fill_7 : decode bA_fill 7 = .ok (.if_icmp .ge 13, 3) := by decide +kernel
theorem dA_fill_10 : decode bA_fill 10 = .ok (.aload_n 0, 1) := by decide +kernel
theorem dA_fill_11 : decode bA_fill 11 = .ok (.iload_n 2, 1) := by decide +kernel
theorem dA_fill_12 : decode bA_fill 12 = .ok (.iload_n 1, 1) := by decide +kernel
theorem dA_fill_13 : decode bA_fill 13 = .ok (.iastore, 1) := by decide +kernel
theorem dA_fill_14 : decode bA_fill 14 = .ok (.iinc 2 1, 3) := by decide +kernel
theorem dA_fill_17 : decode bA_fill 17 = .ok (.goto (-12), 3) := by decide +kernel
theorem dA_fill_20 : decode bA_fill 20 = .ok (.return_, 1) := by decide +kernel
section SJdk
variable {p : Program} {l : Launch} {e : Env} {R : Room} {s : State} {m : MethodId} {args : Array Value} {below : List Frame} {meth : Method} {c : Code} {Q : State → Prop} {D : va_G} {cA : Nat → ClassId} {ad : Nat → Nat} {H0 : Heap}
def ck_mxv (x y : Int32) : Int32 := if x < y then y else x
theorem ck_mx1 : Cond.static Lib.Math.max.name ∈ ck_T := ck_T_mk (List.mem_of_getElem? (i := 434) (by decide +kernel)) (by decide +kernel)
theorem ck_mx2 : Cond.initialized "java/lang/Math" ∈ ck_T := ck_T_mk (List.mem_of_getElem? (i := 52) (by decide +kernel)) (by decide +kernel)
theorem ck_mx3 : Cond.code Lib.Math.max.name Lib.Math.max.code 2 (some .int) ∈ ck_T := ck_T_mk (List.mem_of_getElem? (i := 435) (by decide +kernel)) (by decide +kernel)
theorem ck_mx {H : Heap} {locs : List Loc} {cl : List vw_C} {cc : ByteArray} {own : String} {pc nL v idx : Nat} {x y : Int32} {ls : Array Slot} {rest : List Value} {L : List (Nat × Value)} (C : ck_X cl D cA cc nL own v p R s m args c) (hl : lv_has ls nL L) (hlink : Cond.methodLink own idx Lib.Math.max.name ∈ ck_T) (hv : 1 ≤ v) (hr : (rest.map fun v => v.category).sum ≤ 8) (hd : decode cc pc = .ok (.invokestatic idx, 3))
    (kk : W p l e R s m args below meth c H locs 0 0 Q (F0 m (pc + 3) ls (.int (ck_mxv x y) :: rest))) : W p l e R s m args below meth c H locs 0 0 Q (F0 m pc ls (.int y :: .int x :: rest)) := by
  obtain ⟨hx, hb, hml, hown, hts, hK, hlv, hlo⟩ := C
  exact va_mmax hx hb (hml.trans hl.1.symm) hown (hts _ hlink) (hts _ ck_mx1) (hts _ ck_mx2) (hts _ ck_mx3) (by omega) (by omega) (Nat.zero_le _) (Nat.zero_le _) hd kk
def fI_bitCount_C (x0 : Int32) (st : ck_S) : Option (Int32 × ck_S) := (some (((((((((x0 - ((ck_us x0 (1 : Int32)) &&& (1431655765 : Int32))) &&& (858993459 : Int32)) + ((ck_us (x0 - ((ck_us x0 (1 : Int32)) &&& (1431655765 : Int32))) (2 : Int32)) &&& (858993459 : Int32))) + (ck_us (((x0 - ((ck_us x0 (1 : Int32)) &&& (1431655765 : Int32))) &&& (858993459 : Int32)) + ((ck_us (x0 - ((ck_us x0 (1 : Int32)) &&& (1431655765 : Int32))) (2 : Int32)) &&& (858993459 : Int32))) (4 : Int32))) &&& (252645135 : Int32)) + (ck_us (((((x0 - ((ck_us x0 (1 : Int32)) &&& (1431655765 : Int32))) &&& (858993459 : Int32)) + ((ck_us (x0 - ((ck_us x0 (1 : Int32)) &&& (1431655765 : Int32))) (2 : Int32)) &&& (858993459 : Int32))) + (ck_us (((x0 - ((ck_us x0 (1 : Int32)) &&& (1431655765 : Int32))) &&& (858993459 : Int32)) + ((ck_us (x0 - ((ck_us x0 (1 : Int32)) &&& (1431655765 : Int32))) (2 : Int32)) &&& (858993459 : Int32))) (4 : Int32))) &&& (252645135 : Int32)) (8 : Int32))) + (ck_us ((((((x0 - ((ck_us x0 (1 : Int32)) &&& (1431655765 : Int32))) &&& (858993459 : Int32)) + ((ck_us (x0 - ((ck_us x0 (1 : Int32)) &&& (1431655765 : Int32))) (2 : Int32)) &&& (858993459 : Int32))) + (ck_us (((x0 - ((ck_us x0 (1 : Int32)) &&& (1431655765 : Int32))) &&& (858993459 : Int32)) + ((ck_us (x0 - ((ck_us x0 (1 : Int32)) &&& (1431655765 : Int32))) (2 : Int32)) &&& (858993459 : Int32))) (4 : Int32))) &&& (252645135 : Int32)) + (ck_us (((((x0 - ((ck_us x0 (1 : Int32)) &&& (1431655765 : Int32))) &&& (858993459 : Int32)) + ((ck_us (x0 - ((ck_us x0 (1 : Int32)) &&& (1431655765 : Int32))) (2 : Int32)) &&& (858993459 : Int32))) + (ck_us (((x0 - ((ck_us x0 (1 : Int32)) &&& (1431655765 : Int32))) &&& (858993459 : Int32)) + ((ck_us (x0 - ((ck_us x0 (1 : Int32)) &&& (1431655765 : Int32))) (2 : Int32)) &&& (858993459 : Int32))) (4 : Int32))) &&& (252645135 : Int32)) (8 : Int32))) (16 : Int32))) &&& (63 : Int32)), st))
set_option maxRecDepth 100000 in
set_option maxHeartbeats 4000000 in
theorem cI_bitCount_C (l : Launch) (D : va_G) (cA : Nat → ClassId) (ad : Nat → Nat) {x0 : Int32} {st : ck_S} {r0 : Int32} {st0 : ck_S} (hf : fI_bitCount_C x0 st = some (r0, st0)) : Met l yI_bitCount (.code yI_bitCount bI_bitCount 1 (some .int) :: ck_T) (ck_R 0) (va_Pc [.int x0] (ck_P sh_C cm_cl D cA ad st)) (va_Qi (fun a u => a = r0 ∧ u = st0) (ck_P sh_C cm_cl D cA ad) (ck_A ad sh_C.length)) 0 0 (ck_A ad sh_C.length) := by
  refine ck_met_i (own := R_I) (by decide +kernel) rfl (Nat.le_of_ble_eq_true rfl) (fun p e R s m args below meth c H0 Q ls C hret h hl => ?_)
  have C1 := C
  obtain ⟨hx, hb, hml, hown, hts, hK, hlv, hlo⟩ := C1
  have hl : lv_has ls 1 [(0, .int x0)] := hl
  unfold fI_bitCount_C at hf
  refine lv_iload_n hx hb dI_bitCount_0 rfl (lv_at hl 0 rfl) ?_
  refine lv_iload_n hx hb dI_bitCount_1 rfl (lv_at hl 0 rfl) ?_
  refine lv_iconst (v := 1) hx hb dI_bitCount_2 (by decide) ?_
  refine lv_iushr (v := (ck_us x0 (1 : Int32))) hx hb dI_bitCount_3 rfl ?_
  refine lv_ldcw (v := 1431655765) hx hb hown (hts _ (ck_T_mk (List.mem_of_getElem? (i := 519) (by decide +kernel)) (by decide +kernel))) dI_bitCount_4 ?_
  refine lv_iand hx hb dI_bitCount_7 ?_
  refine lv_isub hx hb dI_bitCount_8 ?_
  refine lv_istore_n (lv' := [(0, .int (x0 - ((ck_us x0 (1 : Int32)) &&& (1431655765 : Int32))))]) hx hb dI_bitCount_9 rfl hl (by decide) rfl (fun ls hl => ?_)
  refine lv_iload_n hx hb dI_bitCount_10 rfl (lv_at hl 0 rfl) ?_
  refine lv_ldcw (v := 858993459) hx hb hown (hts _ (ck_T_mk (List.mem_of_getElem? (i := 520) (by decide +kernel)) (by decide +kernel))) dI_bitCount_11 ?_
  refine lv_iand hx hb dI_bitCount_14 ?_
  refine lv_iload_n hx hb dI_bitCount_15 rfl (lv_at hl 0 rfl) ?_
  refine lv_iconst (v := 2) hx hb dI_bitCount_16 (by decide) ?_
  refine lv_iushr (v := (ck_us (x0 - ((ck_us x0 (1 : Int32)) &&& (1431655765 : Int32))) (2 : Int32))) hx hb dI_bitCount_17 rfl ?_
  refine lv_ldcw (v := 858993459) hx hb hown (hts _ (ck_T_mk (List.mem_of_getElem? (i := 520) (by decide +kernel)) (by decide +kernel))) dI_bitCount_18 ?_
  refine lv_iand hx hb dI_bitCount_21 ?_
  refine lv_iadd hx hb dI_bitCount_22 ?_
  refine lv_istore_n (lv' := [(0, .int (((x0 - ((ck_us x0 (1 : Int32)) &&& (1431655765 : Int32))) &&& (858993459 : Int32)) + ((ck_us (x0 - ((ck_us x0 (1 : Int32)) &&& (1431655765 : Int32))) (2 : Int32)) &&& (858993459 : Int32))))]) hx hb dI_bitCount_23 rfl hl (by decide) rfl (fun ls hl => ?_)
  refine lv_iload_n hx hb dI_bitCount_24 rfl (lv_at hl 0 rfl) ?_
  refine lv_iload_n hx hb dI_bitCount_25 rfl (lv_at hl 0 rfl) ?_
  refine lv_iconst (v := 4) hx hb dI_bitCount_26 (by decide) ?_
  refine lv_iushr (v := (ck_us (((x0 - ((ck_us x0 (1 : Int32)) &&& (1431655765 : Int32))) &&& (858993459 : Int32)) + ((ck_us (x0 - ((ck_us x0 (1 : Int32)) &&& (1431655765 : Int32))) (2 : Int32)) &&& (858993459 : Int32))) (4 : Int32))) hx hb dI_bitCount_27 rfl ?_
  refine lv_iadd hx hb dI_bitCount_28 ?_
  refine lv_ldcw (v := 252645135) hx hb hown (hts _ (ck_T_mk (List.mem_of_getElem? (i := 521) (by decide +kernel)) (by decide +kernel))) dI_bitCount_29 ?_
  refine lv_iand hx hb dI_bitCount_32 ?_
  refine lv_istore_n (lv' := [(0, .int (((((x0 - ((ck_us x0 (1 : Int32)) &&& (1431655765 : Int32))) &&& (858993459 : Int32)) + ((ck_us (x0 - ((ck_us x0 (1 : Int32)) &&& (1431655765 : Int32))) (2 : Int32)) &&& (858993459 : Int32))) + (ck_us (((x0 - ((ck_us x0 (1 : Int32)) &&& (1431655765 : Int32))) &&& (858993459 : Int32)) + ((ck_us (x0 - ((ck_us x0 (1 : Int32)) &&& (1431655765 : Int32))) (2 : Int32)) &&& (858993459 : Int32))) (4 : Int32))) &&& (252645135 : Int32)))]) hx hb dI_bitCount_33 rfl hl (by decide) rfl (fun ls hl => ?_)
  refine lv_iload_n hx hb dI_bitCount_34 rfl (lv_at hl 0 rfl) ?_
  refine lv_iload_n hx hb dI_bitCount_35 rfl (lv_at hl 0 rfl) ?_
  refine lv_bipush (v := 8) hx hb dI_bitCount_36 (by decide) ?_
  refine lv_iushr (v := (ck_us (((((x0 - ((ck_us x0 (1 : Int32)) &&& (1431655765 : Int32))) &&& (858993459 : Int32)) + ((ck_us (x0 - ((ck_us x0 (1 : Int32)) &&& (1431655765 : Int32))) (2 : Int32)) &&& (858993459 : Int32))) + (ck_us (((x0 - ((ck_us x0 (1 : Int32)) &&& (1431655765 : Int32))) &&& (858993459 : Int32)) + ((ck_us (x0 - ((ck_us x0 (1 : Int32)) &&& (1431655765 : Int32))) (2 : Int32)) &&& (858993459 : Int32))) (4 : Int32))) &&& (252645135 : Int32)) (8 : Int32))) hx hb dI_bitCount_38 rfl ?_
  refine lv_iadd hx hb dI_bitCount_39 ?_
  refine lv_istore_n (lv' := [(0, .int ((((((x0 - ((ck_us x0 (1 : Int32)) &&& (1431655765 : Int32))) &&& (858993459 : Int32)) + ((ck_us (x0 - ((ck_us x0 (1 : Int32)) &&& (1431655765 : Int32))) (2 : Int32)) &&& (858993459 : Int32))) + (ck_us (((x0 - ((ck_us x0 (1 : Int32)) &&& (1431655765 : Int32))) &&& (858993459 : Int32)) + ((ck_us (x0 - ((ck_us x0 (1 : Int32)) &&& (1431655765 : Int32))) (2 : Int32)) &&& (858993459 : Int32))) (4 : Int32))) &&& (252645135 : Int32)) + (ck_us (((((x0 - ((ck_us x0 (1 : Int32)) &&& (1431655765 : Int32))) &&& (858993459 : Int32)) + ((ck_us (x0 - ((ck_us x0 (1 : Int32)) &&& (1431655765 : Int32))) (2 : Int32)) &&& (858993459 : Int32))) + (ck_us (((x0 - ((ck_us x0 (1 : Int32)) &&& (1431655765 : Int32))) &&& (858993459 : Int32)) + ((ck_us (x0 - ((ck_us x0 (1 : Int32)) &&& (1431655765 : Int32))) (2 : Int32)) &&& (858993459 : Int32))) (4 : Int32))) &&& (252645135 : Int32)) (8 : Int32))))]) hx hb dI_bitCount_40 rfl hl (by decide) rfl (fun ls hl => ?_)
  refine lv_iload_n hx hb dI_bitCount_41 rfl (lv_at hl 0 rfl) ?_
  refine lv_iload_n hx hb dI_bitCount_42 rfl (lv_at hl 0 rfl) ?_
  refine lv_bipush (v := 16) hx hb dI_bitCount_43 (by decide) ?_
  refine lv_iushr (v := (ck_us ((((((x0 - ((ck_us x0 (1 : Int32)) &&& (1431655765 : Int32))) &&& (858993459 : Int32)) + ((ck_us (x0 - ((ck_us x0 (1 : Int32)) &&& (1431655765 : Int32))) (2 : Int32)) &&& (858993459 : Int32))) + (ck_us (((x0 - ((ck_us x0 (1 : Int32)) &&& (1431655765 : Int32))) &&& (858993459 : Int32)) + ((ck_us (x0 - ((ck_us x0 (1 : Int32)) &&& (1431655765 : Int32))) (2 : Int32)) &&& (858993459 : Int32))) (4 : Int32))) &&& (252645135 : Int32)) + (ck_us (((((x0 - ((ck_us x0 (1 : Int32)) &&& (1431655765 : Int32))) &&& (858993459 : Int32)) + ((ck_us (x0 - ((ck_us x0 (1 : Int32)) &&& (1431655765 : Int32))) (2 : Int32)) &&& (858993459 : Int32))) + (ck_us (((x0 - ((ck_us x0 (1 : Int32)) &&& (1431655765 : Int32))) &&& (858993459 : Int32)) + ((ck_us (x0 - ((ck_us x0 (1 : Int32)) &&& (1431655765 : Int32))) (2 : Int32)) &&& (858993459 : Int32))) (4 : Int32))) &&& (252645135 : Int32)) (8 : Int32))) (16 : Int32))) hx hb dI_bitCount_45 rfl ?_
  refine lv_iadd hx hb dI_bitCount_46 ?_
  refine lv_istore_n (lv' := [(0, .int (((((((x0 - ((ck_us x0 (1 : Int32)) &&& (1431655765 : Int32))) &&& (858993459 : Int32)) + ((ck_us (x0 - ((ck_us x0 (1 : Int32)) &&& (1431655765 : Int32))) (2 : Int32)) &&& (858993459 : Int32))) + (ck_us (((x0 - ((ck_us x0 (1 : Int32)) &&& (1431655765 : Int32))) &&& (858993459 : Int32)) + ((ck_us (x0 - ((ck_us x0 (1 : Int32)) &&& (1431655765 : Int32))) (2 : Int32)) &&& (858993459 : Int32))) (4 : Int32))) &&& (252645135 : Int32)) + (ck_us (((((x0 - ((ck_us x0 (1 : Int32)) &&& (1431655765 : Int32))) &&& (858993459 : Int32)) + ((ck_us (x0 - ((ck_us x0 (1 : Int32)) &&& (1431655765 : Int32))) (2 : Int32)) &&& (858993459 : Int32))) + (ck_us (((x0 - ((ck_us x0 (1 : Int32)) &&& (1431655765 : Int32))) &&& (858993459 : Int32)) + ((ck_us (x0 - ((ck_us x0 (1 : Int32)) &&& (1431655765 : Int32))) (2 : Int32)) &&& (858993459 : Int32))) (4 : Int32))) &&& (252645135 : Int32)) (8 : Int32))) + (ck_us ((((((x0 - ((ck_us x0 (1 : Int32)) &&& (1431655765 : Int32))) &&& (858993459 : Int32)) + ((ck_us (x0 - ((ck_us x0 (1 : Int32)) &&& (1431655765 : Int32))) (2 : Int32)) &&& (858993459 : Int32))) + (ck_us (((x0 - ((ck_us x0 (1 : Int32)) &&& (1431655765 : Int32))) &&& (858993459 : Int32)) + ((ck_us (x0 - ((ck_us x0 (1 : Int32)) &&& (1431655765 : Int32))) (2 : Int32)) &&& (858993459 : Int32))) (4 : Int32))) &&& (252645135 : Int32)) + (ck_us (((((x0 - ((ck_us x0 (1 : Int32)) &&& (1431655765 : Int32))) &&& (858993459 : Int32)) + ((ck_us (x0 - ((ck_us x0 (1 : Int32)) &&& (1431655765 : Int32))) (2 : Int32)) &&& (858993459 : Int32))) + (ck_us (((x0 - ((ck_us x0 (1 : Int32)) &&& (1431655765 : Int32))) &&& (858993459 : Int32)) + ((ck_us (x0 - ((ck_us x0 (1 : Int32)) &&& (1431655765 : Int32))) (2 : Int32)) &&& (858993459 : Int32))) (4 : Int32))) &&& (252645135 : Int32)) (8 : Int32))) (16 : Int32))))]) hx hb dI_bitCount_47 rfl hl (by decide) rfl (fun ls hl => ?_)
  refine lv_iload_n hx hb dI_bitCount_48 rfl (lv_at hl 0 rfl) ?_
  refine lv_bipush (v := 63) hx hb dI_bitCount_49 (by decide) ?_
  refine lv_iand hx hb dI_bitCount_51 ?_
  exact ck_ri hf hret h dI_bitCount_52
def fA_fill_23_C_l5 : Nat → Int32 → Int32 → Int32 → ck_S → Option ck_S
  | 0, _, _, _, _ => none
  | n + 1, x1, x2, x3, st => (if x3 ≤ x2 then (some st) else (ck_gd x2 16 (fA_fill_23_C_l5 n x1 (x2 + 1) x3 (ck_u st 23 (x2).toNatClampNeg x1))))
set_option maxRecDepth 100000 in
set_option maxHeartbeats 4000000 in
theorem BA_fill_23_C_5 (C : ck_X cm_cl D cA bA_fill 4 R_A 0 p R s m args c) {st0 : ck_S} (hret : ∀ (pc : Nat) (H : Heap) (locs : List Loc) (ls : Array Slot), decode bA_fill pc = .ok (.return_, 1) → ck_AT sh_C cm_cl D cA ad H0 st0 H locs → W p l e R s m args below meth c H locs 0 0 Q (F0 m pc ls [])) : ∀ (n : Nat) (x1 : Int32) (x2 : Int32) (x3 : Int32) (st : ck_S) (H : Heap) (locs : List Loc) (ls : Array Slot), ck_AT sh_C cm_cl D cA ad H0 st H locs → lv_has ls 4 [(0, .ref (ad 23)), (1, .int x1), (2, .int x2), (3, .int x3)] → fA_fill_23_C_l5  n x1 x2 x3 st = some st0 → W p l e R s m args below meth c H locs 0 0 Q (F0 m 5 ls []) := by
  have C1 := C
  obtain ⟨hx, hb, hml, hown, hts, hK, hlv, hlo⟩ := C1
  intro n
  induction n with
  | zero => intro _ _ _ _ _ _ _ _ _ hf; cases hf
  | succ n ih =>
    intro x1 x2 x3 st H locs ls h hl hf
    rw [fA_fill_23_C_l5] at hf
    refine lv_iload_n hx hb dA_fill_5 rfl (lv_at hl 2 rfl) ?_
    refine lv_iload_n hx hb dA_fill_6 rfl (lv_at hl 3 rfl) ?_
    refine lv_icmp_ge (tgt := 20) hx hb dA_fill_7 rfl (fun hq => ?_) (fun hq => ?_)
    · have hf := ck_t hq hf
      exact ck_rv hf hret h dA_fill_20
    · have hf := ck_f hq hf
      refine lv_aload_n hx hb dA_fill_10 rfl (lv_at hl 0 rfl) ?_
      refine lv_iload_n hx hb dA_fill_11 rfl (lv_at hl 2 rfl) ?_
      refine lv_iload_n hx hb dA_fill_12 rfl (lv_at hl 1 rfl) ?_
      obtain ⟨hg, hf⟩ := ck_gd_e hf
      refine ck_si C h (show sh_C[23]? = some (.inr (0, 16)) from rfl) hg dA_fill_13 (fun H locs h => ?_)
      refine lv_iinc (k := 2) (v := (x2 + 1)) (lv' := [(2, .int (x2 + 1)), (0, .ref (ad 23)), (1, .int x1), (3, .int x3)]) hx hb dA_fill_14 hl rfl rfl (by decide) rfl (fun ls hl => ?_)
      refine lv_goto (tgt := 5) hx hb dA_fill_17 rfl ?_
      exact ih _ _ _ _ _ _ _ h (lv_sub hl [1, 2, 0, 3] rfl) hf
def fA_fill_23_C (x1 : Int32) (st : ck_S) : Option ck_S := (fA_fill_23_C_l5  4096 x1 (0 : Int32) (16 : Int32) st)
set_option maxRecDepth 100000 in
set_option maxHeartbeats 4000000 in
theorem cA_fill_23_C (l : Launch) (D : va_G) (cA : Nat → ClassId) (ad : Nat → Nat) {x1 : Int32} {st : ck_S} {st0 : ck_S} (hf : fA_fill_23_C x1 st = some st0) : Met l yA_fill (.code yA_fill bA_fill 4 none :: ck_T) (ck_R 0) (va_Pc [.ref (ad 23), .int x1] (ck_P sh_C cm_cl D cA ad st)) (va_Qv (fun u => u = st0) (ck_P sh_C cm_cl D cA ad) (ck_A ad sh_C.length)) 0 0 (ck_A ad sh_C.length) := by
  refine ck_met_v (own := R_A) (by decide +kernel) rfl (Nat.le_of_ble_eq_true rfl) (fun p e R s m args below meth c H0 Q ls C hret h hl => ?_)
  have C1 := C
  obtain ⟨hx, hb, hml, hown, hts, hK, hlv, hlo⟩ := C1
  have hl : lv_has ls 4 [(0, .ref (ad 23)), (1, .int x1)] := hl
  unfold fA_fill_23_C at hf
  refine lv_iconst (v := 0) hx hb dA_fill_0 (by decide) ?_
  refine lv_istore_n (lv' := [(2, .int (0 : Int32)), (0, .ref (ad 23)), (1, .int x1)]) hx hb dA_fill_1 rfl hl (by decide) rfl (fun ls hl => ?_)
  refine lv_aload_n hx hb dA_fill_2 rfl (lv_at hl 1 rfl) ?_
  refine ck_an (x := 16) C h (show sh_C[23]? = some (.inr (0, 16)) from rfl) (by decide) dA_fill_3 ?_
  refine lv_istore_n (lv' := [(3, .int (16 : Int32)), (2, .int (0 : Int32)), (0, .ref (ad 23)), (1, .int x1)]) hx hb dA_fill_4 rfl hl (by decide) rfl (fun ls hl => ?_)
  exact BA_fill_23_C_5 C hret  4096 _ _ _ _ _ _ _ h (lv_sub hl [2, 3, 1, 0] rfl) hf
def fA_fill_38_C_l5 : Nat → Int32 → Int32 → Int32 → ck_S → Option ck_S
  | 0, _, _, _, _ => none
  | n + 1, x1, x2, x3, st => (if x3 ≤ x2 then (some st) else (ck_gd x2 32 (fA_fill_38_C_l5 n x1 (x2 + 1) x3 (ck_u st 38 (x2).toNatClampNeg x1))))
set_option maxRecDepth 100000 in
set_option maxHeartbeats 4000000 in
theorem BA_fill_38_C_5 (C : ck_X cm_cl D cA bA_fill 4 R_A 0 p R s m args c) {st0 : ck_S} (hret : ∀ (pc : Nat) (H : Heap) (locs : List Loc) (ls : Array Slot), decode bA_fill pc = .ok (.return_, 1) → ck_AT sh_C cm_cl D cA ad H0 st0 H locs → W p l e R s m args below meth c H locs 0 0 Q (F0 m pc ls [])) : ∀ (n : Nat) (x1 : Int32) (x2 : Int32) (x3 : Int32) (st : ck_S) (H : Heap) (locs : List Loc) (ls : Array Slot), ck_AT sh_C cm_cl D cA ad H0 st H locs → lv_has ls 4 [(0, .ref (ad 38)), (1, .int x1), (2, .int x2), (3, .int x3)] → fA_fill_38_C_l5  n x1 x2 x3 st = some st0 → W p l e R s m args below meth c H locs 0 0 Q (F0 m 5 ls []) := by
  have C1 := C
  obtain ⟨hx, hb, hml, hown, hts, hK, hlv, hlo⟩ := C1
  intro n
  induction n with
  | zero => intro _ _ _ _ _ _ _ _ _ hf; cases hf
  | succ n ih =>
    intro x1 x2 x3 st H locs ls h hl hf
    rw [fA_fill_38_C_l5] at hf
    refine lv_iload_n hx hb dA_fill_5 rfl (lv_at hl 2 rfl) ?_
    refine lv_iload_n hx hb dA_fill_6 rfl (lv_at hl 3 rfl) ?_
    refine lv_icmp_ge (tgt := 20) hx hb dA_fill_7 rfl (fun hq => ?_) (fun hq => ?_)
    · have hf := ck_t hq hf
      exact ck_rv hf hret h dA_fill_20
    · have hf := ck_f hq hf
      refine lv_aload_n hx hb dA_fill_10 rfl (lv_at hl 0 rfl) ?_
      refine lv_iload_n hx hb dA_fill_11 rfl (lv_at hl 2 rfl) ?_
      refine lv_iload_n hx hb dA_fill_12 rfl (lv_at hl 1 rfl) ?_
      obtain ⟨hg, hf⟩ := ck_gd_e hf
      refine ck_si C h (show sh_C[38]? = some (.inr (0, 32)) from rfl) hg dA_fill_13 (fun H locs h => ?_)
      refine lv_iinc (k := 2) (v := (x2 + 1)) (lv' := [(2, .int (x2 + 1)), (0, .ref (ad 38)), (1, .int x1), (3, .int x3)]) hx hb dA_fill_14 hl rfl rfl (by decide) rfl (fun ls hl => ?_)
      refine lv_goto (tgt := 5) hx hb dA_fill_17 rfl ?_
      exact ih _ _ _ _ _ _ _ h (lv_sub hl [1, 2, 0, 3] rfl) hf
def fA_fill_38_C (x1 : Int32) (st : ck_S) : Option ck_S := (fA_fill_38_C_l5  4096 x1 (0 : Int32) (32 : Int32) st)
set_option maxRecDepth 100000 in
set_option maxHeartbeats 4000000 in
theorem cA_fill_38_C (l : Launch) (D : va_G) (cA : Nat → ClassId) (ad : Nat → Nat) {x1 : Int32} {st : ck_S} {st0 : ck_S} (hf : fA_fill_38_C x1 st = some st0) : Met l yA_fill (.code yA_fill bA_fill 4 none :: ck_T) (ck_R 0) (va_Pc [.ref (ad 38), .int x1] (ck_P sh_C cm_cl D cA ad st)) (va_Qv (fun u => u = st0) (ck_P sh_C cm_cl D cA ad) (ck_A ad sh_C.length)) 0 0 (ck_A ad sh_C.length) := by
  refine ck_met_v (own := R_A) (by decide +kernel) rfl (Nat.le_of_ble_eq_true rfl) (fun p e R s m args below meth c H0 Q ls C hret h hl => ?_)
  have C1 := C
  obtain ⟨hx, hb, hml, hown, hts, hK, hlv, hlo⟩ := C1
  have hl : lv_has ls 4 [(0, .ref (ad 38)), (1, .int x1)] := hl
  unfold fA_fill_38_C at hf
  refine lv_iconst (v := 0) hx hb dA_fill_0 (by decide) ?_
  refine lv_istore_n (lv' := [(2, .int (0 : Int32)), (0, .ref (ad 38)), (1, .int x1)]) hx hb dA_fill_1 rfl hl (by decide) rfl (fun ls hl => ?_)
  refine lv_aload_n hx hb dA_fill_2 rfl (lv_at hl 1 rfl) ?_
  refine ck_an (x := 32) C h (show sh_C[38]? = some (.inr (0, 32)) from rfl) (by decide) dA_fill_3 ?_
  refine lv_istore_n (lv' := [(3, .int (32 : Int32)), (2, .int (0 : Int32)), (0, .ref (ad 38)), (1, .int x1)]) hx hb dA_fill_4 rfl hl (by decide) rfl (fun ls hl => ?_)
  exact BA_fill_38_C_5 C hret  4096 _ _ _ _ _ _ _ h (lv_sub hl [2, 3, 1, 0] rfl) hf
def fA_fill_39_C_l5 : Nat → Int32 → Int32 → Int32 → ck_S → Option ck_S
  | 0, _, _, _, _ => none
  | n + 1, x1, x2, x3, st => (if x3 ≤ x2 then (some st) else (ck_gd x2 32 (fA_fill_39_C_l5 n x1 (x2 + 1) x3 (ck_u st 39 (x2).toNatClampNeg x1))))
set_option maxRecDepth 100000 in
set_option maxHeartbeats 4000000 in
theorem BA_fill_39_C_5 (C : ck_X cm_cl D cA bA_fill 4 R_A 0 p R s m args c) {st0 : ck_S} (hret : ∀ (pc : Nat) (H : Heap) (locs : List Loc) (ls : Array Slot), decode bA_fill pc = .ok (.return_, 1) → ck_AT sh_C cm_cl D cA ad H0 st0 H locs → W p l e R s m args below meth c H locs 0 0 Q (F0 m pc ls [])) : ∀ (n : Nat) (x1 : Int32) (x2 : Int32) (x3 : Int32) (st : ck_S) (H : Heap) (locs : List Loc) (ls : Array Slot), ck_AT sh_C cm_cl D cA ad H0 st H locs → lv_has ls 4 [(0, .ref (ad 39)), (1, .int x1), (2, .int x2), (3, .int x3)] → fA_fill_39_C_l5  n x1 x2 x3 st = some st0 → W p l e R s m args below meth c H locs 0 0 Q (F0 m 5 ls []) := by
  have C1 := C
  obtain ⟨hx, hb, hml, hown, hts, hK, hlv, hlo⟩ := C1
  intro n
  induction n with
  | zero => intro _ _ _ _ _ _ _ _ _ hf; cases hf
  | succ n ih =>
    intro x1 x2 x3 st H locs ls h hl hf
    rw [fA_fill_39_C_l5] at hf
    refine lv_iload_n hx hb dA_fill_5 rfl (lv_at hl 2 rfl) ?_
    refine lv_iload_n hx hb dA_fill_6 rfl (lv_at hl 3 rfl) ?_
    refine lv_icmp_ge (tgt := 20) hx hb dA_fill_7 rfl (fun hq => ?_) (fun hq => ?_)
    · have hf := ck_t hq hf
      exact ck_rv hf hret h dA_fill_20
    · have hf := ck_f hq hf
      refine lv_aload_n hx hb dA_fill_10 rfl (lv_at hl 0 rfl) ?_
      refine lv_iload_n hx hb dA_fill_11 rfl (lv_at hl 2 rfl) ?_
      refine lv_iload_n hx hb dA_fill_12 rfl (lv_at hl 1 rfl) ?_
      obtain ⟨hg, hf⟩ := ck_gd_e hf
      refine ck_si C h (show sh_C[39]? = some (.inr (0, 32)) from rfl) hg dA_fill_13 (fun H locs h => ?_)
      refine lv_iinc (k := 2) (v := (x2 + 1)) (lv' := [(2, .int (x2 + 1)), (0, .ref (ad 39)), (1, .int x1), (3, .int x3)]) hx hb dA_fill_14 hl rfl rfl (by decide) rfl (fun ls hl => ?_)
      refine lv_goto (tgt := 5) hx hb dA_fill_17 rfl ?_
      exact ih _ _ _ _ _ _ _ h (lv_sub hl [1, 2, 0, 3] rfl) hf
def fA_fill_39_C (x1 : Int32) (st : ck_S) : Option ck_S := (fA_fill_39_C_l5  4096 x1 (0 : Int32) (32 : Int32) st)
set_option maxRecDepth 100000 in
set_option maxHeartbeats 4000000 in
theorem cA_fill_39_C (l : Launch) (D : va_G) (cA : Nat → ClassId) (ad : Nat → Nat) {x1 : Int32} {st : ck_S} {st0 : ck_S} (hf : fA_fill_39_C x1 st = some st0) : Met l yA_fill (.code yA_fill bA_fill 4 none :: ck_T) (ck_R 0) (va_Pc [.ref (ad 39), .int x1] (ck_P sh_C cm_cl D cA ad st)) (va_Qv (fun u => u = st0) (ck_P sh_C cm_cl D cA ad) (ck_A ad sh_C.length)) 0 0 (ck_A ad sh_C.length) := by
  refine ck_met_v (own := R_A) (by decide +kernel) rfl (Nat.le_of_ble_eq_true rfl) (fun p e R s m args below meth c H0 Q ls C hret h hl => ?_)
  have C1 := C
  obtain ⟨hx, hb, hml, hown, hts, hK, hlv, hlo⟩ := C1
  have hl : lv_has ls 4 [(0, .ref (ad 39)), (1, .int x1)] := hl
  unfold fA_fill_39_C at hf
  refine lv_iconst (v := 0) hx hb dA_fill_0 (by decide) ?_
  refine lv_istore_n (lv' := [(2, .int (0 : Int32)), (0, .ref (ad 39)), (1, .int x1)]) hx hb dA_fill_1 rfl hl (by decide) rfl (fun ls hl => ?_)
  refine lv_aload_n hx hb dA_fill_2 rfl (lv_at hl 1 rfl) ?_
  refine ck_an (x := 32) C h (show sh_C[39]? = some (.inr (0, 32)) from rfl) (by decide) dA_fill_3 ?_
  refine lv_istore_n (lv' := [(3, .int (32 : Int32)), (2, .int (0 : Int32)), (0, .ref (ad 39)), (1, .int x1)]) hx hb dA_fill_4 rfl hl (by decide) rfl (fun ls hl => ?_)
  exact BA_fill_39_C_5 C hret  4096 _ _ _ _ _ _ _ h (lv_sub hl [2, 3, 1, 0] rfl) hf
end SJdk
