theorem dV_reset_0 : decode bV_reset 0 = .ok (.aload_n 0, 1) := by decide +kernel
theorem dV_reset_1 : decode bV_reset 1 = .ok (.iconst 0, 1) := by decide +kernel
theorem dV_reset_2 : decode bV_reset 2 = .ok (.putfield 24, 3) := by decide +kernel
theorem dV_reset_5 : decode bV_reset 5 = .ok (.return_, 1) := by decide +kernel
theorem dV_has_0 : decode bV_has 0 = .ok (.iload_n 1, 1) := by decide +kernel
theorem dV_has_1 : decode bV_has 1 = .ok (.ifCond .lt 15, 3) := by decide +kernel
theorem dV_has_4 : decode bV_has 4 = .ok (.iload_n 1, 1) := by decide +kernel
theorem dV_has_5 : decode bV_has 5 = .ok (.aload_n 0, 1) := by decide +kernel
theorem dV_has_6 : decode bV_has 6 = .ok (.getfield 24, 3) := by decide +kernel
theorem dV_has_9 : decode bV_has 9 = .ok (.if_icmp .ge 7, 3) := by decide +kernel
theorem dV_has_12 : decode bV_has 12 = .ok (.iconst 1, 1) := by decide +kernel
theorem dV_has_13 : decode bV_has 13 = .ok (.goto 4, 3) := by decide +kernel
theorem dV_has_16 : decode bV_has 16 = .ok (.iconst 0, 1) := by decide +kernel
theorem dV_has_17 : decode bV_has 17 = .ok (.ireturn, 1) := by decide +kernel
theorem dV_addBuilt_0 : decode bV_addBuilt 0 = .ok (.aload_n 0, 1) := by decide +kernel
theorem dV_addBuilt_1 : decode bV_addBuilt 1 = .ok (.getfield 24, 3) := by decide +kernel
theorem dV_addBuilt_4 : decode bV_addBuilt 4 = .ok (.bipush 60, 2) := by decide +kernel
theorem dV_addBuilt_6 : decode bV_addBuilt 6 = .ok (.if_icmp .lt 6, 3) := by decide +kernel
theorem dV_addBuilt_9 : decode bV_addBuilt 9 = .ok (.bipush (-8), 2) := by decide +kernel
theorem dV_addBuilt_11 : decode bV_addBuilt 11 = .ok (.ireturn, 1) := by decide +kernel
theorem dV_addBuilt_12 : decode bV_addBuilt 12 = .ok (.aload_n 0, 1) := by decide +kernel
theorem dV_addBuilt_13 : decode bV_addBuilt 13 = .ok (.getfield 24, 3) := by decide +kernel
theorem dV_addBuilt_16 : decode bV_addBuilt 16 = .ok (.istore 5, 2) := by decide +kernel
theorem dV_addBuilt_18 : decode bV_addBuilt 18 = .ok (.aload_n 0, 1) := by decide +kernel
theorem dV_addBuilt_19 : decode bV_addBuilt 19 = .ok (.getfield 15, 3) := by decide +kernel
theorem dV_addBuilt_22 : decode bV_addBuilt 22 = .ok (.iload 5, 2) := by decide +kernel
theorem dV_addBuilt_24 : decode bV_addBuilt 24 = .ok (.iload_n 1, 1) := by decide +kernel
theorem dV_addBuilt_25 : decode bV_addBuilt 25 = .ok (.iastore, 1) := by decide +kernel
theorem dV_addBuilt_26 : decode bV_addBuilt 26 = .ok (.aload_n 0, 1) := by decide +kernel
theorem dV_addBuilt_27 : decode bV_addBuilt 27 = .ok (.getfield 9, 3) := by decide +kernel
theorem dV_addBuilt_30 : decode bV_addBuilt 30 = .ok (.iload 5, 2) := by decide +kernel
theorem dV_addBuilt_32 : decode bV_addBuilt 32 = .ok (.iload_n 2, 1) := by decide +kernel
theorem dV_addBuilt_33 : decode bV_addBuilt 33 = .ok (.iastore, 1) := by decide +kernel
theorem dV_addBuilt_34 : decode bV_addBuilt 34 = .ok (.aload_n 0, 1) := by decide +kernel
theorem dV_addBuilt_35 : decode bV_addBuilt 35 = .ok (.getfield 18, 3) := by decide +kernel
theorem dV_addBuilt_38 : decode bV_addBuilt 38 = .ok (.iload 5, 2) := by decide +kernel
theorem dV_addBuilt_40 : decode bV_addBuilt 40 = .ok (.iload_n 3, 1) := by decide +kernel
theorem dV_addBuilt_41 : decode bV_addBuilt 41 = .ok (.iastore, 1) := by decide +kernel
theorem dV_addBuilt_42 : decode bV_addBuilt 42 = .ok (.aload_n 0, 1) := by decide +kernel
theorem dV_addBuilt_43 : decode bV_addBuilt 43 = .ok (.getfield 21, 3) := by decide +kernel
theorem dV_addBuilt_46 : decode bV_addBuilt 46 = .ok (.iload 5, 2) := by decide +kernel
theorem dV_addBuilt_48 : decode bV_addBuilt 48 = .ok (.iload 4, 2) := by decide +kernel
theorem dV_addBuilt_50 : decode bV_addBuilt 50 = .ok (.iastore, 1) := by decide +kernel
theorem dV_addBuilt_51 : decode bV_addBuilt 51 = .ok (.aload_n 0, 1) := by decide +kernel
theorem dV_addBuilt_52 : decode bV_addBuilt 52 = .ok (.dup, 1) := by decide +kernel
theorem dV_addBuilt_53 : decode bV_addBuilt 53 = .ok (.getfield 24, 3) := by decide +kernel
theorem dV_addBuilt_56 : decode bV_addBuilt 56 = .ok (.iconst 1, 1) := by decide +kernel
theorem dV_addBuilt_57 : decode bV_addBuilt 57 = .ok (.iadd, 1) := by decide +kernel
theorem dV_addBuilt_58 : decode bV_addBuilt 58 = .ok (.putfield 24, 3) := by decide +kernel
theorem dV_addBuilt_61 : decode bV_addBuilt 61 = .ok (.iload 5, 2) := by decide +kernel
theorem dV_addBuilt_63 : decode bV_addBuilt 63 = .ok (.ireturn, 1) := by decide +kernel
theorem dV_addInt_0 : decode bV_addInt 0 = .ok (.aload_n 0, 1) := by decide +kernel
theorem dV_addInt_1 : decode bV_addInt 1 = .ok (.iload_n 1, 1) := by decide +kernel
theorem dV_addInt_2 : decode bV_addInt 2 = .ok (.iconst 0, 1) := by decide +kernel
theorem dV_addInt_3 : decode bV_addInt 3 = .ok (.iconst (-1), 1) := by decide +kernel
theorem dV_addInt_4 : decode bV_addInt 4 = .ok (.iconst (-1), 1) := by decide +kernel
theorem dV_addInt_5 : decode bV_addInt 5 = .ok (.invokevirtual 28, 3) := by decide +kernel
theorem dV_addInt_8 : decode bV_addInt 8 = .ok (.ireturn, 1) := by decide +kernel
theorem dV_isOf_0 : decode bV_isOf 0 = .ok (.aload_n 0, 1) := by decide +kernel
theorem dV_isOf_1 : decode bV_isOf 1 = .ok (.iload_n 1, 1) := by decide +kernel
theorem dV_isOf_2 : decode bV_isOf 2 = .ok (.invokevirtual 32, 3) := by decide +kernel
theorem dV_isOf_5 : decode bV_isOf 5 = .ok (.ifCond .eq 21, 3) := by decide +kernel
theorem dV_isOf_8 : decode bV_isOf 8 = .ok (.aload_n 0, 1) := by decide +kernel
theorem dV_isOf_9 : decode bV_isOf 9 = .ok (.getfield 9, 3) := by decide +kernel
theorem dV_isOf_12 : decode bV_isOf 12 = .ok (.iload_n 1, 1) := by decide +kernel
theorem dV_isOf_13 : decode bV_isOf 13 = .ok (.iaload, 1) := by decide +kernel
theorem dV_isOf_14 : decode bV_isOf 14 = .ok (.iload_n 2, 1) := by decide +kernel
theorem dV_isOf_15 : decode bV_isOf 15 = .ok (.if_icmp .ne 7, 3) := by decide +kernel
theorem dV_isOf_18 : decode bV_isOf 18 = .ok (.iconst 1, 1) := by decide +kernel
theorem dV_isOf_19 : decode bV_isOf 19 = .ok (.goto 17, 3) := by decide +kernel
theorem dV_isOf_22 : decode bV_isOf 22 = .ok (.iconst 0, 1) := by decide +kernel
theorem dV_isOf_23 : decode bV_isOf 23 = .ok (.goto 13, 3) := by decide +kernel
theorem dV_isOf_26 : decode bV_isOf 26 = .ok (.iload_n 2, 1) := by decide +kernel
theorem dV_isOf_27 : decode bV_isOf 27 = .ok (.iconst (-1), 1) := by decide +kernel
theorem dV_isOf_28 : decode bV_isOf 28 = .ok (.if_icmp .ne 7, 3) := by decide +kernel
theorem dV_isOf_31 : decode bV_isOf 31 = .ok (.iconst 1, 1) := by decide +kernel
theorem dV_isOf_32 : decode bV_isOf 32 = .ok (.goto 4, 3) := by decide +kernel
theorem dV_isOf_35 : decode bV_isOf 35 = .ok (.iconst 0, 1) := by decide +kernel
theorem dV_isOf_36 : decode bV_isOf 36 = .ok (.ireturn, 1) := by decide +kernel
theorem dV_symbolOf_0 : decode bV_symbolOf 0 = .ok (.aload_n 0, 1) := by decide +kernel
theorem dV_symbolOf_1 : decode bV_symbolOf 1 = .ok (.iload_n 1, 1) := by decide +kernel
theorem dV_symbolOf_2 : decode bV_symbolOf 2 = .ok (.invokevirtual 32, 3) := by decide +kernel
theorem dV_symbolOf_5 : decode bV_symbolOf 5 = .ok (.ifCond .eq 12, 3) := by decide +kernel
theorem dV_symbolOf_8 : decode bV_symbolOf 8 = .ok (.aload_n 0, 1) := by decide +kernel
theorem dV_symbolOf_9 : decode bV_symbolOf 9 = .ok (.getfield 15, 3) := by decide +kernel
theorem dV_symbolOf_12 : decode bV_symbolOf 12 = .ok (.iload_n 1, 1) := by decide +kernel
theorem dV_symbolOf_13 : decode bV_symbolOf 13 = .ok (.iaload, 1) := by decide +kernel
theorem dV_symbolOf_14 : decode bV_symbolOf 14 = .ok (.goto 4, 3) := by decide +kernel
theorem dV_symbolOf_17 : decode bV_symbolOf 17 = .ok (.iconst 0, 1) := by decide +kernel
theorem dV_symbolOf_18 : decode bV_symbolOf 18 = .ok (.ireturn, 1) := by decide +kernel
theorem dV_firstOf_0 : decode bV_firstOf 0 = .ok (.aload_n 0, 1) := by decide +kernel
theorem dV_firstOf_1 : decode bV_firstOf 1 = .ok (.iload_n 1, 1) := by decide +kernel
theorem dV_firstOf_2 : decode bV_firstOf 2 = .ok (.invokevirtual 32, 3) := by decide +kernel
theorem dV_firstOf_5 : decode bV_firstOf 5 = .ok (.ifCond .eq 12, 3) := by decide +kernel
theorem dV_firstOf_8 : decode bV_firstOf 8 = .ok (.aload_n 0, 1) := by decide +kernel
theorem dV_firstOf_9 : decode bV_firstOf 9 = .ok (.getfield 18, 3) := by decide +kernel
theorem dV_firstOf_12 : decode bV_firstOf 12 = .ok (.iload_n 1, 1) := by decide +kernel
theorem dV_firstOf_13 : decode bV_firstOf 13 = .ok (.iaload, 1) := by decide +kernel
theorem dV_firstOf_14 : decode bV_firstOf 14 = .ok (.goto 4, 3) := by decide +kernel
theorem dV_firstOf_17 : decode bV_firstOf 17 = .ok (.iconst (-1), 1) := by decide +kernel
theorem dV_firstOf_18 : decode bV_firstOf 18 = .ok (.ireturn, 1) := by decide +kernel
theorem dV_secondOf_0 : decode bV_secondOf 0 = .ok (.aload_n 0, 1) := by decide +kernel
theorem dV_secondOf_1 : decode bV_secondOf 1 = .ok (.iload_n 1, 1) := by decide +kernel
theorem dV_secondOf_2 : decode bV_secondOf 2 = .ok (.invokevirtual 32, 3) := by decide +kernel
theorem dV_secondOf_5 : decode bV_secondOf 5 = .ok (.ifCond .eq 12, 3) := by decide +kernel
theorem dV_secondOf_8 : decode bV_secondOf 8 = .ok (.aload_n 0, 1) := by decide +kernel
theorem dV_secondOf_9 : decode bV_secondOf 9 = .ok (.getfield 21, 3) := by decide +kernel
theorem dV_secondOf_12 : decode bV_secondOf 12 = .ok (.iload_n 1, 1) := by decide +kernel
theorem dV_secondOf_13 : decode bV_secondOf 13 = .ok (.iaload, 1) := by decide +kernel
theorem dV_secondOf_14 : decode bV_secondOf 14 = .ok (.goto 4, 3) := by decide +kernel
theorem dV_secondOf_17 : decode bV_secondOf 17 = .ok (.iconst (-1), 1) := by decide +kernel
theorem dV_secondOf_18 : decode bV_secondOf 18 = .ok (.ireturn, 1) := by decide +kernel
section Svalu
variable {p : Program} {l : Launch} {e : Env} {R : Room} {s : State} {m : MethodId} {args : Array Value} {below : List Frame} {meth : Method} {c : Code} {Q : State → Prop} {D : va_G} {cA : Nat → ClassId} {ad : Nat → Nat} {H0 : Heap}
def fV_reset (st : ck_S) : Option ck_S := (some (ck_u st 3 4 (0 : Int32)))
set_option maxRecDepth 100000 in
set_option maxHeartbeats 4000000 in
theorem cV_reset (l : Launch) (D : va_G) (cA : Nat → ClassId) (ad : Nat → Nat) {st : ck_S} {st0 : ck_S} (hf : fV_reset st = some st0) : Met l yV_reset (.code yV_reset bV_reset 1 none :: ck_T) (ck_R 0) (va_Pc [.ref (ad 3)] (ck_P sh_C cm_cl D cA ad st)) (va_Qv (fun u => u = st0) (ck_P sh_C cm_cl D cA ad) (ck_A ad sh_C.length)) 0 0 (ck_A ad sh_C.length) := by
  refine ck_met_v (own := R_V) (by decide +kernel) rfl (Nat.le_of_ble_eq_true rfl) (fun p e R s m args below meth c H0 Q ls C hret h hl => ?_)
  have C1 := C
  obtain ⟨hx, hb, hml, hown, hts, hK, hlv, hlo⟩ := C1
  have hl : lv_has ls 1 [(0, .ref (ad 3))] := hl
  unfold fV_reset at hf
  refine lv_aload_n hx hb dV_reset_0 rfl (lv_at hl 0 rfl) ?_
  refine lv_iconst (v := 0) hx hb dV_reset_1 (by decide) ?_
  refine ck_pi C h GV_count rfl rfl dV_reset_2 (fun H locs h => ?_)
  exact ck_rv hf hret h dV_reset_5
def fV_has (x1 : Int32) (st : ck_S) : Option (Int32 × ck_S) := (if x1 < 0 then (some ((0 : Int32), st)) else (if (st 3 4) ≤ x1 then (some ((0 : Int32), st)) else (some ((1 : Int32), st))))
set_option maxRecDepth 100000 in
set_option maxHeartbeats 4000000 in
theorem cV_has (l : Launch) (D : va_G) (cA : Nat → ClassId) (ad : Nat → Nat) {x1 : Int32} {st : ck_S} {r0 : Int32} {st0 : ck_S} (hf : fV_has x1 st = some (r0, st0)) : Met l yV_has (.code yV_has bV_has 2 (some .boolean) :: ck_T) (ck_R 0) (va_Pc [.ref (ad 3), .int x1] (ck_P sh_C cm_cl D cA ad st)) (va_Qi (fun a u => a = r0 ∧ u = st0) (ck_P sh_C cm_cl D cA ad) (ck_A ad sh_C.length)) 0 0 (ck_A ad sh_C.length) := by
  refine ck_met_z (own := R_V) (by decide +kernel) rfl (Nat.le_of_ble_eq_true rfl) (fun p e R s m args below meth c H0 Q ls C hret h hl => ?_)
  have C1 := C
  obtain ⟨hx, hb, hml, hown, hts, hK, hlv, hlo⟩ := C1
  have hl : lv_has ls 2 [(0, .ref (ad 3)), (1, .int x1)] := hl
  unfold fV_has at hf
  refine lv_iload_n hx hb dV_has_0 rfl (lv_at hl 1 rfl) ?_
  refine lv_if_lt (tgt := 16) hx hb dV_has_1 rfl (fun hq => ?_) (fun hq => ?_)
  · have hf := ck_t hq hf
    refine lv_iconst (v := 0) hx hb dV_has_16 (by decide) ?_
    exact ck_rz hf hret ck_z0 h dV_has_17
  · have hf := ck_f hq hf
    refine lv_iload_n hx hb dV_has_4 rfl (lv_at hl 1 rfl) ?_
    refine lv_aload_n hx hb dV_has_5 rfl (lv_at hl 0 rfl) ?_
    refine ck_gi (x := (st 3 4)) C h FV_count rfl dV_has_6 ?_
    refine lv_icmp_ge (tgt := 16) hx hb dV_has_9 rfl (fun hq => ?_) (fun hq => ?_)
    · have hf := ck_t hq hf
      refine lv_iconst (v := 0) hx hb dV_has_16 (by decide) ?_
      exact ck_rz hf hret ck_z0 h dV_has_17
    · have hf := ck_f hq hf
      refine lv_iconst (v := 1) hx hb dV_has_12 (by decide) ?_
      refine lv_goto (tgt := 17) hx hb dV_has_13 rfl ?_
      exact ck_rz hf hret ck_z1 h dV_has_17
def fV_addBuilt (x1 : Int32) (x2 : Int32) (x3 : Int32) (x4 : Int32) (st : ck_S) : Option (Int32 × ck_S) := (if (st 3 4) < (60 : Int32) then (ck_gd (st 3 4) 60 (ck_gd (st 3 4) 60 (ck_gd (st 3 4) 60 (ck_gd (st 3 4) 60 (some ((st 3 4), (ck_u (ck_u (ck_u (ck_u (ck_u st 18 ((st 3 4)).toNatClampNeg x1) 17 ((st 3 4)).toNatClampNeg x2) 19 ((st 3 4)).toNatClampNeg x3) 20 ((st 3 4)).toNatClampNeg x4) 3 4 ((st 3 4) + (1 : Int32))))))))) else (some ((-8 : Int32), st)))
set_option maxRecDepth 100000 in
set_option maxHeartbeats 4000000 in
theorem cV_addBuilt (l : Launch) (D : va_G) (cA : Nat → ClassId) (ad : Nat → Nat) {x1 : Int32} {x2 : Int32} {x3 : Int32} {x4 : Int32} {st : ck_S} {r0 : Int32} {st0 : ck_S} (hf : fV_addBuilt x1 x2 x3 x4 st = some (r0, st0)) : Met l yV_addBuilt (.code yV_addBuilt bV_addBuilt 6 (some .int) :: ck_T) (ck_R 0) (va_Pc [.ref (ad 3), .int x1, .int x2, .int x3, .int x4] (ck_P sh_C cm_cl D cA ad st)) (va_Qi (fun a u => a = r0 ∧ u = st0) (ck_P sh_C cm_cl D cA ad) (ck_A ad sh_C.length)) 0 0 (ck_A ad sh_C.length) := by
  refine ck_met_i (own := R_V) (by decide +kernel) rfl (Nat.le_of_ble_eq_true rfl) (fun p e R s m args below meth c H0 Q ls C hret h hl => ?_)
  have C1 := C
  obtain ⟨hx, hb, hml, hown, hts, hK, hlv, hlo⟩ := C1
  have hl : lv_has ls 6 [(0, .ref (ad 3)), (1, .int x1), (2, .int x2), (3, .int x3), (4, .int x4)] := hl
  unfold fV_addBuilt at hf
  refine lv_aload_n hx hb dV_addBuilt_0 rfl (lv_at hl 0 rfl) ?_
  refine ck_gi (x := (st 3 4)) C h FV_count rfl dV_addBuilt_1 ?_
  refine lv_bipush (v := 60) hx hb dV_addBuilt_4 (by decide) ?_
  refine lv_icmp_lt (tgt := 12) hx hb dV_addBuilt_6 rfl (fun hq => ?_) (fun hq => ?_)
  · have hf := ck_t hq hf
    refine lv_aload_n hx hb dV_addBuilt_12 rfl (lv_at hl 0 rfl) ?_
    refine ck_gi (x := (st 3 4)) C h FV_count rfl dV_addBuilt_13 ?_
    refine lv_istore (lv' := [(5, .int (st 3 4)), (0, .ref (ad 3)), (1, .int x1), (2, .int x2), (3, .int x3), (4, .int x4)]) hx hb dV_addBuilt_16 hl (by decide) rfl (fun ls hl => ?_)
    refine lv_aload_n hx hb dV_addBuilt_18 rfl (lv_at hl 1 rfl) ?_
    refine ck_gr C h FV_symbol dV_addBuilt_19 ?_
    refine lv_iload hx hb dV_addBuilt_22 (lv_at hl 0 rfl) ?_
    refine lv_iload_n hx hb dV_addBuilt_24 rfl (lv_at hl 2 rfl) ?_
    obtain ⟨hg, hf⟩ := ck_gd_e hf
    refine ck_si C h (show sh_C[18]? = some (.inr (0, 60)) from rfl) hg dV_addBuilt_25 (fun H locs h => ?_)
    refine lv_aload_n hx hb dV_addBuilt_26 rfl (lv_at hl 1 rfl) ?_
    refine ck_gr C h FV_typeOf dV_addBuilt_27 ?_
    refine lv_iload hx hb dV_addBuilt_30 (lv_at hl 0 rfl) ?_
    refine lv_iload_n hx hb dV_addBuilt_32 rfl (lv_at hl 3 rfl) ?_
    obtain ⟨hg, hf⟩ := ck_gd_e hf
    refine ck_si C h (show sh_C[17]? = some (.inr (0, 60)) from rfl) hg dV_addBuilt_33 (fun H locs h => ?_)
    refine lv_aload_n hx hb dV_addBuilt_34 rfl (lv_at hl 1 rfl) ?_
    refine ck_gr C h FV_first dV_addBuilt_35 ?_
    refine lv_iload hx hb dV_addBuilt_38 (lv_at hl 0 rfl) ?_
    refine lv_iload_n hx hb dV_addBuilt_40 rfl (lv_at hl 4 rfl) ?_
    obtain ⟨hg, hf⟩ := ck_gd_e hf
    refine ck_si C h (show sh_C[19]? = some (.inr (0, 60)) from rfl) hg dV_addBuilt_41 (fun H locs h => ?_)
    refine lv_aload_n hx hb dV_addBuilt_42 rfl (lv_at hl 1 rfl) ?_
    refine ck_gr C h FV_second dV_addBuilt_43 ?_
    refine lv_iload hx hb dV_addBuilt_46 (lv_at hl 0 rfl) ?_
    refine lv_iload hx hb dV_addBuilt_48 (lv_at hl 5 rfl) ?_
    obtain ⟨hg, hf⟩ := ck_gd_e hf
    refine ck_si C h (show sh_C[20]? = some (.inr (0, 60)) from rfl) hg dV_addBuilt_50 (fun H locs h => ?_)
    refine lv_aload_n hx hb dV_addBuilt_51 rfl (lv_at hl 1 rfl) ?_
    refine lv_dup hx hb dV_addBuilt_52 rfl ?_
    refine ck_gi (x := (st 3 4)) C h FV_count rfl dV_addBuilt_53 ?_
    refine lv_iconst (v := 1) hx hb dV_addBuilt_56 (by decide) ?_
    refine lv_iadd hx hb dV_addBuilt_57 ?_
    refine ck_pi C h GV_count rfl rfl dV_addBuilt_58 (fun H locs h => ?_)
    refine lv_iload hx hb dV_addBuilt_61 (lv_at hl 0 rfl) ?_
    exact ck_ri hf hret h dV_addBuilt_63
  · have hf := ck_f hq hf
    refine lv_bipush (v := (-8)) hx hb dV_addBuilt_9 (by decide) ?_
    exact ck_ri hf hret h dV_addBuilt_11
def fV_addInt (x1 : Int32) (st : ck_S) : Option (Int32 × ck_S) := (ck_b (fV_addBuilt x1 (0 : Int32) (-1 : Int32) (-1 : Int32) st) fun v2 st1 => (some (v2, st1)))
set_option maxRecDepth 100000 in
set_option maxHeartbeats 4000000 in
theorem cV_addInt (l : Launch) (D : va_G) (cA : Nat → ClassId) (ad : Nat → Nat) {x1 : Int32} {st : ck_S} {r0 : Int32} {st0 : ck_S} (hf : fV_addInt x1 st = some (r0, st0)) : Met l yV_addInt (.code yV_addInt bV_addInt 2 (some .int) :: ck_T) (ck_R 1) (va_Pc [.ref (ad 3), .int x1] (ck_P sh_C cm_cl D cA ad st)) (va_Qi (fun a u => a = r0 ∧ u = st0) (ck_P sh_C cm_cl D cA ad) (ck_A ad sh_C.length)) 0 0 (ck_A ad sh_C.length) := by
  refine ck_met_i (own := R_V) (by decide +kernel) rfl (Nat.le_of_ble_eq_true rfl) (fun p e R s m args below meth c H0 Q ls C hret h hl => ?_)
  have C1 := C
  obtain ⟨hx, hb, hml, hown, hts, hK, hlv, hlo⟩ := C1
  have hl : lv_has ls 2 [(0, .ref (ad 3)), (1, .int x1)] := hl
  unfold fV_addInt at hf
  refine lv_aload_n hx hb dV_addInt_0 rfl (lv_at hl 0 rfl) ?_
  refine lv_iload_n hx hb dV_addInt_1 rfl (lv_at hl 1 rfl) ?_
  refine lv_iconst (v := 0) hx hb dV_addInt_2 (by decide) ?_
  refine lv_iconst (v := (-1)) hx hb dV_addInt_3 (by decide) ?_
  refine lv_iconst (v := (-1)) hx hb dV_addInt_4 (by decide) ?_
  obtain ⟨v2, st1, hc, hf⟩ := ck_b_e hf
  refine ck_vi (As := [.int x1, .int (0 : Int32), .int (-1 : Int32), .int (-1 : Int32)]) (rest := []) (q := 3) C h hl CV_V_addBuilt sV_addBuilt q_V (cV_addBuilt l D cA ad hc) (Nat.le_of_ble_eq_true rfl) rfl rfl (Nat.le_of_ble_eq_true rfl) dV_addInt_5 (fun H locs h => ?_)
  exact ck_ri hf hret h dV_addInt_8
def fV_isOf (x1 : Int32) (x2 : Int32) (st : ck_S) : Option (Int32 × ck_S) := (ck_b (fV_has x1 st) fun v2 st1 => (if v2 = 0 then (if x2 = (-1 : Int32) then (some ((1 : Int32), st1)) else (some ((0 : Int32), st1))) else (ck_gd x1 60 (if (st1 17 (x1).toNatClampNeg) = x2 then (some ((1 : Int32), st1)) else (some ((0 : Int32), st1))))))
set_option maxRecDepth 100000 in
set_option maxHeartbeats 4000000 in
theorem cV_isOf (l : Launch) (D : va_G) (cA : Nat → ClassId) (ad : Nat → Nat) {x1 : Int32} {x2 : Int32} {st : ck_S} {r0 : Int32} {st0 : ck_S} (hf : fV_isOf x1 x2 st = some (r0, st0)) : Met l yV_isOf (.code yV_isOf bV_isOf 3 (some .boolean) :: ck_T) (ck_R 1) (va_Pc [.ref (ad 3), .int x1, .int x2] (ck_P sh_C cm_cl D cA ad st)) (va_Qi (fun a u => a = r0 ∧ u = st0) (ck_P sh_C cm_cl D cA ad) (ck_A ad sh_C.length)) 0 0 (ck_A ad sh_C.length) := by
  refine ck_met_z (own := R_V) (by decide +kernel) rfl (Nat.le_of_ble_eq_true rfl) (fun p e R s m args below meth c H0 Q ls C hret h hl => ?_)
  have C1 := C
  obtain ⟨hx, hb, hml, hown, hts, hK, hlv, hlo⟩ := C1
  have hl : lv_has ls 3 [(0, .ref (ad 3)), (1, .int x1), (2, .int x2)] := hl
  unfold fV_isOf at hf
  refine lv_aload_n hx hb dV_isOf_0 rfl (lv_at hl 0 rfl) ?_
  refine lv_iload_n hx hb dV_isOf_1 rfl (lv_at hl 1 rfl) ?_
  obtain ⟨v2, st1, hc, hf⟩ := ck_b_e hf
  refine ck_vi (As := [.int x1]) (rest := []) (q := 3) C h hl CV_V_has sV_has q_V (cV_has l D cA ad hc) (Nat.le_of_ble_eq_true rfl) rfl rfl (Nat.le_of_ble_eq_true rfl) dV_isOf_2 (fun H locs h => ?_)
  refine lv_if_eq (tgt := 26) hx hb dV_isOf_5 rfl (fun hq => ?_) (fun hq => ?_)
  · have hf := ck_t hq hf
    refine lv_iload_n hx hb dV_isOf_26 rfl (lv_at hl 2 rfl) ?_
    refine lv_iconst (v := (-1)) hx hb dV_isOf_27 (by decide) ?_
    refine lv_icmp_ne (tgt := 35) hx hb dV_isOf_28 rfl (fun hq => ?_) (fun hq => ?_)
    · have hf := ck_f hq hf
      refine lv_iconst (v := 0) hx hb dV_isOf_35 (by decide) ?_
      exact ck_rz hf hret ck_z0 h dV_isOf_36
    · have hf := ck_t hq hf
      refine lv_iconst (v := 1) hx hb dV_isOf_31 (by decide) ?_
      refine lv_goto (tgt := 36) hx hb dV_isOf_32 rfl ?_
      exact ck_rz hf hret ck_z1 h dV_isOf_36
  · have hf := ck_f hq hf
    refine lv_aload_n hx hb dV_isOf_8 rfl (lv_at hl 0 rfl) ?_
    refine ck_gr C h FV_typeOf dV_isOf_9 ?_
    refine lv_iload_n hx hb dV_isOf_12 rfl (lv_at hl 1 rfl) ?_
    obtain ⟨hg, hf⟩ := ck_gd_e hf
    refine ck_ai (x := (st1 17 (x1).toNatClampNeg)) C h (show sh_C[17]? = some (.inr (0, 60)) from rfl) hg rfl dV_isOf_13 ?_
    refine lv_iload_n hx hb dV_isOf_14 rfl (lv_at hl 2 rfl) ?_
    refine lv_icmp_ne (tgt := 22) hx hb dV_isOf_15 rfl (fun hq => ?_) (fun hq => ?_)
    · have hf := ck_f hq hf
      refine lv_iconst (v := 0) hx hb dV_isOf_22 (by decide) ?_
      refine lv_goto (tgt := 36) hx hb dV_isOf_23 rfl ?_
      exact ck_rz hf hret ck_z0 h dV_isOf_36
    · have hf := ck_t hq hf
      refine lv_iconst (v := 1) hx hb dV_isOf_18 (by decide) ?_
      refine lv_goto (tgt := 36) hx hb dV_isOf_19 rfl ?_
      exact ck_rz hf hret ck_z1 h dV_isOf_36
def fV_symbolOf (x1 : Int32) (st : ck_S) : Option (Int32 × ck_S) := (ck_b (fV_has x1 st) fun v2 st1 => (if v2 = 0 then (some ((0 : Int32), st1)) else (ck_gd x1 60 (some ((st1 18 (x1).toNatClampNeg), st1)))))
set_option maxRecDepth 100000 in
set_option maxHeartbeats 4000000 in
theorem cV_symbolOf (l : Launch) (D : va_G) (cA : Nat → ClassId) (ad : Nat → Nat) {x1 : Int32} {st : ck_S} {r0 : Int32} {st0 : ck_S} (hf : fV_symbolOf x1 st = some (r0, st0)) : Met l yV_symbolOf (.code yV_symbolOf bV_symbolOf 2 (some .int) :: ck_T) (ck_R 1) (va_Pc [.ref (ad 3), .int x1] (ck_P sh_C cm_cl D cA ad st)) (va_Qi (fun a u => a = r0 ∧ u = st0) (ck_P sh_C cm_cl D cA ad) (ck_A ad sh_C.length)) 0 0 (ck_A ad sh_C.length) := by
  refine ck_met_i (own := R_V) (by decide +kernel) rfl (Nat.le_of_ble_eq_true rfl) (fun p e R s m args below meth c H0 Q ls C hret h hl => ?_)
  have C1 := C
  obtain ⟨hx, hb, hml, hown, hts, hK, hlv, hlo⟩ := C1
  have hl : lv_has ls 2 [(0, .ref (ad 3)), (1, .int x1)] := hl
  unfold fV_symbolOf at hf
  refine lv_aload_n hx hb dV_symbolOf_0 rfl (lv_at hl 0 rfl) ?_
  refine lv_iload_n hx hb dV_symbolOf_1 rfl (lv_at hl 1 rfl) ?_
  obtain ⟨v2, st1, hc, hf⟩ := ck_b_e hf
  refine ck_vi (As := [.int x1]) (rest := []) (q := 3) C h hl CV_V_has sV_has q_V (cV_has l D cA ad hc) (Nat.le_of_ble_eq_true rfl) rfl rfl (Nat.le_of_ble_eq_true rfl) dV_symbolOf_2 (fun H locs h => ?_)
  refine lv_if_eq (tgt := 17) hx hb dV_symbolOf_5 rfl (fun hq => ?_) (fun hq => ?_)
  · have hf := ck_t hq hf
    refine lv_iconst (v := 0) hx hb dV_symbolOf_17 (by decide) ?_
    exact ck_ri hf hret h dV_symbolOf_18
  · have hf := ck_f hq hf
    refine lv_aload_n hx hb dV_symbolOf_8 rfl (lv_at hl 0 rfl) ?_
    refine ck_gr C h FV_symbol dV_symbolOf_9 ?_
    refine lv_iload_n hx hb dV_symbolOf_12 rfl (lv_at hl 1 rfl) ?_
    obtain ⟨hg, hf⟩ := ck_gd_e hf
    refine ck_ai (x := (st1 18 (x1).toNatClampNeg)) C h (show sh_C[18]? = some (.inr (0, 60)) from rfl) hg rfl dV_symbolOf_13 ?_
    refine lv_goto (tgt := 18) hx hb dV_symbolOf_14 rfl ?_
    exact ck_ri hf hret h dV_symbolOf_18
def fV_firstOf (x1 : Int32) (st : ck_S) : Option (Int32 × ck_S) := (ck_b (fV_has x1 st) fun v2 st1 => (if v2 = 0 then (some ((-1 : Int32), st1)) else (ck_gd x1 60 (some ((st1 19 (x1).toNatClampNeg), st1)))))
set_option maxRecDepth 100000 in
set_option maxHeartbeats 4000000 in
theorem cV_firstOf (l : Launch) (D : va_G) (cA : Nat → ClassId) (ad : Nat → Nat) {x1 : Int32} {st : ck_S} {r0 : Int32} {st0 : ck_S} (hf : fV_firstOf x1 st = some (r0, st0)) : Met l yV_firstOf (.code yV_firstOf bV_firstOf 2 (some .int) :: ck_T) (ck_R 1) (va_Pc [.ref (ad 3), .int x1] (ck_P sh_C cm_cl D cA ad st)) (va_Qi (fun a u => a = r0 ∧ u = st0) (ck_P sh_C cm_cl D cA ad) (ck_A ad sh_C.length)) 0 0 (ck_A ad sh_C.length) := by
  refine ck_met_i (own := R_V) (by decide +kernel) rfl (Nat.le_of_ble_eq_true rfl) (fun p e R s m args below meth c H0 Q ls C hret h hl => ?_)
  have C1 := C
  obtain ⟨hx, hb, hml, hown, hts, hK, hlv, hlo⟩ := C1
  have hl : lv_has ls 2 [(0, .ref (ad 3)), (1, .int x1)] := hl
  unfold fV_firstOf at hf
  refine lv_aload_n hx hb dV_firstOf_0 rfl (lv_at hl 0 rfl) ?_
  refine lv_iload_n hx hb dV_firstOf_1 rfl (lv_at hl 1 rfl) ?_
  obtain ⟨v2, st1, hc, hf⟩ := ck_b_e hf
  refine ck_vi (As := [.int x1]) (rest := []) (q := 3) C h hl CV_V_has sV_has q_V (cV_has l D cA ad hc) (Nat.le_of_ble_eq_true rfl) rfl rfl (Nat.le_of_ble_eq_true rfl) dV_firstOf_2 (fun H locs h => ?_)
  refine lv_if_eq (tgt := 17) hx hb dV_firstOf_5 rfl (fun hq => ?_) (fun hq => ?_)
  · have hf := ck_t hq hf
    refine lv_iconst (v := (-1)) hx hb dV_firstOf_17 (by decide) ?_
    exact ck_ri hf hret h dV_firstOf_18
  · have hf := ck_f hq hf
    refine lv_aload_n hx hb dV_firstOf_8 rfl (lv_at hl 0 rfl) ?_
    refine ck_gr C h FV_first dV_firstOf_9 ?_
    refine lv_iload_n hx hb dV_firstOf_12 rfl (lv_at hl 1 rfl) ?_
    obtain ⟨hg, hf⟩ := ck_gd_e hf
    refine ck_ai (x := (st1 19 (x1).toNatClampNeg)) C h (show sh_C[19]? = some (.inr (0, 60)) from rfl) hg rfl dV_firstOf_13 ?_
    refine lv_goto (tgt := 18) hx hb dV_firstOf_14 rfl ?_
    exact ck_ri hf hret h dV_firstOf_18
def fV_secondOf (x1 : Int32) (st : ck_S) : Option (Int32 × ck_S) := (ck_b (fV_has x1 st) fun v2 st1 => (if v2 = 0 then (some ((-1 : Int32), st1)) else (ck_gd x1 60 (some ((st1 20 (x1).toNatClampNeg), st1)))))
set_option maxRecDepth 100000 in
set_option maxHeartbeats 4000000 in
theorem cV_secondOf (l : Launch) (D : va_G) (cA : Nat → ClassId) (ad : Nat → Nat) {x1 : Int32} {st : ck_S} {r0 : Int32} {st0 : ck_S} (hf : fV_secondOf x1 st = some (r0, st0)) : Met l yV_secondOf (.code yV_secondOf bV_secondOf 2 (some .int) :: ck_T) (ck_R 1) (va_Pc [.ref (ad 3), .int x1] (ck_P sh_C cm_cl D cA ad st)) (va_Qi (fun a u => a = r0 ∧ u = st0) (ck_P sh_C cm_cl D cA ad) (ck_A ad sh_C.length)) 0 0 (ck_A ad sh_C.length) := by
  refine ck_met_i (own := R_V) (by decide +kernel) rfl (Nat.le_of_ble_eq_true rfl) (fun p e R s m args below meth c H0 Q ls C hret h hl => ?_)
  have C1 := C
  obtain ⟨hx, hb, hml, hown, hts, hK, hlv, hlo⟩ := C1
  have hl : lv_has ls 2 [(0, .ref (ad 3)), (1, .int x1)] := hl
  unfold fV_secondOf at hf
  refine lv_aload_n hx hb dV_secondOf_0 rfl (lv_at hl 0 rfl) ?_
  refine lv_iload_n hx hb dV_secondOf_1 rfl (lv_at hl 1 rfl) ?_
  obtain ⟨v2, st1, hc, hf⟩ := ck_b_e hf
  refine ck_vi (As := [.int x1]) (rest := []) (q := 3) C h hl CV_V_has sV_has q_V (cV_has l D cA ad hc) (Nat.le_of_ble_eq_true rfl) rfl rfl (Nat.le_of_ble_eq_true rfl) dV_secondOf_2 (fun H locs h => ?_)
  refine lv_if_eq (tgt := 17) hx hb dV_secondOf_5 rfl (fun hq => ?_) (fun hq => ?_)
  · have hf := ck_t hq hf
    refine lv_iconst (v := (-1)) hx hb dV_secondOf_17 (by decide) ?_
    exact ck_ri hf hret h dV_secondOf_18
  · have hf := ck_f hq hf
    refine lv_aload_n hx hb dV_secondOf_8 rfl (lv_at hl 0 rfl) ?_
    refine ck_gr C h FV_second dV_secondOf_9 ?_
    refine lv_iload_n hx hb dV_secondOf_12 rfl (lv_at hl 1 rfl) ?_
    obtain ⟨hg, hf⟩ := ck_gd_e hf
    refine ck_ai (x := (st1 20 (x1).toNatClampNeg)) C h (show sh_C[20]? = some (.inr (0, 60)) from rfl) hg rfl dV_secondOf_13 ?_
    refine lv_goto (tgt := 18) hx hb dV_secondOf_14 rfl ?_
    exact ck_ri hf hret h dV_secondOf_18
end Svalu
