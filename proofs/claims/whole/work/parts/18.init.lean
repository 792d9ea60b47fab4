def wfD (cA : Nat → ClassId) (h0 : Nat) (u : Nat → Nat) : va_W := [(h0, .inr (1, [.ref (u 0), .ref (u 1), .ref (u 2), .int 0, .int 0])), (u 0, .inl (cA 0, 12, .inl (fun _ => 0))), (u 1, .inl (cA 0, 12, .inl (fun _ => 0))), (u 2, .inl (cA 0, 12, .inl (fun _ => 0)))]
set_option maxRecDepth 100000 in
set_option maxHeartbeats 4000000 in
theorem cD_init (l : Launch) (D : va_G) (cA : Nat → ClassId) (h0 sz : Nat) : Met l yD_init (.code yD_init bD_init 1 none :: ck_T) { frames := 1, cells := 3, slots := 36, locals := 40 * 1 } (va_Pc (.ref h0 :: []) (mk_P (fun _ => True) cm_cl D cA h0 1 [.null, .null, .null, .int 0, .int 0] sz)) (va_Qv (fun _ => True) (mk_Q cm_cl D cA (va_A [(h0, .inr (1, [.null, .null, .null, .int 0, .int 0]))] sz) (wfD cA h0)) (va_A [(h0, .inr (1, [.null, .null, .null, .int 0, .int 0]))] sz)) 3 36 (va_A [(h0, .inr (1, [.null, .null, .null, .int 0, .int 0]))] sz) := by
  refine mk_met (own := R_D) (by decide +kernel) rfl rfl (Nat.le_of_ble_eq_true rfl) (fun p e R s m args below meth c H0 Q A ls C hZ hin hrc hrs hA hret h hl => ?_)
  have C1 := C
  obtain ⟨hx, hb, hml, hown, hts, hK, hlv, hlo⟩ := C1
  have hl : lv_has ls 1 [(0, .ref h0)] := hl
  refine lv_aload_n hx hb dD_init_0 rfl (lv_at hl 0 rfl) ?_
  refine mk_obj C hl (Nat.le_of_ble_eq_true rfl) OD dD_init_1 ?_
  refine lv_aload_n hx hb dD_init_4 rfl (lv_at hl 0 rfl) ?_
  refine lv_bipush (v := 12) hx hb dD_init_5 (by decide) ?_
  refine mk_na (t := 0) (N' := 12) C hin hA h KD_owner rfl (by first | exact Or.inl ⟨rfl, rfl⟩ | exact Or.inr ⟨rfl, rfl⟩) (by decide) (by decide) (by decide) (by rw [hrc]; exact Nat.le_of_ble_eq_true rfl) (by rw [hrs]; exact Nat.le_of_ble_eq_true rfl) (Nat.le_of_ble_eq_true rfl) dD_init_7 dD_init_9 (fun q0 H locs h => ?_)
  refine lv_aload_n hx hb dD_init_12 rfl (lv_at hl 0 rfl) ?_
  refine lv_bipush (v := 12) hx hb dD_init_13 (by decide) ?_
  refine mk_na (t := 0) (N' := 12) C hin hA h KD_firstType rfl (by first | exact Or.inl ⟨rfl, rfl⟩ | exact Or.inr ⟨rfl, rfl⟩) (by decide) (by decide) (by decide) (by rw [hrc]; exact Nat.le_of_ble_eq_true rfl) (by rw [hrs]; exact Nat.le_of_ble_eq_true rfl) (Nat.le_of_ble_eq_true rfl) dD_init_15 dD_init_17 (fun q1 H locs h => ?_)
  refine lv_aload_n hx hb dD_init_20 rfl (lv_at hl 0 rfl) ?_
  refine lv_bipush (v := 12) hx hb dD_init_21 (by decide) ?_
  refine mk_na (t := 0) (N' := 12) C hin hA h KD_secondType rfl (by first | exact Or.inl ⟨rfl, rfl⟩ | exact Or.inr ⟨rfl, rfl⟩) (by decide) (by decide) (by decide) (by rw [hrc]; exact Nat.le_of_ble_eq_true rfl) (by rw [hrs]; exact Nat.le_of_ble_eq_true rfl) (Nat.le_of_ble_eq_true rfl) dD_init_23 dD_init_25 (fun q2 H locs h => ?_)
  refine lv_aload_n hx hb dD_init_28 rfl (lv_at hl 0 rfl) ?_
  refine lv_iconst (v := 0) hx hb dD_init_29 (by decide) ?_
  refine mk_put C hin h KD_ownTypes rfl rfl (Nat.le_of_ble_eq_true rfl) dD_init_30 (fun H locs h => ?_)
  refine lv_aload_n hx hb dD_init_33 rfl (lv_at hl 0 rfl) ?_
  refine lv_iconst (v := 0) hx hb dD_init_34 (by decide) ?_
  refine mk_put C hin h KD_constructors rfl rfl (Nat.le_of_ble_eq_true rfl) dD_init_35 (fun H locs h => ?_)
  exact hret (fun k => [q0, q1, q2].getD k 0) _ _ _ _ dD_init_38 h.1 h.2.1 h.2.2
def wfP (cA : Nat → ClassId) (h0 : Nat) (u : Nat → Nat) : va_W := [(h0, .inr (2, [.ref (u 0), .ref (u 1), .ref (u 2), .ref (u 3), .ref (u 4), .ref (u 5), .ref (u 6), .int 0])), (u 0, .inl (cA 1, 60, .inl (fun _ => 0))), (u 1, .inl (cA 0, 60, .inl (fun _ => 0))), (u 2, .inl (cA 0, 60, .inl (fun _ => 0))), (u 3, .inl (cA 0, 60, .inl (fun _ => 0))), (u 4, .inl (cA 0, 60, .inl (fun _ => 0))), (u 5, .inl (cA 0, 60, .inl (fun _ => 0))), (u 6, .inl (cA 0, 60, .inl (fun _ => 0)))]
set_option maxRecDepth 100000 in
set_option maxHeartbeats 4000000 in
theorem cP_init (l : Launch) (D : va_G) (cA : Nat → ClassId) (h0 sz : Nat) : Met l yP_init (.code yP_init bP_init 1 none :: ck_T) { frames := 1, cells := 7, slots := 420, locals := 40 * 1 } (va_Pc (.ref h0 :: []) (mk_P (fun _ => True) cm_cl D cA h0 2 [.null, .null, .null, .null, .null, .null, .null, .int 0] sz)) (va_Qv (fun _ => True) (mk_Q cm_cl D cA (va_A [(h0, .inr (2, [.null, .null, .null, .null, .null, .null, .null, .int 0]))] sz) (wfP cA h0)) (va_A [(h0, .inr (2, [.null, .null, .null, .null, .null, .null, .null, .int 0]))] sz)) 7 420 (va_A [(h0, .inr (2, [.null, .null, .null, .null, .null, .null, .null, .int 0]))] sz) := by
  refine mk_met (own := R_P) (by decide +kernel) rfl rfl (Nat.le_of_ble_eq_true rfl) (fun p e R s m args below meth c H0 Q A ls C hZ hin hrc hrs hA hret h hl => ?_)
  have C1 := C
  obtain ⟨hx, hb, hml, hown, hts, hK, hlv, hlo⟩ := C1
  have hl : lv_has ls 1 [(0, .ref h0)] := hl
  refine lv_aload_n hx hb dP_init_0 rfl (lv_at hl 0 rfl) ?_
  refine mk_obj C hl (Nat.le_of_ble_eq_true rfl) OP dP_init_1 ?_
  refine lv_aload_n hx hb dP_init_4 rfl (lv_at hl 0 rfl) ?_
  refine lv_bipush (v := 60) hx hb dP_init_5 (by decide) ?_
  refine mk_na (t := 1) (N' := 60) C hin hA h KP_twofold rfl (by first | exact Or.inl ⟨rfl, rfl⟩ | exact Or.inr ⟨rfl, rfl⟩) (by decide) (by decide) (by decide) (by rw [hrc]; exact Nat.le_of_ble_eq_true rfl) (by rw [hrs]; exact Nat.le_of_ble_eq_true rfl) (Nat.le_of_ble_eq_true rfl) dP_init_7 dP_init_9 (fun q0 H locs h => ?_)
  refine lv_aload_n hx hb dP_init_12 rfl (lv_at hl 0 rfl) ?_
  refine lv_bipush (v := 60) hx hb dP_init_13 (by decide) ?_
  refine mk_na (t := 0) (N' := 60) C hin hA h KP_typeOf rfl (by first | exact Or.inl ⟨rfl, rfl⟩ | exact Or.inr ⟨rfl, rfl⟩) (by decide) (by decide) (by decide) (by rw [hrc]; exact Nat.le_of_ble_eq_true rfl) (by rw [hrs]; exact Nat.le_of_ble_eq_true rfl) (Nat.le_of_ble_eq_true rfl) dP_init_15 dP_init_17 (fun q1 H locs h => ?_)
  refine lv_aload_n hx hb dP_init_20 rfl (lv_at hl 0 rfl) ?_
  refine lv_bipush (v := 60) hx hb dP_init_21 (by decide) ?_
  refine mk_na (t := 0) (N' := 60) C hin hA h KP_symbol rfl (by first | exact Or.inl ⟨rfl, rfl⟩ | exact Or.inr ⟨rfl, rfl⟩) (by decide) (by decide) (by decide) (by rw [hrc]; exact Nat.le_of_ble_eq_true rfl) (by rw [hrs]; exact Nat.le_of_ble_eq_true rfl) (Nat.le_of_ble_eq_true rfl) dP_init_23 dP_init_25 (fun q2 H locs h => ?_)
  refine lv_aload_n hx hb dP_init_28 rfl (lv_at hl 0 rfl) ?_
  refine lv_bipush (v := 60) hx hb dP_init_29 (by decide) ?_
  refine mk_na (t := 0) (N' := 60) C hin hA h KP_first rfl (by first | exact Or.inl ⟨rfl, rfl⟩ | exact Or.inr ⟨rfl, rfl⟩) (by decide) (by decide) (by decide) (by rw [hrc]; exact Nat.le_of_ble_eq_true rfl) (by rw [hrs]; exact Nat.le_of_ble_eq_true rfl) (Nat.le_of_ble_eq_true rfl) dP_init_31 dP_init_33 (fun q3 H locs h => ?_)
  refine lv_aload_n hx hb dP_init_36 rfl (lv_at hl 0 rfl) ?_
  refine lv_bipush (v := 60) hx hb dP_init_37 (by decide) ?_
  refine mk_na (t := 0) (N' := 60) C hin hA h KP_second rfl (by first | exact Or.inl ⟨rfl, rfl⟩ | exact Or.inr ⟨rfl, rfl⟩) (by decide) (by decide) (by decide) (by rw [hrc]; exact Nat.le_of_ble_eq_true rfl) (by rw [hrs]; exact Nat.le_of_ble_eq_true rfl) (Nat.le_of_ble_eq_true rfl) dP_init_39 dP_init_41 (fun q4 H locs h => ?_)
  refine lv_aload_n hx hb dP_init_44 rfl (lv_at hl 0 rfl) ?_
  refine lv_bipush (v := 60) hx hb dP_init_45 (by decide) ?_
  refine mk_na (t := 0) (N' := 60) C hin hA h KP_depth rfl (by first | exact Or.inl ⟨rfl, rfl⟩ | exact Or.inr ⟨rfl, rfl⟩) (by decide) (by decide) (by decide) (by rw [hrc]; exact Nat.le_of_ble_eq_true rfl) (by rw [hrs]; exact Nat.le_of_ble_eq_true rfl) (Nat.le_of_ble_eq_true rfl) dP_init_47 dP_init_49 (fun q5 H locs h => ?_)
  refine lv_aload_n hx hb dP_init_52 rfl (lv_at hl 0 rfl) ?_
  refine lv_bipush (v := 60) hx hb dP_init_53 (by decide) ?_
  refine mk_na (t := 0) (N' := 60) C hin hA h KP_alternatives rfl (by first | exact Or.inl ⟨rfl, rfl⟩ | exact Or.inr ⟨rfl, rfl⟩) (by decide) (by decide) (by decide) (by rw [hrc]; exact Nat.le_of_ble_eq_true rfl) (by rw [hrs]; exact Nat.le_of_ble_eq_true rfl) (Nat.le_of_ble_eq_true rfl) dP_init_55 dP_init_57 (fun q6 H locs h => ?_)
  refine lv_aload_n hx hb dP_init_60 rfl (lv_at hl 0 rfl) ?_
  refine lv_iconst (v := 0) hx hb dP_init_61 (by decide) ?_
  refine mk_put C hin h KP_count rfl rfl (Nat.le_of_ble_eq_true rfl) dP_init_62 (fun H locs h => ?_)
  exact hret (fun k => [q0, q1, q2, q3, q4, q5, q6].getD k 0) _ _ _ _ dP_init_65 h.1 h.2.1 h.2.2
def wfV (cA : Nat → ClassId) (h0 : Nat) (u : Nat → Nat) : va_W := [(h0, .inr (3, [.ref (u 0), .ref (u 1), .ref (u 2), .ref (u 3), .int 0])), (u 0, .inl (cA 0, 60, .inl (fun _ => 0))), (u 1, .inl (cA 0, 60, .inl (fun _ => 0))), (u 2, .inl (cA 0, 60, .inl (fun _ => 0))), (u 3, .inl (cA 0, 60, .inl (fun _ => 0)))]
set_option maxRecDepth 100000 in
set_option maxHeartbeats 4000000 in
theorem cV_init (l : Launch) (D : va_G) (cA : Nat → ClassId) (h0 sz : Nat) : Met l yV_init (.code yV_init bV_init 1 none :: ck_T) { frames := 1, cells := 4, slots := 240, locals := 40 * 1 } (va_Pc (.ref h0 :: []) (mk_P (fun _ => True) cm_cl D cA h0 3 [.null, .null, .null, .null, .int 0] sz)) (va_Qv (fun _ => True) (mk_Q cm_cl D cA (va_A [(h0, .inr (3, [.null, .null, .null, .null, .int 0]))] sz) (wfV cA h0)) (va_A [(h0, .inr (3, [.null, .null, .null, .null, .int 0]))] sz)) 4 240 (va_A [(h0, .inr (3, [.null, .null, .null, .null, .int 0]))] sz) := by
  refine mk_met (own := R_V) (by decide +kernel) rfl rfl (Nat.le_of_ble_eq_true rfl) (fun p e R s m args below meth c H0 Q A ls C hZ hin hrc hrs hA hret h hl => ?_)
  have C1 := C
  obtain ⟨hx, hb, hml, hown, hts, hK, hlv, hlo⟩ := C1
  have hl : lv_has ls 1 [(0, .ref h0)] := hl
  refine lv_aload_n hx hb dV_init_0 rfl (lv_at hl 0 rfl) ?_
  refine mk_obj C hl (Nat.le_of_ble_eq_true rfl) OV dV_init_1 ?_
  refine lv_aload_n hx hb dV_init_4 rfl (lv_at hl 0 rfl) ?_
  refine lv_bipush (v := 60) hx hb dV_init_5 (by decide) ?_
  refine mk_na (t := 0) (N' := 60) C hin hA h KV_typeOf rfl (by first | exact Or.inl ⟨rfl, rfl⟩ | exact Or.inr ⟨rfl, rfl⟩) (by decide) (by decide) (by decide) (by rw [hrc]; exact Nat.le_of_ble_eq_true rfl) (by rw [hrs]; exact Nat.le_of_ble_eq_true rfl) (Nat.le_of_ble_eq_true rfl) dV_init_7 dV_init_9 (fun q0 H locs h => ?_)
  refine lv_aload_n hx hb dV_init_12 rfl (lv_at hl 0 rfl) ?_
  refine lv_bipush (v := 60) hx hb dV_init_13 (by decide) ?_
  refine mk_na (t := 0) (N' := 60) C hin hA h KV_symbol rfl (by first | exact Or.inl ⟨rfl, rfl⟩ | exact Or.inr ⟨rfl, rfl⟩) (by decide) (by decide) (by decide) (by rw [hrc]; exact Nat.le_of_ble_eq_true rfl) (by rw [hrs]; exact Nat.le_of_ble_eq_true rfl) (Nat.le_of_ble_eq_true rfl) dV_init_15 dV_init_17 (fun q1 H locs h => ?_)
  refine lv_aload_n hx hb dV_init_20 rfl (lv_at hl 0 rfl) ?_
  refine lv_bipush (v := 60) hx hb dV_init_21 (by decide) ?_
  refine mk_na (t := 0) (N' := 60) C hin hA h KV_first rfl (by first | exact Or.inl ⟨rfl, rfl⟩ | exact Or.inr ⟨rfl, rfl⟩) (by decide) (by decide) (by decide) (by rw [hrc]; exact Nat.le_of_ble_eq_true rfl) (by rw [hrs]; exact Nat.le_of_ble_eq_true rfl) (Nat.le_of_ble_eq_true rfl) dV_init_23 dV_init_25 (fun q2 H locs h => ?_)
  refine lv_aload_n hx hb dV_init_28 rfl (lv_at hl 0 rfl) ?_
  refine lv_bipush (v := 60) hx hb dV_init_29 (by decide) ?_
  refine mk_na (t := 0) (N' := 60) C hin hA h KV_second rfl (by first | exact Or.inl ⟨rfl, rfl⟩ | exact Or.inr ⟨rfl, rfl⟩) (by decide) (by decide) (by decide) (by rw [hrc]; exact Nat.le_of_ble_eq_true rfl) (by rw [hrs]; exact Nat.le_of_ble_eq_true rfl) (Nat.le_of_ble_eq_true rfl) dV_init_31 dV_init_33 (fun q3 H locs h => ?_)
  refine lv_aload_n hx hb dV_init_36 rfl (lv_at hl 0 rfl) ?_
  refine lv_iconst (v := 0) hx hb dV_init_37 (by decide) ?_
  refine mk_put C hin h KV_count rfl rfl (Nat.le_of_ble_eq_true rfl) dV_init_38 (fun H locs h => ?_)
  exact hret (fun k => [q0, q1, q2, q3].getD k 0) _ _ _ _ dV_init_41 h.1 h.2.1 h.2.2
def wfM (cA : Nat → ClassId) (h0 : Nat) (a1 : Nat) (u : Nat → Nat) : va_W := [(h0, .inr (4, [.ref a1, .ref (u 0), .ref (u 1), .ref (u 2), .ref (u 3), .ref (u 4), .int (-1), .int 0, .int 0])), (u 0, .inl (cA 0, 9, .inl (fun _ => 0))), (u 1, .inl (cA 0, 16, .inl (fun _ => 0))), (u 2, .inl (cA 0, 16, .inl (fun _ => 0))), (u 3, .inl (cA 0, 256, .inl (fun _ => 0))), (u 4, .inl (cA 0, 256, .inl (fun _ => 0)))]
set_option maxRecDepth 100000 in
set_option maxHeartbeats 4000000 in
theorem cM_init (l : Launch) (D : va_G) (cA : Nat → ClassId) (h0 a1 sz : Nat) : Met l yM_init (.code yM_init bM_init 2 none :: ck_T) { frames := 1, cells := 5, slots := 553, locals := 40 * 1 } (va_Pc (.ref h0 :: [.ref a1]) (mk_P (fun _ => True) cm_cl D cA h0 4 [.null, .null, .null, .null, .null, .null, .int 0, .int 0, .int 0] sz)) (va_Qv (fun _ => True) (mk_Q cm_cl D cA (va_A [(h0, .inr (4, [.null, .null, .null, .null, .null, .null, .int 0, .int 0, .int 0]))] sz) (wfM cA h0 a1)) (va_A [(h0, .inr (4, [.null, .null, .null, .null, .null, .null, .int 0, .int 0, .int 0]))] sz)) 5 553 (va_A [(h0, .inr (4, [.null, .null, .null, .null, .null, .null, .int 0, .int 0, .int 0]))] sz) := by
  refine mk_met (own := R_M) (by decide +kernel) rfl rfl (Nat.le_of_ble_eq_true rfl) (fun p e R s m args below meth c H0 Q A ls C hZ hin hrc hrs hA hret h hl => ?_)
  have C1 := C
  obtain ⟨hx, hb, hml, hown, hts, hK, hlv, hlo⟩ := C1
  have hl : lv_has ls 2 [(0, .ref h0), (1, .ref a1)] := hl
  refine lv_aload_n hx hb dM_init_0 rfl (lv_at hl 0 rfl) ?_
  refine mk_obj C hl (Nat.le_of_ble_eq_true rfl) OM dM_init_1 ?_
  refine lv_aload_n hx hb dM_init_4 rfl (lv_at hl 0 rfl) ?_
  refine lv_bipush (v := 9) hx hb dM_init_5 (by decide) ?_
  refine mk_na (t := 0) (N' := 9) C hin hA h KM_firstClause rfl (by first | exact Or.inl ⟨rfl, rfl⟩ | exact Or.inr ⟨rfl, rfl⟩) (by decide) (by decide) (by decide) (by rw [hrc]; exact Nat.le_of_ble_eq_true rfl) (by rw [hrs]; exact Nat.le_of_ble_eq_true rfl) (Nat.le_of_ble_eq_true rfl) dM_init_7 dM_init_9 (fun q0 H locs h => ?_)
  refine lv_aload_n hx hb dM_init_12 rfl (lv_at hl 0 rfl) ?_
  refine lv_bipush (v := 16) hx hb dM_init_13 (by decide) ?_
  refine mk_na (t := 0) (N' := 16) C hin hA h KM_rowOfClause rfl (by first | exact Or.inl ⟨rfl, rfl⟩ | exact Or.inr ⟨rfl, rfl⟩) (by decide) (by decide) (by decide) (by rw [hrc]; exact Nat.le_of_ble_eq_true rfl) (by rw [hrs]; exact Nat.le_of_ble_eq_true rfl) (Nat.le_of_ble_eq_true rfl) dM_init_15 dM_init_17 (fun q1 H locs h => ?_)
  refine lv_aload_n hx hb dM_init_20 rfl (lv_at hl 0 rfl) ?_
  refine lv_bipush (v := 16) hx hb dM_init_21 (by decide) ?_
  refine mk_na (t := 0) (N' := 16) C hin hA h KM_askers rfl (by first | exact Or.inl ⟨rfl, rfl⟩ | exact Or.inr ⟨rfl, rfl⟩) (by decide) (by decide) (by decide) (by rw [hrc]; exact Nat.le_of_ble_eq_true rfl) (by rw [hrs]; exact Nat.le_of_ble_eq_true rfl) (Nat.le_of_ble_eq_true rfl) dM_init_23 dM_init_25 (fun q2 H locs h => ?_)
  refine lv_aload_n hx hb dM_init_28 rfl (lv_at hl 0 rfl) ?_
  refine lv_sipush (v := 256) hx hb dM_init_29 (by decide) ?_
  refine mk_na (t := 0) (N' := 256) C hin hA h KM_askedSymbol rfl (by first | exact Or.inl ⟨rfl, rfl⟩ | exact Or.inr ⟨rfl, rfl⟩) (by decide) (by decide) (by decide) (by rw [hrc]; exact Nat.le_of_ble_eq_true rfl) (by rw [hrs]; exact Nat.le_of_ble_eq_true rfl) (Nat.le_of_ble_eq_true rfl) dM_init_32 dM_init_34 (fun q3 H locs h => ?_)
  refine lv_aload_n hx hb dM_init_37 rfl (lv_at hl 0 rfl) ?_
  refine lv_sipush (v := 256) hx hb dM_init_38 (by decide) ?_
  refine mk_na (t := 0) (N' := 256) C hin hA h KM_askedType rfl (by first | exact Or.inl ⟨rfl, rfl⟩ | exact Or.inr ⟨rfl, rfl⟩) (by decide) (by decide) (by decide) (by rw [hrc]; exact Nat.le_of_ble_eq_true rfl) (by rw [hrs]; exact Nat.le_of_ble_eq_true rfl) (Nat.le_of_ble_eq_true rfl) dM_init_41 dM_init_43 (fun q4 H locs h => ?_)
  refine lv_aload_n hx hb dM_init_46 rfl (lv_at hl 0 rfl) ?_
  refine lv_iconst (v := (-1)) hx hb dM_init_47 (by decide) ?_
  refine mk_put C hin h KM_over rfl rfl (Nat.le_of_ble_eq_true rfl) dM_init_48 (fun H locs h => ?_)
  refine lv_aload_n hx hb dM_init_51 rfl (lv_at hl 0 rfl) ?_
  refine lv_iconst (v := 0) hx hb dM_init_52 (by decide) ?_
  refine mk_put C hin h KM_rows rfl rfl (Nat.le_of_ble_eq_true rfl) dM_init_53 (fun H locs h => ?_)
  refine lv_aload_n hx hb dM_init_56 rfl (lv_at hl 0 rfl) ?_
  refine lv_iconst (v := 0) hx hb dM_init_57 (by decide) ?_
  refine mk_put C hin h KM_clauses rfl rfl (Nat.le_of_ble_eq_true rfl) dM_init_58 (fun H locs h => ?_)
  refine lv_aload_n hx hb dM_init_61 rfl (lv_at hl 0 rfl) ?_
  refine lv_aload_n hx hb dM_init_62 rfl (lv_at hl 1 rfl) ?_
  refine mk_put C hin h KM_patterns rfl rfl (Nat.le_of_ble_eq_true rfl) dM_init_63 (fun H locs h => ?_)
  exact hret (fun k => [q0, q1, q2, q3, q4].getD k 0) _ _ _ _ dM_init_66 h.1 h.2.1 h.2.2
def wfT (cA : Nat → ClassId) (h0 : Nat) (a1 : Nat) (a2 : Nat) (u : Nat → Nat) : va_W := [(h0, .inr (5, [.ref a1, .ref a2, .ref (u 0), .ref (u 1), .ref (u 2), .ref (u 3), .ref (u 4), .ref (u 5), .ref (u 6), .ref (u 7), .ref (u 8), .ref (u 9), .ref (u 10), .ref (u 11), .int 0, .int 0, .int 0])), (u 0, .inl (cA 0, 60, .inl (fun _ => 0))), (u 1, .inl (cA 0, 60, .inl (fun _ => 0))), (u 2, .inl (cA 0, 60, .inl (fun _ => 0))), (u 3, .inl (cA 0, 60, .inl (fun _ => 0))), (u 4, .inl (cA 0, 60, .inl (fun _ => 0))), (u 5, .inl (cA 0, 60, .inl (fun _ => 0))), (u 6, .inl (cA 0, 60, .inl (fun _ => 0))), (u 7, .inl (cA 0, 60, .inl (fun _ => 0))), (u 8, .inl (cA 0, 60, .inl (fun _ => 0))), (u 9, .inl (cA 0, 60, .inl (fun _ => 0))), (u 10, .inl (cA 1, 60, .inl (fun _ => 0))), (u 11, .inl (cA 0, 32, .inl (fun _ => 0)))]
set_option maxRecDepth 100000 in
set_option maxHeartbeats 4000000 in
theorem cT_init (l : Launch) (D : va_G) (cA : Nat → ClassId) (h0 a1 a2 sz : Nat) : Met l yT_init (.code yT_init bT_init 3 none :: ck_T) { frames := 1, cells := 12, slots := 692, locals := 40 * 1 } (va_Pc (.ref h0 :: [.ref a1, .ref a2]) (mk_P (fun _ => True) cm_cl D cA h0 5 [.null, .null, .null, .null, .null, .null, .null, .null, .null, .null, .null, .null, .null, .null, .int 0, .int 0, .int 0] sz)) (va_Qv (fun _ => True) (mk_Q cm_cl D cA (va_A [(h0, .inr (5, [.null, .null, .null, .null, .null, .null, .null, .null, .null, .null, .null, .null, .null, .null, .int 0, .int 0, .int 0]))] sz) (wfT cA h0 a1 a2)) (va_A [(h0, .inr (5, [.null, .null, .null, .null, .null, .null, .null, .null, .null, .null, .null, .null, .null, .null, .int 0, .int 0, .int 0]))] sz)) 12 692 (va_A [(h0, .inr (5, [.null, .null, .null, .null, .null, .null, .null, .null, .null, .null, .null, .null, .null, .null, .int 0, .int 0, .int 0]))] sz) := by
  refine mk_met (own := R_T) (by decide +kernel) rfl rfl (Nat.le_of_ble_eq_true rfl) (fun p e R s m args below meth c H0 Q A ls C hZ hin hrc hrs hA hret h hl => ?_)
  have C1 := C
  obtain ⟨hx, hb, hml, hown, hts, hK, hlv, hlo⟩ := C1
  have hl : lv_has ls 3 [(0, .ref h0), (1, .ref a1), (2, .ref a2)] := hl
  refine lv_aload_n hx hb dT_init_0 rfl (lv_at hl 0 rfl) ?_
  refine mk_obj C hl (Nat.le_of_ble_eq_true rfl) OT dT_init_1 ?_
  refine lv_aload_n hx hb dT_init_4 rfl (lv_at hl 0 rfl) ?_
  refine lv_bipush (v := 60) hx hb dT_init_5 (by decide) ?_
  refine mk_na (t := 0) (N' := 60) C hin hA h KT_left rfl (by first | exact Or.inl ⟨rfl, rfl⟩ | exact Or.inr ⟨rfl, rfl⟩) (by decide) (by decide) (by decide) (by rw [hrc]; exact Nat.le_of_ble_eq_true rfl) (by rw [hrs]; exact Nat.le_of_ble_eq_true rfl) (Nat.le_of_ble_eq_true rfl) dT_init_7 dT_init_9 (fun q0 H locs h => ?_)
  refine lv_aload_n hx hb dT_init_12 rfl (lv_at hl 0 rfl) ?_
  refine lv_bipush (v := 60) hx hb dT_init_13 (by decide) ?_
  refine mk_na (t := 0) (N' := 60) C hin hA h KT_open rfl (by first | exact Or.inl ⟨rfl, rfl⟩ | exact Or.inr ⟨rfl, rfl⟩) (by decide) (by decide) (by decide) (by rw [hrc]; exact Nat.le_of_ble_eq_true rfl) (by rw [hrs]; exact Nat.le_of_ble_eq_true rfl) (Nat.le_of_ble_eq_true rfl) dT_init_15 dT_init_17 (fun q1 H locs h => ?_)
  refine lv_aload_n hx hb dT_init_20 rfl (lv_at hl 0 rfl) ?_
  refine lv_bipush (v := 60) hx hb dT_init_21 (by decide) ?_
  refine mk_na (t := 0) (N' := 60) C hin hA h KT_label rfl (by first | exact Or.inl ⟨rfl, rfl⟩ | exact Or.inr ⟨rfl, rfl⟩) (by decide) (by decide) (by decide) (by rw [hrc]; exact Nat.le_of_ble_eq_true rfl) (by rw [hrs]; exact Nat.le_of_ble_eq_true rfl) (Nat.le_of_ble_eq_true rfl) dT_init_23 dT_init_25 (fun q2 H locs h => ?_)
  refine lv_aload_n hx hb dT_init_28 rfl (lv_at hl 0 rfl) ?_
  refine lv_bipush (v := 60) hx hb dT_init_29 (by decide) ?_
  refine mk_na (t := 0) (N' := 60) C hin hA h KT_above rfl (by first | exact Or.inl ⟨rfl, rfl⟩ | exact Or.inr ⟨rfl, rfl⟩) (by decide) (by decide) (by decide) (by rw [hrc]; exact Nat.le_of_ble_eq_true rfl) (by rw [hrs]; exact Nat.le_of_ble_eq_true rfl) (Nat.le_of_ble_eq_true rfl) dT_init_31 dT_init_33 (fun q3 H locs h => ?_)
  refine lv_aload_n hx hb dT_init_36 rfl (lv_at hl 0 rfl) ?_
  refine lv_bipush (v := 60) hx hb dT_init_37 (by decide) ?_
  refine mk_na (t := 0) (N' := 60) C hin hA h KT_place rfl (by first | exact Or.inl ⟨rfl, rfl⟩ | exact Or.inr ⟨rfl, rfl⟩) (by decide) (by decide) (by decide) (by rw [hrc]; exact Nat.le_of_ble_eq_true rfl) (by rw [hrs]; exact Nat.le_of_ble_eq_true rfl) (Nat.le_of_ble_eq_true rfl) dT_init_39 dT_init_41 (fun q4 H locs h => ?_)
  refine lv_aload_n hx hb dT_init_44 rfl (lv_at hl 0 rfl) ?_
  refine lv_bipush (v := 60) hx hb dT_init_45 (by decide) ?_
  refine mk_na (t := 0) (N' := 60) C hin hA h KT_testType rfl (by first | exact Or.inl ⟨rfl, rfl⟩ | exact Or.inr ⟨rfl, rfl⟩) (by decide) (by decide) (by decide) (by rw [hrc]; exact Nat.le_of_ble_eq_true rfl) (by rw [hrs]; exact Nat.le_of_ble_eq_true rfl) (Nat.le_of_ble_eq_true rfl) dT_init_47 dT_init_49 (fun q5 H locs h => ?_)
  refine lv_aload_n hx hb dT_init_52 rfl (lv_at hl 0 rfl) ?_
  refine lv_bipush (v := 60) hx hb dT_init_53 (by decide) ?_
  refine mk_na (t := 0) (N' := 60) C hin hA h KT_clause rfl (by first | exact Or.inl ⟨rfl, rfl⟩ | exact Or.inr ⟨rfl, rfl⟩) (by decide) (by decide) (by decide) (by rw [hrc]; exact Nat.le_of_ble_eq_true rfl) (by rw [hrs]; exact Nat.le_of_ble_eq_true rfl) (Nat.le_of_ble_eq_true rfl) dT_init_55 dT_init_57 (fun q6 H locs h => ?_)
  refine lv_aload_n hx hb dT_init_60 rfl (lv_at hl 0 rfl) ?_
  refine lv_bipush (v := 60) hx hb dT_init_61 (by decide) ?_
  refine mk_na (t := 0) (N' := 60) C hin hA h KT_firstBranch rfl (by first | exact Or.inl ⟨rfl, rfl⟩ | exact Or.inr ⟨rfl, rfl⟩) (by decide) (by decide) (by decide) (by rw [hrc]; exact Nat.le_of_ble_eq_true rfl) (by rw [hrs]; exact Nat.le_of_ble_eq_true rfl) (Nat.le_of_ble_eq_true rfl) dT_init_63 dT_init_65 (fun q7 H locs h => ?_)
  refine lv_aload_n hx hb dT_init_68 rfl (lv_at hl 0 rfl) ?_
  refine lv_bipush (v := 60) hx hb dT_init_69 (by decide) ?_
  refine mk_na (t := 0) (N' := 60) C hin hA h KT_branchCount rfl (by first | exact Or.inl ⟨rfl, rfl⟩ | exact Or.inr ⟨rfl, rfl⟩) (by decide) (by decide) (by decide) (by rw [hrc]; exact Nat.le_of_ble_eq_true rfl) (by rw [hrs]; exact Nat.le_of_ble_eq_true rfl) (Nat.le_of_ble_eq_true rfl) dT_init_71 dT_init_73 (fun q8 H locs h => ?_)
  refine lv_aload_n hx hb dT_init_76 rfl (lv_at hl 0 rfl) ?_
  refine lv_bipush (v := 60) hx hb dT_init_77 (by decide) ?_
  refine mk_na (t := 0) (N' := 60) C hin hA h KT_kind rfl (by first | exact Or.inl ⟨rfl, rfl⟩ | exact Or.inr ⟨rfl, rfl⟩) (by decide) (by decide) (by decide) (by rw [hrc]; exact Nat.le_of_ble_eq_true rfl) (by rw [hrs]; exact Nat.le_of_ble_eq_true rfl) (Nat.le_of_ble_eq_true rfl) dT_init_79 dT_init_81 (fun q9 H locs h => ?_)
  refine lv_aload_n hx hb dT_init_84 rfl (lv_at hl 0 rfl) ?_
  refine lv_bipush (v := 60) hx hb dT_init_85 (by decide) ?_
  refine mk_na (t := 1) (N' := 60) C hin hA h KT_failing rfl (by first | exact Or.inl ⟨rfl, rfl⟩ | exact Or.inr ⟨rfl, rfl⟩) (by decide) (by decide) (by decide) (by rw [hrc]; exact Nat.le_of_ble_eq_true rfl) (by rw [hrs]; exact Nat.le_of_ble_eq_true rfl) (Nat.le_of_ble_eq_true rfl) dT_init_87 dT_init_89 (fun q10 H locs h => ?_)
  refine lv_aload_n hx hb dT_init_92 rfl (lv_at hl 0 rfl) ?_
  refine lv_bipush (v := 32) hx hb dT_init_93 (by decide) ?_
  refine mk_na (t := 0) (N' := 32) C hin hA h KT_valueAt rfl (by first | exact Or.inl ⟨rfl, rfl⟩ | exact Or.inr ⟨rfl, rfl⟩) (by decide) (by decide) (by decide) (by rw [hrc]; exact Nat.le_of_ble_eq_true rfl) (by rw [hrs]; exact Nat.le_of_ble_eq_true rfl) (Nat.le_of_ble_eq_true rfl) dT_init_95 dT_init_97 (fun q11 H locs h => ?_)
  refine lv_aload_n hx hb dT_init_100 rfl (lv_at hl 0 rfl) ?_
  refine lv_iconst (v := 0) hx hb dT_init_101 (by decide) ?_
  refine mk_put C hin h KT_size rfl rfl (Nat.le_of_ble_eq_true rfl) dT_init_102 (fun H locs h => ?_)
  refine lv_aload_n hx hb dT_init_105 rfl (lv_at hl 0 rfl) ?_
  refine lv_iconst (v := 0) hx hb dT_init_106 (by decide) ?_
  refine mk_put C hin h KT_caught rfl rfl (Nat.le_of_ble_eq_true rfl) dT_init_107 (fun H locs h => ?_)
  refine lv_aload_n hx hb dT_init_110 rfl (lv_at hl 0 rfl) ?_
  refine lv_iconst (v := 0) hx hb dT_init_111 (by decide) ?_
  refine mk_put C hin h KT_there rfl rfl (Nat.le_of_ble_eq_true rfl) dT_init_112 (fun H locs h => ?_)
  refine lv_aload_n hx hb dT_init_115 rfl (lv_at hl 0 rfl) ?_
  refine lv_aload_n hx hb dT_init_116 rfl (lv_at hl 1 rfl) ?_
  refine mk_put C hin h KT_declared rfl rfl (Nat.le_of_ble_eq_true rfl) dT_init_117 (fun H locs h => ?_)
  refine lv_aload_n hx hb dT_init_120 rfl (lv_at hl 0 rfl) ?_
  refine lv_aload_n hx hb dT_init_121 rfl (lv_at hl 2 rfl) ?_
  refine mk_put C hin h KT_match rfl rfl (Nat.le_of_ble_eq_true rfl) dT_init_122 (fun H locs h => ?_)
  exact hret (fun k => [q0, q1, q2, q3, q4, q5, q6, q7, q8, q9, q10, q11].getD k 0) _ _ _ _ dT_init_125 h.1 h.2.1 h.2.2
def wfG (cA : Nat → ClassId) (h0 : Nat) (a1 : Nat) (a2 : Nat) (u : Nat → Nat) : va_W := [(h0, .inr (6, [.ref a1, .ref a2, .ref (u 0), .ref (u 1), .ref (u 2), .ref (u 3), .int 0])), (u 0, .inl (cA 0, 32, .inl (fun _ => 0))), (u 1, .inl (cA 0, 32, .inl (fun _ => 0))), (u 2, .inl (cA 0, 32, .inl (fun _ => 0))), (u 3, .inl (cA 0, 32, .inl (fun _ => 0)))]
set_option maxRecDepth 100000 in
set_option maxHeartbeats 4000000 in
theorem cG_init (l : Launch) (D : va_G) (cA : Nat → ClassId) (h0 a1 a2 sz : Nat) : Met l yG_init (.code yG_init bG_init 3 none :: ck_T) { frames := 1, cells := 4, slots := 128, locals := 40 * 1 } (va_Pc (.ref h0 :: [.ref a1, .ref a2]) (mk_P (fun _ => True) cm_cl D cA h0 6 [.null, .null, .null, .null, .null, .null, .int 0] sz)) (va_Qv (fun _ => True) (mk_Q cm_cl D cA (va_A [(h0, .inr (6, [.null, .null, .null, .null, .null, .null, .int 0]))] sz) (wfG cA h0 a1 a2)) (va_A [(h0, .inr (6, [.null, .null, .null, .null, .null, .null, .int 0]))] sz)) 4 128 (va_A [(h0, .inr (6, [.null, .null, .null, .null, .null, .null, .int 0]))] sz) := by
  refine mk_met (own := R_G) (by decide +kernel) rfl rfl (Nat.le_of_ble_eq_true rfl) (fun p e R s m args below meth c H0 Q A ls C hZ hin hrc hrs hA hret h hl => ?_)
  have C1 := C
  obtain ⟨hx, hb, hml, hown, hts, hK, hlv, hlo⟩ := C1
  have hl : lv_has ls 3 [(0, .ref h0), (1, .ref a1), (2, .ref a2)] := hl
  refine lv_aload_n hx hb dG_init_0 rfl (lv_at hl 0 rfl) ?_
  refine mk_obj C hl (Nat.le_of_ble_eq_true rfl) OG dG_init_1 ?_
  refine lv_aload_n hx hb dG_init_4 rfl (lv_at hl 0 rfl) ?_
  refine lv_bipush (v := 32) hx hb dG_init_5 (by decide) ?_
  refine mk_na (t := 0) (N' := 32) C hin hA h KG_kindAt rfl (by first | exact Or.inl ⟨rfl, rfl⟩ | exact Or.inr ⟨rfl, rfl⟩) (by decide) (by decide) (by decide) (by rw [hrc]; exact Nat.le_of_ble_eq_true rfl) (by rw [hrs]; exact Nat.le_of_ble_eq_true rfl) (Nat.le_of_ble_eq_true rfl) dG_init_7 dG_init_9 (fun q0 H locs h => ?_)
  refine lv_aload_n hx hb dG_init_12 rfl (lv_at hl 0 rfl) ?_
  refine lv_bipush (v := 32) hx hb dG_init_13 (by decide) ?_
  refine mk_na (t := 0) (N' := 32) C hin hA h KG_symbolAt rfl (by first | exact Or.inl ⟨rfl, rfl⟩ | exact Or.inr ⟨rfl, rfl⟩) (by decide) (by decide) (by decide) (by rw [hrc]; exact Nat.le_of_ble_eq_true rfl) (by rw [hrs]; exact Nat.le_of_ble_eq_true rfl) (Nat.le_of_ble_eq_true rfl) dG_init_15 dG_init_17 (fun q1 H locs h => ?_)
  refine lv_aload_n hx hb dG_init_20 rfl (lv_at hl 0 rfl) ?_
  refine lv_bipush (v := 32) hx hb dG_init_21 (by decide) ?_
  refine mk_na (t := 0) (N' := 32) C hin hA h KG_kind rfl (by first | exact Or.inl ⟨rfl, rfl⟩ | exact Or.inr ⟨rfl, rfl⟩) (by decide) (by decide) (by decide) (by rw [hrc]; exact Nat.le_of_ble_eq_true rfl) (by rw [hrs]; exact Nat.le_of_ble_eq_true rfl) (Nat.le_of_ble_eq_true rfl) dG_init_23 dG_init_25 (fun q2 H locs h => ?_)
  refine lv_aload_n hx hb dG_init_28 rfl (lv_at hl 0 rfl) ?_
  refine lv_bipush (v := 32) hx hb dG_init_29 (by decide) ?_
  refine mk_na (t := 0) (N' := 32) C hin hA h KG_symbol rfl (by first | exact Or.inl ⟨rfl, rfl⟩ | exact Or.inr ⟨rfl, rfl⟩) (by decide) (by decide) (by decide) (by rw [hrc]; exact Nat.le_of_ble_eq_true rfl) (by rw [hrs]; exact Nat.le_of_ble_eq_true rfl) (Nat.le_of_ble_eq_true rfl) dG_init_31 dG_init_33 (fun q3 H locs h => ?_)
  refine lv_aload_n hx hb dG_init_36 rfl (lv_at hl 0 rfl) ?_
  refine lv_iconst (v := 0) hx hb dG_init_37 (by decide) ?_
  refine mk_put C hin h KG_length rfl rfl (Nat.le_of_ble_eq_true rfl) dG_init_38 (fun H locs h => ?_)
  refine lv_aload_n hx hb dG_init_41 rfl (lv_at hl 0 rfl) ?_
  refine lv_aload_n hx hb dG_init_42 rfl (lv_at hl 1 rfl) ?_
  refine mk_put C hin h KG_declared rfl rfl (Nat.le_of_ble_eq_true rfl) dG_init_43 (fun H locs h => ?_)
  refine lv_aload_n hx hb dG_init_46 rfl (lv_at hl 0 rfl) ?_
  refine lv_aload_n hx hb dG_init_47 rfl (lv_at hl 2 rfl) ?_
  refine mk_put C hin h KG_tree rfl rfl (Nat.le_of_ble_eq_true rfl) dG_init_48 (fun H locs h => ?_)
  exact hret (fun k => [q0, q1, q2, q3].getD k 0) _ _ _ _ dG_init_51 h.1 h.2.1 h.2.2
def stR0 : ck_S := fun a b => if a = 0 then (if b = 18 then -1 else 0) else 0
def adR (h0 : Nat) (u : Nat → Nat) : Nat → Nat := fun k => if k = 0 then h0 else u k
def wfR (cA : Nat → ClassId) (h0 : Nat) (u : Nat → Nat) : va_W := ck_w sh_R cA (adR h0 u) stR0
set_option maxRecDepth 100000 in
set_option maxHeartbeats 4000000 in
theorem cR_init (l : Launch) (D : va_G) (cA : Nat → ClassId) (h0 sz : Nat) : Met l yR_init (.code yR_init bR_init 1 none :: ck_T) { frames := 1, cells := 35, slots := 1996, locals := 40 * 1 } (va_Pc (.ref h0 :: []) (mk_P (fun _ => True) cm_cl D cA h0 7 [.int 0, .int 0, .null, .null, .null, .int 0, .null, .null, .null, .null, .null, .null, .null, .int 0, .null, .null, .null, .null, .int 0, .int 0, .int 0, .null, .null, .null, .null, .null, .null, .null, .int 0, .int 0, .int 0, .null, .null, .null, .null, .null, .null, .null, .null, .null, .null, .int 0, .null, .null, .null, .null, .int 0] sz)) (va_Qv (fun _ => True) (mk_Q cm_cl D cA (va_A [(h0, .inr (7, [.int 0, .int 0, .null, .null, .null, .int 0, .null, .null, .null, .null, .null, .null, .null, .int 0, .null, .null, .null, .null, .int 0, .int 0, .int 0, .null, .null, .null, .null, .null, .null, .null, .int 0, .int 0, .int 0, .null, .null, .null, .null, .null, .null, .null, .null, .null, .null, .int 0, .null, .null, .null, .null, .int 0]))] sz) (wfR cA h0)) (va_A [(h0, .inr (7, [.int 0, .int 0, .null, .null, .null, .int 0, .null, .null, .null, .null, .null, .null, .null, .int 0, .null, .null, .null, .null, .int 0, .int 0, .int 0, .null, .null, .null, .null, .null, .null, .null, .int 0, .int 0, .int 0, .null, .null, .null, .null, .null, .null, .null, .null, .null, .null, .int 0, .null, .null, .null, .null, .int 0]))] sz)) 35 1996 (va_A [(h0, .inr (7, [.int 0, .int 0, .null, .null, .null, .int 0, .null, .null, .null, .null, .null, .null, .null, .int 0, .null, .null, .null, .null, .int 0, .int 0, .int 0, .null, .null, .null, .null, .null, .null, .null, .int 0, .int 0, .int 0, .null, .null, .null, .null, .null, .null, .null, .null, .null, .null, .int 0, .null, .null, .null, .null, .int 0]))] sz) := by
  refine mk_met (own := R_R) (by decide +kernel) rfl rfl (Nat.le_of_ble_eq_true rfl) (fun p e R s m args below meth c H0 Q A ls C hZ hin hrc hrs hA hret h hl => ?_)
  have C1 := C
  obtain ⟨hx, hb, hml, hown, hts, hK, hlv, hlo⟩ := C1
  have hl : lv_has ls 1 [(0, .ref h0)] := hl
  refine lv_aload_n hx hb dR_init_0 rfl (lv_at hl 0 rfl) ?_
  refine mk_obj C hl (Nat.le_of_ble_eq_true rfl) OR dR_init_1 ?_
  refine lv_aload_n hx hb dR_init_4 rfl (lv_at hl 0 rfl) ?_
  refine lv_bipush (v := 12) hx hb dR_init_5 (by decide) ?_
  refine mk_na (t := 0) (N' := 12) C hin hA h KR_owner rfl (by first | exact Or.inl ⟨rfl, rfl⟩ | exact Or.inr ⟨rfl, rfl⟩) (by decide) (by decide) (by decide) (by rw [hrc]; exact Nat.le_of_ble_eq_true rfl) (by rw [hrs]; exact Nat.le_of_ble_eq_true rfl) (Nat.le_of_ble_eq_true rfl) dR_init_7 dR_init_9 (fun q0 H locs h => ?_)
  refine lv_aload_n hx hb dR_init_12 rfl (lv_at hl 0 rfl) ?_
  refine lv_bipush (v := 12) hx hb dR_init_13 (by decide) ?_
  refine mk_na (t := 0) (N' := 12) C hin hA h KR_first rfl (by first | exact Or.inl ⟨rfl, rfl⟩ | exact Or.inr ⟨rfl, rfl⟩) (by decide) (by decide) (by decide) (by rw [hrc]; exact Nat.le_of_ble_eq_true rfl) (by rw [hrs]; exact Nat.le_of_ble_eq_true rfl) (Nat.le_of_ble_eq_true rfl) dR_init_15 dR_init_17 (fun q1 H locs h => ?_)
  refine lv_aload_n hx hb dR_init_20 rfl (lv_at hl 0 rfl) ?_
  refine lv_bipush (v := 12) hx hb dR_init_21 (by decide) ?_
  refine mk_na (t := 0) (N' := 12) C hin hA h KR_second rfl (by first | exact Or.inl ⟨rfl, rfl⟩ | exact Or.inr ⟨rfl, rfl⟩) (by decide) (by decide) (by decide) (by rw [hrc]; exact Nat.le_of_ble_eq_true rfl) (by rw [hrs]; exact Nat.le_of_ble_eq_true rfl) (Nat.le_of_ble_eq_true rfl) dR_init_23 dR_init_25 (fun q2 H locs h => ?_)
  refine lv_aload_n hx hb dR_init_28 rfl (lv_at hl 0 rfl) ?_
  refine lv_bipush (v := 60) hx hb dR_init_29 (by decide) ?_
  refine mk_na (t := 0) (N' := 60) C hin hA h KR_kind rfl (by first | exact Or.inl ⟨rfl, rfl⟩ | exact Or.inr ⟨rfl, rfl⟩) (by decide) (by decide) (by decide) (by rw [hrc]; exact Nat.le_of_ble_eq_true rfl) (by rw [hrs]; exact Nat.le_of_ble_eq_true rfl) (Nat.le_of_ble_eq_true rfl) dR_init_31 dR_init_33 (fun q3 H locs h => ?_)
  refine lv_aload_n hx hb dR_init_36 rfl (lv_at hl 0 rfl) ?_
  refine lv_bipush (v := 60) hx hb dR_init_37 (by decide) ?_
  refine mk_na (t := 0) (N' := 60) C hin hA h KR_what rfl (by first | exact Or.inl ⟨rfl, rfl⟩ | exact Or.inr ⟨rfl, rfl⟩) (by decide) (by decide) (by decide) (by rw [hrc]; exact Nat.le_of_ble_eq_true rfl) (by rw [hrs]; exact Nat.le_of_ble_eq_true rfl) (Nat.le_of_ble_eq_true rfl) dR_init_39 dR_init_41 (fun q4 H locs h => ?_)
  refine lv_aload_n hx hb dR_init_44 rfl (lv_at hl 0 rfl) ?_
  refine lv_bipush (v := 60) hx hb dR_init_45 (by decide) ?_
  refine mk_na (t := 0) (N' := 60) C hin hA h KR_left rfl (by first | exact Or.inl ⟨rfl, rfl⟩ | exact Or.inr ⟨rfl, rfl⟩) (by decide) (by decide) (by decide) (by rw [hrc]; exact Nat.le_of_ble_eq_true rfl) (by rw [hrs]; exact Nat.le_of_ble_eq_true rfl) (Nat.le_of_ble_eq_true rfl) dR_init_47 dR_init_49 (fun q5 H locs h => ?_)
  refine lv_aload_n hx hb dR_init_52 rfl (lv_at hl 0 rfl) ?_
  refine lv_bipush (v := 60) hx hb dR_init_53 (by decide) ?_
  refine mk_na (t := 0) (N' := 60) C hin hA h KR_right rfl (by first | exact Or.inl ⟨rfl, rfl⟩ | exact Or.inr ⟨rfl, rfl⟩) (by decide) (by decide) (by decide) (by rw [hrc]; exact Nat.le_of_ble_eq_true rfl) (by rw [hrs]; exact Nat.le_of_ble_eq_true rfl) (Nat.le_of_ble_eq_true rfl) dR_init_55 dR_init_57 (fun q6 H locs h => ?_)
  refine lv_aload_n hx hb dR_init_60 rfl (lv_at hl 0 rfl) ?_
  refine lv_bipush (v := 60) hx hb dR_init_61 (by decide) ?_
  refine mk_na (t := 0) (N' := 60) C hin hA h KR_kindOfType rfl (by first | exact Or.inl ⟨rfl, rfl⟩ | exact Or.inr ⟨rfl, rfl⟩) (by decide) (by decide) (by decide) (by rw [hrc]; exact Nat.le_of_ble_eq_true rfl) (by rw [hrs]; exact Nat.le_of_ble_eq_true rfl) (Nat.le_of_ble_eq_true rfl) dR_init_63 dR_init_65 (fun q7 H locs h => ?_)
  refine lv_aload_n hx hb dR_init_68 rfl (lv_at hl 0 rfl) ?_
  refine lv_bipush (v := 60) hx hb dR_init_69 (by decide) ?_
  refine mk_na (t := 0) (N' := 60) C hin hA h KR_depth rfl (by first | exact Or.inl ⟨rfl, rfl⟩ | exact Or.inr ⟨rfl, rfl⟩) (by decide) (by decide) (by decide) (by rw [hrc]; exact Nat.le_of_ble_eq_true rfl) (by rw [hrs]; exact Nat.le_of_ble_eq_true rfl) (Nat.le_of_ble_eq_true rfl) dR_init_71 dR_init_73 (fun q8 H locs h => ?_)
  refine lv_aload_n hx hb dR_init_76 rfl (lv_at hl 0 rfl) ?_
  refine lv_bipush (v := 60) hx hb dR_init_77 (by decide) ?_
  refine mk_na (t := 0) (N' := 60) C hin hA h KR_choices rfl (by first | exact Or.inl ⟨rfl, rfl⟩ | exact Or.inr ⟨rfl, rfl⟩) (by decide) (by decide) (by decide) (by rw [hrc]; exact Nat.le_of_ble_eq_true rfl) (by rw [hrs]; exact Nat.le_of_ble_eq_true rfl) (Nat.le_of_ble_eq_true rfl) dR_init_79 dR_init_81 (fun q9 H locs h => ?_)
  refine lv_aload_n hx hb dR_init_84 rfl (lv_at hl 0 rfl) ?_
  refine lv_bipush (v := 60) hx hb dR_init_85 (by decide) ?_
  refine mk_na (t := 0) (N' := 60) C hin hA h KR_valueKind rfl (by first | exact Or.inl ⟨rfl, rfl⟩ | exact Or.inr ⟨rfl, rfl⟩) (by decide) (by decide) (by decide) (by rw [hrc]; exact Nat.le_of_ble_eq_true rfl) (by rw [hrs]; exact Nat.le_of_ble_eq_true rfl) (Nat.le_of_ble_eq_true rfl) dR_init_87 dR_init_89 (fun q10 H locs h => ?_)
  refine lv_aload_n hx hb dR_init_92 rfl (lv_at hl 0 rfl) ?_
  refine lv_bipush (v := 60) hx hb dR_init_93 (by decide) ?_
  refine mk_na (t := 0) (N' := 60) C hin hA h KR_valueWhat rfl (by first | exact Or.inl ⟨rfl, rfl⟩ | exact Or.inr ⟨rfl, rfl⟩) (by decide) (by decide) (by decide) (by rw [hrc]; exact Nat.le_of_ble_eq_true rfl) (by rw [hrs]; exact Nat.le_of_ble_eq_true rfl) (Nat.le_of_ble_eq_true rfl) dR_init_95 dR_init_97 (fun q11 H locs h => ?_)
  refine lv_aload_n hx hb dR_init_100 rfl (lv_at hl 0 rfl) ?_
  refine lv_bipush (v := 60) hx hb dR_init_101 (by decide) ?_
  refine mk_na (t := 0) (N' := 60) C hin hA h KR_valueLeft rfl (by first | exact Or.inl ⟨rfl, rfl⟩ | exact Or.inr ⟨rfl, rfl⟩) (by decide) (by decide) (by decide) (by rw [hrc]; exact Nat.le_of_ble_eq_true rfl) (by rw [hrs]; exact Nat.le_of_ble_eq_true rfl) (Nat.le_of_ble_eq_true rfl) dR_init_103 dR_init_105 (fun q12 H locs h => ?_)
  refine lv_aload_n hx hb dR_init_108 rfl (lv_at hl 0 rfl) ?_
  refine lv_bipush (v := 60) hx hb dR_init_109 (by decide) ?_
  refine mk_na (t := 0) (N' := 60) C hin hA h KR_valueRight rfl (by first | exact Or.inl ⟨rfl, rfl⟩ | exact Or.inr ⟨rfl, rfl⟩) (by decide) (by decide) (by decide) (by rw [hrc]; exact Nat.le_of_ble_eq_true rfl) (by rw [hrs]; exact Nat.le_of_ble_eq_true rfl) (Nat.le_of_ble_eq_true rfl) dR_init_111 dR_init_113 (fun q13 H locs h => ?_)
  refine lv_aload_n hx hb dR_init_116 rfl (lv_at hl 0 rfl) ?_
  refine lv_iconst (v := (-1)) hx hb dR_init_117 (by decide) ?_
  refine mk_put C hin h KR_over rfl rfl (Nat.le_of_ble_eq_true rfl) dR_init_118 (fun H locs h => ?_)
  refine lv_aload_n hx hb dR_init_121 rfl (lv_at hl 0 rfl) ?_
  refine lv_bipush (v := 16) hx hb dR_init_122 (by decide) ?_
  refine mk_na (t := 0) (N' := 16) C hin hA h KR_rowOf rfl (by first | exact Or.inl ⟨rfl, rfl⟩ | exact Or.inr ⟨rfl, rfl⟩) (by decide) (by decide) (by decide) (by rw [hrc]; exact Nat.le_of_ble_eq_true rfl) (by rw [hrs]; exact Nat.le_of_ble_eq_true rfl) (Nat.le_of_ble_eq_true rfl) dR_init_124 dR_init_126 (fun q14 H locs h => ?_)
  refine lv_aload_n hx hb dR_init_129 rfl (lv_at hl 0 rfl) ?_
  refine lv_bipush (v := 16) hx hb dR_init_130 (by decide) ?_
  refine mk_na (t := 0) (N' := 16) C hin hA h KR_numberOf rfl (by first | exact Or.inl ⟨rfl, rfl⟩ | exact Or.inr ⟨rfl, rfl⟩) (by decide) (by decide) (by decide) (by rw [hrc]; exact Nat.le_of_ble_eq_true rfl) (by rw [hrs]; exact Nat.le_of_ble_eq_true rfl) (Nat.le_of_ble_eq_true rfl) dR_init_132 dR_init_134 (fun q15 H locs h => ?_)
  refine lv_aload_n hx hb dR_init_137 rfl (lv_at hl 0 rfl) ?_
  refine lv_sipush (v := 256) hx hb dR_init_138 (by decide) ?_
  refine mk_na (t := 0) (N' := 256) C hin hA h KR_asks rfl (by first | exact Or.inl ⟨rfl, rfl⟩ | exact Or.inr ⟨rfl, rfl⟩) (by decide) (by decide) (by decide) (by rw [hrc]; exact Nat.le_of_ble_eq_true rfl) (by rw [hrs]; exact Nat.le_of_ble_eq_true rfl) (Nat.le_of_ble_eq_true rfl) dR_init_141 dR_init_143 (fun q16 H locs h => ?_)
  refine lv_aload_n hx hb dR_init_146 rfl (lv_at hl 0 rfl) ?_
  refine lv_sipush (v := 256) hx hb dR_init_147 (by decide) ?_
  refine mk_na (t := 0) (N' := 256) C hin hA h KR_asked rfl (by first | exact Or.inl ⟨rfl, rfl⟩ | exact Or.inr ⟨rfl, rfl⟩) (by decide) (by decide) (by decide) (by rw [hrc]; exact Nat.le_of_ble_eq_true rfl) (by rw [hrs]; exact Nat.le_of_ble_eq_true rfl) (Nat.le_of_ble_eq_true rfl) dR_init_150 dR_init_152 (fun q17 H locs h => ?_)
  refine lv_aload_n hx hb dR_init_155 rfl (lv_at hl 0 rfl) ?_
  refine lv_bipush (v := 20) hx hb dR_init_156 (by decide) ?_
  refine mk_na (t := 0) (N' := 20) C hin hA h KR_waits rfl (by first | exact Or.inl ⟨rfl, rfl⟩ | exact Or.inr ⟨rfl, rfl⟩) (by decide) (by decide) (by decide) (by rw [hrc]; exact Nat.le_of_ble_eq_true rfl) (by rw [hrs]; exact Nat.le_of_ble_eq_true rfl) (Nat.le_of_ble_eq_true rfl) dR_init_158 dR_init_160 (fun q18 H locs h => ?_)
  refine lv_aload_n hx hb dR_init_163 rfl (lv_at hl 0 rfl) ?_
  refine lv_bipush (v := 20) hx hb dR_init_164 (by decide) ?_
  refine mk_na (t := 0) (N' := 20) C hin hA h KR_choice rfl (by first | exact Or.inl ⟨rfl, rfl⟩ | exact Or.inr ⟨rfl, rfl⟩) (by decide) (by decide) (by decide) (by rw [hrc]; exact Nat.le_of_ble_eq_true rfl) (by rw [hrs]; exact Nat.le_of_ble_eq_true rfl) (Nat.le_of_ble_eq_true rfl) dR_init_166 dR_init_168 (fun q19 H locs h => ?_)
  refine lv_aload_n hx hb dR_init_171 rfl (lv_at hl 0 rfl) ?_
  refine lv_bipush (v := 20) hx hb dR_init_172 (by decide) ?_
  refine mk_na (t := 0) (N' := 20) C hin hA h KR_spot rfl (by first | exact Or.inl ⟨rfl, rfl⟩ | exact Or.inr ⟨rfl, rfl⟩) (by decide) (by decide) (by decide) (by rw [hrc]; exact Nat.le_of_ble_eq_true rfl) (by rw [hrs]; exact Nat.le_of_ble_eq_true rfl) (Nat.le_of_ble_eq_true rfl) dR_init_174 dR_init_176 (fun q20 H locs h => ?_)
  refine lv_aload_n hx hb dR_init_179 rfl (lv_at hl 0 rfl) ?_
  refine lv_bipush (v := 60) hx hb dR_init_180 (by decide) ?_
  refine mk_na (t := 0) (N' := 60) C hin hA h KR_remain rfl (by first | exact Or.inl ⟨rfl, rfl⟩ | exact Or.inr ⟨rfl, rfl⟩) (by decide) (by decide) (by decide) (by rw [hrc]; exact Nat.le_of_ble_eq_true rfl) (by rw [hrs]; exact Nat.le_of_ble_eq_true rfl) (Nat.le_of_ble_eq_true rfl) dR_init_182 dR_init_184 (fun q21 H locs h => ?_)
  refine lv_aload_n hx hb dR_init_187 rfl (lv_at hl 0 rfl) ?_
  refine lv_bipush (v := 60) hx hb dR_init_188 (by decide) ?_
  refine mk_na (t := 0) (N' := 60) C hin hA h KR_open rfl (by first | exact Or.inl ⟨rfl, rfl⟩ | exact Or.inr ⟨rfl, rfl⟩) (by decide) (by decide) (by decide) (by rw [hrc]; exact Nat.le_of_ble_eq_true rfl) (by rw [hrs]; exact Nat.le_of_ble_eq_true rfl) (Nat.le_of_ble_eq_true rfl) dR_init_190 dR_init_192 (fun q22 H locs h => ?_)
  refine lv_aload_n hx hb dR_init_195 rfl (lv_at hl 0 rfl) ?_
  refine lv_bipush (v := 60) hx hb dR_init_196 (by decide) ?_
  refine mk_na (t := 0) (N' := 60) C hin hA h KR_place rfl (by first | exact Or.inl ⟨rfl, rfl⟩ | exact Or.inr ⟨rfl, rfl⟩) (by decide) (by decide) (by decide) (by rw [hrc]; exact Nat.le_of_ble_eq_true rfl) (by rw [hrs]; exact Nat.le_of_ble_eq_true rfl) (Nat.le_of_ble_eq_true rfl) dR_init_198 dR_init_200 (fun q23 H locs h => ?_)
  refine lv_aload_n hx hb dR_init_203 rfl (lv_at hl 0 rfl) ?_
  refine lv_bipush (v := 60) hx hb dR_init_204 (by decide) ?_
  refine mk_na (t := 0) (N' := 60) C hin hA h KR_test rfl (by first | exact Or.inl ⟨rfl, rfl⟩ | exact Or.inr ⟨rfl, rfl⟩) (by decide) (by decide) (by decide) (by rw [hrc]; exact Nat.le_of_ble_eq_true rfl) (by rw [hrs]; exact Nat.le_of_ble_eq_true rfl) (Nat.le_of_ble_eq_true rfl) dR_init_206 dR_init_208 (fun q24 H locs h => ?_)
  refine lv_aload_n hx hb dR_init_211 rfl (lv_at hl 0 rfl) ?_
  refine lv_bipush (v := 60) hx hb dR_init_212 (by decide) ?_
  refine mk_na (t := 0) (N' := 60) C hin hA h KR_leaf rfl (by first | exact Or.inl ⟨rfl, rfl⟩ | exact Or.inr ⟨rfl, rfl⟩) (by decide) (by decide) (by decide) (by rw [hrc]; exact Nat.le_of_ble_eq_true rfl) (by rw [hrs]; exact Nat.le_of_ble_eq_true rfl) (Nat.le_of_ble_eq_true rfl) dR_init_214 dR_init_216 (fun q25 H locs h => ?_)
  refine lv_aload_n hx hb dR_init_219 rfl (lv_at hl 0 rfl) ?_
  refine lv_bipush (v := 60) hx hb dR_init_220 (by decide) ?_
  refine mk_na (t := 0) (N' := 60) C hin hA h KR_from rfl (by first | exact Or.inl ⟨rfl, rfl⟩ | exact Or.inr ⟨rfl, rfl⟩) (by decide) (by decide) (by decide) (by rw [hrc]; exact Nat.le_of_ble_eq_true rfl) (by rw [hrs]; exact Nat.le_of_ble_eq_true rfl) (Nat.le_of_ble_eq_true rfl) dR_init_222 dR_init_224 (fun q26 H locs h => ?_)
  refine lv_aload_n hx hb dR_init_227 rfl (lv_at hl 0 rfl) ?_
  refine lv_bipush (v := 60) hx hb dR_init_228 (by decide) ?_
  refine mk_na (t := 0) (N' := 60) C hin hA h KR_many rfl (by first | exact Or.inl ⟨rfl, rfl⟩ | exact Or.inr ⟨rfl, rfl⟩) (by decide) (by decide) (by decide) (by rw [hrc]; exact Nat.le_of_ble_eq_true rfl) (by rw [hrs]; exact Nat.le_of_ble_eq_true rfl) (Nat.le_of_ble_eq_true rfl) dR_init_230 dR_init_232 (fun q27 H locs h => ?_)
  refine lv_aload_n hx hb dR_init_235 rfl (lv_at hl 0 rfl) ?_
  refine lv_bipush (v := 60) hx hb dR_init_236 (by decide) ?_
  refine mk_na (t := 0) (N' := 60) C hin hA h KR_label rfl (by first | exact Or.inl ⟨rfl, rfl⟩ | exact Or.inr ⟨rfl, rfl⟩) (by decide) (by decide) (by decide) (by rw [hrc]; exact Nat.le_of_ble_eq_true rfl) (by rw [hrs]; exact Nat.le_of_ble_eq_true rfl) (Nat.le_of_ble_eq_true rfl) dR_init_238 dR_init_240 (fun q28 H locs h => ?_)
  refine lv_aload_n hx hb dR_init_243 rfl (lv_at hl 0 rfl) ?_
  refine lv_bipush (v := 60) hx hb dR_init_244 (by decide) ?_
  refine mk_na (t := 1) (N' := 60) C hin hA h KR_others rfl (by first | exact Or.inl ⟨rfl, rfl⟩ | exact Or.inr ⟨rfl, rfl⟩) (by decide) (by decide) (by decide) (by rw [hrc]; exact Nat.le_of_ble_eq_true rfl) (by rw [hrs]; exact Nat.le_of_ble_eq_true rfl) (Nat.le_of_ble_eq_true rfl) dR_init_246 dR_init_248 (fun q29 H locs h => ?_)
  refine lv_aload_n hx hb dR_init_251 rfl (lv_at hl 0 rfl) ?_
  refine lv_bipush (v := 60) hx hb dR_init_252 (by decide) ?_
  refine mk_na (t := 0) (N' := 60) C hin hA h KR_work rfl (by first | exact Or.inl ⟨rfl, rfl⟩ | exact Or.inr ⟨rfl, rfl⟩) (by decide) (by decide) (by decide) (by rw [hrc]; exact Nat.le_of_ble_eq_true rfl) (by rw [hrs]; exact Nat.le_of_ble_eq_true rfl) (Nat.le_of_ble_eq_true rfl) dR_init_254 dR_init_256 (fun q30 H locs h => ?_)
  refine lv_aload_n hx hb dR_init_259 rfl (lv_at hl 0 rfl) ?_
  refine lv_bipush (v := 32) hx hb dR_init_260 (by decide) ?_
  refine mk_na (t := 0) (N' := 32) C hin hA h KR_symbolKind rfl (by first | exact Or.inl ⟨rfl, rfl⟩ | exact Or.inr ⟨rfl, rfl⟩) (by decide) (by decide) (by decide) (by rw [hrc]; exact Nat.le_of_ble_eq_true rfl) (by rw [hrs]; exact Nat.le_of_ble_eq_true rfl) (Nat.le_of_ble_eq_true rfl) dR_init_262 dR_init_264 (fun q31 H locs h => ?_)
  refine lv_aload_n hx hb dR_init_267 rfl (lv_at hl 0 rfl) ?_
  refine lv_bipush (v := 32) hx hb dR_init_268 (by decide) ?_
  refine mk_na (t := 0) (N' := 32) C hin hA h KR_symbol rfl (by first | exact Or.inl ⟨rfl, rfl⟩ | exact Or.inr ⟨rfl, rfl⟩) (by decide) (by decide) (by decide) (by rw [hrc]; exact Nat.le_of_ble_eq_true rfl) (by rw [hrs]; exact Nat.le_of_ble_eq_true rfl) (Nat.le_of_ble_eq_true rfl) dR_init_270 dR_init_272 (fun q32 H locs h => ?_)
  refine lv_aload_n hx hb dR_init_275 rfl (lv_at hl 0 rfl) ?_
  refine lv_bipush (v := 16) hx hb dR_init_276 (by decide) ?_
  refine mk_na (t := 0) (N' := 16) C hin hA h KR_wayKind rfl (by first | exact Or.inl ⟨rfl, rfl⟩ | exact Or.inr ⟨rfl, rfl⟩) (by decide) (by decide) (by decide) (by rw [hrc]; exact Nat.le_of_ble_eq_true rfl) (by rw [hrs]; exact Nat.le_of_ble_eq_true rfl) (Nat.le_of_ble_eq_true rfl) dR_init_278 dR_init_280 (fun q33 H locs h => ?_)
  refine lv_aload_n hx hb dR_init_283 rfl (lv_at hl 0 rfl) ?_
  refine lv_bipush (v := 16) hx hb dR_init_284 (by decide) ?_
  refine mk_na (t := 0) (N' := 16) C hin hA h KR_way rfl (by first | exact Or.inl ⟨rfl, rfl⟩ | exact Or.inr ⟨rfl, rfl⟩) (by decide) (by decide) (by decide) (by rw [hrc]; exact Nat.le_of_ble_eq_true rfl) (by rw [hrs]; exact Nat.le_of_ble_eq_true rfl) (Nat.le_of_ble_eq_true rfl) dR_init_286 dR_init_288 (fun q34 H locs h => ?_)
  have hP9 := h.1.sub (ws' := wfR cA h0 (fun k => [h0, q0, q1, q2, q3, q4, q5, q6, q7, q8, q9, q10, q11, q12, q13, q14, q15, q16, q17, q18, q19, q20, q21, q22, q23, q24, q25, q26, q27, q28, q29, q30, q31, q32, q33, q34].getD k 0)) [0, 1, 2, 3, 4, 5, 6, 7, 8, 9, 10, 11, 12, 13, 14, 15, 16, 17, 18, 19, 20, 21, 22, 23, 24, 25, 26, 27, 28, 29, 30, 31, 32, 33, 34, 35] rfl
  have hD9 := h.2.1.sub (ws' := wfR cA h0 (fun k => [h0, q0, q1, q2, q3, q4, q5, q6, q7, q8, q9, q10, q11, q12, q13, q14, q15, q16, q17, q18, q19, q20, q21, q22, q23, q24, q25, q26, q27, q28, q29, q30, q31, q32, q33, q34].getD k 0)) [0, 1, 2, 3, 4, 5, 6, 7, 8, 9, 10, 11, 12, 13, 14, 15, 16, 17, 18, 19, 20, 21, 22, 23, 24, 25, 26, 27, 28, 29, 30, 31, 32, 33, 34, 35] (by decide) rfl
  exact hret (fun k => [h0, q0, q1, q2, q3, q4, q5, q6, q7, q8, q9, q10, q11, q12, q13, q14, q15, q16, q17, q18, q19, q20, q21, q22, q23, q24, q25, q26, q27, q28, q29, q30, q31, q32, q33, q34].getD k 0) _ _ _ _ dR_init_291 hP9 hD9 h.2.2
def stC0 : ck_S := fun a b => if a = 4 then (if b = 6 then -1 else 0) else 0
def adC (h0 : Nat) (u : Nat → Nat) : Nat → Nat := fun k => if k = 0 then h0 else u k
def wfC (cA : Nat → ClassId) (h0 : Nat) (u : Nat → Nat) : va_W := ck_w sh_C cA (adC h0 u) stC0
set_option maxRecDepth 100000 in
set_option maxHeartbeats 4000000 in
theorem cC_init (l : Launch) (D : va_G) (cA : Nat → ClassId) (h0 sz : Nat) : Met l yC_init (.code yC_init bC_init 1 none :: ck_T) { frames := 2, cells := 41, slots := 2120, locals := 40 * 2 } (va_Pc (.ref h0 :: []) (mk_P mk_N cm_cl D cA h0 0 [.null, .null, .null, .null, .null, .null, .int 0] sz)) (va_Qv (fun _ => True) (mk_Q cm_cl D cA (va_A [(h0, .inr (0, [.null, .null, .null, .null, .null, .null, .int 0]))] sz) (wfC cA h0)) (va_A [(h0, .inr (0, [.null, .null, .null, .null, .null, .null, .int 0]))] sz)) 41 2120 (va_A [(h0, .inr (0, [.null, .null, .null, .null, .null, .null, .int 0]))] sz) := by
  refine mk_met (own := R_C) (by decide +kernel) rfl rfl (Nat.le_of_ble_eq_true rfl) (fun p e R s m args below meth c H0 Q A ls C hZ hin hrc hrs hA hret h hl => ?_)
  have C1 := C
  obtain ⟨hx, hb, hml, hown, hts, hK, hlv, hlo⟩ := C1
  have hl : lv_has ls 1 [(0, .ref h0)] := hl
  refine lv_aload_n hx hb dC_init_0 rfl (lv_at hl 0 rfl) ?_
  refine mk_obj C hl (Nat.le_of_ble_eq_true rfl) OC dC_init_1 ?_
  refine lv_aload_n hx hb dC_init_4 rfl (lv_at hl 0 rfl) ?_
  refine va_new (ci := 1) (fs := [.null, .null, .null, .int 0, .int 0]) (C := R_D) (T := T_D) (N := 5) hx hb hts cu_D ct_D co_D hown (hts _ ID4.1) (hts _ ID4.2) (hts _ ini_D) hK h.1 h.2.1 h.2.2 hA rfl (fun j hj => match j, hj with | 0, _ => rfl | 1, _ => rfl | 2, _ => rfl | 3, _ => rfl | 4, _ => rfl | k + 5, z => absurd z (by omega)) (by rw [hrc]; exact Nat.le_of_ble_eq_true rfl) (by rw [hrs]; exact Nat.le_of_ble_eq_true rfl) dC_init_5 (fun qD H hP hD hS => ?_)
  refine lv_dup hx hb dC_init_8 rfl ?_
  refine mk_call (Z := fun _ => True) (fun _ _ _ _ => trivial) (fun _ _ => trivial) (As := []) (rest := [.ref qD, .ref h0]) (wf := wfD cA qD) C hA hP hD hS hl rfl ID1 ⟨ID2, Or.inr ⟨"ClauseMatrix", hZ.1⟩⟩ (cD_init l D cA qD _) (Nat.le_of_ble_eq_true rfl) rfl rfl (Nat.le_of_ble_eq_true rfl) (by rw [hrc]; exact Nat.le_of_ble_eq_true rfl) (by rw [hrs]; exact Nat.le_of_ble_eq_true rfl) dC_init_9 (fun uD H locs hP hD hS => ?_)
  have h : mk_AT cm_cl D A H0 h0 0 _ (_ ++ wfD cA qD uD) H locs := ⟨hP, hD, hS⟩
  refine mk_put C hin h KC_declared rfl rfl (Nat.le_of_ble_eq_true rfl) dC_init_12 (fun H locs h => ?_)
  refine lv_aload_n hx hb dC_init_15 rfl (lv_at hl 0 rfl) ?_
  refine va_new (ci := 2) (fs := [.null, .null, .null, .null, .null, .null, .null, .int 0]) (C := R_P) (T := T_P) (N := 8) hx hb hts cu_P ct_P co_P hown (hts _ IP4.1) (hts _ IP4.2) (hts _ ini_P) hK h.1 h.2.1 h.2.2 hA rfl (fun j hj => match j, hj with | 0, _ => rfl | 1, _ => rfl | 2, _ => rfl | 3, _ => rfl | 4, _ => rfl | 5, _ => rfl | 6, _ => rfl | 7, _ => rfl | k + 8, z => absurd z (by omega)) (by rw [hrc]; exact Nat.le_of_ble_eq_true rfl) (by rw [hrs]; exact Nat.le_of_ble_eq_true rfl) dC_init_16 (fun qP H hP hD hS => ?_)
  refine lv_dup hx hb dC_init_19 rfl ?_
  refine mk_call (Z := fun _ => True) (fun _ _ _ _ => trivial) (fun _ _ => trivial) (As := []) (rest := [.ref qP, .ref h0]) (wf := wfP cA qP) C hA hP hD hS hl rfl IP1 ⟨IP2, Or.inr ⟨"ClauseMatrix", hZ.2.1⟩⟩ (cP_init l D cA qP _) (Nat.le_of_ble_eq_true rfl) rfl rfl (Nat.le_of_ble_eq_true rfl) (by rw [hrc]; exact Nat.le_of_ble_eq_true rfl) (by rw [hrs]; exact Nat.le_of_ble_eq_true rfl) dC_init_20 (fun uP H locs hP hD hS => ?_)
  have h : mk_AT cm_cl D A H0 h0 0 _ (_ ++ wfP cA qP uP) H locs := ⟨hP, hD, hS⟩
  refine mk_put C hin h KC_patterns rfl rfl (Nat.le_of_ble_eq_true rfl) dC_init_23 (fun H locs h => ?_)
  refine lv_aload_n hx hb dC_init_26 rfl (lv_at hl 0 rfl) ?_
  refine va_new (ci := 3) (fs := [.null, .null, .null, .null, .int 0]) (C := R_V) (T := T_V) (N := 5) hx hb hts cu_V ct_V co_V hown (hts _ IV4.1) (hts _ IV4.2) (hts _ ini_V) hK h.1 h.2.1 h.2.2 hA rfl (fun j hj => match j, hj with | 0, _ => rfl | 1, _ => rfl | 2, _ => rfl | 3, _ => rfl | 4, _ => rfl | k + 5, z => absurd z (by omega)) (by rw [hrc]; exact Nat.le_of_ble_eq_true rfl) (by rw [hrs]; exact Nat.le_of_ble_eq_true rfl) dC_init_27 (fun qV H hP hD hS => ?_)
  refine lv_dup hx hb dC_init_30 rfl ?_
  refine mk_call (Z := fun _ => True) (fun _ _ _ _ => trivial) (fun _ _ => trivial) (As := []) (rest := [.ref qV, .ref h0]) (wf := wfV cA qV) C hA hP hD hS hl rfl IV1 ⟨IV2, Or.inr ⟨"ClauseMatrix", hZ.2.2⟩⟩ (cV_init l D cA qV _) (Nat.le_of_ble_eq_true rfl) rfl rfl (Nat.le_of_ble_eq_true rfl) (by rw [hrc]; exact Nat.le_of_ble_eq_true rfl) (by rw [hrs]; exact Nat.le_of_ble_eq_true rfl) dC_init_31 (fun uV H locs hP hD hS => ?_)
  have h : mk_AT cm_cl D A H0 h0 0 _ (_ ++ wfV cA qV uV) H locs := ⟨hP, hD, hS⟩
  refine mk_put C hin h KC_values rfl rfl (Nat.le_of_ble_eq_true rfl) dC_init_34 (fun H locs h => ?_)
  refine lv_aload_n hx hb dC_init_37 rfl (lv_at hl 0 rfl) ?_
  refine va_new (ci := 4) (fs := [.null, .null, .null, .null, .null, .null, .int 0, .int 0, .int 0]) (C := R_M) (T := T_M) (N := 9) hx hb hts cu_M ct_M co_M hown (hts _ IM4.1) (hts _ IM4.2) (hts _ ini_M) hK h.1 h.2.1 h.2.2 hA rfl (fun j hj => match j, hj with | 0, _ => rfl | 1, _ => rfl | 2, _ => rfl | 3, _ => rfl | 4, _ => rfl | 5, _ => rfl | 6, _ => rfl | 7, _ => rfl | 8, _ => rfl | k + 9, z => absurd z (by omega)) (by rw [hrc]; exact Nat.le_of_ble_eq_true rfl) (by rw [hrs]; exact Nat.le_of_ble_eq_true rfl) dC_init_38 (fun qM H hP hD hS => ?_)
  refine lv_dup hx hb dC_init_41 rfl ?_
  refine lv_aload_n hx hb dC_init_42 rfl (lv_at hl 0 rfl) ?_
  refine mk_get (a := qP) (xs := _) C (show mk_AT cm_cl D A H0 h0 0 _ (_ ++ [_]) _ _ from ⟨hP, hD, hS⟩) KC_patterns rfl dC_init_43 ?_
  refine mk_call (Z := fun _ => True) (fun _ _ _ _ => trivial) (fun _ _ => trivial) (As := [.ref qP]) (rest := [.ref qM, .ref h0]) (wf := wfM cA qM qP) C hA hP hD hS hl rfl IM1 ⟨IM2, Or.inl IM3⟩ (cM_init l D cA qM qP _) (Nat.le_of_ble_eq_true rfl) rfl rfl (Nat.le_of_ble_eq_true rfl) (by rw [hrc]; exact Nat.le_of_ble_eq_true rfl) (by rw [hrs]; exact Nat.le_of_ble_eq_true rfl) dC_init_46 (fun uM H locs hP hD hS => ?_)
  have h : mk_AT cm_cl D A H0 h0 0 _ (_ ++ wfM cA qM qP uM) H locs := ⟨hP, hD, hS⟩
  refine mk_put C hin h KC_match rfl rfl (Nat.le_of_ble_eq_true rfl) dC_init_49 (fun H locs h => ?_)
  refine lv_aload_n hx hb dC_init_52 rfl (lv_at hl 0 rfl) ?_
  refine va_new (ci := 5) (fs := [.null, .null, .null, .null, .null, .null, .null, .null, .null, .null, .null, .null, .null, .null, .int 0, .int 0, .int 0]) (C := R_T) (T := T_T) (N := 17) hx hb hts cu_T ct_T co_T hown (hts _ IT4.1) (hts _ IT4.2) (hts _ ini_T) hK h.1 h.2.1 h.2.2 hA rfl (fun j hj => match j, hj with | 0, _ => rfl | 1, _ => rfl | 2, _ => rfl | 3, _ => rfl | 4, _ => rfl | 5, _ => rfl | 6, _ => rfl | 7, _ => rfl | 8, _ => rfl | 9, _ => rfl | 10, _ => rfl | 11, _ => rfl | 12, _ => rfl | 13, _ => rfl | 14, _ => rfl | 15, _ => rfl | 16, _ => rfl | k + 17, z => absurd z (by omega)) (by rw [hrc]; exact Nat.le_of_ble_eq_true rfl) (by rw [hrs]; exact Nat.le_of_ble_eq_true rfl) dC_init_53 (fun qT H hP hD hS => ?_)
  refine lv_dup hx hb dC_init_56 rfl ?_
  refine lv_aload_n hx hb dC_init_57 rfl (lv_at hl 0 rfl) ?_
  refine mk_get (a := qD) (xs := _) C (show mk_AT cm_cl D A H0 h0 0 _ (_ ++ [_]) _ _ from ⟨hP, hD, hS⟩) KC_declared rfl dC_init_58 ?_
  refine lv_aload_n hx hb dC_init_61 rfl (lv_at hl 0 rfl) ?_
  refine mk_get (a := qM) (xs := _) C (show mk_AT cm_cl D A H0 h0 0 _ (_ ++ [_]) _ _ from ⟨hP, hD, hS⟩) KC_match rfl dC_init_62 ?_
  refine mk_call (Z := fun _ => True) (fun _ _ _ _ => trivial) (fun _ _ => trivial) (As := [.ref qD, .ref qM]) (rest := [.ref qT, .ref h0]) (wf := wfT cA qT qD qM) C hA hP hD hS hl rfl IT1 ⟨IT2, Or.inl IT3⟩ (cT_init l D cA qT qD qM _) (Nat.le_of_ble_eq_true rfl) rfl rfl (Nat.le_of_ble_eq_true rfl) (by rw [hrc]; exact Nat.le_of_ble_eq_true rfl) (by rw [hrs]; exact Nat.le_of_ble_eq_true rfl) dC_init_65 (fun uT H locs hP hD hS => ?_)
  have h : mk_AT cm_cl D A H0 h0 0 _ (_ ++ wfT cA qT qD qM uT) H locs := ⟨hP, hD, hS⟩
  refine mk_put C hin h KC_tree rfl rfl (Nat.le_of_ble_eq_true rfl) dC_init_68 (fun H locs h => ?_)
  refine lv_aload_n hx hb dC_init_71 rfl (lv_at hl 0 rfl) ?_
  refine va_new (ci := 6) (fs := [.null, .null, .null, .null, .null, .null, .int 0]) (C := R_G) (T := T_G) (N := 7) hx hb hts cu_G ct_G co_G hown (hts _ IG4.1) (hts _ IG4.2) (hts _ ini_G) hK h.1 h.2.1 h.2.2 hA rfl (fun j hj => match j, hj with | 0, _ => rfl | 1, _ => rfl | 2, _ => rfl | 3, _ => rfl | 4, _ => rfl | 5, _ => rfl | 6, _ => rfl | k + 7, z => absurd z (by omega)) (by rw [hrc]; exact Nat.le_of_ble_eq_true rfl) (by rw [hrs]; exact Nat.le_of_ble_eq_true rfl) dC_init_72 (fun qG H hP hD hS => ?_)
  refine lv_dup hx hb dC_init_75 rfl ?_
  refine lv_aload_n hx hb dC_init_76 rfl (lv_at hl 0 rfl) ?_
  refine mk_get (a := qD) (xs := _) C (show mk_AT cm_cl D A H0 h0 0 _ (_ ++ [_]) _ _ from ⟨hP, hD, hS⟩) KC_declared rfl dC_init_77 ?_
  refine lv_aload_n hx hb dC_init_80 rfl (lv_at hl 0 rfl) ?_
  refine mk_get (a := qT) (xs := _) C (show mk_AT cm_cl D A H0 h0 0 _ (_ ++ [_]) _ _ from ⟨hP, hD, hS⟩) KC_tree rfl dC_init_81 ?_
  refine mk_call (Z := fun _ => True) (fun _ _ _ _ => trivial) (fun _ _ => trivial) (As := [.ref qD, .ref qT]) (rest := [.ref qG, .ref h0]) (wf := wfG cA qG qD qT) C hA hP hD hS hl rfl IG1 ⟨IG2, Or.inl IG3⟩ (cG_init l D cA qG qD qT _) (Nat.le_of_ble_eq_true rfl) rfl rfl (Nat.le_of_ble_eq_true rfl) (by rw [hrc]; exact Nat.le_of_ble_eq_true rfl) (by rw [hrs]; exact Nat.le_of_ble_eq_true rfl) dC_init_84 (fun uG H locs hP hD hS => ?_)
  have h : mk_AT cm_cl D A H0 h0 0 _ (_ ++ wfG cA qG qD qT uG) H locs := ⟨hP, hD, hS⟩
  refine mk_put C hin h KC_gap rfl rfl (Nat.le_of_ble_eq_true rfl) dC_init_87 (fun H locs h => ?_)
  refine lv_aload_n hx hb dC_init_90 rfl (lv_at hl 0 rfl) ?_
  refine lv_iconst (v := 0) hx hb dC_init_91 (by decide) ?_
  refine mk_put C hin h KC_latestTests rfl rfl (Nat.le_of_ble_eq_true rfl) dC_init_92 (fun H locs h => ?_)
  have hP9 := h.1.sub (ws' := wfC cA h0 (fun k => [h0, qD, qP, qV, qM, qT, qG, (uD 0), (uD 1), (uD 2), (uP 0), (uP 1), (uP 2), (uP 3), (uP 4), (uP 5), (uP 6), (uV 0), (uV 1), (uV 2), (uV 3), (uM 0), (uM 1), (uM 2), (uM 3), (uM 4), (uT 0), (uT 1), (uT 2), (uT 3), (uT 4), (uT 5), (uT 6), (uT 7), (uT 8), (uT 9), (uT 10), (uT 11), (uG 0), (uG 1), (uG 2), (uG 3)].getD k 0)) [0, 1, 5, 13, 18, 24, 37, 2, 3, 4, 6, 7, 8, 9, 10, 11, 12, 14, 15, 16, 17, 19, 20, 21, 22, 23, 25, 26, 27, 28, 29, 30, 31, 32, 33, 34, 35, 36, 38, 39, 40, 41] rfl
  have hD9 := h.2.1.sub (ws' := wfC cA h0 (fun k => [h0, qD, qP, qV, qM, qT, qG, (uD 0), (uD 1), (uD 2), (uP 0), (uP 1), (uP 2), (uP 3), (uP 4), (uP 5), (uP 6), (uV 0), (uV 1), (uV 2), (uV 3), (uM 0), (uM 1), (uM 2), (uM 3), (uM 4), (uT 0), (uT 1), (uT 2), (uT 3), (uT 4), (uT 5), (uT 6), (uT 7), (uT 8), (uT 9), (uT 10), (uT 11), (uG 0), (uG 1), (uG 2), (uG 3)].getD k 0)) [0, 1, 5, 13, 18, 24, 37, 2, 3, 4, 6, 7, 8, 9, 10, 11, 12, 14, 15, 16, 17, 19, 20, 21, 22, 23, 25, 26, 27, 28, 29, 30, 31, 32, 33, 34, 35, 36, 38, 39, 40, 41] (by decide) rfl
  exact hret (fun k => [h0, qD, qP, qV, qM, qT, qG, (uD 0), (uD 1), (uD 2), (uP 0), (uP 1), (uP 2), (uP 3), (uP 4), (uP 5), (uP 6), (uV 0), (uV 1), (uV 2), (uV 3), (uM 0), (uM 1), (uM 2), (uM 3), (uM 4), (uT 0), (uT 1), (uT 2), (uT 3), (uT 4), (uT 5), (uT 6), (uT 7), (uT 8), (uT 9), (uT 10), (uT 11), (uG 0), (uG 1), (uG 2), (uG 3)].getD k 0) _ _ _ _ dC_init_95 hP9 hD9 h.2.2
