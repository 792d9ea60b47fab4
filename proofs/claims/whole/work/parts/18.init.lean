def wfD (cA : Nat → ClassId) (h0 : Nat) (u : Nat → Nat) : va_W := [(h0, .inr (1, [.ref (u 0), .ref (u 1), .ref (u 2), .int 0, .int 0])), (u 0, .inl (cA 0, 12, .inl (fun _ => 0))), (u 1, .inl (cA 0, 12, .inl (fun _ => 0))), (u 2, .inl (cA 0, 12, .inl (fun _ => 0)))]
set_option maxRecDepth 100000 in
set_option maxHeartbeats 4000000 in
theorem cD_init (l : Launch) (D : va_G) (cA : Nat → ClassId) (h0 sz : Nat) : Met l yD_init (.code yD_init bD_init 1 none :: ck_T) { frames := 1, cells := 3, slots := 36, locals := 40 * 1 } (va_Pc (.ref h0 :: []) (mk_P (fun _ => True) cm_cl D cA h0 1 [.null, .null, .null, .int 0, .int 0] sz)) (va_Qv (fun _ => True) (mk_Q cm_cl D cA (va_A [(h0, .inr (1, [.null, .null, .null, .int 0, .int 0]))] sz) (wfD cA h0)) (va_A [(h0, .inr (1, [.null, .null, .null, .int 0, .int 0]))] sz)) 3 36 (va_A [(h0, .inr (1, [.null, .null, .null, .int 0, .int 0]))] sz) := by
  refine mk_met (own := R_D) (by decide +kernel) rfl rfl (Nat.le_of_ble_eq_true rfl) (fun p e R s m args below meth c H0 Q A ls C hZ hin hrc hrs hA hret h hl => ?_)
  have C1 := C
  obtain ⟨hx, hb, hml, hown, hts, hK, hlv, hlo⟩ := C1
  have hl : lv_has ls 1 [(0, .ref h0)] := hl
  refine lv_aload_n hx hb dD_init_0 rfl (lv_at hl 0 rfl) ?_
  refine mk_obj C hl (Nat.le_of_ble_eq_true rfl) OD dD_init_1 ?_
  refine lv_aload_n hx hb dD_init_4 rfl (lv_at hl 0 rfl) ?_
  refine lv_bipush (v := 12) hx hb dD_init_5 (by decide) ?_
  refine mk_na (t := 0) (N' := 12) C hin hA h KD_owner rfl (by first | exact Or.inl ⟨rfl, rfl⟩ | exact Or.inr ⟨rfl, rfl⟩) (by decide) (by decide) (by decide) (by rw [hrc]; exact Nat.le_of_ble_eq_true rfl) (by rw [hrs]; exact Nat.le_of_ble_eq_true rfl) (Nat.le_of_ble_eq_true rfl) dD_init_7 dD_init_9 (fun q0 H locs h => ?_)
  have h : mk_AT cm_cl D A H0 h0 1 [.ref q0, .null, .null, .int 0, .int 0] [(q0, .inl (cA 0, 12, .inl (fun _ => 0)))] H locs := h
  refine lv_aload_n hx hb dD_init_12 rfl (lv_at hl 0 rfl) ?_
  refine lv_bipush (v := 12) hx hb dD_init_13 (by decide) ?_
  refine mk_na (t := 0) (N' := 12) C hin hA h KD_firstType rfl (by first | exact Or.inl ⟨rfl, rfl⟩ | exact Or.inr ⟨rfl, rfl⟩) (by decide) (by decide) (by decide) (by rw [hrc]; exact Nat.le_of_ble_eq_true rfl) (by rw [hrs]; exact Nat.le_of_ble_eq_true rfl) (Nat.le_of_ble_eq_true rfl) dD_init_15 dD_init_17 (fun q1 H locs h => ?_)
  have h : mk_AT cm_cl D A H0 h0 1 [.ref q0, .ref q1, .null, .int 0, .int 0] [(q0, .inl (cA 0, 12, .inl (fun _ => 0))), (q1, .inl (cA 0, 12, .inl (fun _ => 0)))] H locs := h
  refine lv_aload_n hx hb dD_init_20 rfl (lv_at hl 0 rfl) ?_
  refine lv_bipush (v := 12) hx hb dD_init_21 (by decide) ?_
  refine mk_na (t := 0) (N' := 12) C hin hA h KD_secondType rfl (by first | exact Or.inl ⟨rfl, rfl⟩ | exact Or.inr ⟨rfl, rfl⟩) (by decide) (by decide) (by decide) (by rw [hrc]; exact Nat.le_of_ble_eq_true rfl) (by rw [hrs]; exact Nat.le_of_ble_eq_true rfl) (Nat.le_of_ble_eq_true rfl) dD_init_23 dD_init_25 (fun q2 H locs h => ?_)
  have h : mk_AT cm_cl D A H0 h0 1 [.ref q0, .ref q1, .ref q2, .int 0, .int 0] [(q0, .inl (cA 0, 12, .inl (fun _ => 0))), (q1, .inl (cA 0, 12, .inl (fun _ => 0))), (q2, .inl (cA 0, 12, .inl (fun _ => 0)))] H locs := h
  refine lv_aload_n hx hb dD_init_28 rfl (lv_at hl 0 rfl) ?_
  refine lv_iconst (v := 0) hx hb dD_init_29 (by decide) ?_
  refine mk_put C hin h KD_ownTypes rfl rfl (Nat.le_of_ble_eq_true rfl) dD_init_30 (fun H locs h => ?_)
  have h : mk_AT cm_cl D A H0 h0 1 [.ref q0, .ref q1, .ref q2, .int 0, .int 0] [(q0, .inl (cA 0, 12, .inl (fun _ => 0))), (q1, .inl (cA 0, 12, .inl (fun _ => 0))), (q2, .inl (cA 0, 12, .inl (fun _ => 0)))] H locs := h
  refine lv_aload_n hx hb dD_init_33 rfl (lv_at hl 0 rfl) ?_
  refine lv_iconst (v := 0) hx hb dD_init_34 (by decide) ?_
  refine mk_put C hin h KD_constructors rfl rfl (Nat.le_of_ble_eq_true rfl) dD_init_35 (fun H locs h => ?_)
  have h : mk_AT cm_cl D A H0 h0 1 [.ref q0, .ref q1, .ref q2, .int 0, .int 0] [(q0, .inl (cA 0, 12, .inl (fun _ => 0))), (q1, .inl (cA 0, 12, .inl (fun _ => 0))), (q2, .inl (cA 0, 12, .inl (fun _ => 0)))] H locs := h
  exact hret (fun k => [q0, q1, q2].getD k 0) _ _ _ _ dD_init_38 h.1 h.2.1 h.2.2
def wfP (cA : Nat → ClassId) (h0 : Nat) (u : Nat → Nat) : va_W := [(h0, .inr (2, [.ref (u 0), .ref (u 1), .ref (u 2), .ref (u 3), .ref (u 4), .ref (u 5), .ref (u 6), .int 0])), (u 0, .inl (cA 1, 60, .inl (fun _ => 0))), (u 1, .inl (cA 0, 60, .inl (fun _ => 0))), (u 2, .inl (cA 0, 60, .inl (fun _ => 0))), (u 3, .inl (cA 0, 60, .inl (fun _ => 0))), (u 4, .inl (cA 0, 60, .inl (fun _ => 0))), (u 5, .inl (cA 0, 60, .inl (fun _ => 0))), (u 6, .inl (cA 0, 60, .inl (fun _ => 0)))]
set_option maxRecDepth 100000 in
set_option maxHeartbeats 4000000 in
theorem cP_init (l : Launch) (D : va_G) (cA : Nat → ClassId) (h0 sz : Nat) : Met l yP_init (.code yP_init bP_init 1 none :: ck_T) { frames := 1, cells := 7, slots := 420, locals := 40 * 1 } (va_Pc (.ref h0 :: []) (mk_P (fun _ => True) cm_cl D cA h0 2 [.null, .null, .null, .null, .null, .null, .null, .int 0] sz)) (va_Qv (fun _ => True) (mk_Q cm_cl D cA (va_A [(h0, .inr (2, [.null, .null, .null, .null, .null, .null, .null, .int 0]))] sz) (wfP cA h0)) (va_A [(h0, .inr (2, [.null, .null, .null, .null, .null, .null, .null, .int 0]))] sz)) 7 420 (va_A [(h0, .inr (2, [.null, .null, .null, .null, .null, .null, .null, .int 0]))] sz) := by
  refine mk_met (own := R_P) (by decide +kernel) rfl rfl (Nat.le_of_ble_eq_true rfl) (fun p e R s m args below meth c H0 Q A ls C hZ hin hrc hrs hA hret h hl => ?_)
  have C1 := C
  obtain ⟨hx, hb, hml, hown, hts, hK, hlv, hlo⟩ := C1
  have hl : lv_has ls 1 [(0, .ref h0)] := hl
  refine lv_aload_n hx hb dP_init_0 rfl (lv_at hl 0 rfl) ?_
  refine mk_obj C hl (Nat.le_of_ble_eq_true rfl) OP dP_init_1 ?_
  refine lv_aload_n hx hb dP_init_4 rfl (lv_at hl 0 rfl) ?_
  refine lv_bipush (v := 60) hx hb dP_init_5 (by decide) ?_
  refine mk_na (t := 1) (N' := 60) C hin hA h KP_twofold rfl (by first | exact Or.inl ⟨rfl, rfl⟩ | exact Or.inr ⟨rfl, rfl⟩) (by decide) (by decide) (by decide) (by rw [hrc]; exact Nat.le_of_ble_eq_true rfl) (by rw [hrs]; exact Nat.le_of_ble_eq_true rfl) (Nat.le_of_ble_eq_true rfl) dP_init_7 dP_init_9 (fun q0 H locs h => ?_)
  have h : mk_AT cm_cl D A H0 h0 2 [.ref q0, .null, .null, .null, .null, .null, .null, .int 0] [(q0, .inl (cA 1, 60, .inl (fun _ => 0)))] H locs := h
  refine lv_aload_n hx hb dP_init_12 rfl (lv_at hl 0 rfl) ?_
  refine lv_bipush (v := 60) hx hb dP_init_13 (by decide) ?_
  refine mk_na (t := 0) (N' := 60) C hin hA h KP_typeOf rfl (by first | exact Or.inl ⟨rfl, rfl⟩ | exact Or.inr ⟨rfl, rfl⟩) (by decide) (by decide) (by decide) (by rw [hrc]; exact Nat.le_of_ble_eq_true rfl) (by rw [hrs]; exact Nat.le_of_ble_eq_true rfl) (Nat.le_of_ble_eq_true rfl) dP_init_15 dP_init_17 (fun q1 H locs h => ?_)
  have h : mk_AT cm_cl D A H0 h0 2 [.ref q0, .ref q1, .null, .null, .null, .null, .null, .int 0] [(q0, .inl (cA 1, 60, .inl (fun _ => 0))), (q1, .inl (cA 0, 60, .inl (fun _ => 0)))] H locs := h
  refine lv_aload_n hx hb dP_init_20 rfl (lv_at hl 0 rfl) ?_
  refine lv_bipush (v := 60) hx hb dP_init_21 (by decide) ?_
  refine mk_na (t := 0) (N' := 60) C hin hA h KP_symbol rfl (by first | exact Or.inl ⟨rfl, rfl⟩ | exact Or.inr ⟨rfl, rfl⟩) (by decide) (by decide) (by decide) (by rw [hrc]; exact Nat.le_of_ble_eq_true rfl) (by rw [hrs]; exact Nat.le_of_ble_eq_true rfl) (Nat.le_of_ble_eq_true rfl) dP_init_23 dP_init_25 (fun q2 H locs h => ?_)
  have h : mk_AT cm_cl D A H0 h0 2 [.ref q0, .ref q1, .ref q2, .null, .null, .null, .null, .int 0] [(q0, .inl (cA 1, 60, .inl (fun _ => 0))), (q1, .inl (cA 0, 60, .inl (fun _ => 0))), (q2, .inl (cA 0, 60, .inl (fun _ => 0)))] H locs := h
  refine lv_aload_n hx hb dP_init_28 rfl (lv_at hl 0 rfl) ?_
  refine lv_bipush (v := 60) hx hb dP_init_29 (by decide) ?_
  refine mk_na (t := 0) (N' := 60) C hin hA h KP_first rfl (by first | exact Or.inl ⟨rfl, rfl⟩ | exact Or.inr ⟨rfl, rfl⟩) (by decide) (by decide) (by decide) (by rw [hrc]; exact Nat.le_of_ble_eq_true rfl) (by rw [hrs]; exact Nat.le_of_ble_eq_true rfl) (Nat.le_of_ble_eq_true rfl) dP_init_31 dP_init_33 (fun q3 H locs h => ?_)
  have h : mk_AT cm_cl D A H0 h0 2 [.ref q0, .ref q1, .ref q2, .ref q3, .null, .null, .null, .int 0] [(q0, .inl (cA 1, 60, .inl (fun _ => 0))), (q1, .inl (cA 0, 60, .inl (fun _ => 0))), (q2, .inl (cA 0, 60, .inl (fun _ => 0))), (q3, .inl (cA 0, 60, .inl (fun _ => 0)))] H locs := h
  refine lv_aload_n hx hb dP_init_36 rfl (lv_at hl 0 rfl) ?_
  refine lv_bipush (v := 60) hx hb dP_init_37 (by decide) ?_
  refine mk_na (t := 0) (N' := 60) C hin hA h KP_second rfl (by first | exact Or.inl ⟨rfl, rfl⟩ | exact Or.inr ⟨rfl, rfl⟩) (by decide) (by decide) (by decide) (by rw [hrc]; exact Nat.le_of_ble_eq_true rfl) (by rw [hrs]; exact Nat.le_of_ble_eq_true rfl) (Nat.le_of_ble_eq_true rfl) dP_init_39 dP_init_41 (fun q4 H locs h => ?_)
  have h : mk_AT cm_cl D A H0 h0 2 [.ref q0, .ref q1, .ref q2, .ref q3, .ref q4, .null, .null, .int 0] [(q0, .inl (cA 1, 60, .inl (fun _ => 0))), (q1, .inl (cA 0, 60, .inl (fun _ => 0))), (q2, .inl (cA 0, 60, .inl (fun _ => 0))), (q3, .inl (cA 0, 60, .inl (fun _ => 0))), (q4, .inl (cA 0, 60, .inl (fun _ => 0)))] H locs := h
  refine lv_aload_n hx hb dP_init_44 rfl (lv_at hl 0 rfl) ?_
  refine lv_bipush (v := 60) hx hb dP_init_45 (by decide) ?_
  refine mk_na (t := 0) (N' := 60) C hin hA h KP_depth rfl (by first | exact Or.inl ⟨rfl, rfl⟩ | exact Or.inr ⟨rfl, rfl⟩) (by decide) (by decide) (by decide) (by rw [hrc]; exact Nat.le_of_ble_eq_true rfl) (by rw [hrs]; exact Nat.le_of_ble_eq_true rfl) (Nat.le_of_ble_eq_true rfl) dP_init_47 dP_init_49 (fun q5 H locs h => ?_)
  have h : mk_AT cm_cl D A H0 h0 2 [.ref q0, .ref q1, .ref q2, .ref q3, .ref q4, .ref q5, .null, .int 0] [(q0, .inl (cA 1, 60, .inl (fun _ => 0))), (q1, .inl (cA 0, 60, .inl (fun _ => 0))), (q2, .inl (cA 0, 60, .inl (fun _ => 0))), (q3, .inl (cA 0, 60, .inl (fun _ => 0))), (q4, .inl (cA 0, 60, .inl (fun _ => 0))), (q5, .inl (cA 0, 60, .inl (fun _ => 0)))] H locs := h
  refine lv_aload_n hx hb dP_init_52 rfl (lv_at hl 0 rfl) ?_
  refine lv_bipush (v := 60) hx hb dP_init_53 (by decide) ?_
  refine mk_na (t := 0) (N' := 60) C hin hA h KP_alternatives rfl (by first | exact Or.inl ⟨rfl, rfl⟩ | exact Or.inr ⟨rfl, rfl⟩) (by decide) (by decide) (by decide) (by rw [hrc]; exact Nat.le_of_ble_eq_true rfl) (by rw [hrs]; exact Nat.le_of_ble_eq_true rfl) (Nat.le_of_ble_eq_true rfl) dP_init_55 dP_init_57 (fun q6 H locs h => ?_)
  have h : mk_AT cm_cl D A H0 h0 2 [.ref q0, .ref q1, .ref q2, .ref q3, .ref q4, .ref q5, .ref q6, .int 0] [(q0, .inl (cA 1, 60, .inl (fun _ => 0))), (q1, .inl (cA 0, 60, .inl (fun _ => 0))), (q2, .inl (cA 0, 60, .inl (fun _ => 0))), (q3, .inl (cA 0, 60, .inl (fun _ => 0))), (q4, .inl (cA 0, 60, .inl (fun _ => 0))), (q5, .inl (cA 0, 60, .inl (fun _ => 0))), (q6, .inl (cA 0, 60, .inl (fun _ => 0)))] H locs := h
  refine lv_aload_n hx hb dP_init_60 rfl (lv_at hl 0 rfl) ?_
  refine lv_iconst (v := 0) hx hb dP_init_61 (by decide) ?_
  refine mk_put C hin h KP_count rfl rfl (Nat.le_of_ble_eq_true rfl) dP_init_62 (fun H locs h => ?_)
  have h : mk_AT cm_cl D A H0 h0 2 [.ref q0, .ref q1, .ref q2, .ref q3, .ref q4, .ref q5, .ref q6, .int 0] [(q0, .inl (cA 1, 60, .inl (fun _ => 0))), (q1, .inl (cA 0, 60, .inl (fun _ => 0))), (q2, .inl (cA 0, 60, .inl (fun _ => 0))), (q3, .inl (cA 0, 60, .inl (fun _ => 0))), (q4, .inl (cA 0, 60, .inl (fun _ => 0))), (q5, .inl (cA 0, 60, .inl (fun _ => 0))), (q6, .inl (cA 0, 60, .inl (fun _ => 0)))] H locs := h
  exact hret (fun k => [q0, q1, q2, q3, q4, q5, q6].getD k 0) _ _ _ _ dP_init_65 h.1 h.2.1 h.2.2
def wfV (cA : Nat → ClassId) (h0 : Nat) (u : Nat → Nat) : va_W := [(h0, .inr (3, [.ref (u 0), .ref (u 1), .ref (u 2), .ref (u 3), .int 0])), (u 0, .inl (cA 0, 60, .inl (fun _ => 0))), (u 1, .inl (cA 0, 60, .inl (fun _ => 0))), (u 2, .inl (cA 0, 60, .inl (fun _ => 0))), (u 3, .inl (cA 0, 60, .inl (fun _ => 0)))]
set_option maxRecDepth 100000 in
set_option maxHeartbeats 4000000 in
theorem cV_init (l : Launch) (D : va_G) (cA : Nat → ClassId) (h0 sz : Nat) : Met l yV_init (.code yV_init bV_init 1 none :: ck_T) { frames := 1, cells := 4, slots := 240, locals := 40 * 1 } (va_Pc (.ref h0 :: []) (mk_P (fun _ => True) cm_cl D cA h0 3 [.null, .null, .null, .null, .int 0] sz)) (va_Qv (fun _ => True) (mk_Q cm_cl D cA (va_A [(h0, .inr (3, [.null, .null, .null, .null, .int 0]))] sz) (wfV cA h0)) (va_A [(h0, .inr (3, [.null, .null, .null, .null, .int 0]))] sz)) 4 240 (va_A [(h0, .inr (3, [.null, .null, .null, .null, .int 0]))] sz) := by
  refine mk_met (own := R_V) (by decide +kernel) rfl rfl (Nat.le_of_ble_eq_true rfl) (fun p e R s m args below meth c H0 Q A ls C hZ hin hrc hrs hA hret h hl => ?_)
  have C1 := C
  obtain ⟨hx, hb, hml, hown, hts, hK, hlv, hlo⟩ := C1
  have hl : lv_has ls 1 [(0, .ref h0)] := hl
  refine lv_aload_n hx hb dV_init_0 rfl (lv_at hl 0 rfl) ?_
  refine mk_obj C hl (Nat.le_of_ble_eq_true rfl) OV dV_init_1 ?_
  refine lv_aload_n hx hb dV_init_4 rfl (lv_at hl 0 rfl) ?_
  refine lv_bipush (v := 60) hx hb dV_init_5 (by decide) ?_
  refine mk_na (t := 0) (N' := 60) C hin hA h KV_typeOf rfl (by first | exact Or.inl ⟨rfl, rfl⟩ | exact Or.inr ⟨rfl, rfl⟩) (by decide) (by decide) (by decide) (by rw [hrc]; exact Nat.le_of_ble_eq_true rfl) (by rw [hrs]; exact Nat.le_of_ble_eq_true rfl) (Nat.le_of_ble_eq_true rfl) dV_init_7 dV_init_9 (fun q0 H locs h => ?_)
  have h : mk_AT cm_cl D A H0 h0 3 [.ref q0, .null, .null, .null, .int 0] [(q0, .inl (cA 0, 60, .inl (fun _ => 0)))] H locs := h
  refine lv_aload_n hx hb dV_init_12 rfl (lv_at hl 0 rfl) ?_
  refine lv_bipush (v := 60) hx hb dV_init_13 (by decide) ?_
  refine mk_na (t := 0) (N' := 60) C hin hA h KV_symbol rfl (by first | exact Or.inl ⟨rfl, rfl⟩ | exact Or.inr ⟨rfl, rfl⟩) (by decide) (by decide) (by decide) (by rw [hrc]; exact Nat.le_of_ble_eq_true rfl) (by rw [hrs]; exact Nat.le_of_ble_eq_true rfl) (Nat.le_of_ble_eq_true rfl) dV_init_15 dV_init_17 (fun q1 H locs h => ?_)
  have h : mk_AT cm_cl D A H0 h0 3 [.ref q0, .ref q1, .null, .null, .int 0] [(q0, .inl (cA 0, 60, .inl (fun _ => 0))), (q1, .inl (cA 0, 60, .inl (fun _ => 0)))] H locs := h
  refine lv_aload_n hx hb dV_init_20 rfl (lv_at hl 0 rfl) ?_
  refine lv_bipush (v := 60) hx hb dV_init_21 (by decide) ?_
  refine mk_na (t := 0) (N' := 60) C hin hA h KV_first rfl (by first | exact Or.inl ⟨rfl, rfl⟩ | exact Or.inr ⟨rfl, rfl⟩) (by decide) (by decide) (by decide) (by rw [hrc]; exact Nat.le_of_ble_eq_true rfl) (by rw [hrs]; exact Nat.le_of_ble_eq_true rfl) (Nat.le_of_ble_eq_true rfl) dV_init_23 dV_init_25 (fun q2 H locs h => ?_)
  have h : mk_AT cm_cl D A H0 h0 3 [.ref q0, .ref q1, .ref q2, .null, .int 0] [(q0, .inl (cA 0, 60, .inl (fun _ => 0))), (q1, .inl (cA 0, 60, .inl (fun _ => 0))), (q2, .inl (cA 0, 60, .inl (fun _ => 0)))] H locs := h
  refine lv_aload_n hx hb dV_init_28 rfl (lv_at hl 0 rfl) ?_
  refine lv_bipush (v := 60) hx hb dV_init_29 (by decide) ?_
  refine mk_na (t := 0) (N' := 60) C hin hA h KV_second rfl (by first | exact Or.inl ⟨rfl, rfl⟩ | exact Or.inr ⟨rfl, rfl⟩) (by decide) (by decide) (by decide) (by rw [hrc]; exact Nat.le_of_ble_eq_true rfl) (by rw [hrs]; exact Nat.le_of_ble_eq_true rfl) (Nat.le_of_ble_eq_true rfl) dV_init_31 dV_init_33 (fun q3 H locs h => ?_)
  have h : mk_AT cm_cl D A H0 h0 3 [.ref q0, .ref q1, .ref q2, .ref q3, .int 0] [(q0, .inl (cA 0, 60, .inl (fun _ => 0))), (q1, .inl (cA 0, 60, .inl (fun _ => 0))), (q2, .inl (cA 0, 60, .inl (fun _ => 0))), (q3, .inl (cA 0, 60, .inl (fun _ => 0)))] H locs := h
  refine lv_aload_n hx hb dV_init_36 rfl (lv_at hl 0 rfl) ?_
  refine lv_iconst (v := 0) hx hb dV_init_37 (by decide) ?_
  refine mk_put C hin h KV_count rfl rfl (Nat.le_of_ble_eq_true rfl) dV_init_38 (fun H locs h => ?_)
  have h : mk_AT cm_cl D A H0 h0 3 [.ref q0, .ref q1, .ref q2, .ref q3, .int 0] [(q0, .inl (cA 0, 60, .inl (fun _ => 0))), (q1, .inl (cA 0, 60, .inl (fun _ => 0))), (q2, .inl (cA 0, 60, .inl (fun _ => 0))), (q3, .inl (cA 0, 60, .inl (fun _ => 0)))] H locs := h
  exact hret (fun k => [q0, q1, q2, q3].getD k 0) _ _ _ _ dV_init_41 h.1 h.2.1 h.2.2
def wfM (cA : Nat → ClassId) (h0 : Nat) (a1 : Nat) (u : Nat → Nat) : va_W := [(h0, .inr (4, [.ref a1, .ref (u 0), .ref (u 1), .ref (u 2), .ref (u 3), .ref (u 4), .int (-1), .int 0, .int 0])), (u 0, .inl (cA 0, 9, .inl (fun _ => 0))), (u 1, .inl (cA 0, 16, .inl (fun _ => 0))), (u 2, .inl (cA 0, 16, .inl (fun _ => 0))), (u 3, .inl (cA 0, 256, .inl (fun _ => 0))), (u 4, .inl (cA 0, 256, .inl (fun _ => 0)))]
set_option maxRecDepth 100000 in
set_option maxHeartbeats 4000000 in
theorem cM_init (l : Launch) (D : va_G) (cA : Nat → ClassId) (h0 a1 sz : Nat) : Met l yM_init (.code yM_init bM_init 2 none :: ck_T) { frames := 1, cells := 5, slots := 553, locals := 40 * 1 } (va_Pc (.ref h0 :: [.ref a1]) (mk_P (fun _ => True) cm_cl D cA h0 4 [.null, .null, .null, .null, .null, .null, .int 0, .int 0, .int 0] sz)) (va_Qv (fun _ => True) (mk_Q cm_cl D cA (va_A [(h0, .inr (4, [.null, .null, .null, .null, .null, .null, .int 0, .int 0, .int 0]))] sz) (wfM cA h0 a1)) (va_A [(h0, .inr (4, [.null, .null, .null, .null, .null, .null, .int 0, .int 0, .int 0]))] sz)) 5 553 (va_A [(h0, .inr (4, [.null, .null, .null, .null, .null, .null, .int 0, .int 0, .int 0]))] sz) := by
  refine mk_met (own := R_M) (by decide +kernel) rfl rfl (Nat.le_of_ble_eq_true rfl) (fun p e R s m args below meth c H0 Q A ls C hZ hin hrc hrs hA hret h hl => ?_)
  have C1 := C
  obtain ⟨hx, hb, hml, hown, hts, hK, hlv, hlo⟩ := C1
  have hl : lv_has ls 2 [(0, .ref h0), (1, .ref a1)] := hl
  refine lv_aload_n hx hb dM_init_0 rfl (lv_at hl 0 rfl) ?_
  refine mk_obj C hl (Nat.le_of_ble_eq_true rfl) OM dM_init_1 ?_
  refine lv_aload_n hx hb dM_init_4 rfl (lv_at hl 0 rfl) ?_
  refine lv_bipush (v := 9) hx hb dM_init_5 (by decide) ?_
  refine mk_na (t := 0) (N' := 9) C hin hA h KM_firstClause rfl (by first | exact Or.inl ⟨rfl, rfl⟩ | exact Or.inr ⟨rfl, rfl⟩) (by decide) (by decide) (by decide) (by rw [hrc]; exact Nat.le_of_ble_eq_true rfl) (by rw [hrs]; exact Nat.le_of_ble_eq_true rfl) (Nat.le_of_ble_eq_true rfl) dM_init_7 dM_init_9 (fun q0 H locs h => ?_)
  have h : mk_AT cm_cl D A H0 h0 4 [.null, .ref q0, .null, .null, .null, .null, .int 0, .int 0, .int 0] [(q0, .inl (cA 0, 9, .inl (fun _ => 0)))] H locs := h
  refine lv_aload_n hx hb dM_init_12 rfl (lv_at hl 0 rfl) ?_
  refine lv_bipush (v := 16) hx hb dM_init_13 (by decide) ?_
  refine mk_na (t := 0) (N' := 16) C hin hA h KM_rowOfClause rfl (by first | exact Or.inl ⟨rfl, rfl⟩ | exact Or.inr ⟨rfl, rfl⟩) (by decide) (by decide) (by decide) (by rw [hrc]; exact Nat.le_of_ble_eq_true rfl) (by rw [hrs]; exact Nat.le_of_ble_eq_true rfl) (Nat.le_of_ble_eq_true rfl) dM_init_15 dM_init_17 (fun q1 H locs h => ?_)
  have h : mk_AT cm_cl D A H0 h0 4 [.null, .ref q0, .ref q1, .null, .null, .null, .int 0, .int 0, .int 0] [(q0, .inl (cA 0, 9, .inl (fun _ => 0))), (q1, .inl (cA 0, 16, .inl (fun _ => 0)))] H locs := h
  refine lv_aload_n hx hb dM_init_20 rfl (lv_at hl 0 rfl) ?_
  refine lv_bipush (v := 16) hx hb dM_init_21 (by decide) ?_
  refine mk_na (t := 0) (N' := 16) C hin hA h KM_askers rfl (by first | exact Or.inl ⟨rfl, rfl⟩ | exact Or.inr ⟨rfl, rfl⟩) (by decide) (by decide) (by decide) (by rw [hrc]; exact Nat.le_of_ble_eq_true rfl) (by rw [hrs]; exact Nat.le_of_ble_eq_true rfl) (Nat.le_of_ble_eq_true rfl) dM_init_23 dM_init_25 (fun q2 H locs h => ?_)
  have h : mk_AT cm_cl D A H0 h0 4 [.null, .ref q0, .ref q1, .ref q2, .null, .null, .int 0, .int 0, .int 0] [(q0, .inl (cA 0, 9, .inl (fun _ => 0))), (q1, .inl (cA 0, 16, .inl (fun _ => 0))), (q2, .inl (cA 0, 16, .inl (fun _ => 0)))] H locs := h
  refine lv_aload_n hx hb dM_init_28 rfl (lv_at hl 0 rfl) ?_
  refine lv_sipush (v := 256) hx hb dM_init_29 (by decide) ?_
  refine mk_na (t := 0) (N' := 256) C hin hA h KM_askedSymbol rfl (by first | exact Or.inl ⟨rfl, rfl⟩ | exact Or.inr ⟨rfl, rfl⟩) (by decide) (by decide) (by decide) (by rw [hrc]; exact Nat.le_of_ble_eq_true rfl) (by rw [hrs]; exact Nat.le_of_ble_eq_true rfl) (Nat.le_of_ble_eq_true rfl) dM_init_32 dM_init_34 (fun q3 H locs h => ?_)
  have h : mk_AT cm_cl D A H0 h0 4 [.null, .ref q0, .ref q1, .ref q2, .ref q3, .null, .int 0, .int 0, .int 0] [(q0, .inl (cA 0, 9, .inl (fun _ => 0))), (q1, .inl (cA 0, 16, .inl (fun _ => 0))), (q2, .inl (cA 0, 16, .inl (fun _ => 0))), (q3, .inl (cA 0, 256, .inl (fun _ => 0)))] H locs := h
  refine lv_aload_n hx hb dM_init_37 rfl (lv_at hl 0 rfl) ?_
  refine lv_sipush (v := 256) hx hb dM_init_38 (by decide) ?_
  refine mk_na (t := 0) (N' := 256) C hin hA h KM_askedType rfl (by first | exact Or.inl ⟨rfl, rfl⟩ | exact Or.inr ⟨rfl, rfl⟩) (by decide) (by decide) (by decide) (by rw [hrc]; exact Nat.le_of_ble_eq_true rfl) (by rw [hrs]; exact Nat.le_of_ble_eq_true rfl) (Nat.le_of_ble_eq_true rfl) dM_init_41 dM_init_43 (fun q4 H locs h => ?_)
  have h : mk_AT cm_cl D A H0 h0 4 [.null, .ref q0, .ref q1, .ref q2, .ref q3, .ref q4, .int 0, .int 0, .int 0] [(q0, .inl (cA 0, 9, .inl (fun _ => 0))), (q1, .inl (cA 0, 16, .inl (fun _ => 0))), (q2, .inl (cA 0, 16, .inl (fun _ => 0))), (q3, .inl (cA 0, 256, .inl (fun _ => 0))), (q4, .inl (cA 0, 256, .inl (fun _ => 0)))] H locs := h
  refine lv_aload_n hx hb dM_init_46 rfl (lv_at hl 0 rfl) ?_
  refine lv_iconst (v := (-1)) hx hb dM_init_47 (by decide) ?_
  refine mk_put C hin h KM_over rfl rfl (Nat.le_of_ble_eq_true rfl) dM_init_48 (fun H locs h => ?_)
  have h : mk_AT cm_cl D A H0 h0 4 [.null, .ref q0, .ref q1, .ref q2, .ref q3, .ref q4, .int (-1), .int 0, .int 0] [(q0, .inl (cA 0, 9, .inl (fun _ => 0))), (q1, .inl (cA 0, 16, .inl (fun _ => 0))), (q2, .inl (cA 0, 16, .inl (fun _ => 0))), (q3, .inl (cA 0, 256, .inl (fun _ => 0))), (q4, .inl (cA 0, 256, .inl (fun _ => 0)))] H locs := h
  refine lv_aload_n hx hb dM_init_51 rfl (lv_at hl 0 rfl) ?_
  refine lv_iconst (v := 0) hx hb dM_init_52 (by decide) ?_
  refine mk_put C hin h KM_rows rfl rfl (Nat.le_of_ble_eq_true rfl) dM_init_53 (fun H locs h => ?_)
  have h : mk_AT cm_cl D A H0 h0 4 [.null, .ref q0, .ref q1, .ref q2, .ref q3, .ref q4, .int (-1), .int 0, .int 0] [(q0, .inl (cA 0, 9, .inl (fun _ => 0))), (q1, .inl (cA 0, 16, .inl (fun _ => 0))), (q2, .inl (cA 0, 16, .inl (fun _ => 0))), (q3, .inl (cA 0, 256, .inl (fun _ => 0))), (q4, .inl (cA 0, 256, .inl (fun _ => 0)))] H locs := h
  refine lv_aload_n hx hb dM_init_56 rfl (lv_at hl 0 rfl) ?_
  refine lv_iconst (v := 0) hx hb dM_init_57 (by decide) ?_
  refine mk_put C hin h KM_clauses rfl rfl (Nat.le_of_ble_eq_true rfl) dM_init_58 (fun H locs h => ?_)
  have h : mk_AT cm_cl D A H0 h0 4 [.null, .ref q0, .ref q1, .ref q2, .ref q3, .ref q4, .int (-1), .int 0, .int 0] [(q0, .inl (cA 0, 9, .inl (fun _ => 0))), (q1, .inl (cA 0, 16, .inl (fun _ => 0))), (q2, .inl (cA 0, 16, .inl (fun _ => 0))), (q3, .inl (cA 0, 256, .inl (fun _ => 0))), (q4, .inl (cA 0, 256, .inl (fun _ => 0)))] H locs := h
  refine lv_aload_n hx hb dM_init_61 rfl (lv_at hl 0 rfl) ?_
  refine lv_aload_n hx hb dM_init_62 rfl (lv_at hl 1 rfl) ?_
  refine mk_put C hin h KM_patterns rfl rfl (Nat.le_of_ble_eq_true rfl) dM_init_63 (fun H locs h => ?_)
  have h : mk_AT cm_cl D A H0 h0 4 [.ref a1, .ref q0, .ref q1, .ref q2, .ref q3, .ref q4, .int (-1), .int 0, .int 0] [(q0, .inl (cA 0, 9, .inl (fun _ => 0))), (q1, .inl (cA 0, 16, .inl (fun _ => 0))), (q2, .inl (cA 0, 16, .inl (fun _ => 0))), (q3, .inl (cA 0, 256, .inl (fun _ => 0))), (q4, .inl (cA 0, 256, .inl (fun _ => 0)))] H locs := h
  exact hret (fun k => [q0, q1, q2, q3, q4].getD k 0) _ _ _ _ dM_init_66 h.1 h.2.1 h.2.2
def wfT (cA : Nat → ClassId) (h0 : Nat) (a1 : Nat) (a2 : Nat) (u : Nat → Nat) : va_W := [(h0, .inr (5, [.ref a1, .ref a2, .ref (u 0), .ref (u 1), .ref (u 2), .ref (u 3), .ref (u 4), .ref (u 5), .ref (u 6), .ref (u 7), .ref (u 8), .ref (u 9), .ref (u 10), .ref (u 11), .int 0, .int 0, .int 0])), (u 0, .inl (cA 0, 60, .inl (fun _ => 0))), (u 1, .inl (cA 0, 60, .inl (fun _ => 0))), (u 2, .inl (cA 0, 60, .inl (fun _ => 0))), (u 3, .inl (cA 0, 60, .inl (fun _ => 0))), (u 4, .inl (cA 0, 60, .inl (fun _ => 0))), (u 5, .inl (cA 0, 60, .inl (fun _ => 0))), (u 6, .inl (cA 0, 60, .inl (fun _ => 0))), (u 7, .inl (cA 0, 60, .inl (fun _ => 0))), (u 8, .inl (cA 0, 60, .inl (fun _ => 0))), (u 9, .inl (cA 0, 60, .inl (fun _ => 0))), (u 10, .inl (cA 1, 60, .inl (fun _ => 0))), (u 11, .inl (cA 0, 32, .inl (fun _ => 0)))]
set_option maxRecDepth 100000 in
set_option maxHeartbeats 4000000 in
theorem cT_init (l : Launch) (D : va_G) (cA : Nat → ClassId) (h0 a1 a2 sz : Nat) : Met l yT_init (.code yT_init bT_init 3 none :: ck_T) { frames := 1, cells := 12, slots := 692, locals := 40 * 1 } (va_Pc (.ref h0 :: [.ref a1, .ref a2]) (mk_P (fun _ => True) cm_cl D cA h0 5 [.null, .null, .null, .null, .null, .null, .null, .null, .null, .null, .null, .null, .null, .null, .int 0, .int 0, .int 0] sz)) (va_Qv (fun _ => True) (mk_Q cm_cl D cA (va_A [(h0, .inr (5, [.null, .null, .null, .null, .null, .null, .null, .null, .null, .null, .null, .null, .null, .null, .int 0, .int 0, .int 0]))] sz) (wfT cA h0 a1 a2)) (va_A [(h0, .inr (5, [.null, .null, .null, .null, .null, .null, .null, .null, .null, .null, .null, .null, .null, .null, .int 0, .int 0, .int 0]))] sz)) 12 692 (va_A [(h0, .inr (5, [.null, .null, .null, .null, .null, .null, .null, .null, .null, .null, .null, .null, .null, .null, .int 0, .int 0, .int 0]))] sz) := by
  refine mk_met (own := R_T) (by decide +kernel) rfl rfl (Nat.le_of_ble_eq_true rfl) (fun p e R s m args below meth c H0 Q A ls C hZ hin hrc hrs hA hret h hl => ?_)
  have C1 := C
  obtain ⟨hx, hb, hml, hown, hts, hK, hlv, hlo⟩ := C1
  have hl : lv_has ls 3 [(0, .ref h0), (1, .ref a1), (2, .ref a2)] := hl
  refine lv_aload_n hx hb dT_init_0 rfl (lv_at hl 0 rfl) ?_
  refine mk_obj C hl (Nat.le_of_ble_eq_true rfl) OT dT_init_1 ?_
  refine lv_aload_n hx hb dT_init_4 rfl (lv_at hl 0 rfl) ?_
  refine lv_bipush (v := 60) hx hb dT_init_5 (by decide) ?_
  refine mk_na (t := 0) (N' := 60) C hin hA h KT_left rfl (by first | exact Or.inl ⟨rfl, rfl⟩ | exact Or.inr ⟨rfl, rfl⟩) (by decide) (by decide) (by decide) (by rw [hrc]; exact Nat.le_of_ble_eq_true rfl) (by rw [hrs]; exact Nat.le_of_ble_eq_true rfl) (Nat.le_of_ble_eq_true rfl) dT_init_7 dT_init_9 (fun q0 H locs h => ?_)
  have h : mk_AT cm_cl D A H0 h0 5 [.null, .null, .ref q0, .null, .null, .null, .null, .null, .null, .null, .null, .null, .null, .null, .int 0, .int 0, .int 0] [(q0, .inl (cA 0, 60, .inl (fun _ => 0)))] H locs := h
  refine lv_aload_n hx hb dT_init_12 rfl (lv_at hl 0 rfl) ?_
  refine lv_bipush (v := 60) hx hb dT_init_13 (by decide) ?_
  refine mk_na (t := 0) (N' := 60) C hin hA h KT_open rfl (by first | exact Or.inl ⟨rfl, rfl⟩ | exact Or.inr ⟨rfl, rfl⟩) (by decide) (by decide) (by decide) (by rw [hrc]; exact Nat.le_of_ble_eq_true rfl) (by rw [hrs]; exact Nat.le_of_ble_eq_true rfl) (Nat.le_of_ble_eq_true rfl) dT_init_15 dT_init_17 (fun q1 H locs h => ?_)
  have h : mk_AT cm_cl D A H0 h0 5 [.null, .null, .ref q0, .ref q1, .null, .null, .null, .null, .null, .null, .null, .null, .null, .null, .int 0, .int 0, .int 0] [(q0, .inl (cA 0, 60, .inl (fun _ => 0))), (q1, .inl (cA 0, 60, .inl (fun _ => 0)))] H locs := h
  refine lv_aload_n hx hb dT_init_20 rfl (lv_at hl 0 rfl) ?_
  refine lv_bipush (v := 60) hx hb dT_init_21 (by decide) ?_
  refine mk_na (t := 0) (N' := 60) C hin hA h KT_label rfl (by first | exact Or.inl ⟨rfl, rfl⟩ | exact Or.inr ⟨rfl, rfl⟩) (by decide) (by decide) (by decide) (by rw [hrc]; exact Nat.le_of_ble_eq_true rfl) (by rw [hrs]; exact Nat.le_of_ble_eq_true rfl) (Nat.le_of_ble_eq_true rfl) dT_init_23 dT_init_25 (fun q2 H locs h => ?_)
  have h : mk_AT cm_cl D A H0 h0 5 [.null, .null, .ref q0, .ref q1, .ref q2, .null, .null, .null, .null, .null, .null, .null, .null, .null, .int 0, .int 0, .int 0] [(q0, .inl (cA 0, 60, .inl (fun _ => 0))), (q1, .inl (cA 0, 60, .inl (fun _ => 0))), (q2, .inl (cA 0, 60, .inl (fun _ => 0)))] H locs := h
  refine lv_aload_n hx hb dT_init_28 rfl (lv_at hl 0 rfl) ?_
  refine lv_bipush (v := 60) hx hb dT_init_29 (by decide) ?_
  refine mk_na (t := 0) (N' := 60) C hin hA h KT_above rfl (by first | exact Or.inl ⟨rfl, rfl⟩ | exact Or.inr ⟨rfl, rfl⟩) (by decide) (by decide) (by decide) (by rw [hrc]; exact Nat.le_of_ble_eq_true rfl) (by rw [hrs]; exact Nat.le_of_ble_eq_true rfl) (Nat.le_of_ble_eq_true rfl) dT_init_31 dT_init_33 (fun q3 H locs h => ?_)
  have h : mk_AT cm_cl D A H0 h0 5 [.null, .null, .ref q0, .ref q1, .ref q2, .ref q3, .null, .null, .null, .null, .null, .null, .null, .null, .int 0, .int 0, .int 0] [(q0, .inl (cA 0, 60, .inl (fun _ => 0))), (q1, .inl (cA 0, 60, .inl (fun _ => 0))), (q2, .inl (cA 0, 60, .inl (fun _ => 0))), (q3, .inl (cA 0, 60, .inl (fun _ => 0)))] H locs := h
  refine lv_aload_n hx hb dT_init_36 rfl (lv_at hl 0 rfl) ?_
  refine lv_bipush (v := 60) hx hb dT_init_37 (by decide) ?_
  refine mk_na (t := 0) (N' := 60) C hin hA h KT_place rfl (by first | exact Or.inl ⟨rfl, rfl⟩ | exact Or.inr ⟨rfl, rfl⟩) (by decide) (by decide) (by decide) (by rw [hrc]; exact Nat.le_of_ble_eq_true rfl) (by rw [hrs]; exact Nat.le_of_ble_eq_true rfl) (Nat.le_of_ble_eq_true rfl) dT_init_39 dT_init_41 (fun q4 H locs h => ?_)
  have h : mk_AT cm_cl D A H0 h0 5 [.null, .null, .ref q0, .ref q1, .ref q2, .ref q3, .ref q4, .null, .null, .null, .null, .null, .null, .null, .int 0, .int 0, .int 0] [(q0, .inl (cA 0, 60, .inl (fun _ => 0))), (q1, .inl (cA 0, 60, .inl (fun _ => 0))), (q2, .inl (cA 0, 60, .inl (fun _ => 0))), (q3, .inl (cA 0, 60, .inl (fun _ => 0))), (q4, .inl (cA 0, 60, .inl (fun _ => 0)))] H locs := h
  refine lv_aload_n hx hb dT_init_44 rfl (lv_at hl 0 rfl) ?_
  refine lv_bipush (v := 60) hx hb dT_init_45 (by decide) ?_
  refine mk_na (t := 0) (N' := 60) C hin hA h KT_testType rfl (by first | exact Or.inl ⟨rfl, rfl⟩ | exact Or.inr ⟨rfl, rfl⟩) (by decide) (by decide) (by decide) (by rw [hrc]; exact Nat.le_of_ble_eq_true rfl) (by rw [hrs]; exact Nat.le_of_ble_eq_true rfl) (Nat.le_of_ble_eq_true rfl) dT_init_47 dT_init_49 (fun q5 H locs h => ?_)
  have h : mk_AT cm_cl D A H0 h0 5 [.null, .null, .ref q0, .ref q1, .ref q2, .ref q3, .ref q4, .ref q5, .null, .null, .null, .null, .null, .null, .int 0, .int 0, .int 0] [(q0, .inl (cA 0, 60, .inl (fun _ => 0))), (q1, .inl (cA 0, 60, .inl (fun _ => 0))), (q2, .inl (cA 0, 60, .inl (fun _ => 0))), (q3, .inl (cA 0, 60, .inl (fun _ => 0))), (q4, .inl (cA 0, 60, .inl (fun _ => 0))), (q5, .inl (cA 0, 60, .inl (fun _ => 0)))] H locs := h
  refine lv_aload_n hx hb dT_init_52 rfl (lv_at hl 0 rfl) ?_
  refine lv_bipush (v := 60) hx hb dT_init_53 (by decide) ?_
  refine mk_na (t := 0) (N' := 60) C hin hA h KT_clause rfl (by first | exact Or.inl ⟨rfl, rfl⟩ | exact Or.inr ⟨rfl, rfl⟩) (by decide) (by decide) (by decide) (by rw [hrc]; exact Nat.le_of_ble_eq_true rfl) (by rw [hrs]; exact Nat.le_of_ble_eq_true rfl) (Nat.le_of_ble_eq_true rfl) dT_init_55 dT_init_57 (fun q6 H locs h => ?_)
  have h : mk_AT cm_cl D A H0 h0 5 [.null, .null, .ref q0, .ref q1, .ref q2, .ref q3, .ref q4, .ref q5, .ref q6, .null, .null, .null, .null, .null, .int 0, .int 0, .int 0] [(q0, .inl (cA 0, 60, .inl (fun _ => 0))), (q1, .inl (cA 0, 60, .inl (fun _ => 0))), (q2, .inl (cA 0, 60, .inl (fun _ => 0))), (q3, .inl (cA 0, 60, .inl (fun _ => 0))), (q4, .inl (cA 0, 60, .inl (fun _ => 0))), (q5, .inl (cA 0, 60, .inl (fun _ => 0))), (q6, .inl (cA 0, 60, .inl (fun _ => 0)))] H locs := h
  refine lv_aload_n hx hb dT_init_60 rfl (lv_at hl 0 rfl) ?_
  refine lv_bipush (v := 60) hx hb dT_init_61 (by decide) ?_
  refine mk_na (t := 0) (N' := 60) C hin hA h KT_firstBranch rfl (by first | exact Or.inl ⟨rfl, rfl⟩ | exact Or.inr ⟨rfl, rfl⟩) (by decide) (by decide) (by decide) (by rw [hrc]; exact Nat.le_of_ble_eq_true rfl) (by rw [hrs]; exact Nat.le_of_ble_eq_true rfl) (Nat.le_of_ble_eq_true rfl) dT_init_63 dT_init_65 (fun q7 H locs h => ?_)
  have h : mk_AT cm_cl D A H0 h0 5 [.null, .null, .ref q0, .ref q1, .ref q2, .ref q3, .ref q4, .ref q5, .ref q6, .ref q7, .null, .null, .null, .null, .int 0, .int 0, .int 0] [(q0, .inl (cA 0, 60, .inl (fun _ => 0))), (q1, .inl (cA 0, 60, .inl (fun _ => 0))), (q2, .inl (cA 0, 60, .inl (fun _ => 0))), (q3, .inl (cA 0, 60, .inl (fun _ => 0))), (q4, .inl (cA 0, 60, .inl (fun _ => 0))), (q5, .inl (cA 0, 60, .inl (fun _ => 0))), (q6, .inl (cA 0, 60, .inl (fun _ => 0))), (q7, .inl (cA 0, 60, .inl (fun _ => 0)))] H locs := h
  refine lv_aload_n hx hb dT_init_68 rfl (lv_at hl 0 rfl) ?_
  refine lv_bipush (v := 60) hx hb dT_init_69 (by decide) ?_
  refine mk_na (t := 0) (N' := 60) C hin hA h KT_branchCount rfl (by first | exact Or.inl ⟨rfl, rfl⟩ | exact Or.inr ⟨rfl, rfl⟩) (by decide) (by decide) (by decide) (by rw [hrc]; exact Nat.le_of_ble_eq_true rfl) (by rw [hrs]; exact Nat.le_of_ble_eq_true rfl) (Nat.le_of_ble_eq_true rfl) dT_init_71 dT_init_73 (fun q8 H locs h => ?_)
  have h : mk_AT cm_cl D A H0 h0 5 [.null, .null, .ref q0, .ref q1, .ref q2, .ref q3, .ref q4, .ref q5, .ref q6, .ref q7, .ref q8, .null, .null, .null, .int 0, .int 0, .int 0] [(q0, .inl (cA 0, 60, .inl (fun _ => 0))), (q1, .inl (cA 0, 60, .inl (fun _ => 0))), (q2, .inl (cA 0, 60, .inl (fun _ => 0))), (q3, .inl (cA 0, 60, .inl (fun _ => 0))), (q4, .inl (cA 0, 60, .inl (fun _ => 0))), (q5, .inl (cA 0, 60, .inl (fun _ => 0))), (q6, .inl (cA 0, 60, .inl (fun _ => 0))), (q7, .inl (cA 0, 60, .inl (fun _ => 0))), (q8, .inl (cA 0, 60, .inl (fun _ => 0)))] H locs := h
  refine lv_aload_n hx hb dT_init_76 rfl (lv_at hl 0 rfl) ?_
  refine lv_bipush (v := 60) hx hb dT_init_77 (by decide) ?_
  refine mk_na (t := 0) (N' := 60) C hin hA h KT_kind rfl (by first | exact Or.inl ⟨rfl, rfl⟩ | exact Or.inr ⟨rfl, rfl⟩) (by decide) (by decide) (by decide) (by rw [hrc]; exact Nat.le_of_ble_eq_true rfl) (by rw [hrs]; exact Nat.le_of_ble_eq_true rfl) (Nat.le_of_ble_eq_true rfl) dT_init_79 dT_init_81 (fun q9 H locs h => ?_)
  have h : mk_AT cm_cl D A H0 h0 5 [.null, .null, .ref q0, .ref q1, .ref q2, .ref q3, .ref q4, .ref q5, .ref q6, .ref q7, .ref q8, .ref q9, .null, .null, .int 0, .int 0, .int 0] [(q0, .inl (cA 0, 60, .inl (fun _ => 0))), (q1, .inl (cA 0, 60, .inl (fun _ => 0))), (q2, .inl (cA 0, 60, .inl (fun _ => 0))), (q3, .inl (cA 0, 60, .inl (fun _ => 0))), (q4, .inl (cA 0, 60, .inl (fun _ => 0))), (q5, .inl (cA 0, 60, .inl (fun _ => 0))), (q6, .inl (cA 0, 60, .inl (fun _ => 0))), (q7, .inl (cA 0, 60, .inl (fun _ => 0))), (q8, .inl (cA 0, 60, .inl (fun _ => 0))), (q9, .inl (cA 0, 60, .inl (fun _ => 0)))] H locs := h
  refine lv_aload_n hx hb dT_init_84 rfl (lv_at hl 0 rfl) ?_
  refine lv_bipush (v := 60) hx hb dT_init_85 (by decide) ?_
  refine mk_na (t := 1) (N' := 60) C hin hA h KT_failing rfl (by first | exact Or.inl ⟨rfl, rfl⟩ | exact Or.inr ⟨rfl, rfl⟩) (by decide) (by decide) (by decide) (by rw [hrc]; exact Nat.le_of_ble_eq_true rfl) (by rw [hrs]; exact Nat.le_of_ble_eq_true rfl) (Nat.le_of_ble_eq_true rfl) dT_init_87 dT_init_89 (fun q10 H locs h => ?_)
  have h : mk_AT cm_cl D A H0 h0 5 [.null, .null, .ref q0, .ref q1, .ref q2, .ref q3, .ref q4, .ref q5, .ref q6, .ref q7, .ref q8, .ref q9, .ref q10, .null, .int 0, .int 0, .int 0] [(q0, .inl (cA 0, 60, .inl (fun _ => 0))), (q1, .inl (cA 0, 60, .inl (fun _ => 0))), (q2, .inl (cA 0, 60, .inl (fun _ => 0))), (q3, .inl (cA 0, 60, .inl (fun _ => 0))), (q4, .inl (cA 0, 60, .inl (fun _ => 0))), (q5, .inl (cA 0, 60, .inl (fun _ => 0))), (q6, .inl (cA 0, 60, .inl (fun _ => 0))), (q7, .inl (cA 0, 60, .inl (fun _ => 0))), (q8, .inl (cA 0, 60, .inl (fun _ => 0))), (q9, .inl (cA 0, 60, .inl (fun _ => 0))), (q10, .inl (cA 1, 60, .inl (fun _ => 0)))] H locs := h
  refine lv_aload_n hx hb dT_init_92 rfl (lv_at hl 0 rfl) ?_
  refine lv_bipush (v := 32) hx hb dT_init_93 (by decide) ?_
  refine mk_na (t := 0) (N' := 32) C hin hA h KT_valueAt rfl (by first | exact Or.inl ⟨rfl, rfl⟩ | exact Or.inr ⟨rfl, rfl⟩) (by decide) (by decide) (by decide) (by rw [hrc]; exact Nat.le_of_ble_eq_true rfl) (by rw [hrs]; exact Nat.le_of_ble_eq_true rfl) (Nat.le_of_ble_eq_true rfl) dT_init_95 dT_init_97 (fun q11 H locs h => ?_)
  have h : mk_AT cm_cl D A H0 h0 5 [.null, .null, .ref q0, .ref q1, .ref q2, .ref q3, .ref q4, .ref q5, .ref q6, .ref q7, .ref q8, .ref q9, .ref q10, .ref q11, .int 0, .int 0, .int 0] [(q0, .inl (cA 0, 60, .inl (fun _ => 0))), (q1, .inl (cA 0, 60, .inl (fun _ => 0))), (q2, .inl (cA 0, 60, .inl (fun _ => 0))), (q3, .inl (cA 0, 60, .inl (fun _ => 0))), (q4, .inl (cA 0, 60, .inl (fun _ => 0))), (q5, .inl (cA 0, 60, .inl (fun _ => 0))), (q6, .inl (cA 0, 60, .inl (fun _ => 0))), (q7, .inl (cA 0, 60, .inl (fun _ => 0))), (q8, .inl (cA 0, 60, .inl (fun _ => 0))), (q9, .inl (cA 0, 60, .inl (fun _ => 0))), (q10, .inl (cA 1, 60, .inl (fun _ => 0))), (q11, .inl (cA 0, 32, .inl (fun _ => 0)))] H locs := h
  refine lv_aload_n hx hb dT_init_100 rfl (lv_at hl 0 rfl) ?_
  refine lv_iconst (v := 0) hx hb dT_init_101 (by decide) ?_
  refine mk_put C hin h KT_size rfl rfl (Nat.le_of_ble_eq_true rfl) dT_init_102 (fun H locs h => ?_)
  have h : mk_AT cm_cl D A H0 h0 5 [.null, .null, .ref q0, .ref q1, .ref q2, .ref q3, .ref q4, .ref q5, .ref q6, .ref q7, .ref q8, .ref q9, .ref q10, .ref q11, .int 0, .int 0, .int 0] [(q0, .inl (cA 0, 60, .inl (fun _ => 0))), (q1, .inl (cA 0, 60, .inl (fun _ => 0))), (q2, .inl (cA 0, 60, .inl (fun _ => 0))), (q3, .inl (cA 0, 60, .inl (fun _ => 0))), (q4, .inl (cA 0, 60, .inl (fun _ => 0))), (q5, .inl (cA 0, 60, .inl (fun _ => 0))), (q6, .inl (cA 0, 60, .inl (fun _ => 0))), (q7, .inl (cA 0, 60, .inl (fun _ => 0))), (q8, .inl (cA 0, 60, .inl (fun _ => 0))), (q9, .inl (cA 0, 60, .inl (fun _ => 0))), (q10, .inl (cA 1, 60, .inl (fun _ => 0))), (q11, .inl (cA 0, 32, .inl (fun _ => 0)))] H locs := h
  refine lv_aload_n hx hb dT_init_105 rfl (lv_at hl 0 rfl) ?_
  refine lv_iconst (v := 0) hx hb dT_init_106 (by decide) ?_
  refine mk_put C hin h KT_caught rfl rfl (Nat.le_of_ble_eq_true rfl) dT_init_107 (fun H locs h => ?_)
  have h : mk_AT cm_cl D A H0 h0 5 [.null, .null, .ref q0, .ref q1, .ref q2, .ref q3, .ref q4, .ref q5, .ref q6, .ref q7, .ref q8, .ref q9, .ref q10, .ref q11, .int 0, .int 0, .int 0] [(q0, .inl (cA 0, 60, .inl (fun _ => 0))), (q1, .inl (cA 0, 60, .inl (fun _ => 0))), (q2, .inl (cA 0, 60, .inl (fun _ => 0))), (q3, .inl (cA 0, 60, .inl (fun _ => 0))), (q4, .inl (cA 0, 60, .inl (fun _ => 0))), (q5, .inl (cA 0, 60, .inl (fun _ => 0))), (q6, .inl (cA 0, 60, .inl (fun _ => 0))), (q7, .inl (cA 0, 60, .inl (fun _ => 0))), (q8, .inl (cA 0, 60, .inl (fun _ => 0))), (q9, .inl (cA 0, 60, .inl (fun _ => 0))), (q10, .inl (cA 1, 60, .inl (fun _ => 0))), (q11, .inl (cA 0, 32, .inl (fun _ => 0)))] H locs := h
  refine lv_aload_n hx hb dT_init_110 rfl (lv_at hl 0 rfl) ?_
  refine lv_iconst (v := 0) hx hb dT_init_111 (by decide) ?_
  refine mk_put C hin h KT_there rfl rfl (Nat.le_of_ble_eq_true rfl) dT_init_112 (fun H locs h => ?_)
  have h : mk_AT cm_cl D A H0 h0 5 [.null, .null, .ref q0, .ref q1, .ref q2, .ref q3, .ref q4, .ref q5, .ref q6, .ref q7, .ref q8, .ref q9, .ref q10, .ref q11, .int 0, .int 0, .int 0] [(q0, .inl (cA 0, 60, .inl (fun _ => 0))), (q1, .inl (cA 0, 60, .inl (fun _ => 0))), (q2, .inl (cA 0, 60, .inl (fun _ => 0))), (q3, .inl (cA 0, 60, .inl (fun _ => 0))), (q4, .inl (cA 0, 60, .inl (fun _ => 0))), (q5, .inl (cA 0, 60, .inl (fun _ => 0))), (q6, .inl (cA 0, 60, .inl (fun _ => 0))), (q7, .inl (cA 0, 60, .inl (fun _ => 0))), (q8, .inl (cA 0, 60, .inl (fun _ => 0))), (q9, .inl (cA 0, 60, .inl (fun _ => 0))), (q10, .inl (cA 1, 60, .inl (fun _ => 0))), (q11, .inl (cA 0, 32, .inl (fun _ => 0)))] H locs := h
  refine lv_aload_n hx hb dT_init_115 rfl (lv_at hl 0 rfl) ?_
  refine lv_aload_n hx hb dT_init_116 rfl (lv_at hl 1 rfl) ?_
  refine mk_put C hin h KT_declared rfl rfl (Nat.le_of_ble_eq_true rfl) dT_init_117 (fun H locs h => ?_)
  have h : mk_AT cm_cl D A H0 h0 5 [.ref a1, .null, .ref q0, .ref q1, .ref q2, .ref q3, .ref q4, .ref q5, .ref q6, .ref q7, .ref q8, .ref q9, .ref q10, .ref q11, .int 0, .int 0, .int 0] [(q0, .inl (cA 0, 60, .inl (fun _ => 0))), (q1, .inl (cA 0, 60, .inl (fun _ => 0))), (q2, .inl (cA 0, 60, .inl (fun _ => 0))), (q3, .inl (cA 0, 60, .inl (fun _ => 0))), (q4, .inl (cA 0, 60, .inl (fun _ => 0))), (q5, .inl (cA 0, 60, .inl (fun _ => 0))), (q6, .inl (cA 0, 60, .inl (fun _ => 0))), (q7, .inl (cA 0, 60, .inl (fun _ => 0))), (q8, .inl (cA 0, 60, .inl (fun _ => 0))), (q9, .inl (cA 0, 60, .inl (fun _ => 0))), (q10, .inl (cA 1, 60, .inl (fun _ => 0))), (q11, .inl (cA 0, 32, .inl (fun _ => 0)))] H locs := h
  refine lv_aload_n hx hb dT_init_120 rfl (lv_at hl 0 rfl) ?_
  refine lv_aload_n hx hb dT_init_121 rfl (lv_at hl 2 rfl) ?_
  refine mk_put C hin h KT_match rfl rfl (Nat.le_of_ble_eq_true rfl) dT_init_122 (fun H locs h => ?_)
  have h : mk_AT cm_cl D A H0 h0 5 [.ref a1, .ref a2, .ref q0, .ref q1, .ref q2, .ref q3, .ref q4, .ref q5, .ref q6, .ref q7, .ref q8, .ref q9, .ref q10, .ref q11, .int 0, .int 0, .int 0] [(q0, .inl (cA 0, 60, .inl (fun _ => 0))), (q1, .inl (cA 0, 60, .inl (fun _ => 0))), (q2, .inl (cA 0, 60, .inl (fun _ => 0))), (q3, .inl (cA 0, 60, .inl (fun _ => 0))), (q4, .inl (cA 0, 60, .inl (fun _ => 0))), (q5, .inl (cA 0, 60, .inl (fun _ => 0))), (q6, .inl (cA 0, 60, .inl (fun _ => 0))), (q7, .inl (cA 0, 60, .inl (fun _ => 0))), (q8, .inl (cA 0, 60, .inl (fun _ => 0))), (q9, .inl (cA 0, 60, .inl (fun _ => 0))), (q10, .inl (cA 1, 60, .inl (fun _ => 0))), (q11, .inl (cA 0, 32, .inl (fun _ => 0)))] H locs := h
  exact hret (fun k => [q0, q1, q2, q3, q4, q5, q6, q7, q8, q9, q10, q11].getD k 0) _ _ _ _ dT_init_125 h.1 h.2.1 h.2.2
def wfG (cA : Nat → ClassId) (h0 : Nat) (a1 : Nat) (a2 : Nat) (u : Nat → Nat) : va_W := [(h0, .inr (6, [.ref a1, .ref a2, .ref (u 0), .ref (u 1), .ref (u 2), .ref (u 3), .int 0])), (u 0, .inl (cA 0, 32, .inl (fun _ => 0))), (u 1, .inl (cA 0, 32, .inl (fun _ => 0))), (u 2, .inl (cA 0, 32, .inl (fun _ => 0))), (u 3, .inl (cA 0, 32, .inl (fun _ => 0)))]
set_option maxRecDepth 100000 in
set_option maxHeartbeats 4000000 in
theorem cG_init (l : Launch) (D : va_G) (cA : Nat → ClassId) (h0 a1 a2 sz : Nat) : Met l yG_init (.code yG_init bG_init 3 none :: ck_T) { frames := 1, cells := 4, slots := 128, locals := 40 * 1 } (va_Pc (.ref h0 :: [.ref a1, .ref a2]) (mk_P (fun _ => True) cm_cl D cA h0 6 [.null, .null, .null, .null, .null, .null, .int 0] sz)) (va_Qv (fun _ => True) (mk_Q cm_cl D cA (va_A [(h0, .inr (6, [.null, .null, .null, .null, .null, .null, .int 0]))] sz) (wfG cA h0 a1 a2)) (va_A [(h0, .inr (6, [.null, .null, .null, .null, .null, .null, .int 0]))] sz)) 4 128 (va_A [(h0, .inr (6, [.null, .null, .null, .null, .null, .null, .int 0]))] sz) := by
  refine mk_met (own := R_G) (by decide +kernel) rfl rfl (Nat.le_of_ble_eq_true rfl) (fun p e R s m args below meth c H0 Q A ls C hZ hin hrc hrs hA hret h hl => ?_)
  have C1 := C
  obtain ⟨hx, hb, hml, hown, hts, hK, hlv, hlo⟩ := C1
  have hl : lv_has ls 3 [(0, .ref h0), (1, .ref a1), (2, .ref a2)] := hl
  refine lv_aload_n hx hb dG_init_0 rfl (lv_at hl 0 rfl) ?_
  refine mk_obj C hl (Nat.le_of_ble_eq_true rfl) OG dG_init_1 ?_
  refine lv_aload_n hx hb dG_init_4 rfl (lv_at hl 0 rfl) ?_
  refine lv_bipush (v := 32) hx hb dG_init_5 (by decide) ?_
  refine mk_na (t := 0) (N' := 32) C hin hA h KG_kindAt rfl (by first | exact Or.inl ⟨rfl, rfl⟩ | exact Or.inr ⟨rfl, rfl⟩) (by decide) (by decide) (by decide) (by rw [hrc]; exact Nat.le_of_ble_eq_true rfl) (by rw [hrs]; exact Nat.le_of_ble_eq_true rfl) (Nat.le_of_ble_eq_true rfl) dG_init_7 dG_init_9 (fun q0 H locs h => ?_)
  have h : mk_AT cm_cl D A H0 h0 6 [.null, .null, .ref q0, .null, .null, .null, .int 0] [(q0, .inl (cA 0, 32, .inl (fun _ => 0)))] H locs := h
  refine lv_aload_n hx hb dG_init_12 rfl (lv_at hl 0 rfl) ?_
  refine lv_bipush (v := 32) hx hb dG_init_13 (by decide) ?_
  refine mk_na (t := 0) (N' := 32) C hin hA h KG_symbolAt rfl (by first | exact Or.inl ⟨rfl, rfl⟩ | exact Or.inr ⟨rfl, rfl⟩) (by decide) (by decide) (by decide) (by rw [hrc]; exact Nat.le_of_ble_eq_true rfl) (by rw [hrs]; exact Nat.le_of_ble_eq_true rfl) (Nat.le_of_ble_eq_true rfl) dG_init_15 dG_init_17 (fun q1 H locs h => ?_)
  have h : mk_AT cm_cl D A H0 h0 6 [.null, .null, .ref q0, .ref q1, .null, .null, .int 0] [(q0, .inl (cA 0, 32, .inl (fun _ => 0))), (q1, .inl (cA 0, 32, .inl (fun _ => 0)))] H locs := h
  refine lv_aload_n hx hb dG_init_20 rfl (lv_at hl 0 rfl) ?_
  refine lv_bipush (v := 32) hx hb dG_init_21 (by decide) ?_
  refine mk_na (t := 0) (N' := 32) C hin hA h KG_kind rfl (by first | exact Or.inl ⟨rfl, rfl⟩ | exact Or.inr ⟨rfl, rfl⟩) (by decide) (by decide) (by decide) (by rw [hrc]; exact Nat.le_of_ble_eq_true rfl) (by rw [hrs]; exact Nat.le_of_ble_eq_true rfl) (Nat.le_of_ble_eq_true rfl) dG_init_23 dG_init_25 (fun q2 H locs h => ?_)
  have h : mk_AT cm_cl D A H0 h0 6 [.null, .null, .ref q0, .ref q1, .ref q2, .null, .int 0] [(q0, .inl (cA 0, 32, .inl (fun _ => 0))), (q1, .inl (cA 0, 32, .inl (fun _ => 0))), (q2, .inl (cA 0, 32, .inl (fun _ => 0)))] H locs := h
  refine lv_aload_n hx hb dG_init_28 rfl (lv_at hl 0 rfl) ?_
  refine lv_bipush (v := 32) hx hb dG_init_29 (by decide) ?_
  refine mk_na (t := 0) (N' := 32) C hin hA h KG_symbol rfl (by first | exact Or.inl ⟨rfl, rfl⟩ | exact Or.inr ⟨rfl, rfl⟩) (by decide) (by decide) (by decide) (by rw [hrc]; exact Nat.le_of_ble_eq_true rfl) (by rw [hrs]; exact Nat.le_of_ble_eq_true rfl) (Nat.le_of_ble_eq_true rfl) dG_init_31 dG_init_33 (fun q3 H locs h => ?_)
  have h : mk_AT cm_cl D A H0 h0 6 [.null, .null, .ref q0, .ref q1, .ref q2, .ref q3, .int 0] [(q0, .inl (cA 0, 32, .inl (fun _ => 0))), (q1, .inl (cA 0, 32, .inl (fun _ => 0))), (q2, .inl (cA 0, 32, .inl (fun _ => 0))), (q3, .inl (cA 0, 32, .inl (fun _ => 0)))] H locs := h
  refine lv_aload_n hx hb dG_init_36 rfl (lv_at hl 0 rfl) ?_
  refine lv_iconst (v := 0) hx hb dG_init_37 (by decide) ?_
  refine mk_put C hin h KG_length rfl rfl (Nat.le_of_ble_eq_true rfl) dG_init_38 (fun H locs h => ?_)
  have h : mk_AT cm_cl D A H0 h0 6 [.null, .null, .ref q0, .ref q1, .ref q2, .ref q3, .int 0] [(q0, .inl (cA 0, 32, .inl (fun _ => 0))), (q1, .inl (cA 0, 32, .inl (fun _ => 0))), (q2, .inl (cA 0, 32, .inl (fun _ => 0))), (q3, .inl (cA 0, 32, .inl (fun _ => 0)))] H locs := h
  refine lv_aload_n hx hb dG_init_41 rfl (lv_at hl 0 rfl) ?_
  refine lv_aload_n hx hb dG_init_42 rfl (lv_at hl 1 rfl) ?_
  refine mk_put C hin h KG_declared rfl rfl (Nat.le_of_ble_eq_true rfl) dG_init_43 (fun H locs h => ?_)
  have h : mk_AT cm_cl D A H0 h0 6 [.ref a1, .null, .ref q0, .ref q1, .ref q2, .ref q3, .int 0] [(q0, .inl (cA 0, 32, .inl (fun _ => 0))), (q1, .inl (cA 0, 32, .inl (fun _ => 0))), (q2, .inl (cA 0, 32, .inl (fun _ => 0))), (q3, .inl (cA 0, 32, .inl (fun _ => 0)))] H locs := h
  refine lv_aload_n hx hb dG_init_46 rfl (lv_at hl 0 rfl) ?_
  refine lv_aload_n hx hb dG_init_47 rfl (lv_at hl 2 rfl) ?_
  refine mk_put C hin h KG_tree rfl rfl (Nat.le_of_ble_eq_true rfl) dG_init_48 (fun H locs h => ?_)
  have h : mk_AT cm_cl D A H0 h0 6 [.ref a1, .ref a2, .ref q0, .ref q1, .ref q2, .ref q3, .int 0] [(q0, .inl (cA 0, 32, .inl (fun _ => 0))), (q1, .inl (cA 0, 32, .inl (fun _ => 0))), (q2, .inl (cA 0, 32, .inl (fun _ => 0))), (q3, .inl (cA 0, 32, .inl (fun _ => 0)))] H locs := h
  exact hret (fun k => [q0, q1, q2, q3].getD k 0) _ _ _ _ dG_init_51 h.1 h.2.1 h.2.2
