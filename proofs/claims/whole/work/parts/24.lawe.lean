set_option maxRecDepth 100000 in
set_option maxHeartbeats 4000000 in
/-- the law, where the two sides are alike by a relation -/
theorem law_whole {Rel : ck_S → ck_S → Prop} (hS : Sim Rel) {p : Program} {e : Env} {s : State} {m : MethodId} {below : List Frame} {meth : Method} {c : Code} (l : Launch) {b L : Nat} {xs : Nat → Int32} (hL : L ≤ 2048) (C0 : lw_At p s m meth c b L xs) : W p l e room_1 s m #[Value.ref b] below meth c s.heap [] 0 0 (lw_Z below #[Value.ref b] s) (entryFrame m ([Value.ref b] : List Value).toArray 4) := by
  obtain ⟨hx, hb, hr, hml, hown, hts0, hX, hbl, hlocks, hgv⟩ := C0
  obtain ⟨D, cA, hK⟩ := lx_K hts0
  have hZ := mk_N_of hts0
  have hts : ∀ w ∈ ck_T, w.before #[Value.ref b] s = true := fun w h => hts0 w (ck_T_in h)
  have C : ck_X cm_cl D cA code 4 R_law 2000 p room_1 s m #[Value.ref b] c := ⟨hx, hb, hml, hown, hts, hK, Nat.le_of_ble_eq_true rfl, Nat.le_of_ble_eq_true rfl⟩
  have hA : ∀ q, s.heap.size ≤ q → (fun q => s.heap.size ≤ q) q := fun q h => h
  have hP : va_P D cm_cl [] s.heap := fun k q h => by cases h
  have hD : va_D (fun q => s.heap.size ≤ q) [] := ⟨fun i j a b h => (by cases h), fun k q h => (by cases h)⟩
  have hSS : va_S (fun q => s.heap.size ≤ q) s.heap s.heap [] := va_S.rf
  have hl := lv_entry [Value.ref b] (n := 4) (Nat.le_of_ble_eq_true rfl)
  rw [lg_entry_eq]
  generalize (lg_sl [Value.ref b] ++ List.replicate (4 - (lg_sl [Value.ref b]).length) Slot.unset).toArray = ls at hl ⊢
  have hl : lv_has ls 4 [(0, .ref b)] := hl
  refine va_new (ci := 0) (fs := [.null, .null, .null, .null, .null, .null, .int 0]) (C := R_C) (T := T_C) (N := 7) hx hb hts cu_C ct_C co_C hown (hts _ CL_Cn) (hts _ IC4) (hts _ ini_C) hK hP hD hSS hA rfl (fun j hj => match j, hj with | 0, _ => rfl | 1, _ => rfl | 2, _ => rfl | 3, _ => rfl | 4, _ => rfl | 5, _ => rfl | 6, _ => rfl | k + 7, z => absurd z (by omega)) (Nat.le_of_ble_eq_true rfl) (Nat.le_of_ble_eq_true rfl) dL_law_0 (fun q1 H hP hD hSS => ?_)
  refine lv_dup hx hb dL_law_3 rfl ?_
  refine mk_call (Z := mk_N) mk_N_same (fun U hW => mk_N_warm hW hZ) (As := []) (rest := [.ref q1]) (X := []) (wf := wfC cA q1) C hA hP hD hSS hl rfl IC1 ⟨IC2, Or.inl CL_Ci⟩ (cC_init l D cA q1 _) (Nat.le_of_ble_eq_true rfl) rfl rfl (Nat.le_of_ble_eq_true rfl) (Nat.le_of_ble_eq_true rfl) (Nat.le_of_ble_eq_true rfl) dL_law_4 (fun u1 H locs hP hD hSS => ?_)
  refine lv_astore_n (lv' := [(1, .ref q1), (0, .ref b)]) hx hb dL_law_7 rfl hl (by decide) rfl (fun ls hl => ?_)
  rw [List.nil_append] at hP hD
  refine va_new (ci := 7) (fs := [.int 0, .int 0, .null, .null, .null, .int 0, .null, .null, .null, .null, .null, .null, .null, .int 0, .null, .null, .null, .null, .int 0, .int 0, .int 0, .null, .null, .null, .null, .null, .null, .null, .int 0, .int 0, .int 0, .null, .null, .null, .null, .null, .null, .null, .null, .null, .null, .int 0, .null, .null, .null, .null, .int 0]) (C := R_R) (T := T_R) (N := 47) hx hb hts cu_R ct_R co_R hown (hts _ CL_Rn) (hts _ IR4) (hts _ ini_R) hK hP hD hSS hA rfl (fun j hj => match j, hj with | 0, _ => rfl | 1, _ => rfl | 2, _ => rfl | 3, _ => rfl | 4, _ => rfl | 5, _ => rfl | 6, _ => rfl | 7, _ => rfl | 8, _ => rfl | 9, _ => rfl | 10, _ => rfl | 11, _ => rfl | 12, _ => rfl | 13, _ => rfl | 14, _ => rfl | 15, _ => rfl | 16, _ => rfl | 17, _ => rfl | 18, _ => rfl | 19, _ => rfl | 20, _ => rfl | 21, _ => rfl | 22, _ => rfl | 23, _ => rfl | 24, _ => rfl | 25, _ => rfl | 26, _ => rfl | 27, _ => rfl | 28, _ => rfl | 29, _ => rfl | 30, _ => rfl | 31, _ => rfl | 32, _ => rfl | 33, _ => rfl | 34, _ => rfl | 35, _ => rfl | 36, _ => rfl | 37, _ => rfl | 38, _ => rfl | 39, _ => rfl | 40, _ => rfl | 41, _ => rfl | 42, _ => rfl | 43, _ => rfl | 44, _ => rfl | 45, _ => rfl | 46, _ => rfl | k + 47, z => absurd z (by omega)) (Nat.le_of_ble_eq_true rfl) (Nat.le_of_ble_eq_true rfl) dL_law_8 (fun q2 H hP hD hSS => ?_)
  refine lv_dup hx hb dL_law_11 rfl ?_
  refine mk_call (Z := fun _ => True) (fun _ _ _ _ => trivial) (fun _ _ => trivial) (As := []) (rest := [.ref q2]) (X := wfC cA q1 u1) (wf := wfR cA q2) C hA hP hD hSS hl rfl IR1 ⟨IR2, Or.inl CL_Ri⟩ (cR_init l D cA q2 _) (Nat.le_of_ble_eq_true rfl) rfl rfl (Nat.le_of_ble_eq_true rfl) (Nat.le_of_ble_eq_true rfl) (Nat.le_of_ble_eq_true rfl) dL_law_12 (fun u2 H locs hP hD hSS => ?_)
  refine lv_astore_n (lv' := [(2, .ref q2), (1, .ref q1), (0, .ref b)]) hx hb dL_law_15 rfl hl (by decide) rfl (fun ls hl => ?_)
  refine lv_iconst (v := 0) hx hb dL_law_16 (by decide) ?_
  refine lv_istore_n (lv' := [(3, .int (Int32.ofNat 0)), (2, .ref (adR q2 u2 0)), (1, .ref (adC q1 u1 0)), (0, .ref b)]) hx hb dL_law_17 rfl hl (by decide) rfl (fun ls hl => ?_)
  refine W.widen (k := 600000) (n := 7302250) (Nat.le_of_ble_eq_true rfl) (Nat.le_of_ble_eq_true rfl) ?_
  unfold wfC wfR at hP hD
  refine law_loop (ad1 := adC q1 u1) (ad2 := adR q2 u2) (L := L) (xs := xs) C ⟨Nat.le_refl _, Nat.le_refl _⟩ hX hbl hL hS (fun st rt H locs ls h => ?_) 513 0 (by omega) (by omega) stC0 stR0 H locs ls hS.1 ⟨hP, hD, hSS⟩ hl
  refine va_forget h.2.2.2.2 ?_
  refine lv_iconst (v := 1) hx hb dL_law_582 (by decide) ?_
  exact lw_ret hx hb hr hlocks dL_law_583
