section LAW
variable {p : Program} {l : Launch} {e : Env} {s : State} {m : MethodId} {args : Array Value} {below : List Frame} {meth : Method} {c : Code} {Q : State → Prop} {D : va_G} {cA : Nat → ClassId} {ad1 ad2 : Nat → Nat} {b L cells slots : Nat} {xs : Nat → Int32} {Rel : ck_S → ck_S → Prop}
set_option maxRecDepth 100000 in
set_option maxHeartbeats 4000000 in
theorem law_clear (C : ck_X cm_cl D cA code 4 R_law 2000 p room_1 s m args c) (hcs : cells ≤ 600000 ∧ slots ≤ 7302250) (hX : va_X b L xs s s.heap) (hbl : b < s.heap.size) {i : Int32} (ha : agv Rel fC_clear fR_clear) (hk : ∀ (st rt : ck_S) (H : Heap) (locs : List Loc) (ls : Array Slot), Rel st rt → lx_T cm_cl D (fun q => s.heap.size ≤ q) s.heap (ck_w sh_C cA ad1 st) (ck_w sh_R cA ad2 rt) H locs → lv_has ls 4 [(3, .int i), (2, .ref (ad2 0)), (1, .ref (ad1 0)), (0, .ref b)] → W p l e room_1 s m args below meth c H locs cells slots Q (F0 m 576 ls [])) (st rt : ck_S) (H : Heap) (locs : List Loc) (ls : Array Slot) (hR : Rel st rt) (h : lx_T cm_cl D (fun q => s.heap.size ≤ q) s.heap (ck_w sh_C cA ad1 st) (ck_w sh_R cA ad2 rt) H locs) (hl : lv_has ls 4 [(3, .int i), (2, .ref (ad2 0)), (1, .ref (ad1 0)), (0, .ref b)]) : W p l e room_1 s m args below meth c H locs cells slots Q (F0 m 128 ls []) := by
  have C1 := C
  obtain ⟨hx, hb, hml, hown, hts, hK, hlv, hlo⟩ := C1
  obtain ⟨st2, rt2, e1, e2, hR⟩ := ha st rt hR
  refine lv_aload_n hx hb dL_law_128 rfl (lv_at hl 2 rfl) ?_
  have h := lx_swap h
  refine lx_v (As := []) (rest := []) (q := 0) C h hl CL_C_clear sC_clear q_C (cC_clear l D cA ad1 e1) (Nat.le_of_ble_eq_true rfl) rfl rfl (Nat.le_of_ble_eq_true rfl) hcs dL_law_129 (fun H locs h => ?_)
  have h := lx_swap h
  refine lv_aload_n hx hb dL_law_132 rfl (lv_at hl 1 rfl) ?_
  refine lx_v (As := []) (rest := []) (q := 0) C h hl CL_R_clear sR_clear q_R (cR_clear l D cA ad2 e2) (Nat.le_of_ble_eq_true rfl) rfl rfl (Nat.le_of_ble_eq_true rfl) hcs dL_law_133 (fun H locs h => ?_)
  refine lv_goto (tgt := 576) hx hb dL_law_136 rfl ?_
  exact hk _ _ H locs ls hR h hl
set_option maxRecDepth 100000 in
set_option maxHeartbeats 4000000 in
theorem law_type (C : ck_X cm_cl D cA code 4 R_law 2000 p room_1 s m args c) (hcs : cells ≤ 600000 ∧ slots ≤ 7302250) (hX : va_X b L xs s s.heap) (hbl : b < s.heap.size) {i : Int32} (ha : ag Rel fC_type fR_type) (hk : ∀ (st rt : ck_S) (H : Heap) (locs : List Loc) (ls : Array Slot), Rel st rt → lx_T cm_cl D (fun q => s.heap.size ≤ q) s.heap (ck_w sh_C cA ad1 st) (ck_w sh_R cA ad2 rt) H locs → lv_has ls 4 [(3, .int i), (2, .ref (ad2 0)), (1, .ref (ad1 0)), (0, .ref b)] → W p l e room_1 s m args below meth c H locs cells slots Q (F0 m 576 ls [])) (st rt : ck_S) (H : Heap) (locs : List Loc) (ls : Array Slot) (hR : Rel st rt) (h : lx_T cm_cl D (fun q => s.heap.size ≤ q) s.heap (ck_w sh_C cA ad1 st) (ck_w sh_R cA ad2 rt) H locs) (hl : lv_has ls 4 [(3, .int i), (2, .ref (ad2 0)), (1, .ref (ad1 0)), (0, .ref b)]) : W p l e room_1 s m args below meth c H locs cells slots Q (F0 m 139 ls []) := by
  have C1 := C
  obtain ⟨hx, hb, hml, hown, hts, hK, hlv, hlo⟩ := C1
  obtain ⟨r, st2, rt2, e1, e2, hR⟩ := ha st rt hR
  refine lv_aload_n hx hb dL_law_139 rfl (lv_at hl 2 rfl) ?_
  have h := lx_swap h
  refine lx_i (As := []) (rest := []) (q := 0) C h hl CL_C_type sC_type q_C (cC_type l D cA ad1 e1) (Nat.le_of_ble_eq_true rfl) rfl rfl (Nat.le_of_ble_eq_true rfl) hcs dL_law_140 (fun H locs h => ?_)
  have h := lx_swap h
  refine lv_aload_n hx hb dL_law_143 rfl (lv_at hl 1 rfl) ?_
  refine lx_i (As := []) (rest := [.int r]) (q := 0) C h hl CL_R_type sR_type q_R (cR_type l D cA ad2 e2) (Nat.le_of_ble_eq_true rfl) rfl rfl (Nat.le_of_ble_eq_true rfl) hcs dL_law_144 (fun H locs h => ?_)
  refine lv_icmp_eq (tgt := 576) hx hb dL_law_147 rfl (fun _ => ?_) (fun hq => absurd rfl hq)
  exact hk _ _ H locs ls hR h hl
set_option maxRecDepth 100000 in
set_option maxHeartbeats 4000000 in
theorem law_constructor (C : ck_X cm_cl D cA code 4 R_law 2000 p room_1 s m args c) (hcs : cells ≤ 600000 ∧ slots ≤ 7302250) (hX : va_X b L xs s s.heap) (hbl : b < s.heap.size) {i : Int32} (hi1 : vp_in (i + 1) L) (hi2 : vp_in (i + 2) L) (hi3 : vp_in (i + 3) L) (ha : ag Rel (fC_constructor (xs (i + 1).toNatClampNeg) (xs (i + 2).toNatClampNeg) (xs (i + 3).toNatClampNeg)) (fR_constructor (xs (i + 1).toNatClampNeg) (xs (i + 2).toNatClampNeg) (xs (i + 3).toNatClampNeg))) (hk : ∀ (st rt : ck_S) (H : Heap) (locs : List Loc) (ls : Array Slot), Rel st rt → lx_T cm_cl D (fun q => s.heap.size ≤ q) s.heap (ck_w sh_C cA ad1 st) (ck_w sh_R cA ad2 rt) H locs → lv_has ls 4 [(3, .int i), (2, .ref (ad2 0)), (1, .ref (ad1 0)), (0, .ref b)] → W p l e room_1 s m args below meth c H locs cells slots Q (F0 m 576 ls [])) (st rt : ck_S) (H : Heap) (locs : List Loc) (ls : Array Slot) (hR : Rel st rt) (h : lx_T cm_cl D (fun q => s.heap.size ≤ q) s.heap (ck_w sh_C cA ad1 st) (ck_w sh_R cA ad2 rt) H locs) (hl : lv_has ls 4 [(3, .int i), (2, .ref (ad2 0)), (1, .ref (ad1 0)), (0, .ref b)]) : W p l e room_1 s m args below meth c H locs cells slots Q (F0 m 152 ls []) := by
  have C1 := C
  obtain ⟨hx, hb, hml, hown, hts, hK, hlv, hlo⟩ := C1
  obtain ⟨r, st2, rt2, e1, e2, hR⟩ := ha st rt hR
  refine lv_aload_n hx hb dL_law_152 rfl (lv_at hl 2 rfl) ?_
  refine lv_aload_n hx hb dL_law_153 rfl (lv_at hl 3 rfl) ?_
  refine lv_iload_n hx hb dL_law_154 rfl (lv_at hl 0 rfl) ?_
  refine lv_iconst (v := 1) hx hb dL_law_155 (by decide) ?_
  refine lv_iadd hx hb dL_law_156 ?_
  refine va_sld hx hb hX hbl (Nat.not_le.mpr hbl) h.2.2 hi1 dL_law_157 ?_
  refine lv_aload_n hx hb dL_law_158 rfl (lv_at hl 3 rfl) ?_
  refine lv_iload_n hx hb dL_law_159 rfl (lv_at hl 0 rfl) ?_
  refine lv_iconst (v := 2) hx hb dL_law_160 (by decide) ?_
  refine lv_iadd hx hb dL_law_161 ?_
  refine va_sld hx hb hX hbl (Nat.not_le.mpr hbl) h.2.2 hi2 dL_law_162 ?_
  refine lv_aload_n hx hb dL_law_163 rfl (lv_at hl 3 rfl) ?_
  refine lv_iload_n hx hb dL_law_164 rfl (lv_at hl 0 rfl) ?_
  refine lv_iconst (v := 3) hx hb dL_law_165 (by decide) ?_
  refine lv_iadd hx hb dL_law_166 ?_
  refine va_sld hx hb hX hbl (Nat.not_le.mpr hbl) h.2.2 hi3 dL_law_167 ?_
  have h := lx_swap h
  refine lx_i (As := [.int (xs (i + 1).toNatClampNeg), .int (xs (i + 2).toNatClampNeg), .int (xs (i + 3).toNatClampNeg)]) (rest := []) (q := 0) C h hl CL_C_constructor sC_constructor q_C (cC_constructor l D cA ad1 e1) (Nat.le_of_ble_eq_true rfl) rfl rfl (Nat.le_of_ble_eq_true rfl) hcs dL_law_168 (fun H locs h => ?_)
  have h := lx_swap h
  refine lv_aload_n hx hb dL_law_171 rfl (lv_at hl 1 rfl) ?_
  refine lv_aload_n hx hb dL_law_172 rfl (lv_at hl 3 rfl) ?_
  refine lv_iload_n hx hb dL_law_173 rfl (lv_at hl 0 rfl) ?_
  refine lv_iconst (v := 1) hx hb dL_law_174 (by decide) ?_
  refine lv_iadd hx hb dL_law_175 ?_
  refine va_sld hx hb hX hbl (Nat.not_le.mpr hbl) h.2.2 hi1 dL_law_176 ?_
  refine lv_aload_n hx hb dL_law_177 rfl (lv_at hl 3 rfl) ?_
  refine lv_iload_n hx hb dL_law_178 rfl (lv_at hl 0 rfl) ?_
  refine lv_iconst (v := 2) hx hb dL_law_179 (by decide) ?_
  refine lv_iadd hx hb dL_law_180 ?_
  refine va_sld hx hb hX hbl (Nat.not_le.mpr hbl) h.2.2 hi2 dL_law_181 ?_
  refine lv_aload_n hx hb dL_law_182 rfl (lv_at hl 3 rfl) ?_
  refine lv_iload_n hx hb dL_law_183 rfl (lv_at hl 0 rfl) ?_
  refine lv_iconst (v := 3) hx hb dL_law_184 (by decide) ?_
  refine lv_iadd hx hb dL_law_185 ?_
  refine va_sld hx hb hX hbl (Nat.not_le.mpr hbl) h.2.2 hi3 dL_law_186 ?_
  refine lx_i (As := [.int (xs (i + 1).toNatClampNeg), .int (xs (i + 2).toNatClampNeg), .int (xs (i + 3).toNatClampNeg)]) (rest := [.int r]) (q := 0) C h hl CL_R_constructor sR_constructor q_R (cR_constructor l D cA ad2 e2) (Nat.le_of_ble_eq_true rfl) rfl rfl (Nat.le_of_ble_eq_true rfl) hcs dL_law_187 (fun H locs h => ?_)
  refine lv_icmp_eq (tgt := 576) hx hb dL_law_190 rfl (fun _ => ?_) (fun hq => absurd rfl hq)
  exact hk _ _ H locs ls hR h hl
set_option maxRecDepth 100000 in
set_option maxHeartbeats 4000000 in
theorem law_begin (C : ck_X cm_cl D cA code 4 R_law 2000 p room_1 s m args c) (hcs : cells ≤ 600000 ∧ slots ≤ 7302250) (hX : va_X b L xs s s.heap) (hbl : b < s.heap.size) {i : Int32} (hi1 : vp_in (i + 1) L) (ha : ag Rel (fC_begin (xs (i + 1).toNatClampNeg)) (fR_begin (xs (i + 1).toNatClampNeg))) (hk : ∀ (st rt : ck_S) (H : Heap) (locs : List Loc) (ls : Array Slot), Rel st rt → lx_T cm_cl D (fun q => s.heap.size ≤ q) s.heap (ck_w sh_C cA ad1 st) (ck_w sh_R cA ad2 rt) H locs → lv_has ls 4 [(3, .int i), (2, .ref (ad2 0)), (1, .ref (ad1 0)), (0, .ref b)] → W p l e room_1 s m args below meth c H locs cells slots Q (F0 m 576 ls [])) (st rt : ck_S) (H : Heap) (locs : List Loc) (ls : Array Slot) (hR : Rel st rt) (h : lx_T cm_cl D (fun q => s.heap.size ≤ q) s.heap (ck_w sh_C cA ad1 st) (ck_w sh_R cA ad2 rt) H locs) (hl : lv_has ls 4 [(3, .int i), (2, .ref (ad2 0)), (1, .ref (ad1 0)), (0, .ref b)]) : W p l e room_1 s m args below meth c H locs cells slots Q (F0 m 195 ls []) := by
  have C1 := C
  obtain ⟨hx, hb, hml, hown, hts, hK, hlv, hlo⟩ := C1
  obtain ⟨r, st2, rt2, e1, e2, hR⟩ := ha st rt hR
  refine lv_aload_n hx hb dL_law_195 rfl (lv_at hl 2 rfl) ?_
  refine lv_aload_n hx hb dL_law_196 rfl (lv_at hl 3 rfl) ?_
  refine lv_iload_n hx hb dL_law_197 rfl (lv_at hl 0 rfl) ?_
  refine lv_iconst (v := 1) hx hb dL_law_198 (by decide) ?_
  refine lv_iadd hx hb dL_law_199 ?_
  refine va_sld hx hb hX hbl (Nat.not_le.mpr hbl) h.2.2 hi1 dL_law_200 ?_
  have h := lx_swap h
  refine lx_i (As := [.int (xs (i + 1).toNatClampNeg)]) (rest := []) (q := 0) C h hl CL_C_begin sC_begin q_C (cC_begin l D cA ad1 e1) (Nat.le_of_ble_eq_true rfl) rfl rfl (Nat.le_of_ble_eq_true rfl) hcs dL_law_201 (fun H locs h => ?_)
  have h := lx_swap h
  refine lv_aload_n hx hb dL_law_204 rfl (lv_at hl 1 rfl) ?_
  refine lv_aload_n hx hb dL_law_205 rfl (lv_at hl 3 rfl) ?_
  refine lv_iload_n hx hb dL_law_206 rfl (lv_at hl 0 rfl) ?_
  refine lv_iconst (v := 1) hx hb dL_law_207 (by decide) ?_
  refine lv_iadd hx hb dL_law_208 ?_
  refine va_sld hx hb hX hbl (Nat.not_le.mpr hbl) h.2.2 hi1 dL_law_209 ?_
  refine lx_i (As := [.int (xs (i + 1).toNatClampNeg)]) (rest := [.int r]) (q := 0) C h hl CL_R_begin sR_begin q_R (cR_begin l D cA ad2 e2) (Nat.le_of_ble_eq_true rfl) rfl rfl (Nat.le_of_ble_eq_true rfl) hcs dL_law_210 (fun H locs h => ?_)
  refine lv_icmp_eq (tgt := 576) hx hb dL_law_213 rfl (fun _ => ?_) (fun hq => absurd rfl hq)
  exact hk _ _ H locs ls hR h hl
set_option maxRecDepth 100000 in
set_option maxHeartbeats 4000000 in
theorem law_any (C : ck_X cm_cl D cA code 4 R_law 2000 p room_1 s m args c) (hcs : cells ≤ 600000 ∧ slots ≤ 7302250) (hX : va_X b L xs s s.heap) (hbl : b < s.heap.size) {i : Int32} (ha : ag Rel fC_any fR_any) (hk : ∀ (st rt : ck_S) (H : Heap) (locs : List Loc) (ls : Array Slot), Rel st rt → lx_T cm_cl D (fun q => s.heap.size ≤ q) s.heap (ck_w sh_C cA ad1 st) (ck_w sh_R cA ad2 rt) H locs → lv_has ls 4 [(3, .int i), (2, .ref (ad2 0)), (1, .ref (ad1 0)), (0, .ref b)] → W p l e room_1 s m args below meth c H locs cells slots Q (F0 m 576 ls [])) (st rt : ck_S) (H : Heap) (locs : List Loc) (ls : Array Slot) (hR : Rel st rt) (h : lx_T cm_cl D (fun q => s.heap.size ≤ q) s.heap (ck_w sh_C cA ad1 st) (ck_w sh_R cA ad2 rt) H locs) (hl : lv_has ls 4 [(3, .int i), (2, .ref (ad2 0)), (1, .ref (ad1 0)), (0, .ref b)]) : W p l e room_1 s m args below meth c H locs cells slots Q (F0 m 218 ls []) := by
  have C1 := C
  obtain ⟨hx, hb, hml, hown, hts, hK, hlv, hlo⟩ := C1
  obtain ⟨r, st2, rt2, e1, e2, hR⟩ := ha st rt hR
  refine lv_aload_n hx hb dL_law_218 rfl (lv_at hl 2 rfl) ?_
  have h := lx_swap h
  refine lx_i (As := []) (rest := []) (q := 0) C h hl CL_C_any sC_any q_C (cC_any l D cA ad1 e1) (Nat.le_of_ble_eq_true rfl) rfl rfl (Nat.le_of_ble_eq_true rfl) hcs dL_law_219 (fun H locs h => ?_)
  have h := lx_swap h
  refine lv_aload_n hx hb dL_law_222 rfl (lv_at hl 1 rfl) ?_
  refine lx_i (As := []) (rest := [.int r]) (q := 0) C h hl CL_R_any sR_any q_R (cR_any l D cA ad2 e2) (Nat.le_of_ble_eq_true rfl) rfl rfl (Nat.le_of_ble_eq_true rfl) hcs dL_law_223 (fun H locs h => ?_)
  refine lv_icmp_eq (tgt := 576) hx hb dL_law_226 rfl (fun _ => ?_) (fun hq => absurd rfl hq)
  exact hk _ _ H locs ls hR h hl
set_option maxRecDepth 100000 in
set_option maxHeartbeats 4000000 in
theorem law_number (C : ck_X cm_cl D cA code 4 R_law 2000 p room_1 s m args c) (hcs : cells ≤ 600000 ∧ slots ≤ 7302250) (hX : va_X b L xs s s.heap) (hbl : b < s.heap.size) {i : Int32} (hi1 : vp_in (i + 1) L) (ha : ag Rel (fC_number (xs (i + 1).toNatClampNeg)) (fR_number (xs (i + 1).toNatClampNeg))) (hk : ∀ (st rt : ck_S) (H : Heap) (locs : List Loc) (ls : Array Slot), Rel st rt → lx_T cm_cl D (fun q => s.heap.size ≤ q) s.heap (ck_w sh_C cA ad1 st) (ck_w sh_R cA ad2 rt) H locs → lv_has ls 4 [(3, .int i), (2, .ref (ad2 0)), (1, .ref (ad1 0)), (0, .ref b)] → W p l e room_1 s m args below meth c H locs cells slots Q (F0 m 576 ls [])) (st rt : ck_S) (H : Heap) (locs : List Loc) (ls : Array Slot) (hR : Rel st rt) (h : lx_T cm_cl D (fun q => s.heap.size ≤ q) s.heap (ck_w sh_C cA ad1 st) (ck_w sh_R cA ad2 rt) H locs) (hl : lv_has ls 4 [(3, .int i), (2, .ref (ad2 0)), (1, .ref (ad1 0)), (0, .ref b)]) : W p l e room_1 s m args below meth c H locs cells slots Q (F0 m 231 ls []) := by
  have C1 := C
  obtain ⟨hx, hb, hml, hown, hts, hK, hlv, hlo⟩ := C1
  obtain ⟨r, st2, rt2, e1, e2, hR⟩ := ha st rt hR
  refine lv_aload_n hx hb dL_law_231 rfl (lv_at hl 2 rfl) ?_
  refine lv_aload_n hx hb dL_law_232 rfl (lv_at hl 3 rfl) ?_
  refine lv_iload_n hx hb dL_law_233 rfl (lv_at hl 0 rfl) ?_
  refine lv_iconst (v := 1) hx hb dL_law_234 (by decide) ?_
  refine lv_iadd hx hb dL_law_235 ?_
  refine va_sld hx hb hX hbl (Nat.not_le.mpr hbl) h.2.2 hi1 dL_law_236 ?_
  have h := lx_swap h
  refine lx_i (As := [.int (xs (i + 1).toNatClampNeg)]) (rest := []) (q := 0) C h hl CL_C_number sC_number q_C (cC_number l D cA ad1 e1) (Nat.le_of_ble_eq_true rfl) rfl rfl (Nat.le_of_ble_eq_true rfl) hcs dL_law_237 (fun H locs h => ?_)
  have h := lx_swap h
  refine lv_aload_n hx hb dL_law_240 rfl (lv_at hl 1 rfl) ?_
  refine lv_aload_n hx hb dL_law_241 rfl (lv_at hl 3 rfl) ?_
  refine lv_iload_n hx hb dL_law_242 rfl (lv_at hl 0 rfl) ?_
  refine lv_iconst (v := 1) hx hb dL_law_243 (by decide) ?_
  refine lv_iadd hx hb dL_law_244 ?_
  refine va_sld hx hb hX hbl (Nat.not_le.mpr hbl) h.2.2 hi1 dL_law_245 ?_
  refine lx_i (As := [.int (xs (i + 1).toNatClampNeg)]) (rest := [.int r]) (q := 0) C h hl CL_R_number sR_number q_R (cR_number l D cA ad2 e2) (Nat.le_of_ble_eq_true rfl) rfl rfl (Nat.le_of_ble_eq_true rfl) hcs dL_law_246 (fun H locs h => ?_)
  refine lv_icmp_eq (tgt := 576) hx hb dL_law_249 rfl (fun _ => ?_) (fun hq => absurd rfl hq)
  exact hk _ _ H locs ls hR h hl
set_option maxRecDepth 100000 in
set_option maxHeartbeats 4000000 in
theorem law_build (C : ck_X cm_cl D cA code 4 R_law 2000 p room_1 s m args c) (hcs : cells ≤ 600000 ∧ slots ≤ 7302250) (hX : va_X b L xs s s.heap) (hbl : b < s.heap.size) {i : Int32} (hi1 : vp_in (i + 1) L) (hi2 : vp_in (i + 2) L) (hi3 : vp_in (i + 3) L) (ha : ag Rel (fC_build (xs (i + 1).toNatClampNeg) (xs (i + 2).toNatClampNeg) (xs (i + 3).toNatClampNeg)) (fR_build (xs (i + 1).toNatClampNeg) (xs (i + 2).toNatClampNeg) (xs (i + 3).toNatClampNeg))) (hk : ∀ (st rt : ck_S) (H : Heap) (locs : List Loc) (ls : Array Slot), Rel st rt → lx_T cm_cl D (fun q => s.heap.size ≤ q) s.heap (ck_w sh_C cA ad1 st) (ck_w sh_R cA ad2 rt) H locs → lv_has ls 4 [(3, .int i), (2, .ref (ad2 0)), (1, .ref (ad1 0)), (0, .ref b)] → W p l e room_1 s m args below meth c H locs cells slots Q (F0 m 576 ls [])) (st rt : ck_S) (H : Heap) (locs : List Loc) (ls : Array Slot) (hR : Rel st rt) (h : lx_T cm_cl D (fun q => s.heap.size ≤ q) s.heap (ck_w sh_C cA ad1 st) (ck_w sh_R cA ad2 rt) H locs) (hl : lv_has ls 4 [(3, .int i), (2, .ref (ad2 0)), (1, .ref (ad1 0)), (0, .ref b)]) : W p l e room_1 s m args below meth c H locs cells slots Q (F0 m 254 ls []) := by
  have C1 := C
  obtain ⟨hx, hb, hml, hown, hts, hK, hlv, hlo⟩ := C1
  obtain ⟨r, st2, rt2, e1, e2, hR⟩ := ha st rt hR
  refine lv_aload_n hx hb dL_law_254 rfl (lv_at hl 2 rfl) ?_
  refine lv_aload_n hx hb dL_law_255 rfl (lv_at hl 3 rfl) ?_
  refine lv_iload_n hx hb dL_law_256 rfl (lv_at hl 0 rfl) ?_
  refine lv_iconst (v := 1) hx hb dL_law_257 (by decide) ?_
  refine lv_iadd hx hb dL_law_258 ?_
  refine va_sld hx hb hX hbl (Nat.not_le.mpr hbl) h.2.2 hi1 dL_law_259 ?_
  refine lv_aload_n hx hb dL_law_260 rfl (lv_at hl 3 rfl) ?_
  refine lv_iload_n hx hb dL_law_261 rfl (lv_at hl 0 rfl) ?_
  refine lv_iconst (v := 2) hx hb dL_law_262 (by decide) ?_
  refine lv_iadd hx hb dL_law_263 ?_
  refine va_sld hx hb hX hbl (Nat.not_le.mpr hbl) h.2.2 hi2 dL_law_264 ?_
  refine lv_aload_n hx hb dL_law_265 rfl (lv_at hl 3 rfl) ?_
  refine lv_iload_n hx hb dL_law_266 rfl (lv_at hl 0 rfl) ?_
  refine lv_iconst (v := 3) hx hb dL_law_267 (by decide) ?_
  refine lv_iadd hx hb dL_law_268 ?_
  refine va_sld hx hb hX hbl (Nat.not_le.mpr hbl) h.2.2 hi3 dL_law_269 ?_
  have h := lx_swap h
  refine lx_i (As := [.int (xs (i + 1).toNatClampNeg), .int (xs (i + 2).toNatClampNeg), .int (xs (i + 3).toNatClampNeg)]) (rest := []) (q := 0) C h hl CL_C_build sC_build q_C (cC_build l D cA ad1 e1) (Nat.le_of_ble_eq_true rfl) rfl rfl (Nat.le_of_ble_eq_true rfl) hcs dL_law_270 (fun H locs h => ?_)
  have h := lx_swap h
  refine lv_aload_n hx hb dL_law_273 rfl (lv_at hl 1 rfl) ?_
  refine lv_aload_n hx hb dL_law_274 rfl (lv_at hl 3 rfl) ?_
  refine lv_iload_n hx hb dL_law_275 rfl (lv_at hl 0 rfl) ?_
  refine lv_iconst (v := 1) hx hb dL_law_276 (by decide) ?_
  refine lv_iadd hx hb dL_law_277 ?_
  refine va_sld hx hb hX hbl (Nat.not_le.mpr hbl) h.2.2 hi1 dL_law_278 ?_
  refine lv_aload_n hx hb dL_law_279 rfl (lv_at hl 3 rfl) ?_
  refine lv_iload_n hx hb dL_law_280 rfl (lv_at hl 0 rfl) ?_
  refine lv_iconst (v := 2) hx hb dL_law_281 (by decide) ?_
  refine lv_iadd hx hb dL_law_282 ?_
  refine va_sld hx hb hX hbl (Nat.not_le.mpr hbl) h.2.2 hi2 dL_law_283 ?_
  refine lv_aload_n hx hb dL_law_284 rfl (lv_at hl 3 rfl) ?_
  refine lv_iload_n hx hb dL_law_285 rfl (lv_at hl 0 rfl) ?_
  refine lv_iconst (v := 3) hx hb dL_law_286 (by decide) ?_
  refine lv_iadd hx hb dL_law_287 ?_
  refine va_sld hx hb hX hbl (Nat.not_le.mpr hbl) h.2.2 hi3 dL_law_288 ?_
  refine lx_i (As := [.int (xs (i + 1).toNatClampNeg), .int (xs (i + 2).toNatClampNeg), .int (xs (i + 3).toNatClampNeg)]) (rest := [.int r]) (q := 0) C h hl CL_R_build sR_build q_R (cR_build l D cA ad2 e2) (Nat.le_of_ble_eq_true rfl) rfl rfl (Nat.le_of_ble_eq_true rfl) hcs dL_law_289 (fun H locs h => ?_)
  refine lv_icmp_eq (tgt := 576) hx hb dL_law_292 rfl (fun _ => ?_) (fun hq => absurd rfl hq)
  exact hk _ _ H locs ls hR h hl
set_option maxRecDepth 100000 in
set_option maxHeartbeats 4000000 in
theorem law_either (C : ck_X cm_cl D cA code 4 R_law 2000 p room_1 s m args c) (hcs : cells ≤ 600000 ∧ slots ≤ 7302250) (hX : va_X b L xs s s.heap) (hbl : b < s.heap.size) {i : Int32} (hi1 : vp_in (i + 1) L) (hi2 : vp_in (i + 2) L) (ha : ag Rel (fC_either (xs (i + 1).toNatClampNeg) (xs (i + 2).toNatClampNeg)) (fR_either (xs (i + 1).toNatClampNeg) (xs (i + 2).toNatClampNeg))) (hk : ∀ (st rt : ck_S) (H : Heap) (locs : List Loc) (ls : Array Slot), Rel st rt → lx_T cm_cl D (fun q => s.heap.size ≤ q) s.heap (ck_w sh_C cA ad1 st) (ck_w sh_R cA ad2 rt) H locs → lv_has ls 4 [(3, .int i), (2, .ref (ad2 0)), (1, .ref (ad1 0)), (0, .ref b)] → W p l e room_1 s m args below meth c H locs cells slots Q (F0 m 576 ls [])) (st rt : ck_S) (H : Heap) (locs : List Loc) (ls : Array Slot) (hR : Rel st rt) (h : lx_T cm_cl D (fun q => s.heap.size ≤ q) s.heap (ck_w sh_C cA ad1 st) (ck_w sh_R cA ad2 rt) H locs) (hl : lv_has ls 4 [(3, .int i), (2, .ref (ad2 0)), (1, .ref (ad1 0)), (0, .ref b)]) : W p l e room_1 s m args below meth c H locs cells slots Q (F0 m 297 ls []) := by
  have C1 := C
  obtain ⟨hx, hb, hml, hown, hts, hK, hlv, hlo⟩ := C1
  obtain ⟨r, st2, rt2, e1, e2, hR⟩ := ha st rt hR
  refine lv_aload_n hx hb dL_law_297 rfl (lv_at hl 2 rfl) ?_
  refine lv_aload_n hx hb dL_law_298 rfl (lv_at hl 3 rfl) ?_
  refine lv_iload_n hx hb dL_law_299 rfl (lv_at hl 0 rfl) ?_
  refine lv_iconst (v := 1) hx hb dL_law_300 (by decide) ?_
  refine lv_iadd hx hb dL_law_301 ?_
  refine va_sld hx hb hX hbl (Nat.not_le.mpr hbl) h.2.2 hi1 dL_law_302 ?_
  refine lv_aload_n hx hb dL_law_303 rfl (lv_at hl 3 rfl) ?_
  refine lv_iload_n hx hb dL_law_304 rfl (lv_at hl 0 rfl) ?_
  refine lv_iconst (v := 2) hx hb dL_law_305 (by decide) ?_
  refine lv_iadd hx hb dL_law_306 ?_
  refine va_sld hx hb hX hbl (Nat.not_le.mpr hbl) h.2.2 hi2 dL_law_307 ?_
  have h := lx_swap h
  refine lx_i (As := [.int (xs (i + 1).toNatClampNeg), .int (xs (i + 2).toNatClampNeg)]) (rest := []) (q := 0) C h hl CL_C_either sC_either q_C (cC_either l D cA ad1 e1) (Nat.le_of_ble_eq_true rfl) rfl rfl (Nat.le_of_ble_eq_true rfl) hcs dL_law_308 (fun H locs h => ?_)
  have h := lx_swap h
  refine lv_aload_n hx hb dL_law_311 rfl (lv_at hl 1 rfl) ?_
  refine lv_aload_n hx hb dL_law_312 rfl (lv_at hl 3 rfl) ?_
  refine lv_iload_n hx hb dL_law_313 rfl (lv_at hl 0 rfl) ?_
  refine lv_iconst (v := 1) hx hb dL_law_314 (by decide) ?_
  refine lv_iadd hx hb dL_law_315 ?_
  refine va_sld hx hb hX hbl (Nat.not_le.mpr hbl) h.2.2 hi1 dL_law_316 ?_
  refine lv_aload_n hx hb dL_law_317 rfl (lv_at hl 3 rfl) ?_
  refine lv_iload_n hx hb dL_law_318 rfl (lv_at hl 0 rfl) ?_
  refine lv_iconst (v := 2) hx hb dL_law_319 (by decide) ?_
  refine lv_iadd hx hb dL_law_320 ?_
  refine va_sld hx hb hX hbl (Nat.not_le.mpr hbl) h.2.2 hi2 dL_law_321 ?_
  refine lx_i (As := [.int (xs (i + 1).toNatClampNeg), .int (xs (i + 2).toNatClampNeg)]) (rest := [.int r]) (q := 0) C h hl CL_R_either sR_either q_R (cR_either l D cA ad2 e2) (Nat.le_of_ble_eq_true rfl) rfl rfl (Nat.le_of_ble_eq_true rfl) hcs dL_law_322 (fun H locs h => ?_)
  refine lv_icmp_eq (tgt := 576) hx hb dL_law_325 rfl (fun _ => ?_) (fun hq => absurd rfl hq)
  exact hk _ _ H locs ls hR h hl
set_option maxRecDepth 100000 in
set_option maxHeartbeats 4000000 in
theorem law_row (C : ck_X cm_cl D cA code 4 R_law 2000 p room_1 s m args c) (hcs : cells ≤ 600000 ∧ slots ≤ 7302250) (hX : va_X b L xs s s.heap) (hbl : b < s.heap.size) {i : Int32} (hi1 : vp_in (i + 1) L) (ha : ag Rel (fC_row (xs (i + 1).toNatClampNeg)) (fR_row (xs (i + 1).toNatClampNeg))) (hk : ∀ (st rt : ck_S) (H : Heap) (locs : List Loc) (ls : Array Slot), Rel st rt → lx_T cm_cl D (fun q => s.heap.size ≤ q) s.heap (ck_w sh_C cA ad1 st) (ck_w sh_R cA ad2 rt) H locs → lv_has ls 4 [(3, .int i), (2, .ref (ad2 0)), (1, .ref (ad1 0)), (0, .ref b)] → W p l e room_1 s m args below meth c H locs cells slots Q (F0 m 576 ls [])) (st rt : ck_S) (H : Heap) (locs : List Loc) (ls : Array Slot) (hR : Rel st rt) (h : lx_T cm_cl D (fun q => s.heap.size ≤ q) s.heap (ck_w sh_C cA ad1 st) (ck_w sh_R cA ad2 rt) H locs) (hl : lv_has ls 4 [(3, .int i), (2, .ref (ad2 0)), (1, .ref (ad1 0)), (0, .ref b)]) : W p l e room_1 s m args below meth c H locs cells slots Q (F0 m 330 ls []) := by
  have C1 := C
  obtain ⟨hx, hb, hml, hown, hts, hK, hlv, hlo⟩ := C1
  obtain ⟨r, st2, rt2, e1, e2, hR⟩ := ha st rt hR
  refine lv_aload_n hx hb dL_law_330 rfl (lv_at hl 2 rfl) ?_
  refine lv_aload_n hx hb dL_law_331 rfl (lv_at hl 3 rfl) ?_
  refine lv_iload_n hx hb dL_law_332 rfl (lv_at hl 0 rfl) ?_
  refine lv_iconst (v := 1) hx hb dL_law_333 (by decide) ?_
  refine lv_iadd hx hb dL_law_334 ?_
  refine va_sld hx hb hX hbl (Nat.not_le.mpr hbl) h.2.2 hi1 dL_law_335 ?_
  have h := lx_swap h
  refine lx_i (As := [.int (xs (i + 1).toNatClampNeg)]) (rest := []) (q := 0) C h hl CL_C_row sC_row q_C (cC_row l D cA ad1 e1) (Nat.le_of_ble_eq_true rfl) rfl rfl (Nat.le_of_ble_eq_true rfl) hcs dL_law_336 (fun H locs h => ?_)
  have h := lx_swap h
  refine lv_aload_n hx hb dL_law_339 rfl (lv_at hl 1 rfl) ?_
  refine lv_aload_n hx hb dL_law_340 rfl (lv_at hl 3 rfl) ?_
  refine lv_iload_n hx hb dL_law_341 rfl (lv_at hl 0 rfl) ?_
  refine lv_iconst (v := 1) hx hb dL_law_342 (by decide) ?_
  refine lv_iadd hx hb dL_law_343 ?_
  refine va_sld hx hb hX hbl (Nat.not_le.mpr hbl) h.2.2 hi1 dL_law_344 ?_
  refine lx_i (As := [.int (xs (i + 1).toNatClampNeg)]) (rest := [.int r]) (q := 0) C h hl CL_R_row sR_row q_R (cR_row l D cA ad2 e2) (Nat.le_of_ble_eq_true rfl) rfl rfl (Nat.le_of_ble_eq_true rfl) hcs dL_law_345 (fun H locs h => ?_)
  refine lv_icmp_eq (tgt := 576) hx hb dL_law_348 rfl (fun _ => ?_) (fun hq => absurd rfl hq)
  exact hk _ _ H locs ls hR h hl
set_option maxRecDepth 100000 in
set_option maxHeartbeats 4000000 in
theorem law_compile (C : ck_X cm_cl D cA code 4 R_law 2000 p room_1 s m args c) (hcs : cells ≤ 600000 ∧ slots ≤ 7302250) (hX : va_X b L xs s s.heap) (hbl : b < s.heap.size) {i : Int32} (ha : ag Rel fC_compile fR_compile) (hk : ∀ (st rt : ck_S) (H : Heap) (locs : List Loc) (ls : Array Slot), Rel st rt → lx_T cm_cl D (fun q => s.heap.size ≤ q) s.heap (ck_w sh_C cA ad1 st) (ck_w sh_R cA ad2 rt) H locs → lv_has ls 4 [(3, .int i), (2, .ref (ad2 0)), (1, .ref (ad1 0)), (0, .ref b)] → W p l e room_1 s m args below meth c H locs cells slots Q (F0 m 576 ls [])) (st rt : ck_S) (H : Heap) (locs : List Loc) (ls : Array Slot) (hR : Rel st rt) (h : lx_T cm_cl D (fun q => s.heap.size ≤ q) s.heap (ck_w sh_C cA ad1 st) (ck_w sh_R cA ad2 rt) H locs) (hl : lv_has ls 4 [(3, .int i), (2, .ref (ad2 0)), (1, .ref (ad1 0)), (0, .ref b)]) : W p l e room_1 s m args below meth c H locs cells slots Q (F0 m 353 ls []) := by
  have C1 := C
  obtain ⟨hx, hb, hml, hown, hts, hK, hlv, hlo⟩ := C1
  obtain ⟨r, st2, rt2, e1, e2, hR⟩ := ha st rt hR
  refine lv_aload_n hx hb dL_law_353 rfl (lv_at hl 2 rfl) ?_
  have h := lx_swap h
  refine lx_i (As := []) (rest := []) (q := 0) C h hl CL_C_compile sC_compile q_C (cC_compile l D cA ad1 e1) (Nat.le_of_ble_eq_true rfl) rfl rfl (Nat.le_of_ble_eq_true rfl) hcs dL_law_354 (fun H locs h => ?_)
  have h := lx_swap h
  refine lv_aload_n hx hb dL_law_357 rfl (lv_at hl 1 rfl) ?_
  refine lx_i (As := []) (rest := [.int r]) (q := 0) C h hl CL_R_compile sR_compile q_R (cR_compile l D cA ad2 e2) (Nat.le_of_ble_eq_true rfl) rfl rfl (Nat.le_of_ble_eq_true rfl) hcs dL_law_358 (fun H locs h => ?_)
  refine lv_icmp_eq (tgt := 576) hx hb dL_law_361 rfl (fun _ => ?_) (fun hq => absurd rfl hq)
  exact hk _ _ H locs ls hR h hl
set_option maxRecDepth 100000 in
set_option maxHeartbeats 4000000 in
theorem law_kinds (C : ck_X cm_cl D cA code 4 R_law 2000 p room_1 s m args c) (hcs : cells ≤ 600000 ∧ slots ≤ 7302250) (hX : va_X b L xs s s.heap) (hbl : b < s.heap.size) {i : Int32} (ha : ag Rel fC_kinds fR_kinds) (hk : ∀ (st rt : ck_S) (H : Heap) (locs : List Loc) (ls : Array Slot), Rel st rt → lx_T cm_cl D (fun q => s.heap.size ≤ q) s.heap (ck_w sh_C cA ad1 st) (ck_w sh_R cA ad2 rt) H locs → lv_has ls 4 [(3, .int i), (2, .ref (ad2 0)), (1, .ref (ad1 0)), (0, .ref b)] → W p l e room_1 s m args below meth c H locs cells slots Q (F0 m 576 ls [])) (st rt : ck_S) (H : Heap) (locs : List Loc) (ls : Array Slot) (hR : Rel st rt) (h : lx_T cm_cl D (fun q => s.heap.size ≤ q) s.heap (ck_w sh_C cA ad1 st) (ck_w sh_R cA ad2 rt) H locs) (hl : lv_has ls 4 [(3, .int i), (2, .ref (ad2 0)), (1, .ref (ad1 0)), (0, .ref b)]) : W p l e room_1 s m args below meth c H locs cells slots Q (F0 m 366 ls []) := by
  have C1 := C
  obtain ⟨hx, hb, hml, hown, hts, hK, hlv, hlo⟩ := C1
  obtain ⟨r, st2, rt2, e1, e2, hR⟩ := ha st rt hR
  refine lv_aload_n hx hb dL_law_366 rfl (lv_at hl 2 rfl) ?_
  have h := lx_swap h
  refine lx_i (As := []) (rest := []) (q := 0) C h hl CL_C_kinds sC_kinds q_C (cC_kinds l D cA ad1 e1) (Nat.le_of_ble_eq_true rfl) rfl rfl (Nat.le_of_ble_eq_true rfl) hcs dL_law_367 (fun H locs h => ?_)
  have h := lx_swap h
  refine lv_aload_n hx hb dL_law_370 rfl (lv_at hl 1 rfl) ?_
  refine lx_i (As := []) (rest := [.int r]) (q := 0) C h hl CL_R_kinds sR_kinds q_R (cR_kinds l D cA ad2 e2) (Nat.le_of_ble_eq_true rfl) rfl rfl (Nat.le_of_ble_eq_true rfl) hcs dL_law_371 (fun H locs h => ?_)
  refine lv_icmp_eq (tgt := 576) hx hb dL_law_374 rfl (fun _ => ?_) (fun hq => absurd rfl hq)
  exact hk _ _ H locs ls hR h hl
set_option maxRecDepth 100000 in
set_option maxHeartbeats 4000000 in
theorem law_longest (C : ck_X cm_cl D cA code 4 R_law 2000 p room_1 s m args c) (hcs : cells ≤ 600000 ∧ slots ≤ 7302250) (hX : va_X b L xs s s.heap) (hbl : b < s.heap.size) {i : Int32} (ha : ag Rel fC_longest fR_longest) (hk : ∀ (st rt : ck_S) (H : Heap) (locs : List Loc) (ls : Array Slot), Rel st rt → lx_T cm_cl D (fun q => s.heap.size ≤ q) s.heap (ck_w sh_C cA ad1 st) (ck_w sh_R cA ad2 rt) H locs → lv_has ls 4 [(3, .int i), (2, .ref (ad2 0)), (1, .ref (ad1 0)), (0, .ref b)] → W p l e room_1 s m args below meth c H locs cells slots Q (F0 m 576 ls [])) (st rt : ck_S) (H : Heap) (locs : List Loc) (ls : Array Slot) (hR : Rel st rt) (h : lx_T cm_cl D (fun q => s.heap.size ≤ q) s.heap (ck_w sh_C cA ad1 st) (ck_w sh_R cA ad2 rt) H locs) (hl : lv_has ls 4 [(3, .int i), (2, .ref (ad2 0)), (1, .ref (ad1 0)), (0, .ref b)]) : W p l e room_1 s m args below meth c H locs cells slots Q (F0 m 379 ls []) := by
  have C1 := C
  obtain ⟨hx, hb, hml, hown, hts, hK, hlv, hlo⟩ := C1
  obtain ⟨r, st2, rt2, e1, e2, hR⟩ := ha st rt hR
  refine lv_aload_n hx hb dL_law_379 rfl (lv_at hl 2 rfl) ?_
  have h := lx_swap h
  refine lx_i (As := []) (rest := []) (q := 0) C h hl CL_C_longest sC_longest q_C (cC_longest l D cA ad1 e1) (Nat.le_of_ble_eq_true rfl) rfl rfl (Nat.le_of_ble_eq_true rfl) hcs dL_law_380 (fun H locs h => ?_)
  have h := lx_swap h
  refine lv_aload_n hx hb dL_law_383 rfl (lv_at hl 1 rfl) ?_
  refine lx_i (As := []) (rest := [.int r]) (q := 0) C h hl CL_R_longest sR_longest q_R (cR_longest l D cA ad2 e2) (Nat.le_of_ble_eq_true rfl) rfl rfl (Nat.le_of_ble_eq_true rfl) hcs dL_law_384 (fun H locs h => ?_)
  refine lv_icmp_eq (tgt := 576) hx hb dL_law_387 rfl (fun _ => ?_) (fun hq => absurd rfl hq)
  exact hk _ _ H locs ls hR h hl
set_option maxRecDepth 100000 in
set_option maxHeartbeats 4000000 in
theorem law_useless (C : ck_X cm_cl D cA code 4 R_law 2000 p room_1 s m args c) (hcs : cells ≤ 600000 ∧ slots ≤ 7302250) (hX : va_X b L xs s s.heap) (hbl : b < s.heap.size) {i : Int32} (hi1 : vp_in (i + 1) L) (ha : ag Rel (fC_useless (xs (i + 1).toNatClampNeg)) (fR_useless (xs (i + 1).toNatClampNeg))) (hk : ∀ (st rt : ck_S) (H : Heap) (locs : List Loc) (ls : Array Slot), Rel st rt → lx_T cm_cl D (fun q => s.heap.size ≤ q) s.heap (ck_w sh_C cA ad1 st) (ck_w sh_R cA ad2 rt) H locs → lv_has ls 4 [(3, .int i), (2, .ref (ad2 0)), (1, .ref (ad1 0)), (0, .ref b)] → W p l e room_1 s m args below meth c H locs cells slots Q (F0 m 576 ls [])) (st rt : ck_S) (H : Heap) (locs : List Loc) (ls : Array Slot) (hR : Rel st rt) (h : lx_T cm_cl D (fun q => s.heap.size ≤ q) s.heap (ck_w sh_C cA ad1 st) (ck_w sh_R cA ad2 rt) H locs) (hl : lv_has ls 4 [(3, .int i), (2, .ref (ad2 0)), (1, .ref (ad1 0)), (0, .ref b)]) : W p l e room_1 s m args below meth c H locs cells slots Q (F0 m 392 ls []) := by
  have C1 := C
  obtain ⟨hx, hb, hml, hown, hts, hK, hlv, hlo⟩ := C1
  obtain ⟨r, st2, rt2, e1, e2, hR⟩ := ha st rt hR
  refine lv_aload_n hx hb dL_law_392 rfl (lv_at hl 2 rfl) ?_
  refine lv_aload_n hx hb dL_law_393 rfl (lv_at hl 3 rfl) ?_
  refine lv_iload_n hx hb dL_law_394 rfl (lv_at hl 0 rfl) ?_
  refine lv_iconst (v := 1) hx hb dL_law_395 (by decide) ?_
  refine lv_iadd hx hb dL_law_396 ?_
  refine va_sld hx hb hX hbl (Nat.not_le.mpr hbl) h.2.2 hi1 dL_law_397 ?_
  have h := lx_swap h
  refine lx_i (As := [.int (xs (i + 1).toNatClampNeg)]) (rest := []) (q := 0) C h hl CL_C_useless sC_useless q_C (cC_useless l D cA ad1 e1) (Nat.le_of_ble_eq_true rfl) rfl rfl (Nat.le_of_ble_eq_true rfl) hcs dL_law_398 (fun H locs h => ?_)
  have h := lx_swap h
  refine lv_aload_n hx hb dL_law_401 rfl (lv_at hl 1 rfl) ?_
  refine lv_aload_n hx hb dL_law_402 rfl (lv_at hl 3 rfl) ?_
  refine lv_iload_n hx hb dL_law_403 rfl (lv_at hl 0 rfl) ?_
  refine lv_iconst (v := 1) hx hb dL_law_404 (by decide) ?_
  refine lv_iadd hx hb dL_law_405 ?_
  refine va_sld hx hb hX hbl (Nat.not_le.mpr hbl) h.2.2 hi1 dL_law_406 ?_
  refine lx_i (As := [.int (xs (i + 1).toNatClampNeg)]) (rest := [.int r]) (q := 0) C h hl CL_R_useless sR_useless q_R (cR_useless l D cA ad2 e2) (Nat.le_of_ble_eq_true rfl) rfl rfl (Nat.le_of_ble_eq_true rfl) hcs dL_law_407 (fun H locs h => ?_)
  refine lv_icmp_eq (tgt := 576) hx hb dL_law_410 rfl (fun _ => ?_) (fun hq => absurd rfl hq)
  exact hk _ _ H locs ls hR h hl
set_option maxRecDepth 100000 in
set_option maxHeartbeats 4000000 in
theorem law_witnessLength (C : ck_X cm_cl D cA code 4 R_law 2000 p room_1 s m args c) (hcs : cells ≤ 600000 ∧ slots ≤ 7302250) (hX : va_X b L xs s s.heap) (hbl : b < s.heap.size) {i : Int32} (ha : ag Rel fC_witnessLength fR_witnessLength) (hk : ∀ (st rt : ck_S) (H : Heap) (locs : List Loc) (ls : Array Slot), Rel st rt → lx_T cm_cl D (fun q => s.heap.size ≤ q) s.heap (ck_w sh_C cA ad1 st) (ck_w sh_R cA ad2 rt) H locs → lv_has ls 4 [(3, .int i), (2, .ref (ad2 0)), (1, .ref (ad1 0)), (0, .ref b)] → W p l e room_1 s m args below meth c H locs cells slots Q (F0 m 576 ls [])) (st rt : ck_S) (H : Heap) (locs : List Loc) (ls : Array Slot) (hR : Rel st rt) (h : lx_T cm_cl D (fun q => s.heap.size ≤ q) s.heap (ck_w sh_C cA ad1 st) (ck_w sh_R cA ad2 rt) H locs) (hl : lv_has ls 4 [(3, .int i), (2, .ref (ad2 0)), (1, .ref (ad1 0)), (0, .ref b)]) : W p l e room_1 s m args below meth c H locs cells slots Q (F0 m 415 ls []) := by
  have C1 := C
  obtain ⟨hx, hb, hml, hown, hts, hK, hlv, hlo⟩ := C1
  obtain ⟨r, st2, rt2, e1, e2, hR⟩ := ha st rt hR
  refine lv_aload_n hx hb dL_law_415 rfl (lv_at hl 2 rfl) ?_
  have h := lx_swap h
  refine lx_i (As := []) (rest := []) (q := 0) C h hl CL_C_witnessLength sC_witnessLength q_C (cC_witnessLength l D cA ad1 e1) (Nat.le_of_ble_eq_true rfl) rfl rfl (Nat.le_of_ble_eq_true rfl) hcs dL_law_416 (fun H locs h => ?_)
  have h := lx_swap h
  refine lv_aload_n hx hb dL_law_419 rfl (lv_at hl 1 rfl) ?_
  refine lx_i (As := []) (rest := [.int r]) (q := 0) C h hl CL_R_witnessLength sR_witnessLength q_R (cR_witnessLength l D cA ad2 e2) (Nat.le_of_ble_eq_true rfl) rfl rfl (Nat.le_of_ble_eq_true rfl) hcs dL_law_420 (fun H locs h => ?_)
  refine lv_icmp_eq (tgt := 576) hx hb dL_law_423 rfl (fun _ => ?_) (fun hq => absurd rfl hq)
  exact hk _ _ H locs ls hR h hl
set_option maxRecDepth 100000 in
set_option maxHeartbeats 4000000 in
theorem law_witnessKind (C : ck_X cm_cl D cA code 4 R_law 2000 p room_1 s m args c) (hcs : cells ≤ 600000 ∧ slots ≤ 7302250) (hX : va_X b L xs s s.heap) (hbl : b < s.heap.size) {i : Int32} (hi1 : vp_in (i + 1) L) (ha : ag Rel (fC_witnessKind (xs (i + 1).toNatClampNeg)) (fR_witnessKind (xs (i + 1).toNatClampNeg))) (hk : ∀ (st rt : ck_S) (H : Heap) (locs : List Loc) (ls : Array Slot), Rel st rt → lx_T cm_cl D (fun q => s.heap.size ≤ q) s.heap (ck_w sh_C cA ad1 st) (ck_w sh_R cA ad2 rt) H locs → lv_has ls 4 [(3, .int i), (2, .ref (ad2 0)), (1, .ref (ad1 0)), (0, .ref b)] → W p l e room_1 s m args below meth c H locs cells slots Q (F0 m 576 ls [])) (st rt : ck_S) (H : Heap) (locs : List Loc) (ls : Array Slot) (hR : Rel st rt) (h : lx_T cm_cl D (fun q => s.heap.size ≤ q) s.heap (ck_w sh_C cA ad1 st) (ck_w sh_R cA ad2 rt) H locs) (hl : lv_has ls 4 [(3, .int i), (2, .ref (ad2 0)), (1, .ref (ad1 0)), (0, .ref b)]) : W p l e room_1 s m args below meth c H locs cells slots Q (F0 m 428 ls []) := by
  have C1 := C
  obtain ⟨hx, hb, hml, hown, hts, hK, hlv, hlo⟩ := C1
  obtain ⟨r, st2, rt2, e1, e2, hR⟩ := ha st rt hR
  refine lv_aload_n hx hb dL_law_428 rfl (lv_at hl 2 rfl) ?_
  refine lv_aload_n hx hb dL_law_429 rfl (lv_at hl 3 rfl) ?_
  refine lv_iload_n hx hb dL_law_430 rfl (lv_at hl 0 rfl) ?_
  refine lv_iconst (v := 1) hx hb dL_law_431 (by decide) ?_
  refine lv_iadd hx hb dL_law_432 ?_
  refine va_sld hx hb hX hbl (Nat.not_le.mpr hbl) h.2.2 hi1 dL_law_433 ?_
  have h := lx_swap h
  refine lx_i (As := [.int (xs (i + 1).toNatClampNeg)]) (rest := []) (q := 0) C h hl CL_C_witnessKind sC_witnessKind q_C (cC_witnessKind l D cA ad1 e1) (Nat.le_of_ble_eq_true rfl) rfl rfl (Nat.le_of_ble_eq_true rfl) hcs dL_law_434 (fun H locs h => ?_)
  have h := lx_swap h
  refine lv_aload_n hx hb dL_law_437 rfl (lv_at hl 1 rfl) ?_
  refine lv_aload_n hx hb dL_law_438 rfl (lv_at hl 3 rfl) ?_
  refine lv_iload_n hx hb dL_law_439 rfl (lv_at hl 0 rfl) ?_
  refine lv_iconst (v := 1) hx hb dL_law_440 (by decide) ?_
  refine lv_iadd hx hb dL_law_441 ?_
  refine va_sld hx hb hX hbl (Nat.not_le.mpr hbl) h.2.2 hi1 dL_law_442 ?_
  refine lx_i (As := [.int (xs (i + 1).toNatClampNeg)]) (rest := [.int r]) (q := 0) C h hl CL_R_witnessKind sR_witnessKind q_R (cR_witnessKind l D cA ad2 e2) (Nat.le_of_ble_eq_true rfl) rfl rfl (Nat.le_of_ble_eq_true rfl) hcs dL_law_443 (fun H locs h => ?_)
  refine lv_icmp_eq (tgt := 576) hx hb dL_law_446 rfl (fun _ => ?_) (fun hq => absurd rfl hq)
  exact hk _ _ H locs ls hR h hl
set_option maxRecDepth 100000 in
set_option maxHeartbeats 4000000 in
theorem law_witness (C : ck_X cm_cl D cA code 4 R_law 2000 p room_1 s m args c) (hcs : cells ≤ 600000 ∧ slots ≤ 7302250) (hX : va_X b L xs s s.heap) (hbl : b < s.heap.size) {i : Int32} (hi1 : vp_in (i + 1) L) (ha : ag Rel (fC_witness (xs (i + 1).toNatClampNeg)) (fR_witness (xs (i + 1).toNatClampNeg))) (hk : ∀ (st rt : ck_S) (H : Heap) (locs : List Loc) (ls : Array Slot), Rel st rt → lx_T cm_cl D (fun q => s.heap.size ≤ q) s.heap (ck_w sh_C cA ad1 st) (ck_w sh_R cA ad2 rt) H locs → lv_has ls 4 [(3, .int i), (2, .ref (ad2 0)), (1, .ref (ad1 0)), (0, .ref b)] → W p l e room_1 s m args below meth c H locs cells slots Q (F0 m 576 ls [])) (st rt : ck_S) (H : Heap) (locs : List Loc) (ls : Array Slot) (hR : Rel st rt) (h : lx_T cm_cl D (fun q => s.heap.size ≤ q) s.heap (ck_w sh_C cA ad1 st) (ck_w sh_R cA ad2 rt) H locs) (hl : lv_has ls 4 [(3, .int i), (2, .ref (ad2 0)), (1, .ref (ad1 0)), (0, .ref b)]) : W p l e room_1 s m args below meth c H locs cells slots Q (F0 m 451 ls []) := by
  have C1 := C
  obtain ⟨hx, hb, hml, hown, hts, hK, hlv, hlo⟩ := C1
  obtain ⟨r, st2, rt2, e1, e2, hR⟩ := ha st rt hR
  refine lv_aload_n hx hb dL_law_451 rfl (lv_at hl 2 rfl) ?_
  refine lv_aload_n hx hb dL_law_452 rfl (lv_at hl 3 rfl) ?_
  refine lv_iload_n hx hb dL_law_453 rfl (lv_at hl 0 rfl) ?_
  refine lv_iconst (v := 1) hx hb dL_law_454 (by decide) ?_
  refine lv_iadd hx hb dL_law_455 ?_
  refine va_sld hx hb hX hbl (Nat.not_le.mpr hbl) h.2.2 hi1 dL_law_456 ?_
  have h := lx_swap h
  refine lx_i (As := [.int (xs (i + 1).toNatClampNeg)]) (rest := []) (q := 0) C h hl CL_C_witness sC_witness q_C (cC_witness l D cA ad1 e1) (Nat.le_of_ble_eq_true rfl) rfl rfl (Nat.le_of_ble_eq_true rfl) hcs dL_law_457 (fun H locs h => ?_)
  have h := lx_swap h
  refine lv_aload_n hx hb dL_law_460 rfl (lv_at hl 1 rfl) ?_
  refine lv_aload_n hx hb dL_law_461 rfl (lv_at hl 3 rfl) ?_
  refine lv_iload_n hx hb dL_law_462 rfl (lv_at hl 0 rfl) ?_
  refine lv_iconst (v := 1) hx hb dL_law_463 (by decide) ?_
  refine lv_iadd hx hb dL_law_464 ?_
  refine va_sld hx hb hX hbl (Nat.not_le.mpr hbl) h.2.2 hi1 dL_law_465 ?_
  refine lx_i (As := [.int (xs (i + 1).toNatClampNeg)]) (rest := [.int r]) (q := 0) C h hl CL_R_witness sR_witness q_R (cR_witness l D cA ad2 e2) (Nat.le_of_ble_eq_true rfl) rfl rfl (Nat.le_of_ble_eq_true rfl) hcs dL_law_466 (fun H locs h => ?_)
  refine lv_icmp_eq (tgt := 576) hx hb dL_law_469 rfl (fun _ => ?_) (fun hq => absurd rfl hq)
  exact hk _ _ H locs ls hR h hl
set_option maxRecDepth 100000 in
set_option maxHeartbeats 4000000 in
theorem law_valueNumber (C : ck_X cm_cl D cA code 4 R_law 2000 p room_1 s m args c) (hcs : cells ≤ 600000 ∧ slots ≤ 7302250) (hX : va_X b L xs s s.heap) (hbl : b < s.heap.size) {i : Int32} (hi1 : vp_in (i + 1) L) (ha : ag Rel (fC_valueNumber (xs (i + 1).toNatClampNeg)) (fR_valueNumber (xs (i + 1).toNatClampNeg))) (hk : ∀ (st rt : ck_S) (H : Heap) (locs : List Loc) (ls : Array Slot), Rel st rt → lx_T cm_cl D (fun q => s.heap.size ≤ q) s.heap (ck_w sh_C cA ad1 st) (ck_w sh_R cA ad2 rt) H locs → lv_has ls 4 [(3, .int i), (2, .ref (ad2 0)), (1, .ref (ad1 0)), (0, .ref b)] → W p l e room_1 s m args below meth c H locs cells slots Q (F0 m 576 ls [])) (st rt : ck_S) (H : Heap) (locs : List Loc) (ls : Array Slot) (hR : Rel st rt) (h : lx_T cm_cl D (fun q => s.heap.size ≤ q) s.heap (ck_w sh_C cA ad1 st) (ck_w sh_R cA ad2 rt) H locs) (hl : lv_has ls 4 [(3, .int i), (2, .ref (ad2 0)), (1, .ref (ad1 0)), (0, .ref b)]) : W p l e room_1 s m args below meth c H locs cells slots Q (F0 m 474 ls []) := by
  have C1 := C
  obtain ⟨hx, hb, hml, hown, hts, hK, hlv, hlo⟩ := C1
  obtain ⟨r, st2, rt2, e1, e2, hR⟩ := ha st rt hR
  refine lv_aload_n hx hb dL_law_474 rfl (lv_at hl 2 rfl) ?_
  refine lv_aload_n hx hb dL_law_475 rfl (lv_at hl 3 rfl) ?_
  refine lv_iload_n hx hb dL_law_476 rfl (lv_at hl 0 rfl) ?_
  refine lv_iconst (v := 1) hx hb dL_law_477 (by decide) ?_
  refine lv_iadd hx hb dL_law_478 ?_
  refine va_sld hx hb hX hbl (Nat.not_le.mpr hbl) h.2.2 hi1 dL_law_479 ?_
  have h := lx_swap h
  refine lx_i (As := [.int (xs (i + 1).toNatClampNeg)]) (rest := []) (q := 0) C h hl CL_C_valueNumber sC_valueNumber q_C (cC_valueNumber l D cA ad1 e1) (Nat.le_of_ble_eq_true rfl) rfl rfl (Nat.le_of_ble_eq_true rfl) hcs dL_law_480 (fun H locs h => ?_)
  have h := lx_swap h
  refine lv_aload_n hx hb dL_law_483 rfl (lv_at hl 1 rfl) ?_
  refine lv_aload_n hx hb dL_law_484 rfl (lv_at hl 3 rfl) ?_
  refine lv_iload_n hx hb dL_law_485 rfl (lv_at hl 0 rfl) ?_
  refine lv_iconst (v := 1) hx hb dL_law_486 (by decide) ?_
  refine lv_iadd hx hb dL_law_487 ?_
  refine va_sld hx hb hX hbl (Nat.not_le.mpr hbl) h.2.2 hi1 dL_law_488 ?_
  refine lx_i (As := [.int (xs (i + 1).toNatClampNeg)]) (rest := [.int r]) (q := 0) C h hl CL_R_valueNumber sR_valueNumber q_R (cR_valueNumber l D cA ad2 e2) (Nat.le_of_ble_eq_true rfl) rfl rfl (Nat.le_of_ble_eq_true rfl) hcs dL_law_489 (fun H locs h => ?_)
  refine lv_icmp_eq (tgt := 576) hx hb dL_law_492 rfl (fun _ => ?_) (fun hq => absurd rfl hq)
  exact hk _ _ H locs ls hR h hl
set_option maxRecDepth 100000 in
set_option maxHeartbeats 4000000 in
theorem law_valueOf (C : ck_X cm_cl D cA code 4 R_law 2000 p room_1 s m args c) (hcs : cells ≤ 600000 ∧ slots ≤ 7302250) (hX : va_X b L xs s s.heap) (hbl : b < s.heap.size) {i : Int32} (hi1 : vp_in (i + 1) L) (hi2 : vp_in (i + 2) L) (hi3 : vp_in (i + 3) L) (ha : ag Rel (fC_valueOf (xs (i + 1).toNatClampNeg) (xs (i + 2).toNatClampNeg) (xs (i + 3).toNatClampNeg)) (fR_valueOf (xs (i + 1).toNatClampNeg) (xs (i + 2).toNatClampNeg) (xs (i + 3).toNatClampNeg))) (hk : ∀ (st rt : ck_S) (H : Heap) (locs : List Loc) (ls : Array Slot), Rel st rt → lx_T cm_cl D (fun q => s.heap.size ≤ q) s.heap (ck_w sh_C cA ad1 st) (ck_w sh_R cA ad2 rt) H locs → lv_has ls 4 [(3, .int i), (2, .ref (ad2 0)), (1, .ref (ad1 0)), (0, .ref b)] → W p l e room_1 s m args below meth c H locs cells slots Q (F0 m 576 ls [])) (st rt : ck_S) (H : Heap) (locs : List Loc) (ls : Array Slot) (hR : Rel st rt) (h : lx_T cm_cl D (fun q => s.heap.size ≤ q) s.heap (ck_w sh_C cA ad1 st) (ck_w sh_R cA ad2 rt) H locs) (hl : lv_has ls 4 [(3, .int i), (2, .ref (ad2 0)), (1, .ref (ad1 0)), (0, .ref b)]) : W p l e room_1 s m args below meth c H locs cells slots Q (F0 m 497 ls []) := by
  have C1 := C
  obtain ⟨hx, hb, hml, hown, hts, hK, hlv, hlo⟩ := C1
  obtain ⟨r, st2, rt2, e1, e2, hR⟩ := ha st rt hR
  refine lv_aload_n hx hb dL_law_497 rfl (lv_at hl 2 rfl) ?_
  refine lv_aload_n hx hb dL_law_498 rfl (lv_at hl 3 rfl) ?_
  refine lv_iload_n hx hb dL_law_499 rfl (lv_at hl 0 rfl) ?_
  refine lv_iconst (v := 1) hx hb dL_law_500 (by decide) ?_
  refine lv_iadd hx hb dL_law_501 ?_
  refine va_sld hx hb hX hbl (Nat.not_le.mpr hbl) h.2.2 hi1 dL_law_502 ?_
  refine lv_aload_n hx hb dL_law_503 rfl (lv_at hl 3 rfl) ?_
  refine lv_iload_n hx hb dL_law_504 rfl (lv_at hl 0 rfl) ?_
  refine lv_iconst (v := 2) hx hb dL_law_505 (by decide) ?_
  refine lv_iadd hx hb dL_law_506 ?_
  refine va_sld hx hb hX hbl (Nat.not_le.mpr hbl) h.2.2 hi2 dL_law_507 ?_
  refine lv_aload_n hx hb dL_law_508 rfl (lv_at hl 3 rfl) ?_
  refine lv_iload_n hx hb dL_law_509 rfl (lv_at hl 0 rfl) ?_
  refine lv_iconst (v := 3) hx hb dL_law_510 (by decide) ?_
  refine lv_iadd hx hb dL_law_511 ?_
  refine va_sld hx hb hX hbl (Nat.not_le.mpr hbl) h.2.2 hi3 dL_law_512 ?_
  have h := lx_swap h
  refine lx_i (As := [.int (xs (i + 1).toNatClampNeg), .int (xs (i + 2).toNatClampNeg), .int (xs (i + 3).toNatClampNeg)]) (rest := []) (q := 0) C h hl CL_C_valueOf sC_valueOf q_C (cC_valueOf l D cA ad1 e1) (Nat.le_of_ble_eq_true rfl) rfl rfl (Nat.le_of_ble_eq_true rfl) hcs dL_law_513 (fun H locs h => ?_)
  have h := lx_swap h
  refine lv_aload_n hx hb dL_law_516 rfl (lv_at hl 1 rfl) ?_
  refine lv_aload_n hx hb dL_law_517 rfl (lv_at hl 3 rfl) ?_
  refine lv_iload_n hx hb dL_law_518 rfl (lv_at hl 0 rfl) ?_
  refine lv_iconst (v := 1) hx hb dL_law_519 (by decide) ?_
  refine lv_iadd hx hb dL_law_520 ?_
  refine va_sld hx hb hX hbl (Nat.not_le.mpr hbl) h.2.2 hi1 dL_law_521 ?_
  refine lv_aload_n hx hb dL_law_522 rfl (lv_at hl 3 rfl) ?_
  refine lv_iload_n hx hb dL_law_523 rfl (lv_at hl 0 rfl) ?_
  refine lv_iconst (v := 2) hx hb dL_law_524 (by decide) ?_
  refine lv_iadd hx hb dL_law_525 ?_
  refine va_sld hx hb hX hbl (Nat.not_le.mpr hbl) h.2.2 hi2 dL_law_526 ?_
  refine lv_aload_n hx hb dL_law_527 rfl (lv_at hl 3 rfl) ?_
  refine lv_iload_n hx hb dL_law_528 rfl (lv_at hl 0 rfl) ?_
  refine lv_iconst (v := 3) hx hb dL_law_529 (by decide) ?_
  refine lv_iadd hx hb dL_law_530 ?_
  refine va_sld hx hb hX hbl (Nat.not_le.mpr hbl) h.2.2 hi3 dL_law_531 ?_
  refine lx_i (As := [.int (xs (i + 1).toNatClampNeg), .int (xs (i + 2).toNatClampNeg), .int (xs (i + 3).toNatClampNeg)]) (rest := [.int r]) (q := 0) C h hl CL_R_valueOf sR_valueOf q_R (cR_valueOf l D cA ad2 e2) (Nat.le_of_ble_eq_true rfl) rfl rfl (Nat.le_of_ble_eq_true rfl) hcs dL_law_532 (fun H locs h => ?_)
  refine lv_icmp_eq (tgt := 576) hx hb dL_law_535 rfl (fun _ => ?_) (fun hq => absurd rfl hq)
  exact hk _ _ H locs ls hR h hl
set_option maxRecDepth 100000 in
set_option maxHeartbeats 4000000 in
theorem law_run (C : ck_X cm_cl D cA code 4 R_law 2000 p room_1 s m args c) (hcs : cells ≤ 600000 ∧ slots ≤ 7302250) (hX : va_X b L xs s s.heap) (hbl : b < s.heap.size) {i : Int32} (hi1 : vp_in (i + 1) L) (ha : ag Rel (fC_run (xs (i + 1).toNatClampNeg)) (fR_run (xs (i + 1).toNatClampNeg))) (hk : ∀ (st rt : ck_S) (H : Heap) (locs : List Loc) (ls : Array Slot), Rel st rt → lx_T cm_cl D (fun q => s.heap.size ≤ q) s.heap (ck_w sh_C cA ad1 st) (ck_w sh_R cA ad2 rt) H locs → lv_has ls 4 [(3, .int i), (2, .ref (ad2 0)), (1, .ref (ad1 0)), (0, .ref b)] → W p l e room_1 s m args below meth c H locs cells slots Q (F0 m 576 ls [])) (st rt : ck_S) (H : Heap) (locs : List Loc) (ls : Array Slot) (hR : Rel st rt) (h : lx_T cm_cl D (fun q => s.heap.size ≤ q) s.heap (ck_w sh_C cA ad1 st) (ck_w sh_R cA ad2 rt) H locs) (hl : lv_has ls 4 [(3, .int i), (2, .ref (ad2 0)), (1, .ref (ad1 0)), (0, .ref b)]) : W p l e room_1 s m args below meth c H locs cells slots Q (F0 m 540 ls []) := by
  have C1 := C
  obtain ⟨hx, hb, hml, hown, hts, hK, hlv, hlo⟩ := C1
  obtain ⟨r, st2, rt2, e1, e2, hR⟩ := ha st rt hR
  refine lv_aload_n hx hb dL_law_540 rfl (lv_at hl 2 rfl) ?_
  refine lv_aload_n hx hb dL_law_541 rfl (lv_at hl 3 rfl) ?_
  refine lv_iload_n hx hb dL_law_542 rfl (lv_at hl 0 rfl) ?_
  refine lv_iconst (v := 1) hx hb dL_law_543 (by decide) ?_
  refine lv_iadd hx hb dL_law_544 ?_
  refine va_sld hx hb hX hbl (Nat.not_le.mpr hbl) h.2.2 hi1 dL_law_545 ?_
  have h := lx_swap h
  refine lx_i (As := [.int (xs (i + 1).toNatClampNeg)]) (rest := []) (q := 0) C h hl CL_C_run sC_run q_C (cC_run l D cA ad1 e1) (Nat.le_of_ble_eq_true rfl) rfl rfl (Nat.le_of_ble_eq_true rfl) hcs dL_law_546 (fun H locs h => ?_)
  have h := lx_swap h
  refine lv_aload_n hx hb dL_law_549 rfl (lv_at hl 1 rfl) ?_
  refine lv_aload_n hx hb dL_law_550 rfl (lv_at hl 3 rfl) ?_
  refine lv_iload_n hx hb dL_law_551 rfl (lv_at hl 0 rfl) ?_
  refine lv_iconst (v := 1) hx hb dL_law_552 (by decide) ?_
  refine lv_iadd hx hb dL_law_553 ?_
  refine va_sld hx hb hX hbl (Nat.not_le.mpr hbl) h.2.2 hi1 dL_law_554 ?_
  refine lx_i (As := [.int (xs (i + 1).toNatClampNeg)]) (rest := [.int r]) (q := 0) C h hl CL_R_run sR_run q_R (cR_run l D cA ad2 e2) (Nat.le_of_ble_eq_true rfl) rfl rfl (Nat.le_of_ble_eq_true rfl) hcs dL_law_555 (fun H locs h => ?_)
  refine lv_icmp_eq (tgt := 576) hx hb dL_law_558 rfl (fun _ => ?_) (fun hq => absurd rfl hq)
  exact hk _ _ H locs ls hR h hl
set_option maxRecDepth 100000 in
set_option maxHeartbeats 4000000 in
theorem law_tests (C : ck_X cm_cl D cA code 4 R_law 2000 p room_1 s m args c) (hcs : cells ≤ 600000 ∧ slots ≤ 7302250) (hX : va_X b L xs s s.heap) (hbl : b < s.heap.size) {i : Int32} (ha : ag Rel fC_tests fR_tests) (hk : ∀ (st rt : ck_S) (H : Heap) (locs : List Loc) (ls : Array Slot), Rel st rt → lx_T cm_cl D (fun q => s.heap.size ≤ q) s.heap (ck_w sh_C cA ad1 st) (ck_w sh_R cA ad2 rt) H locs → lv_has ls 4 [(3, .int i), (2, .ref (ad2 0)), (1, .ref (ad1 0)), (0, .ref b)] → W p l e room_1 s m args below meth c H locs cells slots Q (F0 m 576 ls [])) (st rt : ck_S) (H : Heap) (locs : List Loc) (ls : Array Slot) (hR : Rel st rt) (h : lx_T cm_cl D (fun q => s.heap.size ≤ q) s.heap (ck_w sh_C cA ad1 st) (ck_w sh_R cA ad2 rt) H locs) (hl : lv_has ls 4 [(3, .int i), (2, .ref (ad2 0)), (1, .ref (ad1 0)), (0, .ref b)]) : W p l e room_1 s m args below meth c H locs cells slots Q (F0 m 563 ls []) := by
  have C1 := C
  obtain ⟨hx, hb, hml, hown, hts, hK, hlv, hlo⟩ := C1
  obtain ⟨r, st2, rt2, e1, e2, hR⟩ := ha st rt hR
  refine lv_aload_n hx hb dL_law_563 rfl (lv_at hl 2 rfl) ?_
  have h := lx_swap h
  refine lx_i (As := []) (rest := []) (q := 0) C h hl CL_C_tests sC_tests q_C (cC_tests l D cA ad1 e1) (Nat.le_of_ble_eq_true rfl) rfl rfl (Nat.le_of_ble_eq_true rfl) hcs dL_law_564 (fun H locs h => ?_)
  have h := lx_swap h
  refine lv_aload_n hx hb dL_law_567 rfl (lv_at hl 1 rfl) ?_
  refine lx_i (As := []) (rest := [.int r]) (q := 0) C h hl CL_R_tests sR_tests q_R (cR_tests l D cA ad2 e2) (Nat.le_of_ble_eq_true rfl) rfl rfl (Nat.le_of_ble_eq_true rfl) hcs dL_law_568 (fun H locs h => ?_)
  refine lv_icmp_eq (tgt := 576) hx hb dL_law_571 rfl (fun _ => ?_) (fun hq => absurd rfl hq)
  exact hk _ _ H locs ls hR h hl
theorem law_n1 {k : Nat} (h : k < 4096) (j : Nat) (hj : j < 5) : (Int32.ofNat k + Int32.ofNat j).toInt = (k + j : Int) := by
  rw [← Int32.ofNat_add, Int32.toInt_ofNat_of_lt (by omega)]
  omega
theorem law_in {k L : Nat} (h : k < 4096) (j : Nat) (hj : j < 5) (hL : k + j < L) : vp_in (Int32.ofNat k + Int32.ofNat j) L := by
  have e := law_n1 h j hj
  intro hc
  rcases hc with hc | hc
  · rw [Int32.lt_iff_toInt_lt, e] at hc
    have : (0 : Int32).toInt = 0 := rfl
    omega
  · have e2 : (Int32.ofNat k + Int32.ofNat j).toNatClampNeg = k + j := by
      unfold Int32.toNatClampNeg
      rw [e]
      omega
    omega
theorem law_gt {k L : Nat} (h : k < 4096) (hL : L ≤ 2048) : (Int32.ofNat L - 4 < Int32.ofNat k ↔ L < k + 4) := by
  have e1 : (Int32.ofNat L - 4).toInt = (L : Int) - 4 := by
    rw [Int32.toInt_sub, Int32.toInt_ofNat_of_lt (by omega)]
    have : (4 : Int32).toInt = 4 := rfl
    rw [this]
    exact Int.bmod_eq_of_le (by omega) (by omega)
  rw [Int32.lt_iff_toInt_lt, e1, Int32.toInt_ofNat_of_lt (by omega)]
  omega
set_option maxRecDepth 100000 in
set_option maxHeartbeats 4000000 in
theorem law_loop (C : ck_X cm_cl D cA code 4 R_law 2000 p room_1 s m args c) (hcs : cells ≤ 600000 ∧ slots ≤ 7302250) (hX : va_X b L xs s s.heap) (hbl : b < s.heap.size) (hL : L ≤ 2048) (hS : Sim Rel) (hend : ∀ (st rt : ck_S) (H : Heap) (locs : List Loc) (ls : Array Slot), lx_T cm_cl D (fun q => s.heap.size ≤ q) s.heap (ck_w sh_C cA ad1 st) (ck_w sh_R cA ad2 rt) H locs → W p l e room_1 s m args below meth c H locs cells slots Q (F0 m 582 ls [])) : ∀ (n k : Nat), L < k + 4 * n → k < 2100 → ∀ (st rt : ck_S) (H : Heap) (locs : List Loc) (ls : Array Slot), Rel st rt → lx_T cm_cl D (fun q => s.heap.size ≤ q) s.heap (ck_w sh_C cA ad1 st) (ck_w sh_R cA ad2 rt) H locs → lv_has ls 4 [(3, .int (Int32.ofNat k)), (2, .ref (ad2 0)), (1, .ref (ad1 0)), (0, .ref b)] → W p l e room_1 s m args below meth c H locs cells slots Q (F0 m 18 ls []) := by
  have C1 := C
  obtain ⟨hx, hb, hml, hown, hts, hK, hlv, hlo⟩ := C1
  intro n
  induction n with
  | zero =>
    intro k hk hk2 st rt H locs ls hR h hl
    refine lv_iload_n hx hb dL_law_18 rfl (lv_at hl 0 rfl) ?_
    refine lv_aload_n hx hb dL_law_19 rfl (lv_at hl 3 rfl) ?_
    refine va_slen hx hb hX hbl (Nat.not_le.mpr hbl) h.2.2 dL_law_20 ?_
    refine lv_iconst (v := 4) hx hb dL_law_21 (by decide) ?_
    refine lv_isub hx hb dL_law_22 ?_
    refine lv_icmp_gt (tgt := 582) hx hb dL_law_23 rfl (fun _ => hend st rt H locs ls h) (fun hq => absurd ((law_gt (by omega) hL).mpr (by omega)) hq)
  | succ n ih =>
    intro k hk hk2 st rt H locs ls hR h hl
    refine lv_iload_n hx hb dL_law_18 rfl (lv_at hl 0 rfl) ?_
    refine lv_aload_n hx hb dL_law_19 rfl (lv_at hl 3 rfl) ?_
    refine va_slen hx hb hX hbl (Nat.not_le.mpr hbl) h.2.2 dL_law_20 ?_
    refine lv_iconst (v := 4) hx hb dL_law_21 (by decide) ?_
    refine lv_isub hx hb dL_law_22 ?_
    refine lv_icmp_gt (tgt := 582) hx hb dL_law_23 rfl (fun _ => hend st rt H locs ls h) (fun hq => ?_)
    have hkL : ¬ L < k + 4 := fun z => hq ((law_gt (by omega) hL).mpr z)
    have hi0 : vp_in (Int32.ofNat k) L := by
      have := law_in (k := k) (L := L) (by omega) 0 (by omega) (by omega)
      rwa [show Int32.ofNat k + Int32.ofNat 0 = Int32.ofNat k from Int32.add_zero _] at this
    have hi1 : vp_in (Int32.ofNat k + 1) L := law_in (by omega) 1 (by omega) (by omega)
    have hi2 : vp_in (Int32.ofNat k + 2) L := law_in (by omega) 2 (by omega) (by omega)
    have hi3 : vp_in (Int32.ofNat k + 3) L := law_in (by omega) 3 (by omega) (by omega)
    refine lv_aload_n hx hb dL_law_26 rfl (lv_at hl 3 rfl) ?_
    refine lv_iload_n hx hb dL_law_27 rfl (lv_at hl 0 rfl) ?_
    refine va_sld hx hb hX hbl (Nat.not_le.mpr hbl) h.2.2 hi0 dL_law_28 ?_
    refine lv_bipush (v := 31) hx hb dL_law_29 (by decide) ?_
    refine lv_iand hx hb dL_law_31 ?_
    have hnx : ∀ (st rt : ck_S) (H : Heap) (locs : List Loc) (ls : Array Slot), Rel st rt → lx_T cm_cl D (fun q => s.heap.size ≤ q) s.heap (ck_w sh_C cA ad1 st) (ck_w sh_R cA ad2 rt) H locs → lv_has ls 4 [(3, .int (Int32.ofNat k)), (2, .ref (ad2 0)), (1, .ref (ad1 0)), (0, .ref b)] → W p l e room_1 s m args below meth c H locs cells slots Q (F0 m 576 ls []) := by
      intro st rt H locs ls hR h hl
      refine lv_iinc (k := 0) (v := Int32.ofNat (k + 4)) (lv' := [(3, .int (Int32.ofNat (k + 4))), (2, .ref (ad2 0)), (1, .ref (ad1 0)), (0, .ref b)]) hx hb dL_law_576 hl rfl (Int32.ofNat_add k 4).symm (by decide) rfl (fun ls hl => ?_)
      refine lv_goto (tgt := 18) hx hb dL_law_579 rfl ?_
      exact ih (k + 4) (by omega) (by omega) st rt H locs ls hR h hl
    obtain ⟨s0, hclear, htype, hconstructor, hbegin, hany, hnumber, hbuild, heither, hrow, hcompile, hkinds, hlongest, huseless, hwitnessLength, hwitnessKind, hwitness, hvalueNumber, hvalueOf, hrun, htests⟩ := hS
    generalize xs (Int32.ofNat k).toNatClampNeg &&& 31 = z
    by_cases z0 : z = 0
    · subst z0
      refine lv_tableIn (tgt := 128) hx hb dL_law_32 (by decide) (by decide) rfl rfl ?_
      exact law_clear C hcs hX hbl hclear hnx st rt H locs ls hR h hl
    by_cases z1 : z = 1
    · subst z1
      refine lv_tableIn (tgt := 139) hx hb dL_law_32 (by decide) (by decide) rfl rfl ?_
      exact law_type C hcs hX hbl htype hnx st rt H locs ls hR h hl
    by_cases z2 : z = 2
    · subst z2
      refine lv_tableIn (tgt := 152) hx hb dL_law_32 (by decide) (by decide) rfl rfl ?_
      exact law_constructor C hcs hX hbl hi1 hi2 hi3 (hconstructor _ _ _) hnx st rt H locs ls hR h hl
    by_cases z3 : z = 3
    · subst z3
      refine lv_tableIn (tgt := 195) hx hb dL_law_32 (by decide) (by decide) rfl rfl ?_
      exact law_begin C hcs hX hbl hi1 (hbegin _) hnx st rt H locs ls hR h hl
    by_cases z4 : z = 4
    · subst z4
      refine lv_tableIn (tgt := 218) hx hb dL_law_32 (by decide) (by decide) rfl rfl ?_
      exact law_any C hcs hX hbl hany hnx st rt H locs ls hR h hl
    by_cases z5 : z = 5
    · subst z5
      refine lv_tableIn (tgt := 231) hx hb dL_law_32 (by decide) (by decide) rfl rfl ?_
      exact law_number C hcs hX hbl hi1 (hnumber _) hnx st rt H locs ls hR h hl
    by_cases z6 : z = 6
    · subst z6
      refine lv_tableIn (tgt := 254) hx hb dL_law_32 (by decide) (by decide) rfl rfl ?_
      exact law_build C hcs hX hbl hi1 hi2 hi3 (hbuild _ _ _) hnx st rt H locs ls hR h hl
    by_cases z7 : z = 7
    · subst z7
      refine lv_tableIn (tgt := 297) hx hb dL_law_32 (by decide) (by decide) rfl rfl ?_
      exact law_either C hcs hX hbl hi1 hi2 (heither _ _) hnx st rt H locs ls hR h hl
    by_cases z8 : z = 8
    · subst z8
      refine lv_tableIn (tgt := 330) hx hb dL_law_32 (by decide) (by decide) rfl rfl ?_
      exact law_row C hcs hX hbl hi1 (hrow _) hnx st rt H locs ls hR h hl
    by_cases z9 : z = 9
    · subst z9
      refine lv_tableIn (tgt := 353) hx hb dL_law_32 (by decide) (by decide) rfl rfl ?_
      exact law_compile C hcs hX hbl hcompile hnx st rt H locs ls hR h hl
    by_cases z10 : z = 10
    · subst z10
      refine lv_tableIn (tgt := 366) hx hb dL_law_32 (by decide) (by decide) rfl rfl ?_
      exact law_kinds C hcs hX hbl hkinds hnx st rt H locs ls hR h hl
    by_cases z11 : z = 11
    · subst z11
      refine lv_tableIn (tgt := 379) hx hb dL_law_32 (by decide) (by decide) rfl rfl ?_
      exact law_longest C hcs hX hbl hlongest hnx st rt H locs ls hR h hl
    by_cases z12 : z = 12
    · subst z12
      refine lv_tableIn (tgt := 392) hx hb dL_law_32 (by decide) (by decide) rfl rfl ?_
      exact law_useless C hcs hX hbl hi1 (huseless _) hnx st rt H locs ls hR h hl
    by_cases z13 : z = 13
    · subst z13
      refine lv_tableIn (tgt := 415) hx hb dL_law_32 (by decide) (by decide) rfl rfl ?_
      exact law_witnessLength C hcs hX hbl hwitnessLength hnx st rt H locs ls hR h hl
    by_cases z14 : z = 14
    · subst z14
      refine lv_tableIn (tgt := 428) hx hb dL_law_32 (by decide) (by decide) rfl rfl ?_
      exact law_witnessKind C hcs hX hbl hi1 (hwitnessKind _) hnx st rt H locs ls hR h hl
    by_cases z15 : z = 15
    · subst z15
      refine lv_tableIn (tgt := 451) hx hb dL_law_32 (by decide) (by decide) rfl rfl ?_
      exact law_witness C hcs hX hbl hi1 (hwitness _) hnx st rt H locs ls hR h hl
    by_cases z16 : z = 16
    · subst z16
      refine lv_tableIn (tgt := 474) hx hb dL_law_32 (by decide) (by decide) rfl rfl ?_
      exact law_valueNumber C hcs hX hbl hi1 (hvalueNumber _) hnx st rt H locs ls hR h hl
    by_cases z17 : z = 17
    · subst z17
      refine lv_tableIn (tgt := 497) hx hb dL_law_32 (by decide) (by decide) rfl rfl ?_
      exact law_valueOf C hcs hX hbl hi1 hi2 hi3 (hvalueOf _ _ _) hnx st rt H locs ls hR h hl
    by_cases z18 : z = 18
    · subst z18
      refine lv_tableIn (tgt := 540) hx hb dL_law_32 (by decide) (by decide) rfl rfl ?_
      exact law_run C hcs hX hbl hi1 (hrun _) hnx st rt H locs ls hR h hl
    by_cases z19 : z = 19
    · subst z19
      refine lv_tableIn (tgt := 563) hx hb dL_law_32 (by decide) (by decide) rfl rfl ?_
      exact law_tests C hcs hX hbl htests hnx st rt H locs ls hR h hl
    refine lv_tableOut (tgt := 576) hx hb dL_law_32 ?_ rfl (hnx st rt H locs ls hR h hl)
    have w0 : z.toInt ≠ 0 := fun w => z0 (Int32.toInt_inj.mp w)
    have w1 : z.toInt ≠ 1 := fun w => z1 (Int32.toInt_inj.mp w)
    have w2 : z.toInt ≠ 2 := fun w => z2 (Int32.toInt_inj.mp w)
    have w3 : z.toInt ≠ 3 := fun w => z3 (Int32.toInt_inj.mp w)
    have w4 : z.toInt ≠ 4 := fun w => z4 (Int32.toInt_inj.mp w)
    have w5 : z.toInt ≠ 5 := fun w => z5 (Int32.toInt_inj.mp w)
    have w6 : z.toInt ≠ 6 := fun w => z6 (Int32.toInt_inj.mp w)
    have w7 : z.toInt ≠ 7 := fun w => z7 (Int32.toInt_inj.mp w)
    have w8 : z.toInt ≠ 8 := fun w => z8 (Int32.toInt_inj.mp w)
    have w9 : z.toInt ≠ 9 := fun w => z9 (Int32.toInt_inj.mp w)
    have w10 : z.toInt ≠ 10 := fun w => z10 (Int32.toInt_inj.mp w)
    have w11 : z.toInt ≠ 11 := fun w => z11 (Int32.toInt_inj.mp w)
    have w12 : z.toInt ≠ 12 := fun w => z12 (Int32.toInt_inj.mp w)
    have w13 : z.toInt ≠ 13 := fun w => z13 (Int32.toInt_inj.mp w)
    have w14 : z.toInt ≠ 14 := fun w => z14 (Int32.toInt_inj.mp w)
    have w15 : z.toInt ≠ 15 := fun w => z15 (Int32.toInt_inj.mp w)
    have w16 : z.toInt ≠ 16 := fun w => z16 (Int32.toInt_inj.mp w)
    have w17 : z.toInt ≠ 17 := fun w => z17 (Int32.toInt_inj.mp w)
    have w18 : z.toInt ≠ 18 := fun w => z18 (Int32.toInt_inj.mp w)
    have w19 : z.toInt ≠ 19 := fun w => z19 (Int32.toInt_inj.mp w)
    omega
end LAW
