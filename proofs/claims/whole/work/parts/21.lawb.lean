def R_law : String := "ClauseMatrixLaw"
def lw_P (b : Addr) (xs : List Int32) (args : Array Value) (s : State) : Prop := args = #[.ref b] ∧ s.IntsAt b xs ∧ xs.length ≤ 2048 ∧ (Jvm.Cond.and given_1 narrow_1).before args s = true
def lw_Q (_ : Array Value) (s : State) (o : Outcome) (t : State) : Prop := o = .returned (some (.int 1)) ∧ Framed s o t [] 600000 7302250
def lw_Z (below : List Frame) (a : Array Value) (s : State) : State → Prop := fun t => ∃ o, t.status = .running ∧ Ended t below o ∧ lw_Q a s o t
/-- the law's own end, with 1 on the stack, nothing written that was there before, its room as the claim has it -/
theorem lw_ret {p : Program} {l : Launch} {e : Env} {s : State} {m : MethodId} {below : List Frame} {meth : Method} {c : Code} {b : Nat} (hx : p.tables.exec = Jvm.exec) (hb : c.code = code) (hr : meth.sig.returnType = ret) (hlocks : meth.locks = false) {pc : Nat} {H : Heap} {ls : Array Slot} (hdg : decode code pc = .ok (.ireturn, 1)) : W p l e room_1 s m #[Value.ref b] below meth c H [] 600000 7302250 (lw_Z below #[Value.ref b] s) (F0 m pc ls [.int 1]) := by
  intro T hT X
  obtain ⟨fs, hret, hrun, hended, hW, hframe⟩ := X.leave (v := some (.int 1)) (hlocks := hlocks) (fun h => by rw [hr] at h; cases h)
  have hmeth' : T.vm.method? m = some meth := X.method'
  refine ⟨T.setFrames fs, ?_, .returned (some (.int 1)), hrun, hended, rfl, ⟨_, rfl⟩, hW, hframe⟩
  jvm_step X.here [X.here.top, hx, hb, hdg, hmeth', hr, ret, narrow_b1]
  (try refine ⟨rfl, ?_⟩); (try refine ⟨rfl, ?_⟩)
  first | (intro acts; rw [hret _ acts rfl rfl rfl]) | rw [hret _ _ rfl rfl rfl]
  exact Steps.refl _
/-- what holds at the law's entry: the machine, the code, the tables' words (any of lw_tbl by 'hts w (by decide +kernel)'), the script of L ints xs at the cell b, what the Statement gives of the start (any of its parts by flat_of_before) -/
def lw_At (p : Program) (s : State) (m : MethodId) (meth : Method) (c : Code) (b L : Nat) (xs : Nat → Int32) : Prop :=
  p.tables.exec = Jvm.exec ∧ c.code = code ∧ meth.sig.returnType = ret ∧ c.maxLocals = 4 ∧ s.vm.findClass R_law = some m.cls ∧ (∀ w ∈ lw_tbl, w.before #[Value.ref b] s = true) ∧ va_X b L xs s s.heap ∧ b < s.heap.size ∧ meth.locks = false ∧ (Jvm.Cond.and given_1 narrow_1).before #[Value.ref b] s = true
/-! the law's world: the cells X, and behind them a world in the shape's words -/
def lx_T (cl : List vw_C) (D : va_G) (A : Nat → Prop) (H0 : Heap) (X Y : va_W) (H : Heap) (locs : List Loc) : Prop := va_P D cl (X ++ Y) H ∧ va_D A (X ++ Y) ∧ va_S A H0 H locs
theorem lx_left {X Y : va_W} {k : Nat} {q : Nat × va_E} (h : X[k]? = some q) : (X ++ Y)[k]? = some q := by
  rw [List.getElem?_append_left (List.getElem?_eq_some_iff.mp h).1]; exact h
theorem lx_right {X Y : va_W} {k : Nat} {q : Nat × va_E} (h : Y[k]? = some q) : (X ++ Y)[X.length + k]? = some q := by
  rw [List.getElem?_append_right (by omega), Nat.add_sub_cancel_left]; exact h
theorem lx_swap {cl : List vw_C} {D : va_G} {A : Nat → Prop} {H0 H : Heap} {X Y : va_W} {locs : List Loc} (h : lx_T cl D A H0 X Y H locs) : lx_T cl D A H0 Y X H locs := by
  obtain ⟨h1, h2, h3⟩ := h
  refine ⟨va_P.app (w1 := Y) (w2 := X) (fun k q hk => h1 _ q (lx_right hk)) (fun k q hk => h1 k q (lx_left hk)), va_D.app ⟨fun i j a b ha hb he => ?_, fun k q hk => h2.2 _ q (lx_right hk)⟩ ⟨fun i j a b ha hb he => h2.1 i j a b (lx_left ha) (lx_left hb) he, fun k q hk => h2.2 k q (lx_left hk)⟩ (fun i j a b ha hb he => ?_), h3⟩
  · have := h2.1 _ _ a b (lx_right ha) (lx_right hb) he
    omega
  · have h4 := h2.1 _ _ a b (lx_right ha) (lx_left hb) he
    have h5 := (List.getElem?_eq_some_iff.mp hb).1
    omega
section LX
variable {p : Program} {l : Launch} {e : Env} {R : Room} {s : State} {m : MethodId} {args : Array Value} {below : List Frame} {meth : Method} {c : Code} {H : Heap} {locs : List Loc} {Q : State → Prop} {cells slots : Nat}
variable {cc : ByteArray} {pc nL v : Nat} {ls : Array Slot} {rest : List Value} {D : va_G} {cl : List vw_C} {cA : Nat → ClassId} {own : String} {sh : List ck_Sh} {ad : Nat → Nat} {A : Nat → Prop} {H0 : Heap} {st : ck_S} {X : va_W}
theorem lx_wA (h : va_D A (X ++ ck_w sh cA ad st)) : ∀ q, ck_A ad sh.length q → A q := by
  intro q hq
  obtain ⟨k, hk, rfl⟩ := hq
  exact h.2 _ _ (lx_right (ck_w_at (List.getElem?_eq_getElem hk)))
theorem lx_wD (h : va_D A (X ++ ck_w sh cA ad st)) : va_D (ck_A ad sh.length) (ck_w sh cA ad st) := by
  refine ⟨fun i j a b ha hb he => ?_, fun k q hk => ?_⟩
  · have := h.1 _ _ a b (lx_right ha) (lx_right hb) he
    omega
  · unfold ck_w at hk
    rw [List.getElem?_mapIdx] at hk
    cases hs : sh[k]? with
    | none => rw [hs] at hk; cases hk
    | some x => rw [hs] at hk; cases hk; exact ⟨k, (List.getElem?_eq_some_iff.mp hs).1, rfl⟩
theorem lx_back {st2 u : ck_S} {t : State} {H1 : Heap} {locs1 : List Loc} (h : lx_T cl D A H0 X (ck_w sh cA ad st) H locs) (ht : t.heap = H1) (hu : u = st2) (hB : ck_P sh cl D cA ad u t) (hk : ∀ q : Nat, q < H.size → ¬ ck_A ad sh.length q → H1[q]? = H[q]?) (hS : va_S A H0 H1 locs1) : lx_T cl D A H0 X (ck_w sh cA ad st2) H1 locs1 := by
  subst hu; subst ht
  have hPX : va_P D cl X H := fun k q hq => h.1 k q (lx_left hq)
  refine ⟨(hPX.kept (fun k q hq => hk q.1 (hPX k q hq).lt (fun hA => ?_))).app hB.1, mk_ofD h.2.1 ?_, hS⟩
  · obtain ⟨j, hj, he⟩ := hA
    have h4 := h.2.1.1 _ _ q _ (lx_left hq) (lx_right (ck_w_at (List.getElem?_eq_getElem hj))) he
    have h5 := (List.getElem?_eq_some_iff.mp hq).1
    omega
  · rw [List.map_append, List.map_append, mk_fst, mk_fst]
theorem lx_i {idx nL2 v2 n q : Nat} {y : MethodName} {cc2 : ByteArray} {ret : Option FieldType} {As S : List Value} {L : List (Nat × Value)} {r : Int32} {st2 : ck_S}
    (C : ck_X cl D cA cc nL own v p R s m args c) (h : lx_T cl D A H0 X (ck_w sh cA ad st) H locs) (hl : lv_has ls nL L) (F : ck_C own idx y cc2 nL2 ret n) (F2 : Cond.instanceMethod y ∈ ck_T ∧ Cond.selects y.cls y y ∈ ck_T) (F3 : ∃ (ci N : Nat) (T0 : u_T) (fs : List (Option Nat)), sh[q]? = some (.inl (ci, fs)) ∧ cl[ci]? = some (y.cls, T0, N))
    (hM : Met l y (.code y cc2 nL2 ret :: ck_T) (ck_R v2) (va_Pc (.ref (ad q) :: As) (ck_P sh cl D cA ad st)) (va_Qi (fun a u => a = r ∧ u = st2) (ck_P sh cl D cA ad) (ck_A ad sh.length)) 0 0 (ck_A ad sh.length)) (hv : v2 + 1 ≤ v)
    (hn : As.length = n) (hS : S = As.reverse ++ .ref (ad q) :: rest) (hr : (rest.map fun v => v.category).sum ≤ 8) (hcs : cells ≤ R.cells ∧ slots ≤ R.slots) (hd : decode cc pc = .ok (.invokevirtual idx, 3))
    (kk : ∀ (H : Heap) (locs : List Loc), lx_T cl D A H0 X (ck_w sh cA ad st2) H locs → W p l e R s m args below meth c H locs cells slots Q (F0 m (pc + 3) ls (.int r :: rest))) : W p l e R s m args below meth c H locs cells slots Q (F0 m pc ls S) := by
  obtain ⟨ci, N, T0, fs, g1, g2⟩ := F3
  have hcb := ck_cb (v2 := v2) C F hv
  obtain ⟨hx, hb, hml, hown, hts, hK, hfr, hlo⟩ := C
  have hPY : va_P D cl (ck_w sh cA ad st) H := fun k q hk => h.1 _ q (lx_right hk)
  have hwA := lx_wA h.2.1
  refine va_calli (va_runV (C := y.cls) (b := ad q) (As := As) (rest := rest) ⟨hx, hb, hml, hown, hts⟩ hM ⟨hcb, hts _ F2.1, hts _ F2.2⟩ ⟨ck_blind, va_recv hK hPY g2 (ck_w_at g1), fun U hU hW => ⟨rfl, by rw [hU]; exact hPY, va_K.moved hW.alike hK, lx_wD h.2.1⟩⟩ rfl hn hl.1 hS (lv_room hr) hd hcs) h.2.2 (fun q _ a => hwA q a) hwA (fun r1 u t H1 locs1 ht hvm hp hB hz hk hS1 => ?_)
  obtain ⟨rfl, hu⟩ := hp
  exact kk H1 locs1 (lx_back h ht hu hB hk hS1)
theorem lx_v {idx nL2 v2 n q : Nat} {y : MethodName} {cc2 : ByteArray} {ret : Option FieldType} {As S : List Value} {L : List (Nat × Value)} {st2 : ck_S}
    (C : ck_X cl D cA cc nL own v p R s m args c) (h : lx_T cl D A H0 X (ck_w sh cA ad st) H locs) (hl : lv_has ls nL L) (F : ck_C own idx y cc2 nL2 ret n) (F2 : Cond.instanceMethod y ∈ ck_T ∧ Cond.selects y.cls y y ∈ ck_T) (F3 : ∃ (ci N : Nat) (T0 : u_T) (fs : List (Option Nat)), sh[q]? = some (.inl (ci, fs)) ∧ cl[ci]? = some (y.cls, T0, N))
    (hM : Met l y (.code y cc2 nL2 ret :: ck_T) (ck_R v2) (va_Pc (.ref (ad q) :: As) (ck_P sh cl D cA ad st)) (va_Qv (fun u => u = st2) (ck_P sh cl D cA ad) (ck_A ad sh.length)) 0 0 (ck_A ad sh.length)) (hv : v2 + 1 ≤ v)
    (hn : As.length = n) (hS : S = As.reverse ++ .ref (ad q) :: rest) (hr : (rest.map fun v => v.category).sum ≤ 8) (hcs : cells ≤ R.cells ∧ slots ≤ R.slots) (hd : decode cc pc = .ok (.invokevirtual idx, 3))
    (kk : ∀ (H : Heap) (locs : List Loc), lx_T cl D A H0 X (ck_w sh cA ad st2) H locs → W p l e R s m args below meth c H locs cells slots Q (F0 m (pc + 3) ls rest)) : W p l e R s m args below meth c H locs cells slots Q (F0 m pc ls S) := by
  obtain ⟨ci, N, T0, fs, g1, g2⟩ := F3
  have hcb := ck_cb (v2 := v2) C F hv
  obtain ⟨hx, hb, hml, hown, hts, hK, hfr, hlo⟩ := C
  have hPY : va_P D cl (ck_w sh cA ad st) H := fun k q hk => h.1 _ q (lx_right hk)
  have hwA := lx_wA h.2.1
  refine va_callv (va_runV (C := y.cls) (b := ad q) (As := As) (rest := rest) ⟨hx, hb, hml, hown, hts⟩ hM ⟨hcb, hts _ F2.1, hts _ F2.2⟩ ⟨ck_blind, va_recv hK hPY g2 (ck_w_at g1), fun U hU hW => ⟨rfl, by rw [hU]; exact hPY, va_K.moved hW.alike hK, lx_wD h.2.1⟩⟩ rfl hn hl.1 hS (lv_room hr) hd hcs) h.2.2 (fun q _ a => hwA q a) hwA (fun u t H1 locs1 ht hvm hp hB hz hk hS1 => ?_)
  exact kk H1 locs1 (lx_back h ht hp hB hk hS1)
end LX
/-- two functions answer alike, and keep the relation -/
def ag (Rel : ck_S → ck_S → Prop) (fc fr : ck_S → Option (Int32 × ck_S)) : Prop := ∀ st rt, Rel st rt → ∃ (r : Int32) (st2 rt2 : ck_S), fc st = some (r, st2) ∧ fr rt = some (r, rt2) ∧ Rel st2 rt2
def agv (Rel : ck_S → ck_S → Prop) (fc fr : ck_S → Option ck_S) : Prop := ∀ st rt, Rel st rt → ∃ (st2 rt2 : ck_S), fc st = some st2 ∧ fr rt = some rt2 ∧ Rel st2 rt2
/-- what the pure side owes the law -/
def Sim (Rel : ck_S → ck_S → Prop) : Prop := Rel stC0 stR0 ∧ agv Rel fC_clear fR_clear ∧ ag Rel fC_type fR_type ∧ (∀ a b c, ag Rel (fC_constructor a b c) (fR_constructor a b c)) ∧ (∀ a, ag Rel (fC_begin a) (fR_begin a)) ∧ ag Rel fC_any fR_any ∧ (∀ a, ag Rel (fC_number a) (fR_number a)) ∧ (∀ a b c, ag Rel (fC_build a b c) (fR_build a b c)) ∧ (∀ a b, ag Rel (fC_either a b) (fR_either a b)) ∧ (∀ a, ag Rel (fC_row a) (fR_row a)) ∧ ag Rel fC_compile fR_compile ∧ ag Rel fC_kinds fR_kinds ∧ ag Rel fC_longest fR_longest ∧ (∀ a, ag Rel (fC_useless a) (fR_useless a)) ∧ ag Rel fC_witnessLength fR_witnessLength ∧ (∀ a, ag Rel (fC_witnessKind a) (fR_witnessKind a)) ∧ (∀ a, ag Rel (fC_witness a) (fR_witness a)) ∧ (∀ a, ag Rel (fC_valueNumber a) (fR_valueNumber a)) ∧ (∀ a b c, ag Rel (fC_valueOf a b c) (fR_valueOf a b c)) ∧ (∀ a, ag Rel (fC_run a) (fR_run a)) ∧ ag Rel fC_tests fR_tests
/-- the classes and the array classes as the tables have them -/
theorem lx_K {s : State} {args : Array Value} (hts : ∀ w ∈ lw_tbl, w.before args s = true) : ∃ (D : va_G) (cA : Nat → ClassId), va_K D cm_cl (ck_ty cA) s := by
  have ht : ∀ w ∈ ck_T, w.before args s = true := fun w h => hts w (ck_T_in h)
  obtain ⟨c0, i0, k0⟩ := u_known ht cu_C (ht _ IC4)
  obtain ⟨c1, i1, k1⟩ := u_known ht cu_D (ht _ ID4.2)
  obtain ⟨c2, i2, k2⟩ := u_known ht cu_P (ht _ IP4.2)
  obtain ⟨c3, i3, k3⟩ := u_known ht cu_V (ht _ IV4.2)
  obtain ⟨c4, i4, k4⟩ := u_known ht cu_M (ht _ IM4.2)
  obtain ⟨c5, i5, k5⟩ := u_known ht cu_T (ht _ IT4.2)
  obtain ⟨c6, i6, k6⟩ := u_known ht cu_G (ht _ IG4.2)
  obtain ⟨c7, i7, k7⟩ := u_known ht cu_R (ht _ IR4)
  obtain ⟨a0, ka0, co0, f0, g0, e0⟩ := Cond.arrayClass_spec (show (Cond.arrayClass .int).holds _ _ _ _ _ = true from ht _ mk_wI)
  obtain ⟨a1, ka1, co1, f1, g1, e1⟩ := Cond.arrayClass_spec (show (Cond.arrayClass .boolean).holds _ _ _ _ _ = true from ht _ mk_wZ)
  refine ⟨(fun k => [c0, c1, c2, c3, c4, c5, c6, c7].getD k c0, fun k => [i0, i1, i2, i3, i4, i5, i6, i7].getD k i0), fun k => if k = 0 then a0 else a1, fun c q hq => ?_, fun k q hq => ?_⟩
  · match c, hq with
    | 0, hq => obtain rfl := Option.some.inj hq; exact k0
    | 1, hq => obtain rfl := Option.some.inj hq; exact k1
    | 2, hq => obtain rfl := Option.some.inj hq; exact k2
    | 3, hq => obtain rfl := Option.some.inj hq; exact k3
    | 4, hq => obtain rfl := Option.some.inj hq; exact k4
    | 5, hq => obtain rfl := Option.some.inj hq; exact k5
    | 6, hq => obtain rfl := Option.some.inj hq; exact k6
    | 7, hq => obtain rfl := Option.some.inj hq; exact k7
    | n + 8, hq => cases hq
  · match k, hq with
    | 0, hq => obtain rfl := Option.some.inj hq; exact ⟨fun n z => ⟨fun k h => (by cases h), ka0, g0, co0, e0⟩, f0⟩
    | 1, hq => obtain rfl := Option.some.inj hq; exact ⟨fun n z => ⟨fun k h => (by cases h), ka1, g1, co1, e1⟩, f1⟩
    | n + 2, hq => cases hq
