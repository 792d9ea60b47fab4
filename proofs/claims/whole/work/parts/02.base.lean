/-! My own words for a state: cells by number, an object's slots and an array's elements by place. -/
abbrev ck_S : Type := Nat → Nat → Int32
def ck_u (st : ck_S) (q i : Nat) (x : Int32) : ck_S := fun a => if a = q then upd (st q) i x else st a
abbrev ck_Sh : Type := (Nat × List (Option Nat)) ⊕ (Nat × Nat)
def ck_fv (ad : Nat → Nat) (r : Nat → Int32) (j : Nat) (d : Option Nat) : Value := match d with
  | none => .int (r j)
  | some t => .ref (ad t)
def ck_ce (cA : Nat → ClassId) (ad : Nat → Nat) (r : Nat → Int32) (x : ck_Sh) : va_E := match x with
  | .inl o => .inr (o.1, o.2.mapIdx (ck_fv ad r))
  | .inr a => .inl (cA a.1, a.2, .inl r)
def ck_w (sh : List ck_Sh) (cA : Nat → ClassId) (ad : Nat → Nat) (st : ck_S) : va_W := sh.mapIdx (fun q x => (ad q, ck_ce cA ad (st q) x))
theorem ck_w_at {sh : List ck_Sh} {cA : Nat → ClassId} {ad : Nat → Nat} {st : ck_S} {q : Nat} {x : ck_Sh} (h : sh[q]? = some x) : (ck_w sh cA ad st)[q]? = some (ad q, ck_ce cA ad (st q) x) := by
  unfold ck_w
  rw [List.getElem?_mapIdx, h]
  rfl
theorem ck_w_set {sh : List ck_Sh} {cA : Nat → ClassId} {ad : Nat → Nat} {st : ck_S} {q : Nat} {x : ck_Sh} {r : Nat → Int32} (h : sh[q]? = some x) : (ck_w sh cA ad st).set q (ad q, ck_ce cA ad r x) = ck_w sh cA ad (fun a => if a = q then r else st a) := by
  have hq : q < sh.length := (List.getElem?_eq_some_iff.mp h).1
  apply List.ext_getElem?
  intro j
  unfold ck_w
  rw [List.getElem?_set, List.getElem?_mapIdx, List.getElem?_mapIdx, List.length_mapIdx]
  by_cases hj : q = j
  · subst hj
    rw [if_pos rfl, if_pos hq, h]
    simp
  · have hj' : ¬ j = q := fun e => hj e.symm
    simp [hj, hj']
theorem ck_fs_set {ad : Nat → Nat} {r : Nat → Int32} {fs : List (Option Nat)} {k : Nat} {x : Int32} (h : fs[k]? = some none) : (fs.mapIdx (ck_fv ad r)).set k (.int x) = fs.mapIdx (ck_fv ad (upd r k x)) := by
  have hq : k < fs.length := (List.getElem?_eq_some_iff.mp h).1
  apply List.ext_getElem?
  intro j
  rw [List.getElem?_set, List.getElem?_mapIdx, List.getElem?_mapIdx, List.length_mapIdx]
  by_cases hj : k = j
  · subst hj
    rw [if_pos rfl, if_pos hq, h]
    simp [ck_fv, upd]
  · have hj' : ¬ j = k := fun e => hj e.symm
    rw [if_neg hj]
    congr 1
    funext d
    cases d <;> simp [ck_fv, upd, hj']
def ck_A (ad : Nat → Nat) (n : Nat) : Nat → Prop := fun a => ∃ k : Nat, k < n ∧ a = ad k
def ck_T : List Cond := lw_tbl.filter goodWord
theorem ck_T_in {w : Cond} (h : w ∈ ck_T) : w ∈ lw_tbl := (List.mem_filter.mp h).1
theorem ck_T_good {w : Cond} (h : w ∈ ck_T) : goodWord w = true := (List.mem_filter.mp h).2
theorem ck_T_mk {w : Cond} (h : w ∈ lw_tbl) (g : goodWord w = true) : w ∈ ck_T := List.mem_filter.mpr ⟨h, g⟩
theorem ck_good {w : Cond} (h : w ∈ ck_T) : GoodIn ck_T (w :: ck_T) := fun x hx => by
  rcases List.mem_cons.mp hx with rfl | hx
  · exact ⟨h, good_of_word (ck_T_good h)⟩
  · exact ⟨hx, good_of_word (ck_T_good hx)⟩
def ck_ty (cA : Nat → ClassId) : List (ClassId × FieldType) := [(cA 0, .int), (cA 1, .boolean)]
/-- what stays through a method: machine, code, words, classes, room for v frames -/
def ck_X (cl : List vw_C) (D : va_G) (cA : Nat → ClassId) (cc : ByteArray) (nL : Nat) (own : String) (v : Nat) (p : Program) (R : Room) (s : State) (m : MethodId) (args : Array Value) (c : Code) : Prop :=
  p.tables.exec = Jvm.exec ∧ c.code = cc ∧ c.maxLocals = nL ∧ s.vm.findClass own = some m.cls ∧ (∀ w ∈ ck_T, w.before args s = true) ∧ va_K D cl (ck_ty cA) s ∧ v ≤ R.frames ∧ 40 * v ≤ R.locals
/-- the heap holds the state -/
def ck_AT (sh : List ck_Sh) (cl : List vw_C) (D : va_G) (cA : Nat → ClassId) (ad : Nat → Nat) (H0 : Heap) (st : ck_S) (H : Heap) (locs : List Loc) : Prop :=
  va_P D cl (ck_w sh cA ad st) H ∧ va_D (ck_A ad sh.length) (ck_w sh cA ad st) ∧ va_S (ck_A ad sh.length) H0 H locs
def ck_P (sh : List ck_Sh) (cl : List vw_C) (D : va_G) (cA : Nat → ClassId) (ad : Nat → Nat) (st : ck_S) (U : State) : Prop :=
  va_P D cl (ck_w sh cA ad st) U.heap ∧ va_K D cl (ck_ty cA) U ∧ va_D (ck_A ad sh.length) (ck_w sh cA ad st)
def ck_R (v : Nat) : Room := { frames := v, cells := 0, slots := 0, locals := 40 * v }
/-- a field: its place in the shape, its class, its words -/
def ck_F (sh : List ck_Sh) (cl : List vw_C) (own : String) (idx q k : Nat) (d : Option Nat) : Prop :=
  ∃ (ci N : Nat) (T0 : u_T) (fs : List (Option Nat)), sh[q]? = some (.inl (ci, fs)) ∧ fs[k]? = some d ∧ cl[ci]? = some (own, T0, N) ∧ k < N ∧ (∀ w ∈ u_ws own T0 N, w ∈ ck_T) ∧ Cond.fieldLink own idx own (T0 k).2.1 (T0 k).2.2.1 ∈ ck_T ∧ (T0 k).1 = own
/-- a field that may be written -/
def ck_G (sh : List ck_Sh) (cl : List vw_C) (own : String) (idx q k : Nat) (ty : FieldType) : Prop :=
  ∃ (ci N : Nat) (T0 : u_T) (fs : List (Option Nat)) (ty0 : Nat → FieldType), sh[q]? = some (.inl (ci, fs)) ∧ fs[k]? = some none ∧ cl[ci]? = some (own, T0, N) ∧ k < N ∧ (∀ w ∈ u_ws own T0 N, w ∈ ck_T) ∧ Cond.fieldLink own idx own (T0 k).2.1 (T0 k).2.2.1 ∈ ck_T ∧ (T0 k).1 = own ∧
    (∀ k, k < N → parseFieldDescriptor (T0 k).2.2.1 = some (ty0 k)) ∧ (∀ a, a < N → ∀ b, b < N → a ≠ b → (T0 a).2.1 ≠ (T0 b).2.1) ∧ (T0 k).2.2.2 = false ∧ parseFieldDescriptor (T0 k).2.2.1 = some ty
/-- a call's words -/
def ck_C (own : String) (idx : Nat) (y : MethodName) (cc : ByteArray) (nL : Nat) (ret : Option FieldType) (n : Nat) : Prop :=
  Cond.code y cc nL ret ∈ ck_T ∧ Cond.methodLink own idx y ∈ ck_T ∧ Cond.initialized y.cls ∈ ck_T ∧ (y.cls ≠ "java/lang/invoke/MethodHandle" ∧ y.cls ≠ "java/lang/invoke/VarHandle" ∧ (parseMethodDescriptor y.desc).map (fun d => d.parameters.length) = some n) ∧ nL ≤ 21
theorem ck_nz {x : Int32} (h : x = 0 ∨ x = 1) : narrow .boolean (.int x) = .int x := by
  rcases h with rfl | rfl <;> decide
section CKW
variable {p : Program} {l : Launch} {e : Env} {R : Room} {s : State} {m : MethodId} {args : Array Value} {below : List Frame} {meth : Method} {c : Code} {H : Heap} {locs : List Loc} {Q : State → Prop}
variable {cc : ByteArray} {pc nL v : Nat} {ls : Array Slot} {rest : List Value} {D : va_G} {cl : List vw_C} {cA : Nat → ClassId} {own : String} {sh : List ck_Sh} {ad : Nat → Nat} {H0 : Heap} {st : ck_S}
theorem ck_gi {q k idx : Nat} {x : Int32} (C : ck_X cl D cA cc nL own v p R s m args c) (h : ck_AT sh cl D cA ad H0 st H locs) (F : ck_F sh cl own idx q k none) (hx : st q k = x) (hd : decode cc pc = .ok (.getfield idx, 3))
    (kk : W p l e R s m args below meth c H locs 0 0 Q (F0 m (pc + 3) ls (.int x :: rest))) : W p l e R s m args below meth c H locs 0 0 Q (F0 m pc ls (.ref (ad q) :: rest)) := by
  obtain ⟨ci, N, T0, fs, h1, h2, h3, h4, h5, h6, h7⟩ := F
  refine va_get C.1 C.2.1 C.2.2.2.2.1 h5 C.2.2.2.1 C.2.2.2.2.2.1 h.1 q (ck_w_at h1) h3 k h4 (C.2.2.2.2.1 _ h6) (fun x hx => by rw [h7] at hx; exact hx) (v := .int x) ?_ hd kk
  rw [List.getElem?_mapIdx, h2, ← hx]
  rfl
theorem ck_gr {q k idx t : Nat} (C : ck_X cl D cA cc nL own v p R s m args c) (h : ck_AT sh cl D cA ad H0 st H locs) (F : ck_F sh cl own idx q k (some t)) (hd : decode cc pc = .ok (.getfield idx, 3))
    (kk : W p l e R s m args below meth c H locs 0 0 Q (F0 m (pc + 3) ls (.ref (ad t) :: rest))) : W p l e R s m args below meth c H locs 0 0 Q (F0 m pc ls (.ref (ad q) :: rest)) := by
  obtain ⟨ci, N, T0, fs, h1, h2, h3, h4, h5, h6, h7⟩ := F
  refine va_get C.1 C.2.1 C.2.2.2.2.1 h5 C.2.2.2.1 C.2.2.2.2.2.1 h.1 q (ck_w_at h1) h3 k h4 (C.2.2.2.2.1 _ h6) (fun x hx => by rw [h7] at hx; exact hx) (v := .ref (ad t)) ?_ hd kk
  rw [List.getElem?_mapIdx, h2]
  rfl
theorem ck_pi {q k idx : Nat} {x : Int32} {ty : FieldType} (C : ck_X cl D cA cc nL own v p R s m args c) (h : ck_AT sh cl D cA ad H0 st H locs) (F : ck_G sh cl own idx q k ty) (hn : narrow ty (.int x) = .int x) (hf : fits ty (.int x) = true) (hd : decode cc pc = .ok (.putfield idx, 3))
    (kk : ∀ (H : Heap) (locs : List Loc), ck_AT sh cl D cA ad H0 (ck_u st q k x) H locs → W p l e R s m args below meth c H locs 0 0 Q (F0 m (pc + 3) ls rest)) : W p l e R s m args below meth c H locs 0 0 Q (F0 m pc ls (.int x :: .ref (ad q) :: rest)) := by
  obtain ⟨ci, N, T0, fs, ty0, h1, h2, h3, h4, h5, h6, h7, h8, h9, h10, h11⟩ := F
  have hkl : k < fs.length := (List.getElem?_eq_some_iff.mp h2).1
  refine va_put C.1 C.2.1 C.2.2.2.2.1 h5 ty0 h8 h9 C.2.2.2.1 C.2.2.2.2.2.1 h.1 h.2.1 h.2.2 q (ck_w_at h1) h3 k h4 (C.2.2.2.2.1 _ h6) (fun x hx => by rw [h7] at hx; exact hx) h10 h11 hn hf (by rw [List.length_mapIdx]; exact hkl) hd (fun H1 locs1 a1 a2 a3 => ?_)
  have he : (ck_w sh cA ad st).set q (ad q, .inr (ci, (fs.mapIdx (ck_fv ad (st q))).set k (.int x))) = ck_w sh cA ad (ck_u st q k x) := by
    rw [ck_fs_set h2]
    exact ck_w_set h1
  have a1' := a1
  have a2' := a2
  change va_P D cl ((ck_w sh cA ad st).set q (ad q, .inr (ci, (fs.mapIdx (ck_fv ad (st q))).set k (.int x)))) H1 at a1'
  change va_D _ ((ck_w sh cA ad st).set q (ad q, .inr (ci, (fs.mapIdx (ck_fv ad (st q))).set k (.int x)))) at a2'
  rw [he] at a1' a2'
  exact kk H1 locs1 ⟨a1', a2', a3⟩
theorem ck_ai {q n : Nat} {i x : Int32} (C : ck_X cl D cA cc nL own v p R s m args c) (h : ck_AT sh cl D cA ad H0 st H locs) (F : sh[q]? = some (.inr (0, n))) (hi : vp_in i n) (hx : st q i.toNatClampNeg = x) (hd : decode cc pc = .ok (.iaload, 1))
    (kk : W p l e R s m args below meth c H locs 0 0 Q (F0 m (pc + 1) ls (.int x :: rest))) : W p l e R s m args below meth c H locs 0 0 Q (F0 m pc ls (.int i :: .ref (ad q) :: rest)) := by
  subst hx
  exact va_iald C.1 C.2.1 C.2.2.2.2.2.1 h.1 q 0 (ck_w_at F) rfl hi hd kk
theorem ck_az {q n : Nat} {i x : Int32} (C : ck_X cl D cA cc nL own v p R s m args c) (h : ck_AT sh cl D cA ad H0 st H locs) (F : sh[q]? = some (.inr (1, n))) (hi : vp_in i n) (hx : st q i.toNatClampNeg = x) (hd : decode cc pc = .ok (.baload, 1))
    (kk : W p l e R s m args below meth c H locs 0 0 Q (F0 m (pc + 1) ls (.int x :: rest))) : W p l e R s m args below meth c H locs 0 0 Q (F0 m pc ls (.int i :: .ref (ad q) :: rest)) := by
  subst hx
  exact va_zald C.1 C.2.1 C.2.2.2.2.2.1 h.1 q 1 (ck_w_at F) rfl hi hd kk
theorem ck_si {q n : Nat} {i x : Int32} (C : ck_X cl D cA cc nL own v p R s m args c) (h : ck_AT sh cl D cA ad H0 st H locs) (F : sh[q]? = some (.inr (0, n))) (hi : vp_in i n) (hd : decode cc pc = .ok (.iastore, 1))
    (kk : ∀ (H : Heap) (locs : List Loc), ck_AT sh cl D cA ad H0 (ck_u st q i.toNatClampNeg x) H locs → W p l e R s m args below meth c H locs 0 0 Q (F0 m (pc + 1) ls rest)) : W p l e R s m args below meth c H locs 0 0 Q (F0 m pc ls (.int x :: .int i :: .ref (ad q) :: rest)) := by
  refine va_iast C.1 C.2.1 C.2.2.2.2.2.1 h.1 h.2.1 h.2.2 q 0 (ck_w_at F) rfl hi hd (fun H1 locs1 a1 a2 a3 => ?_)
  have he : (ck_w sh cA ad st).set q (ad q, .inl (cA 0, n, .inl (upd (st q) i.toNatClampNeg x))) = ck_w sh cA ad (ck_u st q i.toNatClampNeg x) := ck_w_set F
  rw [he] at a1 a2
  exact kk H1 locs1 ⟨a1, a2, a3⟩
theorem ck_sz {q n : Nat} {i x : Int32} (C : ck_X cl D cA cc nL own v p R s m args c) (h : ck_AT sh cl D cA ad H0 st H locs) (F : sh[q]? = some (.inr (1, n))) (hi : vp_in i n) (hd : decode cc pc = .ok (.bastore, 1))
    (kk : ∀ (H : Heap) (locs : List Loc), ck_AT sh cl D cA ad H0 (ck_u st q i.toNatClampNeg (vp_nar .boolean x)) H locs → W p l e R s m args below meth c H locs 0 0 Q (F0 m (pc + 1) ls rest)) : W p l e R s m args below meth c H locs 0 0 Q (F0 m pc ls (.int x :: .int i :: .ref (ad q) :: rest)) := by
  refine va_zast C.1 C.2.1 C.2.2.2.2.2.1 h.1 h.2.1 h.2.2 q 1 (ck_w_at F) rfl hi hd (fun H1 locs1 a1 a2 a3 => ?_)
  have he : (ck_w sh cA ad st).set q (ad q, .inl (cA 1, n, .inl (upd (st q) i.toNatClampNeg (vp_nar .boolean x)))) = ck_w sh cA ad (ck_u st q i.toNatClampNeg (vp_nar .boolean x)) := ck_w_set F
  rw [he] at a1 a2
  exact kk H1 locs1 ⟨a1, a2, a3⟩
theorem ck_an {q n : Nat} {x : Int32} (C : ck_X cl D cA cc nL own v p R s m args c) (h : ck_AT sh cl D cA ad H0 st H locs) (F : sh[q]? = some (.inr (0, n))) (hx : Int32.ofNat n = x) (hd : decode cc pc = .ok (.arraylength, 1))
    (kk : W p l e R s m args below meth c H locs 0 0 Q (F0 m (pc + 1) ls (.int x :: rest))) : W p l e R s m args below meth c H locs 0 0 Q (F0 m pc ls (.ref (ad q) :: rest)) := by
  subst hx
  exact va_alen C.1 C.2.1 C.2.2.2.2.2.1 h.1 q 0 (ck_w_at F) rfl rfl hd kk
theorem ck_blind {av : List Value} : FrameBlind (va_Pc av (ck_P sh cl D cA ad st)) := fun a U g mk q => ⟨q.1, q.2.1, va_K.moved (u := U) (U := U.calling g mk a) (Vm.Alike.refl U.vm) q.2.2.1, q.2.2.2⟩
theorem ck_cb {idx nL2 v2 n : Nat} {y : MethodName} {cc2 : ByteArray} {ret : Option FieldType} (C : ck_X cl D cA cc nL own v p R s m args c) (F : ck_C own idx y cc2 nL2 ret n) (hv : v2 + 1 ≤ v) : CallB R s args own idx y cc2 nL2 ret (.code y cc2 nL2 ret :: ck_T) (ck_R v2) 0 0 n := by
  obtain ⟨hx, hb, hml, hown, hts, hK, hf, hlo⟩ := C
  obtain ⟨f1, f2, f3, f4, f5⟩ := F
  refine callB_of n hts (ck_good f1) rfl rfl rfl (hts _ f3) (hts _ f2) f4 ⟨?_, ?_⟩
  · show v2 + 1 ≤ R.frames
    omega
  · show 8 + (nL2 + 11) + 40 * v2 ≤ R.locals
    omega
/-- what comes back from a call: the new state, in the caller's words -/
theorem ck_back {st2 u : ck_S} {t : State} {H1 : Heap} {locs1 : List Loc} (ht : t.heap = H1) (hu : u = st2) (hB : ck_P sh cl D cA ad u t) (hS : va_S (ck_A ad sh.length) H0 H1 locs1) : ck_AT sh cl D cA ad H0 st2 H1 locs1 := by
  subst hu; subst ht
  exact ⟨hB.1, hB.2.2, hS⟩
theorem ck_vi {idx nL2 v2 n q : Nat} {y : MethodName} {cc2 : ByteArray} {ret : Option FieldType} {As S : List Value} {L : List (Nat × Value)} {r : Int32} {st2 : ck_S}
    (C : ck_X cl D cA cc nL own v p R s m args c) (h : ck_AT sh cl D cA ad H0 st H locs) (hl : lv_has ls nL L) (F : ck_C own idx y cc2 nL2 ret n) (F2 : Cond.instanceMethod y ∈ ck_T ∧ Cond.selects y.cls y y ∈ ck_T) (F3 : ∃ (ci N : Nat) (T0 : u_T) (fs : List (Option Nat)), sh[q]? = some (.inl (ci, fs)) ∧ cl[ci]? = some (y.cls, T0, N))
    (hM : Met l y (.code y cc2 nL2 ret :: ck_T) (ck_R v2) (va_Pc (.ref (ad q) :: As) (ck_P sh cl D cA ad st)) (va_Qi (fun a u => a = r ∧ u = st2) (ck_P sh cl D cA ad) (ck_A ad sh.length)) 0 0 (ck_A ad sh.length)) (hv : v2 + 1 ≤ v)
    (hn : As.length = n) (hS : S = As.reverse ++ .ref (ad q) :: rest) (hr : (rest.map fun v => v.category).sum ≤ 8) (hd : decode cc pc = .ok (.invokevirtual idx, 3))
    (kk : ∀ (H : Heap) (locs : List Loc), ck_AT sh cl D cA ad H0 st2 H locs → W p l e R s m args below meth c H locs 0 0 Q (F0 m (pc + 3) ls (.int r :: rest))) : W p l e R s m args below meth c H locs 0 0 Q (F0 m pc ls S) := by
  obtain ⟨ci, N, T0, fs, g1, g2⟩ := F3
  have hcb := ck_cb (v2 := v2) C F hv
  obtain ⟨hx, hb, hml, hown, hts, hK, hfr, hlo⟩ := C
  refine va_calli (va_runV (C := y.cls) (b := ad q) (As := As) (rest := rest) ⟨hx, hb, hml, hown, hts⟩ hM ⟨hcb, hts _ F2.1, hts _ F2.2⟩ ⟨ck_blind, va_recv hK h.1 g2 (ck_w_at g1), fun U hU hW => ⟨rfl, by rw [hU]; exact h.1, va_K.moved hW.alike hK, h.2.1⟩⟩ rfl hn hl.1 hS (lv_room hr) hd ⟨Nat.zero_le _, Nat.zero_le _⟩) h.2.2 (fun _ _ a => a) (fun _ a => a) (fun r1 u t H1 locs1 ht hvm hp hB hz hk hS1 => ?_)
  obtain ⟨rfl, hu⟩ := hp
  exact kk H1 locs1 (ck_back ht hu hB hS1)
theorem ck_vl {idx nL2 v2 n q : Nat} {y : MethodName} {cc2 : ByteArray} {ret : Option FieldType} {As S : List Value} {L : List (Nat × Value)} {r : Int64} {st2 : ck_S}
    (C : ck_X cl D cA cc nL own v p R s m args c) (h : ck_AT sh cl D cA ad H0 st H locs) (hl : lv_has ls nL L) (F : ck_C own idx y cc2 nL2 ret n) (F2 : Cond.instanceMethod y ∈ ck_T ∧ Cond.selects y.cls y y ∈ ck_T) (F3 : ∃ (ci N : Nat) (T0 : u_T) (fs : List (Option Nat)), sh[q]? = some (.inl (ci, fs)) ∧ cl[ci]? = some (y.cls, T0, N))
    (hM : Met l y (.code y cc2 nL2 ret :: ck_T) (ck_R v2) (va_Pc (.ref (ad q) :: As) (ck_P sh cl D cA ad st)) (va_Ql (fun a u => a = r ∧ u = st2) (ck_P sh cl D cA ad) (ck_A ad sh.length)) 0 0 (ck_A ad sh.length)) (hv : v2 + 1 ≤ v)
    (hn : As.length = n) (hS : S = As.reverse ++ .ref (ad q) :: rest) (hr : (rest.map fun v => v.category).sum ≤ 8) (hd : decode cc pc = .ok (.invokevirtual idx, 3))
    (kk : ∀ (H : Heap) (locs : List Loc), ck_AT sh cl D cA ad H0 st2 H locs → W p l e R s m args below meth c H locs 0 0 Q (F0 m (pc + 3) ls (.long r :: rest))) : W p l e R s m args below meth c H locs 0 0 Q (F0 m pc ls S) := by
  obtain ⟨ci, N, T0, fs, g1, g2⟩ := F3
  have hcb := ck_cb (v2 := v2) C F hv
  obtain ⟨hx, hb, hml, hown, hts, hK, hfr, hlo⟩ := C
  refine va_calll (va_runV (C := y.cls) (b := ad q) (As := As) (rest := rest) ⟨hx, hb, hml, hown, hts⟩ hM ⟨hcb, hts _ F2.1, hts _ F2.2⟩ ⟨ck_blind, va_recv hK h.1 g2 (ck_w_at g1), fun U hU hW => ⟨rfl, by rw [hU]; exact h.1, va_K.moved hW.alike hK, h.2.1⟩⟩ rfl hn hl.1 hS (lv_room hr) hd ⟨Nat.zero_le _, Nat.zero_le _⟩) h.2.2 (fun _ _ a => a) (fun _ a => a) (fun r1 u t H1 locs1 ht hvm hp hB hz hk hS1 => ?_)
  obtain ⟨rfl, hu⟩ := hp
  exact kk H1 locs1 (ck_back ht hu hB hS1)
theorem ck_vv {idx nL2 v2 n q : Nat} {y : MethodName} {cc2 : ByteArray} {ret : Option FieldType} {As S : List Value} {L : List (Nat × Value)} {st2 : ck_S}
    (C : ck_X cl D cA cc nL own v p R s m args c) (h : ck_AT sh cl D cA ad H0 st H locs) (hl : lv_has ls nL L) (F : ck_C own idx y cc2 nL2 ret n) (F2 : Cond.instanceMethod y ∈ ck_T ∧ Cond.selects y.cls y y ∈ ck_T) (F3 : ∃ (ci N : Nat) (T0 : u_T) (fs : List (Option Nat)), sh[q]? = some (.inl (ci, fs)) ∧ cl[ci]? = some (y.cls, T0, N))
    (hM : Met l y (.code y cc2 nL2 ret :: ck_T) (ck_R v2) (va_Pc (.ref (ad q) :: As) (ck_P sh cl D cA ad st)) (va_Qv (fun u => u = st2) (ck_P sh cl D cA ad) (ck_A ad sh.length)) 0 0 (ck_A ad sh.length)) (hv : v2 + 1 ≤ v)
    (hn : As.length = n) (hS : S = As.reverse ++ .ref (ad q) :: rest) (hr : (rest.map fun v => v.category).sum ≤ 8) (hd : decode cc pc = .ok (.invokevirtual idx, 3))
    (kk : ∀ (H : Heap) (locs : List Loc), ck_AT sh cl D cA ad H0 st2 H locs → W p l e R s m args below meth c H locs 0 0 Q (F0 m (pc + 3) ls rest)) : W p l e R s m args below meth c H locs 0 0 Q (F0 m pc ls S) := by
  obtain ⟨ci, N, T0, fs, g1, g2⟩ := F3
  have hcb := ck_cb (v2 := v2) C F hv
  obtain ⟨hx, hb, hml, hown, hts, hK, hfr, hlo⟩ := C
  refine va_callv (va_runV (C := y.cls) (b := ad q) (As := As) (rest := rest) ⟨hx, hb, hml, hown, hts⟩ hM ⟨hcb, hts _ F2.1, hts _ F2.2⟩ ⟨ck_blind, va_recv hK h.1 g2 (ck_w_at g1), fun U hU hW => ⟨rfl, by rw [hU]; exact h.1, va_K.moved hW.alike hK, h.2.1⟩⟩ rfl hn hl.1 hS (lv_room hr) hd ⟨Nat.zero_le _, Nat.zero_le _⟩) h.2.2 (fun _ _ a => a) (fun _ a => a) (fun u t H1 locs1 ht hvm hp hB hz hk hS1 => ?_)
  exact kk H1 locs1 (ck_back ht hp hB hS1)
theorem ck_ti {idx nL2 v2 n : Nat} {y : MethodName} {cc2 : ByteArray} {ret : Option FieldType} {As S : List Value} {L : List (Nat × Value)} {r : Int32} {st2 : ck_S}
    (C : ck_X cl D cA cc nL own v p R s m args c) (h : ck_AT sh cl D cA ad H0 st H locs) (hl : lv_has ls nL L) (F : ck_C own idx y cc2 nL2 ret n) (F2 : Cond.static y ∈ ck_T)
    (hM : Met l y (.code y cc2 nL2 ret :: ck_T) (ck_R v2) (va_Pc As (ck_P sh cl D cA ad st)) (va_Qi (fun a u => a = r ∧ u = st2) (ck_P sh cl D cA ad) (ck_A ad sh.length)) 0 0 (ck_A ad sh.length)) (hv : v2 + 1 ≤ v)
    (hn : As.length = n) (hS : S = As.reverse ++ rest) (hr : (rest.map fun v => v.category).sum ≤ 8) (hd : decode cc pc = .ok (.invokestatic idx, 3))
    (kk : ∀ (H : Heap) (locs : List Loc), ck_AT sh cl D cA ad H0 st2 H locs → W p l e R s m args below meth c H locs 0 0 Q (F0 m (pc + 3) ls (.int r :: rest))) : W p l e R s m args below meth c H locs 0 0 Q (F0 m pc ls S) := by
  have hcb := ck_cb (v2 := v2) C F hv
  obtain ⟨hx, hb, hml, hown, hts, hK, hfr, hlo⟩ := C
  refine va_calli (va_runS (As := As) (rest := rest) ⟨hx, hb, hml, hown, hts⟩ hM ⟨hcb, hts _ F2⟩ ⟨ck_blind, fun U hU hW => ⟨rfl, by rw [hU]; exact h.1, va_K.moved hW.alike hK, h.2.1⟩⟩ rfl hn hl.1 hS (lv_room hr) hd ⟨Nat.zero_le _, Nat.zero_le _⟩) h.2.2 (fun _ _ a => a) (fun _ a => a) (fun r1 u t H1 locs1 ht hvm hp hB hz hk hS1 => ?_)
  obtain ⟨rfl, hu⟩ := hp
  exact kk H1 locs1 (ck_back ht hu hB hS1)
theorem ck_tv {idx nL2 v2 n : Nat} {y : MethodName} {cc2 : ByteArray} {ret : Option FieldType} {As S : List Value} {L : List (Nat × Value)} {st2 : ck_S}
    (C : ck_X cl D cA cc nL own v p R s m args c) (h : ck_AT sh cl D cA ad H0 st H locs) (hl : lv_has ls nL L) (F : ck_C own idx y cc2 nL2 ret n) (F2 : Cond.static y ∈ ck_T)
    (hM : Met l y (.code y cc2 nL2 ret :: ck_T) (ck_R v2) (va_Pc As (ck_P sh cl D cA ad st)) (va_Qv (fun u => u = st2) (ck_P sh cl D cA ad) (ck_A ad sh.length)) 0 0 (ck_A ad sh.length)) (hv : v2 + 1 ≤ v)
    (hn : As.length = n) (hS : S = As.reverse ++ rest) (hr : (rest.map fun v => v.category).sum ≤ 8) (hd : decode cc pc = .ok (.invokestatic idx, 3))
    (kk : ∀ (H : Heap) (locs : List Loc), ck_AT sh cl D cA ad H0 st2 H locs → W p l e R s m args below meth c H locs 0 0 Q (F0 m (pc + 3) ls rest)) : W p l e R s m args below meth c H locs 0 0 Q (F0 m pc ls S) := by
  have hcb := ck_cb (v2 := v2) C F hv
  obtain ⟨hx, hb, hml, hown, hts, hK, hfr, hlo⟩ := C
  refine va_callv (va_runS (As := As) (rest := rest) ⟨hx, hb, hml, hown, hts⟩ hM ⟨hcb, hts _ F2⟩ ⟨ck_blind, fun U hU hW => ⟨rfl, by rw [hU]; exact h.1, va_K.moved hW.alike hK, h.2.1⟩⟩ rfl hn hl.1 hS (lv_room hr) hd ⟨Nat.zero_le _, Nat.zero_le _⟩) h.2.2 (fun _ _ a => a) (fun _ a => a) (fun u t H1 locs1 ht hvm hp hB hz hk hS1 => ?_)
  exact kk H1 locs1 (ck_back ht hp hB hS1)
end CKW
section CKM
variable {l : Launch} {y : MethodName} {cc : ByteArray} {nL v : Nat} {own : String} {D : va_G} {cl : List vw_C} {cA : Nat → ClassId} {sh : List ck_Sh} {ad : Nat → Nat} {st st2 : ck_S} {av : List Value}
theorem ck_met_i {r : Int32} (hy : plainName y.cls = true) (ho : y.cls = own) (hlen : (lg_sl av).length ≤ nL)
    (body : ∀ (p : Program) (e : Env) (R : Room) (s : State) (m : MethodId) (args : Array Value) (below : List Frame) (meth : Method) (c : Code) (H0 : Heap) (Q : State → Prop) (ls : Array Slot), ck_X cl D cA cc nL own v p R s m args c →
      (∀ (pc : Nat) (H : Heap) (locs : List Loc) (ls : Array Slot), decode cc pc = .ok (.ireturn, 1) → ck_AT sh cl D cA ad H0 st2 H locs → W p l e R s m args below meth c H locs 0 0 Q (F0 m pc ls [.int r])) →
      ck_AT sh cl D cA ad H0 st H0 [] → lv_has ls nL (lv_args 0 av) → W p l e R s m args below meth c H0 [] 0 0 Q (F0 m 0 ls [])) :
    Met l y (.code y cc nL (some .int) :: ck_T) (ck_R v) (va_Pc av (ck_P sh cl D cA ad st)) (va_Qi (fun a u => a = r ∧ u = st2) (ck_P sh cl D cA ad) (ck_A ad sh.length)) 0 0 (ck_A ad sh.length) := by
  refine Met.ofW (cc := cc) (maxL := nL) (ret := some .int) hy rfl ?_
  intro p e s m args below meth c s₁ B hml hv
  obtain ⟨rfl, hP, hK, hD⟩ := hv
  have hts := atoms_spec B.pre
  have hown : s.vm.findClass y.cls = some m.cls := findClass_of_methodNamed B.named
  have hlocks := B.notSynchronized
  have hx := B.exec
  have hb := B.bytes
  have hr := B.returns
  rw [lg_entry_eq]
  exact body p e _ s m _ below meth c s.heap _ _ ⟨hx, hb, hml, by rw [← ho]; exact hown, fun w hw => hts w (List.mem_cons_of_mem _ hw), hK, Nat.le_refl _, Nat.le_refl _⟩
    (fun pc H locs ls hd h => W.iret hx hb hr (fun t ht hW => ⟨⟨r, st2, rfl, ⟨rfl, rfl⟩, by rw [ht]; exact h.1, va_K.moved hW.alike hK, h.2.1⟩, h.2.2.F ht⟩) h.2.2.2.2 hd) ⟨hP, hD, va_S.rf⟩ (lv_entry av hlen)
theorem ck_met_z {r : Int32} (hy : plainName y.cls = true) (ho : y.cls = own) (hlen : (lg_sl av).length ≤ nL)
    (body : ∀ (p : Program) (e : Env) (R : Room) (s : State) (m : MethodId) (args : Array Value) (below : List Frame) (meth : Method) (c : Code) (H0 : Heap) (Q : State → Prop) (ls : Array Slot), ck_X cl D cA cc nL own v p R s m args c →
      (∀ (pc : Nat) (H : Heap) (locs : List Loc) (ls : Array Slot), decode cc pc = .ok (.ireturn, 1) → (r = 0 ∨ r = 1) → ck_AT sh cl D cA ad H0 st2 H locs → W p l e R s m args below meth c H locs 0 0 Q (F0 m pc ls [.int r])) →
      ck_AT sh cl D cA ad H0 st H0 [] → lv_has ls nL (lv_args 0 av) → W p l e R s m args below meth c H0 [] 0 0 Q (F0 m 0 ls [])) :
    Met l y (.code y cc nL (some .boolean) :: ck_T) (ck_R v) (va_Pc av (ck_P sh cl D cA ad st)) (va_Qi (fun a u => a = r ∧ u = st2) (ck_P sh cl D cA ad) (ck_A ad sh.length)) 0 0 (ck_A ad sh.length) := by
  refine Met.ofW (cc := cc) (maxL := nL) (ret := some .boolean) hy rfl ?_
  intro p e s m args below meth c s₁ B hml hv
  obtain ⟨rfl, hP, hK, hD⟩ := hv
  have hts := atoms_spec B.pre
  have hown : s.vm.findClass y.cls = some m.cls := findClass_of_methodNamed B.named
  have hlocks := B.notSynchronized
  have hx := B.exec
  have hb := B.bytes
  have hr := B.returns
  rw [lg_entry_eq]
  exact body p e _ s m _ below meth c s.heap _ _ ⟨hx, hb, hml, by rw [← ho]; exact hown, fun w hw => hts w (List.mem_cons_of_mem _ hw), hK, Nat.le_refl _, Nat.le_refl _⟩
    (fun pc H locs ls hd hz h => W.zret hx hb hr (ck_nz hz) (fun t ht hW => ⟨⟨r, st2, rfl, ⟨rfl, rfl⟩, by rw [ht]; exact h.1, va_K.moved hW.alike hK, h.2.1⟩, h.2.2.F ht⟩) h.2.2.2.2 hd) ⟨hP, hD, va_S.rf⟩ (lv_entry av hlen)
theorem ck_met_l {r : Int64} (hy : plainName y.cls = true) (ho : y.cls = own) (hlen : (lg_sl av).length ≤ nL)
    (body : ∀ (p : Program) (e : Env) (R : Room) (s : State) (m : MethodId) (args : Array Value) (below : List Frame) (meth : Method) (c : Code) (H0 : Heap) (Q : State → Prop) (ls : Array Slot), ck_X cl D cA cc nL own v p R s m args c →
      (∀ (pc : Nat) (H : Heap) (locs : List Loc) (ls : Array Slot), decode cc pc = .ok (.lreturn, 1) → ck_AT sh cl D cA ad H0 st2 H locs → W p l e R s m args below meth c H locs 0 0 Q (F0 m pc ls [.long r])) →
      ck_AT sh cl D cA ad H0 st H0 [] → lv_has ls nL (lv_args 0 av) → W p l e R s m args below meth c H0 [] 0 0 Q (F0 m 0 ls [])) :
    Met l y (.code y cc nL (some .long) :: ck_T) (ck_R v) (va_Pc av (ck_P sh cl D cA ad st)) (va_Ql (fun a u => a = r ∧ u = st2) (ck_P sh cl D cA ad) (ck_A ad sh.length)) 0 0 (ck_A ad sh.length) := by
  refine Met.ofW (cc := cc) (maxL := nL) (ret := some .long) hy rfl ?_
  intro p e s m args below meth c s₁ B hml hv
  obtain ⟨rfl, hP, hK, hD⟩ := hv
  have hts := atoms_spec B.pre
  have hown : s.vm.findClass y.cls = some m.cls := findClass_of_methodNamed B.named
  have hlocks := B.notSynchronized
  have hx := B.exec
  have hb := B.bytes
  have hr := B.returns
  rw [lg_entry_eq]
  exact body p e _ s m _ below meth c s.heap _ _ ⟨hx, hb, hml, by rw [← ho]; exact hown, fun w hw => hts w (List.mem_cons_of_mem _ hw), hK, Nat.le_refl _, Nat.le_refl _⟩
    (fun pc H locs ls hd h => W.lret hx hb hr (fun t ht hW => ⟨⟨r, st2, rfl, ⟨rfl, rfl⟩, by rw [ht]; exact h.1, va_K.moved hW.alike hK, h.2.1⟩, h.2.2.F ht⟩) h.2.2.2.2 hd) ⟨hP, hD, va_S.rf⟩ (lv_entry av hlen)
theorem ck_met_v (hy : plainName y.cls = true) (ho : y.cls = own) (hlen : (lg_sl av).length ≤ nL)
    (body : ∀ (p : Program) (e : Env) (R : Room) (s : State) (m : MethodId) (args : Array Value) (below : List Frame) (meth : Method) (c : Code) (H0 : Heap) (Q : State → Prop) (ls : Array Slot), ck_X cl D cA cc nL own v p R s m args c →
      (∀ (pc : Nat) (H : Heap) (locs : List Loc) (ls : Array Slot), decode cc pc = .ok (.return_, 1) → ck_AT sh cl D cA ad H0 st2 H locs → W p l e R s m args below meth c H locs 0 0 Q (F0 m pc ls [])) →
      ck_AT sh cl D cA ad H0 st H0 [] → lv_has ls nL (lv_args 0 av) → W p l e R s m args below meth c H0 [] 0 0 Q (F0 m 0 ls [])) :
    Met l y (.code y cc nL none :: ck_T) (ck_R v) (va_Pc av (ck_P sh cl D cA ad st)) (va_Qv (fun u => u = st2) (ck_P sh cl D cA ad) (ck_A ad sh.length)) 0 0 (ck_A ad sh.length) := by
  refine Met.ofW (cc := cc) (maxL := nL) (ret := none) hy rfl ?_
  intro p e s m args below meth c s₁ B hml hv
  obtain ⟨rfl, hP, hK, hD⟩ := hv
  have hts := atoms_spec B.pre
  have hown : s.vm.findClass y.cls = some m.cls := findClass_of_methodNamed B.named
  have hlocks := B.notSynchronized
  have hx := B.exec
  have hb := B.bytes
  have hr := B.returns
  rw [lg_entry_eq]
  exact body p e _ s m _ below meth c s.heap _ _ ⟨hx, hb, hml, by rw [← ho]; exact hown, fun w hw => hts w (List.mem_cons_of_mem _ hw), hK, Nat.le_refl _, Nat.le_refl _⟩
    (fun pc H locs ls hd h => W.vret hx hb hr (fun t ht hW => ⟨⟨st2, rfl, rfl, by rw [ht]; exact h.1, va_K.moved hW.alike hK, h.2.1⟩, h.2.2.F ht⟩) h.2.2.2.2 hd) ⟨hP, hD, va_S.rf⟩ (lv_entry av hlen)
end CKM
/-! the words that the laid functions are made of -/
def ck_gd {γ : Type} (i : Int32) (n : Nat) (o : Option γ) : Option γ := if i < 0 ∨ n ≤ i.toNatClampNeg then none else o
def ck_us (x y : Int32) : Int32 := (x.toUInt32 >>> (y.toUInt32 &&& Int32.toUInt32 31)).toInt32
def ck_dz {γ : Type} (y : Int32) (o : Option γ) : Option γ := if y = 0 then none else o
def ck_gz {γ : Type} (x : Int32) (o : Option γ) : Option γ := if x = 0 ∨ x = 1 then o else none
def ck_b {α γ : Type} (o : Option (α × ck_S)) (f : α → ck_S → Option γ) : Option γ := match o with
  | none => none
  | some q => f q.1 q.2
def ck_bv {γ : Type} (o : Option ck_S) (f : ck_S → Option γ) : Option γ := match o with
  | none => none
  | some q => f q
theorem ck_gd_e {γ : Type} {i : Int32} {n : Nat} {o : Option γ} {x : γ} (h : ck_gd i n o = some x) : vp_in i n ∧ o = some x := by
  unfold ck_gd at h
  by_cases hc : i < 0 ∨ n ≤ i.toNatClampNeg
  · rw [if_pos hc] at h; cases h
  · rw [if_neg hc] at h; exact ⟨hc, h⟩
theorem ck_dz_e {γ : Type} {y : Int32} {o : Option γ} {x : γ} (h : ck_dz y o = some x) : ¬ y = 0 ∧ o = some x := by
  unfold ck_dz at h
  by_cases hc : y = 0
  · rw [if_pos hc] at h; cases h
  · rw [if_neg hc] at h; exact ⟨hc, h⟩
theorem ck_gz_e {γ : Type} {y : Int32} {o : Option γ} {x : γ} (h : ck_gz y o = some x) : (y = 0 ∨ y = 1) ∧ o = some x := by
  unfold ck_gz at h
  by_cases hc : y = 0 ∨ y = 1
  · rw [if_pos hc] at h; exact ⟨hc, h⟩
  · rw [if_neg hc] at h; cases h
theorem ck_b_e {α γ : Type} {o : Option (α × ck_S)} {f : α → ck_S → Option γ} {x : γ} (h : ck_b o f = some x) : ∃ (a : α) (st : ck_S), o = some (a, st) ∧ f a st = some x := by
  unfold ck_b at h
  cases o with
  | none => cases h
  | some q => exact ⟨q.1, q.2, rfl, h⟩
theorem ck_bv_e {γ : Type} {o : Option ck_S} {f : ck_S → Option γ} {x : γ} (h : ck_bv o f = some x) : ∃ st : ck_S, o = some st ∧ f st = some x := by
  unfold ck_bv at h
  cases o with
  | none => cases h
  | some q => exact ⟨q, rfl, h⟩
theorem ck_t {c : Prop} {hd : Decidable c} {α : Type} {a b x : α} (h : c) (e : (if c then a else b) = x) : a = x := by rw [if_pos h] at e; exact e
theorem ck_f {c : Prop} {hd : Decidable c} {α : Type} {a b x : α} (h : ¬ c) (e : (if c then a else b) = x) : b = x := by rw [if_neg h] at e; exact e
theorem ck_z0 : (0 : Int32) = 0 ∨ (0 : Int32) = 1 := Or.inl rfl
theorem ck_z1 : (1 : Int32) = 0 ∨ (1 : Int32) = 1 := Or.inr rfl
section CKR
variable {p : Program} {l : Launch} {e : Env} {R : Room} {s : State} {m : MethodId} {args : Array Value} {below : List Frame} {meth : Method} {c : Code} {H : Heap} {locs : List Loc} {Q : State → Prop}
variable {cc : ByteArray} {pc : Nat} {ls : Array Slot} {D : va_G} {cl : List vw_C} {cA : Nat → ClassId} {sh : List ck_Sh} {ad : Nat → Nat} {H0 : Heap} {st st0 : ck_S}
theorem ck_ri {x r : Int32} (hf : some (x, st) = some (r, st0)) (hret : ∀ (pc : Nat) (H : Heap) (locs : List Loc) (ls : Array Slot), decode cc pc = .ok (.ireturn, 1) → ck_AT sh cl D cA ad H0 st0 H locs → W p l e R s m args below meth c H locs 0 0 Q (F0 m pc ls [.int r])) (h : ck_AT sh cl D cA ad H0 st H locs) (hd : decode cc pc = .ok (.ireturn, 1)) : W p l e R s m args below meth c H locs 0 0 Q (F0 m pc ls [.int x]) := by
  cases hf
  exact hret pc H locs ls hd h
theorem ck_rz {x r : Int32} (hf : some (x, st) = some (r, st0)) (hret : ∀ (pc : Nat) (H : Heap) (locs : List Loc) (ls : Array Slot), decode cc pc = .ok (.ireturn, 1) → (r = 0 ∨ r = 1) → ck_AT sh cl D cA ad H0 st0 H locs → W p l e R s m args below meth c H locs 0 0 Q (F0 m pc ls [.int r])) (hz : x = 0 ∨ x = 1) (h : ck_AT sh cl D cA ad H0 st H locs) (hd : decode cc pc = .ok (.ireturn, 1)) : W p l e R s m args below meth c H locs 0 0 Q (F0 m pc ls [.int x]) := by
  cases hf
  exact hret pc H locs ls hd hz h
theorem ck_rl {x r : Int64} (hf : some (x, st) = some (r, st0)) (hret : ∀ (pc : Nat) (H : Heap) (locs : List Loc) (ls : Array Slot), decode cc pc = .ok (.lreturn, 1) → ck_AT sh cl D cA ad H0 st0 H locs → W p l e R s m args below meth c H locs 0 0 Q (F0 m pc ls [.long r])) (h : ck_AT sh cl D cA ad H0 st H locs) (hd : decode cc pc = .ok (.lreturn, 1)) : W p l e R s m args below meth c H locs 0 0 Q (F0 m pc ls [.long x]) := by
  cases hf
  exact hret pc H locs ls hd h
theorem ck_rv (hf : some st = some st0) (hret : ∀ (pc : Nat) (H : Heap) (locs : List Loc) (ls : Array Slot), decode cc pc = .ok (.return_, 1) → ck_AT sh cl D cA ad H0 st0 H locs → W p l e R s m args below meth c H locs 0 0 Q (F0 m pc ls [])) (h : ck_AT sh cl D cA ad H0 st H locs) (hd : decode cc pc = .ok (.return_, 1)) : W p l e R s m args below meth c H locs 0 0 Q (F0 m pc ls []) := by
  cases hf
  exact hret pc H locs ls hd h
end CKR
