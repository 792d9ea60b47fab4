/-! Making objects: an object h0 with fields fs, and the cells xs made so far. -/
def mk_AT (cl : List vw_C) (D : va_G) (A : Nat → Prop) (H0 : Heap) (h0 ci : Nat) (fs : List Value) (xs : va_W) (H : Heap) (locs : List Loc) : Prop :=
  va_P D cl ((h0, .inr (ci, fs)) :: xs) H ∧ va_D A ((h0, .inr (ci, fs)) :: xs) ∧ va_S A H0 H locs
/-- a field of the class that is being made -/
def mk_F (cl : List vw_C) (own : String) (ci idx k : Nat) (ty : FieldType) : Prop :=
  ∃ (N : Nat) (T0 : u_T) (ty0 : Nat → FieldType), cl[ci]? = some (own, T0, N) ∧ k < N ∧ (∀ w ∈ u_ws own T0 N, w ∈ ck_T) ∧ Cond.fieldLink own idx own (T0 k).2.1 (T0 k).2.2.1 ∈ ck_T ∧ (T0 k).1 = own ∧
    (∀ k, k < N → parseFieldDescriptor (T0 k).2.2.1 = some (ty0 k)) ∧ (∀ a, a < N → ∀ b, b < N → a ≠ b → (T0 a).2.1 ≠ (T0 b).2.1) ∧ parseFieldDescriptor (T0 k).2.2.1 = some ty
def mk_a (t : Nat) : FieldType := if t = 0 then .int else .boolean
theorem mk_wI : Cond.arrayClass .int ∈ ck_T := ck_T_mk (by decide +kernel) rfl
theorem mk_wZ : Cond.arrayClass .boolean ∈ ck_T := ck_T_mk (by decide +kernel) rfl
section MK
variable {p : Program} {l : Launch} {e : Env} {R : Room} {s : State} {m : MethodId} {args : Array Value} {below : List Frame} {meth : Method} {c : Code} {H : Heap} {locs : List Loc} {Q : State → Prop} {cells slots : Nat}
variable {cc : ByteArray} {pc nL v : Nat} {ls : Array Slot} {rest : List Value} {D : va_G} {cl : List vw_C} {cA : Nat → ClassId} {own : String} {A : Nat → Prop} {H0 : Heap} {h0 ci : Nat} {fs : List Value} {xs : va_W}
theorem mk_put {k idx : Nat} {ty : FieldType} {x : Value} (C : ck_X cl D cA cc nL own v p R s m args c) (hin : meth.name = "<init>") (h : mk_AT cl D A H0 h0 ci fs xs H locs) (F : mk_F cl own ci idx k ty) (hn : narrow ty x = x) (hf : fits ty x = true) (hk : k < fs.length) (hd : decode cc pc = .ok (.putfield idx, 3))
    (kk : ∀ (H : Heap) (locs : List Loc), mk_AT cl D A H0 h0 ci (fs.set k x) xs H locs → W p l e R s m args below meth c H locs cells slots Q (F0 m (pc + 3) ls rest)) : W p l e R s m args below meth c H locs cells slots Q (F0 m pc ls (x :: .ref h0 :: rest)) := by
  obtain ⟨N, T0, ty0, h3, h4, h5, h6, h7, h8, h9, h11⟩ := F
  cases hfin : (T0 k).2.2.2 with
  | false =>
    exact va_put C.1 C.2.1 C.2.2.2.2.1 h5 ty0 h8 h9 C.2.2.2.1 C.2.2.2.2.2.1 h.1 h.2.1 h.2.2 0 rfl h3 k h4 (C.2.2.2.2.1 _ h6) (fun x hx => by rw [h7] at hx; exact hx) hfin h11 hn hf hk hd (fun H1 locs1 a1 a2 a3 => kk H1 locs1 ⟨a1, a2, a3⟩)
  | true =>
    exact va_putF C.1 C.2.1 C.2.2.2.2.1 h5 ty0 h8 h9 C.2.2.2.1 C.2.2.2.2.2.1 h.1 h.2.1 h.2.2 0 rfl h3 k h4 (C.2.2.2.2.1 _ h6) (fun x hx => by rw [h7] at hx; exact hx) hfin hin h7 h11 hn hf hk hd (fun H1 locs1 a1 a2 a3 => kk H1 locs1 ⟨a1, a2, a3⟩)
theorem mk_get {k idx a : Nat} {ty : FieldType} (C : ck_X cl D cA cc nL own v p R s m args c) (h : mk_AT cl D A H0 h0 ci fs xs H locs) (F : mk_F cl own ci idx k ty) (hk : fs[k]? = some (.ref a)) (hd : decode cc pc = .ok (.getfield idx, 3))
    (kk : W p l e R s m args below meth c H locs cells slots Q (F0 m (pc + 3) ls (.ref a :: rest))) : W p l e R s m args below meth c H locs cells slots Q (F0 m pc ls (.ref h0 :: rest)) := by
  obtain ⟨N, T0, ty0, h3, h4, h5, h6, h7, h8, h9, h11⟩ := F
  exact va_get C.1 C.2.1 C.2.2.2.2.1 h5 C.2.2.2.1 C.2.2.2.2.2.1 h.1 0 rfl h3 k h4 (C.2.2.2.2.1 _ h6) (fun x hx => by rw [h7] at hx; exact hx) hk hd kk
theorem mk_same {cB : ClassId} {t : Nat} {ty : FieldType} (hK : va_K D cl (ck_ty cA) s) (hK1 : va_K D cl (ck_ty cA ++ [(cB, ty)]) s) (ht : t = 0 ∧ ty = .int ∨ t = 1 ∧ ty = .boolean) : cB = cA t := by
  have h1 := (hK1.2 2 (cB, ty) rfl).2
  rcases ht with ⟨rfl, rfl⟩ | ⟨rfl, rfl⟩
  · have h2 := (hK.2 0 (cA 0, .int) rfl).2
    have h1 : s.vm.findClass ("[" ++ FieldType.int.toString) = some cB := h1
    have h2 : s.vm.findClass ("[" ++ FieldType.int.toString) = some (cA 0) := h2
    exact Option.some.inj (h1.symm.trans h2)
  · have h2 := (hK.2 1 (cA 1, .boolean) rfl).2
    have h1 : s.vm.findClass ("[" ++ FieldType.boolean.toString) = some cB := h1
    have h2 : s.vm.findClass ("[" ++ FieldType.boolean.toString) = some (cA 1) := h2
    exact Option.some.inj (h1.symm.trans h2)
/-- newarray, putfield -/
theorem mk_na {k idx t N' : Nat} {n : Int32} {aty : ArrayType} {ty : FieldType} (C : ck_X cl D cA cc nL own v p R s m args c) (hin : meth.name = "<init>") (hA : ∀ q, H0.size ≤ q → A q) (h : mk_AT cl D A H0 h0 ci fs xs H locs) (F : mk_F cl own ci idx k (.array ty)) (hty : newarray.typeOf aty = ty) (ht : t = 0 ∧ ty = .int ∨ t = 1 ∧ ty = .boolean)
    (hn : ¬ n < 0) (hN : n.toNatClampNeg = N') (hbytes : N' * 4 ≤ 536870912) (hcells : cells + 1 ≤ R.cells) (hslots : slots + N' ≤ R.slots) (hk : k < fs.length) (hd : decode cc pc = .ok (.newarray aty, 2)) (hd2 : decode cc (pc + 2) = .ok (.putfield idx, 3))
    (kk : ∀ (q : Nat) (H : Heap) (locs : List Loc), mk_AT cl D A H0 h0 ci (fs.set k (.ref q)) (xs ++ [(q, .inl (cA t, N', .inl (fun _ => 0)))]) H locs → W p l e R s m args below meth c H locs (cells + 1) (slots + N') Q (F0 m (pc + 5) ls rest)) : W p l e R s m args below meth c H locs cells slots Q (F0 m pc ls (.int n :: .ref h0 :: rest)) := by
  have hw : (Cond.arrayClass (newarray.typeOf aty)).before args s = true := by
    rw [hty]
    rcases ht with ⟨_, rfl⟩ | ⟨_, rfl⟩
    · exact C.2.2.2.2.1 _ mk_wI
    · exact C.2.2.2.2.1 _ mk_wZ
  refine va_newa C.1 C.2.1 hw hty C.2.2.2.2.2.1 h.1 h.2.1 h.2.2 hA (a0 := (N', .inl (fun _ => 0))) (fun cB => by rcases ht with ⟨_, rfl⟩ | ⟨_, rfl⟩ <;> rfl) hn hN (by rcases ht with ⟨_, rfl⟩ | ⟨_, rfl⟩ <;> simp only [componentBytes] <;> omega) hcells hslots hd (fun q cB H1 hK1 hP1 hD1 hS1 => ?_)
  have hc : cB = cA t := mk_same C.2.2.2.2.2.1 hK1 ht
  subst hc
  have h9 : mk_AT cl D A H0 h0 ci fs (xs ++ [(q, .inl (cA t, N', .inl (fun _ => 0)))]) H1 locs := ⟨hP1, hD1, hS1⟩
  exact mk_put C hin h9 F rfl rfl hk hd2 (fun H2 locs2 h2 => kk q H2 locs2 h2)
theorem mk_obj {idx : Nat} {L : List (Nat × Value)} (C : ck_X cl D cA cc nL own v p R s m args c) (hl : lv_has ls nL L) (hv : 1 ≤ v) (F : Cond.methodLink own idx objectInit ∈ ck_T ∧ Cond.instanceMethod objectInit ∈ ck_T ∧ Cond.code objectInit ⟨#[0xb1]⟩ 1 none ∈ ck_T) (hd : decode cc pc = .ok (.invokespecial idx, 3))
    (kk : W p l e R s m args below meth c H locs cells slots Q (F0 m (pc + 3) ls [])) : W p l e R s m args below meth c H locs cells slots Q (F0 m pc ls [.ref h0]) := by
  obtain ⟨hx, hb, hml, hown, hts, hK, hlv, hlo⟩ := C
  refine W.objInit hx hb hown (hts _ F.1) (hts _ F.2.1) (hts _ F.2.2) rfl (by rw [hml]; exact hl.1) rfl hd (by omega) ?_ ?_
  · show 0 + 0 + 12 ≤ R.locals
    omega
  · exact kk
/-- the cells X stay, those of wc become those of w1 -/
theorem mk_join {X wc w1 : va_W} {H1 : Heap} (hP : va_P D cl (X ++ wc) H) (hD : va_D A (X ++ wc)) (hk : ∀ q : Nat, q < H.size → ¬ va_A wc H.size q → H1[q]? = H[q]?) (hF : ∀ q, va_A wc H.size q → A q) (hP1 : va_P D cl w1 H1) (hD1 : va_D (va_A wc H.size) w1) : va_P D cl (X ++ w1) H1 ∧ va_D A (X ++ w1) := by
  have atX : ∀ (k : Nat) (q : Nat × va_E), X[k]? = some q → (X ++ wc)[k]? = some q := fun k q h => by
    rw [List.getElem?_append_left (List.getElem?_eq_some_iff.mp h).1]; exact h
  have atC : ∀ (k : Nat) (q : Nat × va_E), wc[k]? = some q → (X ++ wc)[X.length + k]? = some q := fun k q h => by
    rw [List.getElem?_append_right (by omega), Nat.add_sub_cancel_left]; exact h
  have notC : ∀ (k : Nat) (q : Nat × va_E), X[k]? = some q → ¬ va_A wc H.size q.1 := by
    intro k q h hA
    have hlt := (hP k q (atX k q h)).lt
    rcases hA with ⟨j, e, hj⟩ | hA
    · have h1 := hD.1 k (X.length + j) q (q.1, e) (atX k q h) (atC j _ hj) rfl
      have h2 := (List.getElem?_eq_some_iff.mp h).1
      omega
    · omega
  have hPX : va_P D cl X H := fun k q h => hP k q (atX k q h)
  refine ⟨(hPX.kept (fun k q h => hk q.1 (hPX k q h).lt (notC k q h))).app hP1, va_D.app ⟨fun i j a b ha hb he => ?_, fun k q h => hD.2 k q (atX k q h)⟩ (hD1.weaken (fun k q _ h => hF _ h)) (fun i j a b ha hb he => ?_)⟩
  · exact hD.1 i j a b (atX i a ha) (atX j b hb) he
  · have h1 := hD1.2 j b hb
    rw [← he] at h1
    exact notC i a ha h1
def mk_P (Z : State → Prop) (cl : List vw_C) (D : va_G) (cA : Nat → ClassId) (h0 ci : Nat) (fs : List Value) (sz : Nat) (U : State) : Prop :=
  Z U ∧ U.heap.size = sz ∧ va_P D cl [(h0, .inr (ci, fs))] U.heap ∧ va_K D cl (ck_ty cA) U ∧ va_D (fun _ => True) [(h0, .inr (ci, fs))]
def mk_Q (cl : List vw_C) (D : va_G) (cA : Nat → ClassId) (A : Nat → Prop) (wf : (Nat → Nat) → va_W) (u : Nat → Nat) (t : State) : Prop :=
  va_P D cl (wf u) t.heap ∧ va_K D cl (ck_ty cA) t ∧ va_D A (wf u)
theorem mk_blind {Z : State → Prop} (hZ : ∀ (u U : State), u.vm = U.vm → Z u → Z U) {av : List Value} {sz : Nat} : FrameBlind (va_Pc av (mk_P Z cl D cA h0 ci fs sz)) := fun a U g mk q => ⟨q.1, hZ U _ rfl q.2.1, q.2.2.1, q.2.2.2.1, va_K.moved (u := U) (U := U.calling g mk a) (Vm.Alike.refl U.vm) q.2.2.2.2.1, q.2.2.2.2.2⟩
theorem mk_free {X wc : va_W} (hD : va_D A (X ++ wc)) (hS : va_S A H0 H locs) (hA : ∀ q, H0.size ≤ q → A q) : ∀ q, va_A wc H.size q → A q := by
  intro q h
  rcases h with ⟨k, e, h⟩ | h
  · exact hD.2 (X.length + k) (q, e) (by rw [List.getElem?_append_right (by omega), Nat.add_sub_cancel_left]; exact h)
  · exact hA q (Nat.le_trans hS.1 h)
/-- a constructor's call: the new object q becomes the world wf u -/
theorem mk_call {idx nL2 v2 n mc ms q ci2 : Nat} {y : MethodName} {cc2 : ByteArray} {As S : List Value} {L : List (Nat × Value)} {X : va_W} {fs2 : List Value} {wf : (Nat → Nat) → va_W} {Z : State → Prop} (hZ : ∀ (u U : State), u.vm = U.vm → Z u → Z U) (hZs : ∀ U : State, s.WarmedH U.vm → Z U)
    (C : ck_X cl D cA cc nL own v p R s m args c) (hA : ∀ q, H0.size ≤ q → A q) (hP : va_P D cl (X ++ [(q, .inr (ci2, fs2))]) H) (hD : va_D A (X ++ [(q, .inr (ci2, fs2))])) (hS0 : va_S A H0 H locs) (hl : lv_has ls nL L) (hy1 : y.name = "<init>") (F2 : Cond.instanceMethod y ∈ ck_T)
    (F : (Cond.code y cc2 nL2 none ∈ ck_T ∧ Cond.initialized y.cls ∈ ck_T ∧ (y.cls ≠ "java/lang/invoke/MethodHandle" ∧ y.cls ≠ "java/lang/invoke/VarHandle" ∧ (parseMethodDescriptor y.desc).map (fun d => d.parameters.length) = some n) ∧ nL2 ≤ 21) ∧ (Cond.methodLink own idx y ∈ ck_T ∨ ∃ host, va_Nw (.methodLinkNest own idx y host) s))
    (hM : Met l y (.code y cc2 nL2 none :: ck_T) { frames := v2, cells := mc, slots := ms, locals := 40 * v2 } (va_Pc (.ref q :: As) (mk_P Z cl D cA q ci2 fs2 H.size)) (va_Qv (fun _ => True) (mk_Q cl D cA (va_A [(q, .inr (ci2, fs2))] H.size) wf) (va_A [(q, .inr (ci2, fs2))] H.size)) mc ms (va_A [(q, .inr (ci2, fs2))] H.size)) (hv : v2 + 1 ≤ v)
    (hn : As.length = n) (hS : S = As.reverse ++ .ref q :: rest) (hr : (rest.map fun v => v.category).sum ≤ 8) (hcells : cells + mc ≤ R.cells) (hslots : slots + ms ≤ R.slots) (hd : decode cc pc = .ok (.invokespecial idx, 3))
    (kk : ∀ (u : Nat → Nat) (H : Heap) (locs : List Loc), va_P D cl (X ++ wf u) H → va_D A (X ++ wf u) → va_S A H0 H locs → W p l e R s m args below meth c H locs (cells + mc) (slots + ms) Q (F0 m (pc + 3) ls rest)) : W p l e R s m args below meth c H locs cells slots Q (F0 m pc ls S) := by
  obtain ⟨hx, hb, hml, hown, hts, hK, hfr, hlo⟩ := C
  obtain ⟨⟨f1, f3, f4, f5⟩, F⟩ := F
  have hFc := mk_free (X := X) hD hS0 hA
  have hPc : va_P D cl [(q, .inr (ci2, fs2))] H := fun k x h => hP (X.length + k) x (by rw [List.getElem?_append_right (by omega), Nat.add_sub_cancel_left]; exact h)
  have hDc : va_D (fun _ => True) [(q, .inr (ci2, fs2))] := ⟨fun i j a b h1 h2 _ => by
    have z1 : i < 1 := (List.getElem?_eq_some_iff.mp h1).1
    have z2 : j < 1 := (List.getElem?_eq_some_iff.mp h2).1
    omega, fun _ _ _ => trivial⟩
  have hpre : PreS s H (va_Pc (.ref q :: As) (mk_P Z cl D cA q ci2 fs2 H.size)) (.ref q :: As) := ⟨mk_blind hZ, fun U hU hW => ⟨rfl, hZs U hW, by rw [hU], by rw [hU]; exact hPc, va_K.moved hW.alike hK, hDc⟩⟩
  have hrun : va_Run p l e R s m args below meth c H locs cells slots mc ms (F0 m pc ls S) rest (va_Qv (fun _ => True) (mk_Q cl D cA (va_A [(q, .inr (ci2, fs2))] H.size) wf) (va_A [(q, .inr (ci2, fs2))] H.size) (Value.ref q :: As).toArray) (va_A [(q, .inr (ci2, fs2))] H.size) := by
    rcases F with F | ⟨host, F⟩
    · refine va_runI (As := As) (rest := rest) (b := q) (n := n) ⟨hx, hb, hml, hown, hts⟩ hM ⟨callB_of n hts (ck_good f1) rfl rfl rfl (hts _ f3) (hts _ F) f4 ⟨?_, ?_⟩, hy1, hts _ F2⟩ hpre rfl hn hl.1 hS (lv_room hr) hd ⟨hcells, hslots⟩
      · show v2 + 1 ≤ R.frames
        omega
      · show 8 + (nL2 + 11) + 40 * v2 ≤ R.locals
        omega
    · refine va_runIN (As := As) (rest := rest) (b := q) (n := n) (host := host) ⟨hx, hb, hml, hown, hts⟩ hM ⟨⟨⟨rfl, rfl, ?_, ?_, pay_in hts (ck_good f1), List.mem_cons_self⟩, hts _ f1, hts _ f3, ⟨f4.1, f4.2.1⟩, fun sig h => ?_, va_Nw.use rfl F⟩, hy1, hts _ F2⟩ hpre rfl hn hl.1 hS (lv_room hr) hd ⟨hcells, hslots⟩
      · show v2 + 1 ≤ R.frames
        omega
      · show 8 + (nL2 + 11) + 40 * v2 ≤ R.locals
        omega
      · have h2 := f4.2.2
        rw [h] at h2
        exact (Option.some.inj h2).symm
  refine va_callv hrun hS0 (fun q _ h => hFc q h) hFc (fun u t H1 locs1 ht hvm _ hB hz hk hS1 => ?_)
  obtain ⟨b1, b2, b3⟩ := hB
  rw [ht] at b1
  obtain ⟨j1, j2⟩ := mk_join hP hD hk hFc b1 b3
  exact kk u H1 locs1 j1 j2 hS1
end MK
section MKM
variable {l : Launch} {y : MethodName} {cc : ByteArray} {nL v mc ms : Nat} {own : String} {D : va_G} {cl : List vw_C} {cA : Nat → ClassId} {h0 ci sz : Nat} {fs : List Value} {As : List Value} {wf : (Nat → Nat) → va_W} {Z : State → Prop}
theorem mk_met (hy : plainName y.cls = true) (ho : y.cls = own) (hi : y.name = "<init>") (hlen : (lg_sl (.ref h0 :: As)).length ≤ nL)
    (body : ∀ (p : Program) (e : Env) (R : Room) (s : State) (m : MethodId) (args : Array Value) (below : List Frame) (meth : Method) (c : Code) (H0 : Heap) (Q : State → Prop) (A : Nat → Prop) (ls : Array Slot), ck_X cl D cA cc nL own v p R s m args c → Z s → meth.name = "<init>" → R.cells = mc → R.slots = ms → (∀ q, H0.size ≤ q → A q) →
      (∀ (u : Nat → Nat) (pc : Nat) (H : Heap) (locs : List Loc) (ls : Array Slot), decode cc pc = .ok (.return_, 1) → va_P D cl (wf u) H → va_D A (wf u) → va_S A H0 H locs → W p l e R s m args below meth c H locs mc ms Q (F0 m pc ls [])) →
      mk_AT cl D A H0 h0 ci fs [] H0 [] → lv_has ls nL (lv_args 0 (.ref h0 :: As)) → W p l e R s m args below meth c H0 [] 0 0 Q (F0 m 0 ls [])) :
    Met l y (.code y cc nL none :: ck_T) { frames := v, cells := mc, slots := ms, locals := 40 * v } (va_Pc (.ref h0 :: As) (mk_P Z cl D cA h0 ci fs sz)) (va_Qv (fun _ => True) (mk_Q cl D cA (va_A [(h0, .inr (ci, fs))] sz) wf) (va_A [(h0, .inr (ci, fs))] sz)) mc ms (va_A [(h0, .inr (ci, fs))] sz) := by
  refine Met.ofW (cc := cc) (maxL := nL) (ret := none) hy rfl ?_
  intro p e s m args below meth c s₁ B hml hv
  obtain ⟨rfl, hz, hsz, hP, hK, hD0⟩ := hv
  have hts := atoms_spec B.pre
  have hown : s.vm.findClass y.cls = some m.cls := findClass_of_methodNamed B.named
  have hlocks := B.notSynchronized
  have hin : meth.name = "<init>" := (name_of_methodNamed B.named B.method).1.trans hi
  have hx := B.exec
  have hb := B.bytes
  have hr := B.returns
  subst hsz
  have hD := hD0.self (sz := s.heap.size)
  rw [lg_entry_eq]
  exact body p e _ s m _ below meth c s.heap _ _ _ ⟨hx, hb, hml, by rw [← ho]; exact hown, fun w hw => hts w (List.mem_cons_of_mem _ hw), hK, Nat.le_refl _, Nat.le_refl _⟩ hz hin rfl rfl (fun q h => Or.inr h)
    (fun u pc H locs ls hd a1 a2 a3 => W.vret hx hb hr (fun t ht hW => ⟨⟨u, rfl, trivial, by rw [ht]; exact a1, va_K.moved hW.alike hK, a2⟩, a3.F ht⟩) a3.2.2 hd) ⟨hP, hD, va_S.rf⟩ (lv_entry _ hlen)
end MKM
theorem mk_ofP {cl : List vw_C} {D : va_G} {H : Heap} {sh : List ck_Sh} {cA : Nat → ClassId} {ad : Nat → Nat} {st : ck_S} (h : ∀ (k : Nat) (x : ck_Sh), sh[k]? = some x → va_at D cl (ad k, ck_ce cA ad (st k) x) H) : va_P D cl (ck_w sh cA ad st) H := by
  intro k q hk
  unfold ck_w at hk
  rw [List.getElem?_mapIdx] at hk
  cases hs : sh[k]? with
  | none => rw [hs] at hk; cases hk
  | some x => rw [hs] at hk; cases hk; exact h k x hs
/-- only the addresses count -/
theorem mk_ofD {A : Nat → Prop} {ws ws' : va_W} (h : va_D A ws) (he : ws.map Prod.fst = ws'.map Prod.fst) : va_D A ws' := by
  have key : ∀ (k : Nat) (q : Nat × va_E), ws'[k]? = some q → ∃ e, ws[k]? = some (q.1, e) := by
    intro k q hq
    have h1 : (ws.map Prod.fst)[k]? = some q.1 := by rw [he, List.getElem?_map, hq]; rfl
    rw [List.getElem?_map] at h1
    cases hw : ws[k]? with
    | none => rw [hw] at h1; cases h1
    | some x => rw [hw] at h1; cases x; cases h1; exact ⟨_, rfl⟩
  refine ⟨fun i j a b ha hb hab => ?_, fun k q hq => ?_⟩
  · obtain ⟨e1, h1⟩ := key i a ha
    obtain ⟨e2, h2⟩ := key j b hb
    exact h.1 i j _ _ h1 h2 hab
  · obtain ⟨e1, h1⟩ := key k q hq
    exact h.2 k (q.1, e1) h1
theorem mk_fst (sh : List ck_Sh) (cA : Nat → ClassId) (ad : Nat → Nat) (st : ck_S) : (ck_w sh cA ad st).map Prod.fst = (List.range sh.length).map ad := by
  apply List.ext_getElem?
  intro k
  unfold ck_w
  rw [List.getElem?_map, List.getElem?_mapIdx, List.getElem?_map]
  by_cases hk : k < sh.length
  · rw [List.getElem?_range hk, List.getElem?_eq_getElem hk]
    rfl
  · rw [List.getElem?_eq_none (by omega), List.getElem?_eq_none (by rw [List.length_range]; omega)]
    rfl
/-- addresses of one list at the places of another -/
theorem mk_perm {A : Nat → Prop} {ws : va_W} {as bs : List Nat} (h : va_D A ws) (ha : ws.map Prod.fst = as) (is : List Nat) (hn : va_nd is = true) (hb : is.map (fun i => as[i]?) = bs.map some) {sh : List ck_Sh} {cA : Nat → ClassId} {ad : Nat → Nat} {st : ck_S} (hc : (List.range sh.length).map ad = bs) : va_D A (ck_w sh cA ad st) := by
  let e0 : va_E := .inr (0, [])
  have h1 : va_D A (as.map (fun a => (a, e0))) := mk_ofD h (by rw [ha, List.map_map]; exact (List.map_id _).symm)
  have h2 : va_D A (bs.map (fun a => (a, e0))) := h1.sub is hn (by
    have e : (fun i : Nat => (as.map (fun a => ((a, e0) : Nat × va_E)))[i]?) = (fun i : Nat => (as[i]?).map (fun a => ((a, e0) : Nat × va_E))) := by
      funext i
      rw [List.getElem?_map]
    rw [e]
    have hb2 := congrArg (List.map (fun o : Option Nat => o.map (fun a => ((a, e0) : Nat × va_E)))) hb
    rw [List.map_map, List.map_map] at hb2
    rw [List.map_map]
    exact hb2)
  exact mk_ofD h2 (by rw [mk_fst, hc, List.map_map]; exact List.map_id _)
