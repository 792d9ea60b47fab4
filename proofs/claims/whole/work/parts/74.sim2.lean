/-! the calls on the matrix and on the tree keep the relation -/
theorem sim_row (x : Int32) : ag Rel (fC_row x) (fR_row x) := by
  rintro st rt hR
  have h := hR
  obtain ⟨t, n, p, v, q, k, hD, hO, hP, hV, hM, hT, h6⟩ := h
  rcases row_M hD hO hP hM (tre_16 hT) x with ⟨y, a, b⟩ | ⟨y, s2, r2, k2, a, b, c, hM2, es, e46, e16, er, e0, e28⟩
  · exact ⟨_, _, _, a, b, hR⟩
  · refine ⟨y, s2, r2, a, b, t, n, p, v, q + 1, k2, rD_frame hD (by rw [es _ (by omega) (by omega) (by omega)]) (by rw [es _ (by omega) (by omega) (by omega)]) (es _ (by omega) (by omega) (by omega)) (es _ (by omega) (by omega) (by omega)) (es _ (by omega) (by omega) (by omega)) (e0 _ (by omega) (by omega) (by omega)) (e0 _ (by omega) (by omega) (by omega)) (er _ (by omega) (by omega)) (er _ (by omega) (by omega)) (er _ (by omega) (by omega)), rO_frame hO (Nat.le_refl _) e46 (e0 _ (by omega) (by omega) (by omega)), rP_frame hP (Nat.le_refl _) (by rw [es _ (by omega) (by omega) (by omega)]) (es _ (by omega) (by omega) (by omega)) (es _ (by omega) (by omega) (by omega)) (es _ (by omega) (by omega) (by omega)) (es _ (by omega) (by omega) (by omega)) (es _ (by omega) (by omega) (by omega)) (es _ (by omega) (by omega) (by omega)) (es _ (by omega) (by omega) (by omega)) (fun c _ => ⟨by rw [es _ (by omega) (by omega) (by omega)], by rw [es _ (by omega) (by omega) (by omega)], by rw [es _ (by omega) (by omega) (by omega)]⟩) (e0 _ (by omega) (by omega) (by omega)) (fun q _ _ => er q (by omega) (by omega)), rV_frame hV (Nat.le_refl _) (by rw [es _ (by omega) (by omega) (by omega)]) (es _ (by omega) (by omega) (by omega)) (es _ (by omega) (by omega) (by omega)) (es _ (by omega) (by omega) (by omega)) (es _ (by omega) (by omega) (by omega)) (fun c _ => ⟨by rw [es _ (by omega) (by omega) (by omega)], by rw [es _ (by omega) (by omega) (by omega)], by rw [es _ (by omega) (by omega) (by omega)]⟩) (e0 _ (by omega) (by omega) (by omega)) (fun q _ _ => er q (by omega) (by omega)), hM2, Or.inl ⟨e16, e28⟩, by rw [es _ (by omega) (by omega) (by omega), e0 _ (by omega) (by omega) (by omega)]; exact h6⟩
theorem sim_compile : ag Rel fC_compile fR_compile := by
  rintro st rt hR
  have h := hR
  obtain ⟨t, n, p, v, q, k, hD, hO, hP, hV, hM, hT, h6⟩ := h
  rcases compile_T hD hO hM with ⟨_, a, b⟩ | ⟨e, y, s2, r2, a, b, es, er, e0, hT2⟩
  · exact ⟨_, _, _, a, b, hR⟩
  · have e46 : s2 4 6 = st 4 6 := by rw [es _ (by omega) (by omega) (by omega)]
    refine ⟨y, s2, r2, a, b, t, n, p, v, q, k, rD_frame hD (by rw [es _ (by omega) (by omega) (by omega)]) (by rw [es _ (by omega) (by omega) (by omega)]) (es _ (by omega) (by omega) (by omega)) (es _ (by omega) (by omega) (by omega)) (es _ (by omega) (by omega) (by omega)) (e0 _ (by omega) (by omega) (by omega) (by omega)) (e0 _ (by omega) (by omega) (by omega) (by omega)) (er _ (by omega) (by omega)) (er _ (by omega) (by omega)) (er _ (by omega) (by omega)), rO_frame hO (Nat.le_refl _) e46 (e0 _ (by omega) (by omega) (by omega) (by omega)), rP_frame hP (Nat.le_refl _) (by rw [es _ (by omega) (by omega) (by omega)]) (es _ (by omega) (by omega) (by omega)) (es _ (by omega) (by omega) (by omega)) (es _ (by omega) (by omega) (by omega)) (es _ (by omega) (by omega) (by omega)) (es _ (by omega) (by omega) (by omega)) (es _ (by omega) (by omega) (by omega)) (es _ (by omega) (by omega) (by omega)) (fun c _ => ⟨by rw [es _ (by omega) (by omega) (by omega)], by rw [es _ (by omega) (by omega) (by omega)], by rw [es _ (by omega) (by omega) (by omega)]⟩) (e0 _ (by omega) (by omega) (by omega) (by omega)) (fun q _ _ => er q (by omega) (by omega)), rV_frame hV (Nat.le_refl _) (by rw [es _ (by omega) (by omega) (by omega)]) (es _ (by omega) (by omega) (by omega)) (es _ (by omega) (by omega) (by omega)) (es _ (by omega) (by omega) (by omega)) (es _ (by omega) (by omega) (by omega)) (fun c _ => ⟨by rw [es _ (by omega) (by omega) (by omega)], by rw [es _ (by omega) (by omega) (by omega)], by rw [es _ (by omega) (by omega) (by omega)]⟩) (e0 _ (by omega) (by omega) (by omega) (by omega)) (fun q _ _ => er q (by omega) (by omega)), rM_frame hM (Nat.le_refl _) (es _ (by omega) (by omega) (by omega)) (es _ (by omega) (by omega) (by omega)) (es _ (by omega) (by omega) (by omega)) (es _ (by omega) (by omega) (by omega)) (es _ (by omega) (by omega) (by omega)) (es _ (by omega) (by omega) (by omega)) (fun c _ => ⟨by rw [es _ (by omega) (by omega) (by omega)], by rw [es _ (by omega) (by omega) (by omega)], by rw [es _ (by omega) (by omega) (by omega)]⟩) (e0 _ (by omega) (by omega) (by omega) (by omega)) (e0 _ (by omega) (by omega) (by omega) (by omega)) (er _ (by omega) (by omega)) (er _ (by omega) (by omega)) (er _ (by omega) (by omega)) (er _ (by omega) (by omega)), ?_, by rw [es _ (by omega) (by omega) (by omega), e0 _ (by omega) (by omega) (by omega) (by omega)]; exact h6⟩
    rcases hT2 with z | ⟨z1, z2, z3⟩
    · exact Or.inl z
    · exact Or.inr ⟨z1, z2, by rw [e46]; exact e, z3⟩
/-- only scratch cells, and the last count of tests, have changed -/
theorem Rel_keep {t n p v q k : Nat} {st rt s2 r2 : ck_S} (hD : rD t n st rt) (hO : rO t st rt) (hP : rP n p st rt) (hV : rV n v st rt) (hM : rM n q k st rt) (hT : tre n k st rt) (es : ∀ a, ¬ a = 0 → ¬ a = 35 → ¬ a = 37 → s2 a = st a) (er : ∀ a, ¬ a = 0 → ¬ a = 31 → r2 a = rt a) (e0 : ∀ j, ¬ j = 46 → r2 0 j = rt 0 j) (h6 : s2 0 6 = r2 0 46) : Rel s2 r2 :=
  ⟨t, n, p, v, q, k, rD_frame hD (by rw [es _ (by omega) (by omega) (by omega)]) (by rw [es _ (by omega) (by omega) (by omega)]) (es _ (by omega) (by omega) (by omega)) (es _ (by omega) (by omega) (by omega)) (es _ (by omega) (by omega) (by omega)) (e0 _ (by omega)) (e0 _ (by omega)) (er _ (by omega) (by omega)) (er _ (by omega) (by omega)) (er _ (by omega) (by omega)), rO_frame hO (Nat.le_refl _) (by rw [es _ (by omega) (by omega) (by omega)]) (e0 _ (by omega)), rP_frame hP (Nat.le_refl _) (by rw [es _ (by omega) (by omega) (by omega)]) (es _ (by omega) (by omega) (by omega)) (es _ (by omega) (by omega) (by omega)) (es _ (by omega) (by omega) (by omega)) (es _ (by omega) (by omega) (by omega)) (es _ (by omega) (by omega) (by omega)) (es _ (by omega) (by omega) (by omega)) (es _ (by omega) (by omega) (by omega)) (fun c _ => ⟨by rw [es _ (by omega) (by omega) (by omega)], by rw [es _ (by omega) (by omega) (by omega)], by rw [es _ (by omega) (by omega) (by omega)]⟩) (e0 _ (by omega)) (fun q _ _ => er q (by omega) (by omega)), rV_frame hV (Nat.le_refl _) (by rw [es _ (by omega) (by omega) (by omega)]) (es _ (by omega) (by omega) (by omega)) (es _ (by omega) (by omega) (by omega)) (es _ (by omega) (by omega) (by omega)) (es _ (by omega) (by omega) (by omega)) (fun c _ => ⟨by rw [es _ (by omega) (by omega) (by omega)], by rw [es _ (by omega) (by omega) (by omega)], by rw [es _ (by omega) (by omega) (by omega)]⟩) (e0 _ (by omega)) (fun q _ _ => er q (by omega) (by omega)), rM_frame hM (Nat.le_refl _) (es _ (by omega) (by omega) (by omega)) (es _ (by omega) (by omega) (by omega)) (es _ (by omega) (by omega) (by omega)) (es _ (by omega) (by omega) (by omega)) (es _ (by omega) (by omega) (by omega)) (es _ (by omega) (by omega) (by omega)) (fun c _ => ⟨by rw [es _ (by omega) (by omega) (by omega)], by rw [es _ (by omega) (by omega) (by omega)], by rw [es _ (by omega) (by omega) (by omega)]⟩) (e0 _ (by omega)) (e0 _ (by omega)) (er _ (by omega) (by omega)) (er _ (by omega) (by omega)) (er _ (by omega) (by omega)) (er _ (by omega) (by omega)),
    tre_frame hT (fun a _ _ => es a (by omega) (by omega) (by omega)) (fun a _ _ => es a (by omega) (by omega) (by omega)) (fun a _ _ => er a (by omega) (by omega)) (er _ (by omega) (by omega)) (er _ (by omega) (by omega)) (es _ (by omega) (by omega) (by omega)) (es _ (by omega) (by omega) (by omega)) (es _ (by omega) (by omega) (by omega)) (es _ (by omega) (by omega) (by omega)) (es _ (by omega) (by omega) (by omega)) (e0 _ (by omega)) (e0 _ (by omega)) (e0 _ (by omega)) (e0 _ (by omega)) (e0 _ (by omega)) (er _ (by omega) (by omega)) (er _ (by omega) (by omega)), h6⟩
theorem no_tree {st rt : ck_S} (a : st 5 16 = 0) (b : rt 0 28 = 0) : fC_kinds st = some (-13, st) ∧ fR_kinds rt = some (-13, rt) ∧ fC_longest st = some (-13, st) ∧ fR_longest rt = some (-13, rt) ∧ (∀ x, fC_useless x st = some (-13, st)) ∧ (∀ x, fR_useless x rt = some (-13, rt)) ∧ (∀ x, fC_run x st = some (-13, st)) ∧ (∀ x, fR_run x rt = some (-13, rt)) := by
  have ht : fT_isThere st = some (0, st) := by
    unfold fT_isThere
    rw [a, ck_gz0]
  refine ⟨?_, ?_, ?_, ?_, fun x => ?_, fun x => ?_, fun x => ?_, fun x => ?_⟩
  · unfold fC_kinds; rw [ht, ck_b_some, if_pos rfl]
  · unfold fR_kinds; rw [if_pos b]
  · unfold fC_longest; rw [ht, ck_b_some, if_pos rfl]
  · unfold fR_longest; rw [if_pos b]
  · unfold fC_useless; rw [ht, ck_b_some, if_pos rfl]
  · unfold fR_useless; rw [if_pos b]
  · unfold fC_run; rw [ht, ck_b_some, if_pos rfl]
  · unfold fR_run; rw [if_pos b]
theorem sim_kinds : ag Rel fC_kinds fR_kinds := by
  rintro st rt hR
  have h := hR
  obtain ⟨t, n, p, v, q, k, hD, hO, hP, hV, hM, hT, h6⟩ := h
  have hT' := hT
  rcases hT' with ⟨a, b⟩ | ⟨a, b, _, N, l, g, l1, o⟩
  · exact ⟨_, _, _, (no_tree a b).1, (no_tree a b).2.1, hR⟩
  · obtain ⟨y, s2, r2, c1, c2, c3, c4⟩ := kinds_T g a b
    exact ⟨y, s2, r2, c1, c2, Rel_keep hD hO hP hV hM hT (fun a _ h _ => c3 a h) (fun a _ h => c4 a h) (fun j _ => by rw [c4 0 (by omega)]) (by rw [c3 0 (by omega), c4 0 (by omega)]; exact h6)⟩
theorem sim_longest : ag Rel fC_longest fR_longest := by
  rintro st rt hR
  have h := hR
  obtain ⟨t, n, p, v, q, k, hD, hO, hP, hV, hM, hT, h6⟩ := h
  have hT' := hT
  rcases hT' with ⟨a, b⟩ | ⟨a, b, _, N, l, g, l1, o⟩
  · exact ⟨_, _, _, (no_tree a b).2.2.1, (no_tree a b).2.2.2.1, hR⟩
  · obtain ⟨y, r2, c1, c2, c4⟩ := longest_T g a b
    exact ⟨y, st, r2, c1, c2, Rel_keep hD hO hP hV hM hT (fun a _ _ _ => rfl) (fun a _ h => c4 a h) (fun j _ => by rw [c4 0 (by omega)]) (by rw [c4 0 (by omega)]; exact h6)⟩
theorem sim_useless (x : Int32) : ag Rel (fC_useless x) (fR_useless x) := by
  rintro st rt hR
  have h := hR
  obtain ⟨t, n, p, v, q, k, hD, hO, hP, hV, hM, hT, h6⟩ := h
  rcases hT with ⟨a, b⟩ | ⟨a, b, _, N, l, g, l1, o⟩
  · exact ⟨_, _, _, (no_tree a b).2.2.2.2.1 x, (no_tree a b).2.2.2.2.2.1 x, hR⟩
  · obtain ⟨y, c1, c2⟩ := useless_T hM g a b x
    exact ⟨y, st, rt, c1, c2, hR⟩
theorem sim_run (x : Int32) : ag Rel (fC_run x) (fR_run x) := by
  rintro st rt hR
  have h := hR
  obtain ⟨t, n, p, v, q, k, hD, hO, hP, hV, hM, hT, h6⟩ := h
  have hT' := hT
  rcases hT' with ⟨a, b⟩ | ⟨a, b, _, N, l, g, l1, o⟩
  · exact ⟨_, _, _, (no_tree a b).2.2.2.2.2.2.1 x, (no_tree a b).2.2.2.2.2.2.2 x, hR⟩
  · obtain ⟨y, s2, r2, c1, c2, c3, c4, c5, c6⟩ := run_T hD hO hV hM g a b h6 x
    exact ⟨y, s2, r2, c1, c2, Rel_keep hD hO hP hV hM hT (fun a h1 _ h2 => c3 a h2 h1) (fun a h1 _ => c4 a h1) c5 c6⟩
theorem sim_all : Sim Rel := ⟨sim_0, sim_clear, sim_type, sim_cons, sim_begin, sim_any, sim_number, sim_build, sim_either, sim_row, sim_compile, sim_kinds, sim_longest, sim_useless, sim_wl, sim_wk, sim_ws, sim_vn, sim_vo, sim_run, sim_tests⟩
