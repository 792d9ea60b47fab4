/-! the relation of the two, and the calls that keep it -/
def tre (n k : Nat) (s r : ck_S) : Prop := (s 5 16 = 0 ∧ r 0 28 = 0) ∨ (s 5 16 = 1 ∧ r 0 28 = 1 ∧ ¬ s 4 6 = -1 ∧ rT n k s r)
def Rel (s r : ck_S) : Prop := ∃ t n p v q k, rD t n s r ∧ rO t s r ∧ rP n p s r ∧ rV n v s r ∧ rM n q k s r ∧ tre n k s r ∧ s 0 6 = r 0 46
theorem OUT_cells {s r s2 r2 : ck_S} {l : Nat} (h : OUT s r l) (e6 : s2 6 6 = s 6 6) (e40 : s2 40 = s 40) (e41 : s2 41 = s 41) (r41 : r2 0 41 = r 0 41) (f32 : r2 32 = r 32) (f33 : r2 33 = r 33) : OUT s2 r2 l := by
  unfold OUT
  rw [e6, e40, e41, r41, f32, f33]
  exact h
theorem tre_frame {n k : Nat} {s r s2 r2 : ck_S} (h : tre n k s r) (d : ∀ a, 7 ≤ a → a ≤ 9 → s2 a = s a) (es : ∀ a, 23 ≤ a → a ≤ 34 → s2 a = s a) (er : ∀ a, 22 ≤ a → a ≤ 30 → r2 a = r a) (e17 : r2 17 = r 17) (e18 : r2 18 = r 18) (e4 : s2 4 = s 4) (e5 : s2 5 = s 5) (e6 : s2 6 = s 6) (e40 : s2 40 = s 40) (e41 : s2 41 = s 41) (e20 : r2 0 20 = r 0 20) (e28 : r2 0 28 = r 0 28) (e29 : r2 0 29 = r 0 29) (e30 : r2 0 30 = r 0 30) (r41 : r2 0 41 = r 0 41) (f32 : r2 32 = r 32) (f33 : r2 33 = r 33) : tre n k s2 r2 := by
  rcases h with ⟨a, b⟩ | ⟨a, b, c, N, l, g, l1, o⟩
  · exact Or.inl ⟨by rw [e5]; exact a, by rw [e28]; exact b⟩
  · exact Or.inr ⟨by rw [e5]; exact a, by rw [e28]; exact b, by rw [e4]; exact c, N, l, GI_cells g d es er e17 e18 e4 (by rw [e5]) (by rw [e5]) e20 e29 e30, l1, OUT_cells o (by rw [e6]) e40 e41 r41 f32 f33⟩
/-- without a type the matrix is empty, and there is no tree -/
theorem rM_none {n q k : Nat} {s r : ck_S} (h : rM n q k s r) (e : s 4 6 = -1) : q = 0 ∧ k = 0 := by
  obtain ⟨h1, h2, h3, h4, h5, h6, h7, ⟨fc, c1, c2, _⟩, h9⟩ := h
  have := h7 e
  subst this
  exact ⟨rfl, by omega⟩
theorem rM_zero {n : Nat} {s r : ck_S} (e7 : s 4 7 = 0) (e8 : s 4 8 = 0) (r19 : r 0 19 = 0) (r20 : r 0 20 = 0) (h21 : s 21 0 = 0) (h23 : ∀ i b, i < 16 → b < 32 → bt (s 23 i) b = false) : rM n 0 0 s r :=
  ⟨by omega, by omega, e7, r19, e8, r20, fun _ => rfl, ⟨fun _ => 0, rfl, rfl, fun j hj => by rw [show j = 0 by omega, h21]; rfl, fun j hj => absurd hj (by omega), fun j c hj => absurd hj (by omega)⟩, fun i b hi _ hb => h23 i b hi hb, fun c i hc => absurd hc (by omega), fun c hc => absurd hc (by omega)⟩
theorem rM_21 {n q k : Nat} {s r : ck_S} (h : rM n q k s r) : s 21 0 = 0 := by
  obtain ⟨h1, h2, h3, h4, h5, h6, h7, ⟨fc, c1, c2, c3, _⟩, h9⟩ := h
  rw [c3 0 (by omega), c1]
  rfl
theorem tre_none {n k : Nat} {s r : ck_S} (h : tre n k s r) (e : s 4 6 = -1) : s 5 16 = 0 ∧ r 0 28 = 0 := by
  rcases h with h | ⟨_, _, c, _⟩
  · exact h
  · exact absurd e c
theorem tre_16 {n k : Nat} {s r : ck_S} (h : tre n k s r) : s 5 16 = 0 ∨ s 5 16 = 1 := by
  rcases h with h | h
  · exact Or.inl h.1
  · exact Or.inr h.1
theorem bt0 {i b : Nat} {s : ck_S} (h : s 23 i = 0) : bt (s 23 i) b = false := by rw [h, bt_zero]
theorem sim_0 : Rel stC0 stR0 := by
  refine ⟨0, 0, 0, 0, 0, 0, ⟨by omega, by omega, rfl, rfl, rfl, rfl, fun c hc => absurd hc (by omega), fun c hc => absurd hc (by omega), fun o => Nat.zero_le _⟩, ⟨rfl, Or.inl rfl⟩, ⟨by omega, rfl, rfl, fun i hi => absurd hi (by omega)⟩, ⟨by omega, rfl, rfl, fun i hi => absurd hi (by omega)⟩, rM_zero rfl rfl rfl rfl rfl (fun i b _ _ => bt0 rfl), Or.inl ⟨rfl, rfl⟩, rfl⟩
theorem fill23_ev : ∀ (d m i : Nat) (s : ck_S), i + d = 16 → d < m → ∃ s2, fA_fill_23_C_l5 m 0 (Int32.ofNat i) 16 s = some s2 ∧ (∀ a, ¬ a = 23 → s2 a = s a) ∧ (∀ j, j < i → s2 23 j = s 23 j) ∧ (∀ j, i ≤ j → j < 16 → s2 23 j = 0) := by
  intro d
  induction d with
  | zero =>
    intro m i s hi hm
    obtain ⟨m, rfl⟩ : ∃ z, m = z + 1 := ⟨m - 1, by omega⟩
    refine ⟨s, ?_, fun _ _ => rfl, fun _ _ => rfl, fun j a b => absurd b (by omega)⟩
    rw [fA_fill_23_C_l5, if_pos (show (16 : Int32) ≤ Int32.ofNat i from (ln_le (a := 16) (b := i) (by omega) (by omega)).mpr (by omega))]
  | succ d ih =>
    intro m i s hi hm
    obtain ⟨m, rfl⟩ : ∃ z, m = z + 1 := ⟨m - 1, by omega⟩
    obtain ⟨s2, a1, a2, a3, a4⟩ := ih m (i + 1) (ck_u s 23 i 0) (by omega) (by omega)
    refine ⟨s2, ?_, fun a ha => by rw [a2 a ha, ck_u_ne ha], fun j hj => by rw [a3 j (by omega), ck_u_nei (by omega)], fun j h1 h2 => ?_⟩
    · rw [fA_fill_23_C_l5, if_neg (show ¬ (16 : Int32) ≤ Int32.ofNat i from mt (ln_le (a := 16) (b := i) (by omega) (by omega)).mp (by omega)), ck_gd_ok (by omega) (by omega), ln_at (by omega), show Int32.ofNat i + 1 = Int32.ofNat (i + 1) from ln_addL i 1]
      exact a1
    · by_cases e : j = i
      · rw [e, a3 i (by omega), ck_u_eq]
      · exact a4 j (by omega) h2
theorem sim_clear : agv Rel fC_clear fR_clear := by
  rintro st rt ⟨t, n, p, v, q, k, hD, hO, hP, hV, hM, hT, h6⟩
  unfold fC_clear fR_clear fD_reset fP_reset fV_reset fM_reset fA_fill_23_C fT_drop
  simp only [ck_bv_some]
  obtain ⟨s2, a1, a2, a3, a4⟩ := fill23_ev 16 4096 0 (ck_u (ck_u (ck_u (ck_u (ck_u (ck_u (ck_u st 1 3 0) 1 4 0) 2 7 0) 3 4 0) 4 6 (-1)) 4 7 0) 4 8 0) (by omega) (by omega)
  have a1' : fA_fill_23_C_l5 4096 0 0 16 (ck_u (ck_u (ck_u (ck_u (ck_u (ck_u (ck_u st 1 3 0) 1 4 0) 2 7 0) 3 4 0) 4 6 (-1)) 4 7 0) 4 8 0) = some s2 := a1
  rw [a1']
  simp only [ck_bv_some]
  refine ⟨_, _, rfl, rfl, 0, 0, 0, 0, 0, 0, ⟨by omega, by omega, ?_, ?_, ?_, ?_, fun c hc => absurd hc (by omega), fun c hc => absurd hc (by omega), fun o => Nat.zero_le _⟩, ⟨?_, Or.inl ?_⟩, ⟨by omega, ?_, ?_, fun i hi => absurd hi (by omega)⟩, ⟨by omega, ?_, ?_, fun i hi => absurd hi (by omega)⟩, rM_zero ?_ ?_ ?_ ?_ ?_ (fun i b h1 h2 => ?_), Or.inl ⟨?_, ?_⟩, ?_⟩
  · rw [ck_u_ne (by omega), ck_u_ne (by omega), a2 _ (by omega)]; simp [ck_u, upd]
  · simp [ck_u, upd]
  · rw [ck_u_ne (by omega), ck_u_ne (by omega), a2 _ (by omega)]; simp [ck_u, upd]
  · simp [ck_u, upd]
  · rw [ck_u_ne (a := 4) (by omega), ck_u_ne (a := 4) (by omega), a2 _ (by omega)]; simp [ck_u, upd]
  · rw [ck_u_ne (by omega), ck_u_ne (by omega), a2 _ (by omega)]; simp [ck_u, upd]
  · rw [ck_u_ne (by omega), ck_u_ne (by omega), a2 _ (by omega)]; simp [ck_u, upd]
  · simp [ck_u, upd]
  · rw [ck_u_ne (by omega), ck_u_ne (by omega), a2 _ (by omega)]; simp [ck_u, upd]
  · simp [ck_u, upd]
  · rw [ck_u_ne (by omega), ck_u_ne (by omega), a2 _ (by omega)]; simp [ck_u, upd]
  · rw [ck_u_ne (by omega), ck_u_ne (by omega), a2 _ (by omega)]; simp [ck_u, upd]
  · simp [ck_u, upd]
  · simp [ck_u, upd]
  · rw [ck_u_ne (by omega), ck_u_ne (by omega), a2 _ (by omega)]
    have := rM_21 hM
    simp [ck_u, this]
  · rw [ck_u_ne (by omega), ck_u_ne (by omega), a4 i (by omega) h1]
    exact bt_zero b
  · simp [ck_u, upd]
  · simp [ck_u, upd]
  · simp [ck_u, upd]
theorem sim_tests : ag Rel fC_tests fR_tests := by
  rintro st rt hR
  have h := hR
  obtain ⟨t, n, p, v, q, k, hD, hO, hP, hV, hM, hT, h6⟩ := h
  refine ⟨st 0 6, st, rt, rfl, ?_, hR⟩
  unfold fR_tests
  rw [h6]
theorem sim_wl : ag Rel fC_witnessLength fR_witnessLength := by
  rintro st rt hR
  have h := hR
  obtain ⟨t, n, p, v, q, k, hD, hO, hP, hV, hM, hT, h6⟩ := h
  unfold fC_witnessLength fR_witnessLength fT_isThere fG_length
  rcases hT with ⟨a, b⟩ | ⟨a, b, _, N, l, g, l1, o1, o2, o3⟩
  · rw [a, b, ck_gz0, ck_b_some, if_pos rfl, if_pos rfl]
    exact ⟨_, _, _, rfl, rfl, hR⟩
  · rw [a, b, ck_gz1, ck_b_some, if_neg (by decide), if_neg (by decide), ck_b_some, o1, o2]
    exact ⟨_, _, _, rfl, rfl, hR⟩
theorem gh_ev {l : Nat} {s r : ck_S} (hl : l ≤ 31) (o : OUT s r l) (x : Int32) : (∃ i, i < l ∧ x = Int32.ofNat i ∧ fG_has x s = some (1, s) ∧ ¬ x < 0 ∧ x < r 0 41) ∨ (fG_has x s = some (0, s) ∧ (x < 0 ∨ (¬ x < 0 ∧ ¬ x < r 0 41))) := by
  unfold fG_has
  rw [o.1, o.2.1]
  rcases ln_cases x l (by omega) with ⟨i, hi, rfl⟩ | hx | ⟨hx, hx2⟩
  · left
    refine ⟨i, hi, rfl, ?_, ln_lt0 (by omega), (ln_lt (by omega) (by omega)).mpr hi⟩
    rw [if_neg (ln_lt0 (by omega)), if_neg (mt (ln_le (by omega) (by omega)).mp (by omega))]
  · right
    rw [if_pos hx]
    exact ⟨rfl, Or.inl hx⟩
  · right
    rw [if_neg hx, if_pos hx2]
    exact ⟨rfl, Or.inr ⟨hx, fun z => ln_not_le.mpr z hx2⟩⟩
theorem sim_wk (x : Int32) : ag Rel (fC_witnessKind x) (fR_witnessKind x) := by
  rintro st rt hR
  have h := hR
  obtain ⟨t, n, p, v, q, k, hD, hO, hP, hV, hM, hT, h6⟩ := h
  unfold fC_witnessKind fR_witnessKind fT_isThere fG_kindOf
  rcases hT with ⟨a, b⟩ | ⟨a, b, _, N, l, g, l1, o⟩
  · rw [a, b, ck_gz0, ck_b_some, if_pos rfl, if_pos rfl]
    exact ⟨_, _, _, rfl, rfl, hR⟩
  · rw [a, b, ck_gz1, ck_b_some, if_neg (by decide), if_neg (by decide)]
    rcases gh_ev l1 o x with ⟨i, i1, rfl, i2, i3, i4⟩ | ⟨i2, i3⟩
    · rw [i2, ck_b_some, if_neg (by decide), i2, ck_b_some, if_neg (by decide), ck_gd_ok (by omega) (by omega), ck_b_some, if_neg i3, if_pos i4, ck_gd_ok (by omega) (by omega), ln_at (by omega), (o.2.2 i i1).1]
      exact ⟨_, _, _, rfl, rfl, hR⟩
    · rw [i2, ck_b_some, if_pos rfl]
      rcases i3 with i3 | ⟨i3, i4⟩
      · rw [if_pos i3]
        exact ⟨_, _, _, rfl, rfl, hR⟩
      · rw [if_neg i3, if_neg i4]
        exact ⟨_, _, _, rfl, rfl, hR⟩
theorem sim_ws (x : Int32) : ag Rel (fC_witness x) (fR_witness x) := by
  rintro st rt hR
  have h := hR
  obtain ⟨t, n, p, v, q, k, hD, hO, hP, hV, hM, hT, h6⟩ := h
  unfold fC_witness fR_witness fT_isThere fG_symbolOf
  rcases hT with ⟨a, b⟩ | ⟨a, b, _, N, l, g, l1, o⟩
  · rw [a, b, ck_gz0, ck_b_some, if_pos rfl, if_pos rfl]
    exact ⟨_, _, _, rfl, rfl, hR⟩
  · rw [a, b, ck_gz1, ck_b_some, if_neg (by decide), if_neg (by decide)]
    rcases gh_ev l1 o x with ⟨i, i1, rfl, i2, i3, i4⟩ | ⟨i2, i3⟩
    · rw [i2, ck_b_some, if_neg (by decide), i2, ck_b_some, if_neg (by decide), ck_gd_ok (by omega) (by omega), ck_b_some, if_neg i3, if_pos i4, ck_gd_ok (by omega) (by omega), ln_at (by omega), (o.2.2 i i1).2]
      exact ⟨_, _, _, rfl, rfl, hR⟩
    · rw [i2, ck_b_some, if_pos rfl]
      rcases i3 with i3 | ⟨i3, i4⟩
      · rw [if_pos i3]
        exact ⟨_, _, _, rfl, rfl, hR⟩
      · rw [if_neg i3, if_neg i4]
        exact ⟨_, _, _, rfl, rfl, hR⟩
