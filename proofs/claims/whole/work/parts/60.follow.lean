/-! the way to a leaf that fails -/
theorem fill38 {s : ck_S} : ∃ s2, fA_fill_38_C 0 s = some s2 ∧ (∀ a, ¬ a = 38 → s2 a = s a) ∧ ∀ p, p < 32 → s2 38 p = 0 := by
  have key : ∀ (d m i : Nat) (s : ck_S), i + d = 32 → d < m → (∀ p, p < i → s 38 p = 0) → ∃ s2, fA_fill_38_C_l5 m 0 (Int32.ofNat i) 32 s = some s2 ∧ (∀ a, ¬ a = 38 → s2 a = s a) ∧ ∀ p, p < 32 → s2 38 p = 0 := by
    intro d
    induction d with
    | zero =>
      intro m i s hi hm h
      obtain ⟨m, rfl⟩ : ∃ z, m = z + 1 := ⟨m - 1, by omega⟩
      refine ⟨s, ?_, fun _ _ => rfl, fun p hp => h p (by omega)⟩
      rw [fA_fill_38_C_l5, if_pos (by rw [show i = 32 by omega]; decide)]
    | succ d ih =>
      intro m i s hi hm h
      obtain ⟨m, rfl⟩ : ∃ z, m = z + 1 := ⟨m - 1, by omega⟩
      rw [fA_fill_38_C_l5, if_neg (fun z => by have := (ln_le (a := 32) (by omega) (by omega)).mp z; omega), ck_gd_ok (by omega) (by omega), ln_at (by omega), show Int32.ofNat i + 1 = Int32.ofNat (i + 1) from ln_addL i 1]
      obtain ⟨s2, b1, b2, b3⟩ := ih m (i + 1) (ck_u s 38 i 0) (by omega) (by omega) (fun p hp => by
        rw [ck_u_at]
        split
        · rfl
        · exact h p (by omega))
      exact ⟨s2, b1, fun a ha => by rw [b2 a ha, ck_u_ne ha], b3⟩
  exact key 32 4096 0 s (by omega) (by omega) (fun p hp => absurd hp (by omega))
theorem fill39 {s : ck_S} : ∃ s2, fA_fill_39_C 0 s = some s2 ∧ (∀ a, ¬ a = 39 → s2 a = s a) ∧ ∀ p, p < 32 → s2 39 p = 0 := by
  have key : ∀ (d m i : Nat) (s : ck_S), i + d = 32 → d < m → (∀ p, p < i → s 39 p = 0) → ∃ s2, fA_fill_39_C_l5 m 0 (Int32.ofNat i) 32 s = some s2 ∧ (∀ a, ¬ a = 39 → s2 a = s a) ∧ ∀ p, p < 32 → s2 39 p = 0 := by
    intro d
    induction d with
    | zero =>
      intro m i s hi hm h
      obtain ⟨m, rfl⟩ : ∃ z, m = z + 1 := ⟨m - 1, by omega⟩
      refine ⟨s, ?_, fun _ _ => rfl, fun p hp => h p (by omega)⟩
      rw [fA_fill_39_C_l5, if_pos (by rw [show i = 32 by omega]; decide)]
    | succ d ih =>
      intro m i s hi hm h
      obtain ⟨m, rfl⟩ : ∃ z, m = z + 1 := ⟨m - 1, by omega⟩
      rw [fA_fill_39_C_l5, if_neg (fun z => by have := (ln_le (a := 32) (by omega) (by omega)).mp z; omega), ck_gd_ok (by omega) (by omega), ln_at (by omega), show Int32.ofNat i + 1 = Int32.ofNat (i + 1) from ln_addL i 1]
      obtain ⟨s2, b1, b2, b3⟩ := ih m (i + 1) (ck_u s 39 i 0) (by omega) (by omega) (fun p hp => by
        rw [ck_u_at]
        split
        · rfl
        · exact h p (by omega))
      exact ⟨s2, b1, fun a ha => by rw [b2 a ha, ck_u_ne ha], b3⟩
  exact key 32 4096 0 s (by omega) (by omega) (fun p hp => absurd hp (by omega))
theorem l107_ev (K : ck_S → Option ck_S) (r : ck_S) : ∃ r2, fR_findWitness_l107 K 4096 0 r = K r2 ∧ (∀ a, ¬ a = 34 → r2 a = r a) ∧ ∀ p, p < 16 → r2 34 p = 0 := by
  have key : ∀ (d m i : Nat) (s : ck_S), i + d = 16 → d < m → (∀ p, p < i → s 34 p = 0) → ∃ s2, fR_findWitness_l107 K m (Int32.ofNat i) s = K s2 ∧ (∀ a, ¬ a = 34 → s2 a = s a) ∧ ∀ p, p < 16 → s2 34 p = 0 := by
    intro d
    induction d with
    | zero =>
      intro m i s hi hm h
      obtain ⟨m, rfl⟩ : ∃ z, m = z + 1 := ⟨m - 1, by omega⟩
      refine ⟨s, ?_, fun _ _ => rfl, fun p hp => h p (by omega)⟩
      rw [fR_findWitness_l107, if_pos (by rw [show i = 16 by omega]; decide)]
    | succ d ih =>
      intro m i s hi hm h
      obtain ⟨m, rfl⟩ : ∃ z, m = z + 1 := ⟨m - 1, by omega⟩
      rw [fR_findWitness_l107, if_neg (fun z => by have := (ln_le (a := 16) (by omega) (by omega)).mp z; omega), ck_gd_ok (by omega) (by omega), ln_at (by omega), show Int32.ofNat i + 1 = Int32.ofNat (i + 1) from ln_addL i 1]
      obtain ⟨s2, b1, b2, b3⟩ := ih m (i + 1) (ck_u s 34 i 0) (by omega) (by omega) (fun p hp => by
        rw [ck_u_at]
        split
        · rfl
        · exact h p (by omega))
      exact ⟨s2, b1, fun a ha => by rw [b2 a ha, ck_u_ne ha], b3⟩
  exact key 16 4096 0 r (by omega) (by omega) (fun p hp => absurd hp (by omega))
/-- what is known of each place, on both sides -/
def WR (n : Nat) (s r : ck_S) : Prop := (∀ p, p < 16 → r 34 p = s 38 p ∧ (s 38 p = 0 ∨ s 38 p = 1 ∨ s 38 p = 2) ∧ (s 38 p = 0 → s 39 p = 0) ∧ (¬ s 38 p = 0 → r 35 p = s 39 p) ∧ (s 38 p = 2 → ∃ co, co < n ∧ s 39 p = Int32.ofNat co)) ∧ (∀ p, 16 ≤ p → p < 32 → s 38 p = 0 ∧ s 39 p = 0)
theorem WR_set {n p : Nat} {kd sy : Int32} {s r : ck_S} (h : WR n s r) (hp : p < 16) (hk : kd = 1 ∨ kd = 2) (hs : kd = 2 → ∃ co, co < n ∧ sy = Int32.ofNat co) : WR n (ck_u (ck_u s 38 p kd) 39 p sy) (ck_u (ck_u r 34 p kd) 35 p sy) := by
  have hk0 : ¬ kd = 0 := by rcases hk with rfl | rfl <;> decide
  constructor
  · intro q hq
    by_cases e : q = p
    · subst e
      rw [ck_u_ne (show ¬ (34 = 35) by decide), ck_u_eq, ck_u_ne (show ¬ (38 = 39) by decide), ck_u_eq, ck_u_eq, ck_u_eq]
      exact ⟨rfl, Or.inr hk, fun z => absurd z hk0, fun _ => rfl, hs⟩
    · rw [ck_u_off (by omega), ck_u_off (by omega), ck_u_off (by omega), ck_u_off (by omega), ck_u_off (by omega), ck_u_off (by omega), ck_u_off (by omega), ck_u_off (by omega)]
      exact h.1 q hq
  · intro q h1 h2
    rw [ck_u_off (by omega), ck_u_off (by omega), ck_u_off (by omega), ck_u_off (by omega)]
    exact h.2 q h1 h2
theorem l144_ev {F j : Nat} {r : ck_S} (hj : F + j < 60) (h0 : ∀ i, i < j → r 31 (F + i) = 0) (h1 : ¬ r 31 (F + j) = 0) (K : Int32 → Int32 → ck_S → Option ck_S) (x1 : Int32) : fR_findWitness_l144 K 4096 x1 (Int32.ofNat F) r = K x1 (Int32.ofNat (F + j)) r := by
  have key : ∀ (d m i : Nat), i + d = j → d < m → fR_findWitness_l144 K m x1 (Int32.ofNat (F + i)) r = K x1 (Int32.ofNat (F + j)) r := by
    intro d
    induction d with
    | zero =>
      intro m i hi hm
      obtain ⟨m, rfl⟩ : ∃ z, m = z + 1 := ⟨m - 1, by omega⟩
      rw [fR_findWitness_l144, ck_gd_ok (by omega) (by omega), ln_at (by omega), show i = j by omega, if_neg h1]
    | succ d ih =>
      intro m i hi hm
      obtain ⟨m, rfl⟩ : ∃ z, m = z + 1 := ⟨m - 1, by omega⟩
      rw [fR_findWitness_l144, ck_gd_ok (by omega) (by omega), ln_at (by omega), if_pos (h0 i (by omega)), show Int32.ofNat (F + i) + 1 = Int32.ofNat (F + (i + 1)) from ln_addL (F + i) 1]
      exact ih m (i + 1) (by omega) (by omega)
  exact key j 4096 0 (by omega) (by omega)
def setS (p : Nat) (kd sy : Int32) (s : ck_S) : ck_S := ck_u (ck_u s 38 p kd) 39 p sy
def setR (p : Nat) (kd sy : Int32) (r : ck_S) : ck_S := ck_u (ck_u r 34 p kd) 35 p sy
theorem note_ev {n k N x F M j p : Nat} {s r : ck_S} (h : GI n k N N s r) (hx : x < N) (hts : tsN n k N s r x) (h30 : s 30 x = Int32.ofNat p) (h33 : s 33 x = Int32.ofNat F) (h34 : s 34 x = Int32.ofNat M) (hFM : F + M ≤ 60) (hj : j < M) (K1 : Int32 → ck_S → Option ck_S) (K2 : ck_S → Option ck_S) (hn : n ≤ 12) (hp : p < 16) :
    ∃ kd sy, (kd = 1 ∨ kd = 2) ∧ (kd = 2 → ∃ co, co < n ∧ sy = Int32.ofNat co) ∧ fG_noteBranch (Int32.ofNat x) (Int32.ofNat (F + j)) s = some (setS p kd sy s) ∧ fR_findWitness_b159 K1 K2 (Int32.ofNat x) (Int32.ofNat (F + j)) r = K1 (Int32.ofNat (F + j)) (setR p kd sy r) := by
  have hN := h.2.2.1
  have h14 := h.2.2.2.2.1
  have hx60 : x < 60 := by omega
  obtain ⟨p2, f, F2, M2, t1, t2, t3, t4, t5, t6, t7, t8, t9, t10, t11, t12, t13, t14, t15, t16, t17, t18⟩ := hts
  have e1 : p2 = p := (ln_eq (by omega) (by omega)).mp (t3.symm.trans h30)
  have e2 : F2 = F := (ln_eq (by omega) (by omega)).mp (t12.symm.trans h33)
  have e3 : M2 = M := (ln_eq (by omega) (by omega)).mp (t14.symm.trans h34)
  subst e1; subst e2; subst e3
  obtain ⟨n1, n2, _⟩ := node_ev hN hx h14
  have n3 := (node_ev hN (x := F2 + j) (by omega) h14).2.2.1
  have hlab : ∀ i, i < M2 → s 28 (F2 + i) = r 29 (F2 + i) := fun i hi => (h.2.2.2.2.2.2.2.1 (F2 + i) (by omega)).2.2.2.2.2 (by omega)
  have hj60 : F2 + j < 60 := by omega
  rcases t18 with ⟨u1, u2, m, rfl, u3, u4, u5, u6, u7, u8⟩ | ⟨⟨o, o1, o2, o3⟩, u2, u3, u4⟩
  · have hlast : fT_lastBranch (Int32.ofNat x) s = some (Int32.ofNat (F2 + m), s) := by
      unfold fT_lastBranch
      simp (disch := omega) only [has_ev hN hx h14, ck_b_some, show ¬ ((1 : Int32) = 0) by decide, ↓reduceIte, ck_gd_ok, ln_at, h33, h34, ln_add, ln_subL]
      rw [show F2 + (m + 1) - 1 = F2 + m by omega]
    have r25 : r 25 x = 0 := t10.trans u1
    have h14' : (ck_u s 38 p2 1) 5 14 = Int32.ofNat N := by rw [ck_u_ne (by omega)]; exact h14
    by_cases e : j = m
    · subst e
      have h30j : r 30 (F2 + j) = 1 := u5.2.1
      have a33 : (ck_u s 38 p2 1) 33 x = Int32.ofNat F2 := by rw [ck_u_ne (by omega)]; exact h33
      have a34 : (ck_u s 38 p2 1) 34 x = Int32.ofNat (j + 1) := by rw [ck_u_ne (by omega)]; exact h34
      have a28 : ∀ i, i < j → (ck_u s 38 p2 1) 28 (F2 + i) = r 29 (F2 + i) := fun i hi => by rw [ck_u_ne (by omega)]; exact hlab i (by omega)
      obtain ⟨v, v1, v2⟩ := least_ev (s := ck_u s 38 p2 1) hN hx h14' a33 a34 t13 t15 hFM (fun i hi => (u4 i hi).2.1) h30j a28 u3 u7 (fun x1 x2 x3 st => fR_findWitness_b192 K1 K2 x1 x2 x3 st) (Int32.ofNat (F2 + j))
      refine ⟨1, v, Or.inl rfl, fun z => absurd z (by decide), ?_, ?_⟩
      · unfold fG_noteBranch fG_noteBranch_b25 fG_noteBranch_b49 fG_noteBranch_b66
        simp (disch := omega) only [n1, n2, ck_b_some, u1, ↓reduceIte, show ¬ ((1 : Int32) = 0) by decide, hlast, h30, ck_gd_ok, ln_at, v1]
        rfl
      · unfold fR_findWitness_b159
        simp (disch := omega) only [ck_gd_ok, ln_at, h30j, ↓reduceIte, show ¬ ((1 : Int32) = 0) by decide]
        rw [v2]
        unfold fR_findWitness_b192 fR_findWitness_b216
        simp (disch := omega) only [ck_gd_ok, ln_at, r25, ↓reduceIte, t4]
        rfl
    · have h30j : r 30 (F2 + j) = 0 := (u4 j (by omega)).2.1
      have n3' := (node_ev (s := ck_u s 38 p2 1) hN (x := F2 + j) (by omega) h14').2.2.1
      refine ⟨1, s 28 (F2 + j), Or.inl rfl, fun z => absurd z (by decide), ?_, ?_⟩
      · unfold fG_noteBranch fG_noteBranch_b25 fG_noteBranch_b49 fG_noteBranch_b66
        simp (disch := omega) only [n1, n2, ck_b_some, u1, ↓reduceIte, show ¬ ((1 : Int32) = 0) by decide, hlast, h30, ck_gd_ok, ln_at, n3', ln_eq, show ¬ F2 + j = F2 + m by omega, ck_u_ne (show ¬ (28 = 38) by decide)]
        rfl
      · unfold fR_findWitness_b159 fR_findWitness_b192 fR_findWitness_b216
        simp (disch := omega) only [ck_gd_ok, ln_at, h30j, ↓reduceIte, r25, t4, hlab j hj]
        rfl
  · obtain ⟨q1, co, q2, q3, q4⟩ := u4.1 j hj
    have h30j : r 30 (F2 + j) = 0 := q1.2.1
    have h14' : (ck_u s 38 p2 2) 5 14 = Int32.ofNat N := by rw [ck_u_ne (by omega)]; exact h14
    have n3' := (node_ev (s := ck_u s 38 p2 2) hN (x := F2 + j) (by omega) h14').2.2.1
    have hne : ¬ s 31 x = 0 := by rw [o3]; exact mt (ln_eq (b := 0) (by omega) (by omega)).mp (by omega)
    have r25 : ¬ r 25 x = 0 := by rw [t10]; exact hne
    refine ⟨2, s 28 (F2 + j), Or.inr rfl, fun _ => ⟨co, q2, (hlab j hj).trans q3⟩, ?_, ?_⟩
    · unfold fG_noteBranch fG_noteBranch_b25 fG_noteBranch_b49 fG_noteBranch_b66
      simp (disch := omega) only [n1, n2, ck_b_some, hne, ↓reduceIte, h30, ck_gd_ok, ln_at, n3', ck_u_ne (show ¬ (28 = 38) by decide)]
      rfl
    · unfold fR_findWitness_b159 fR_findWitness_b192 fR_findWitness_b216
      simp (disch := omega) only [ck_gd_ok, ln_at, h30j, ↓reduceIte, r25, t4, hlab j hj]
      rfl
