/-! longest -/
def ab (s : ck_S) (i : Nat) : Nat := (s 29 i).toNatClampNeg
theorem ab_ev {n k N i : Nat} {s r : ck_S} (h : GI n k N N s r) (hi : i < N) : s 29 i = Int32.ofNat (ab s i) ∧ ab s i ≤ 15 := by
  obtain ⟨_, _, _, ⟨a, b1, b2⟩, _⟩ := h.2.2.2.2.2.2.2.1 i hi
  have : ab s i = a := by unfold ab; rw [b1, ln_at (by omega)]
  rw [this]
  exact ⟨b1, by omega⟩
def mx (s : ck_S) : Nat → Nat
  | 0 => 0
  | i + 1 => max (mx s i) (ab s i)
theorem mx_ge {s : ck_S} : ∀ N i, i < N → ab s i ≤ mx s N
  | 0, _, h => absurd h (by omega)
  | N + 1, i, h => by
    unfold mx
    by_cases e : i = N
    · rw [e]; omega
    · have := mx_ge (s := s) N i (by omega)
      omega
theorem mx_le {s : ck_S} {b : Nat} : ∀ N, (∀ i, i < N → ab s i ≤ b) → mx s N ≤ b
  | 0, _ => Nat.zero_le _
  | N + 1, h => by
    have h1 := mx_le N (fun i hi => h i (by omega))
    have h2 := h N (by omega)
    unfold mx
    omega
theorem mostTests_ev {n k N : Nat} {s r : ck_S} (h : GI n k N N s r) : fT_mostTests s = some (Int32.ofNat (mx s N), s) := by
  have hN := h.2.2.1
  have h14 := h.2.2.2.2.1
  have key : ∀ (d m i : Nat), i + d = N → d < m → fT_mostTests_l4 m (Int32.ofNat (mx s i)) (Int32.ofNat i) s = some (Int32.ofNat (mx s N), s) := by
    intro d
    induction d with
    | zero =>
      intro m i hi hm
      obtain ⟨m, rfl⟩ : ∃ z, m = z + 1 := ⟨m - 1, by omega⟩
      rw [fT_mostTests_l4, h14, if_pos ((ln_le (by omega) (by omega)).mpr (by omega)), show i = N by omega]
    | succ d ih =>
      intro m i hi hm
      obtain ⟨m, rfl⟩ : ∃ z, m = z + 1 := ⟨m - 1, by omega⟩
      obtain ⟨a1, a2⟩ := ab_ev h (i := i) (by omega)
      have a3 : mx s i ≤ 15 := mx_le i (fun j hj => (ab_ev h (i := j) (by omega)).2)
      rw [fT_mostTests_l4, h14, if_neg (mt (ln_le (by omega) (by omega)).mp (by omega)), ck_gd_ok (by omega) (by omega), ln_at (by omega), show Int32.ofNat i + 1 = Int32.ofNat (i + 1) from ln_addL i 1, a1]
      have e : ck_mxv (Int32.ofNat (mx s i)) (Int32.ofNat (ab s i)) = Int32.ofNat (mx s (i + 1)) := by
        unfold ck_mxv
        show _ = Int32.ofNat (max (mx s i) (ab s i))
        by_cases z : mx s i < ab s i
        · rw [if_pos ((ln_lt (by omega) (by omega)).mpr z), Nat.max_eq_right (by omega)]
        · rw [if_neg (mt (ln_lt (by omega) (by omega)).mp z), Nat.max_eq_left (by omega)]
      rw [e]
      exact ih m (i + 1) (by omega) (by omega)
  exact key N 4096 0 (by omega) (by omega)
def HV (N : Nat) (s r : ck_S) (i : Nat) : Prop := ∃ hi, r 31 i = Int32.ofNat hi ∧ (∃ e, i ≤ e ∧ e < N ∧ ab s e = ab s i + hi) ∧ ∀ F M, F + M ≤ 60 → s 33 i = Int32.ofNat F → s 34 i = Int32.ofNat M → ∀ j, j < M → ∃ hj, r 31 (F + j) = Int32.ofNat hj ∧ hj + 1 ≤ hi ∧ hj ≤ 15
theorem l30_ev {x F M : Nat} {r : ck_S} (hx : x < F) (h27 : r 27 x = Int32.ofNat F) (h28 : r 28 x = Int32.ofNat M) (hF : F + M ≤ 60) (hj : ∀ j, j < M → ∃ h, r 31 (F + j) = Int32.ofNat h ∧ h ≤ 15) (K : Int32 → ck_S → Option (Int32 × ck_S)) :
    ∀ (d m i v : Nat), i + d = M → d < m → v ≤ 16 → ∃ w, w ≤ 16 ∧ v ≤ w ∧ (w = v ∨ ∃ j, j < M ∧ ∃ h, r 31 (F + j) = Int32.ofNat h ∧ h ≤ 15 ∧ w = h + 1) ∧ (∀ j, i ≤ j → j < M → ∃ h, r 31 (F + j) = Int32.ofNat h ∧ h + 1 ≤ w ∧ h ≤ 15) ∧ fR_longest_l30 K m (Int32.ofNat x) (Int32.ofNat i) (ck_u r 31 x (Int32.ofNat v)) = K (Int32.ofNat x) (ck_u r 31 x (Int32.ofNat w)) := by
  have hu : ∀ v w, ck_u (ck_u r 31 x v) 31 x w = ck_u r 31 x w := fun v w => by
    funext a
    by_cases e : a = 31
    · subst e
      funext j
      rw [ck_u_at, ck_u_at, ck_u_at]
      split <;> rfl
    · rw [ck_u_ne e, ck_u_ne e, ck_u_ne e]
  intro d
  induction d with
  | zero =>
    intro m i v hi hm hv
    obtain ⟨m, rfl⟩ : ∃ z, m = z + 1 := ⟨m - 1, by omega⟩
    refine ⟨v, hv, Nat.le_refl _, Or.inl rfl, fun j h1 h2 => absurd h2 (by omega), ?_⟩
    rw [fR_longest_l30]
    simp (disch := omega) only [ck_gd_ok, ln_at, ck_u_ne (show ¬ (28 = 31) by decide), h28, ln_le, show M ≤ i by omega, ↓reduceIte]
  | succ d ih =>
    intro m i v hi hm hv
    obtain ⟨m, rfl⟩ : ∃ z, m = z + 1 := ⟨m - 1, by omega⟩
    obtain ⟨h, h1, h2⟩ := hj i (by omega)
    have hx60 : x < 60 := by omega
    rw [fR_longest_l30]
    simp (disch := omega) only [ck_gd_ok, ln_at, ck_u_ne (show ¬ (28 = 31) by decide), ck_u_ne (show ¬ (27 = 31) by decide), h28, h27, ln_le, show ¬ M ≤ i by omega, ↓reduceIte, ln_add, ck_u_eq, ck_u_nei (show ¬ F + i = x by omega), hu, h1, ln_addL]
    by_cases z : h + 1 ≤ v
    · rw [if_pos z]
      obtain ⟨w, w1, w2, w3, w4, w5⟩ := ih m (i + 1) v (by omega) (by omega) hv
      refine ⟨w, w1, w2, w3, fun j a b => ?_, w5⟩
      by_cases e : j = i
      · rw [e]; exact ⟨h, h1, by omega, h2⟩
      · exact w4 j (by omega) b
    · rw [if_neg z]
      obtain ⟨w, w1, w2, w3, w4, w5⟩ := ih m (i + 1) (h + 1) (by omega) (by omega) (by omega)
      refine ⟨w, w1, by omega, Or.inr ?_, fun j a b => ?_, w5⟩
      · rcases w3 with e | e
        · exact ⟨i, by omega, h, h1, h2, e⟩
        · exact e
      · by_cases e : j = i
        · rw [e]; exact ⟨h, h1, by omega, h2⟩
        · exact w4 j (by omega) b
theorem long_loop {n k N : Nat} : ∀ (d m : Nat) (s r : ck_S), d ≤ N → d < m → GI n k N N s r → (∀ i, d ≤ i → i < N → HV N s r i) →
    ∃ v r2, fR_longest_l17 m (idx d) r = some (v, r2) ∧ (∀ a, ¬ a = 31 → r2 a = r a) ∧ r2 31 0 = v ∧ (∀ i, i < N → HV N s r2 i) := by
  intro d
  induction d with
  | zero =>
    intro m s r hd hm h hk
    obtain ⟨m, rfl⟩ : ∃ z, m = z + 1 := ⟨m - 1, by omega⟩
    refine ⟨r 31 0, r, ?_, fun _ _ => rfl, rfl, fun i hi => hk i (by omega) hi⟩
    rw [fR_longest_l17, if_pos idx_neg, ck_gd_okL (by omega) (by omega), ln_atL (by omega)]
  | succ x ih =>
    intro m s r hd hm h hk
    obtain ⟨m, rfl⟩ : ∃ z, m = z + 1 := ⟨m - 1, by omega⟩
    have hN := h.2.2.1
    have hx : x < N := by omega
    have hx60 : x < 60 := by omega
    have hid : idx (x + 1) = Int32.ofNat x := rfl
    have hdec : Int32.ofNat x + (-1) = idx x := idx_dec x
    have key : ∀ w : Nat, w ≤ 16 → (∃ e, x ≤ e ∧ e < N ∧ ab s e = ab s x + w) → (∀ F M, F + M ≤ 60 → s 33 x = Int32.ofNat F → s 34 x = Int32.ofNat M → ∀ j, j < M → ∃ hj, r 31 (F + j) = Int32.ofNat hj ∧ hj + 1 ≤ w ∧ hj ≤ 15) → fR_longest_l17 (m + 1) (idx (x + 1)) r = fR_longest_l17 m (idx x) (ck_u r 31 x (Int32.ofNat w)) → ∃ v r2, fR_longest_l17 (m + 1) (idx (x + 1)) r = some (v, r2) ∧ (∀ a, ¬ a = 31 → r2 a = r a) ∧ r2 31 0 = v ∧ (∀ i, i < N → HV N s r2 i) := by
      intro w hw hE hF heq
      rw [heq]
      have nx : ∀ i F M, i < N → x ≤ i → F + M ≤ 60 → s 33 i = Int32.ofNat F → s 34 i = Int32.ofNat M → ∀ j, j < M → ¬ F + j = x := fun i F M hi hxi hFM h33 h34 j hj => by
        rcases GI_node h hi with ⟨_, _, q⟩ | ⟨_, _, q⟩
        · have := q.2.2.2.2.1
          rw [h34] at this
          have := (ln_eq (b := 0) (by omega) (by omega)).mp this
          omega
        · have := ts_FM q hN hFM h33 h34
          omega
      obtain ⟨v, r2, b1, b2, b3, b4⟩ := ih m s (ck_u r 31 x (Int32.ofNat w)) (by omega) (by omega) (GI_r31 h) (fun i h1 h2 => by
        by_cases e : i = x
        · subst e
          refine ⟨w, ck_u_eq, hE, fun F M hFM h33 h34 j hj => ?_⟩
          rw [ck_u_nei (nx i F M h2 (Nat.le_refl _) hFM h33 h34 j hj)]
          exact hF F M hFM h33 h34 j hj
        · obtain ⟨hi, c1, c2, c3⟩ := hk i (by omega) h2
          refine ⟨hi, by rw [ck_u_nei e]; exact c1, c2, fun F M hFM h33 h34 j hj => ?_⟩
          rw [ck_u_nei (nx i F M h2 (by omega) hFM h33 h34 j hj)]
          exact c3 F M hFM h33 h34 j hj)
      exact ⟨v, r2, b1, fun a ha => by rw [b2 a ha, ck_u_ne ha], b3, b4⟩
    rcases GI_node h hx with ⟨_, _, q⟩ | ⟨_, _, q⟩
    · refine key 0 (by omega) ⟨x, Nat.le_refl _, hx, rfl⟩ (fun F M hFM h33 h34 j hj => ?_) ?_
      · have := q.2.2.2.2.1
        rw [h34] at this
        have := (ln_eq (b := 0) (by omega) (by omega)).mp this
        omega
      · rw [hid, fR_longest_l17, if_neg (ln_lt0 (by omega)), ck_gd_ok (by omega) (by omega), ln_at (by omega), show (4096 : Nat) = 4095 + 1 from rfl, fR_longest_l30]
        simp (disch := omega) only [ck_gd_ok, ln_at, ck_u_ne (show ¬ (28 = 31) by decide), q.2.2.2.2.2.1]
        rw [if_pos (by decide)]
        unfold fR_longest_b88
        rw [hdec]
        rfl
    · obtain ⟨p, f, F, M, t1, t2, t3, t4, t5, t6, t7, t8, t9, t10, t11, t12, t13, t14, t15, t16, t17, t18⟩ := id q
      have hch : ∀ j, j < M → ∃ e hj, r 31 (F + j) = Int32.ofNat hj ∧ F + j ≤ e ∧ e < N ∧ ab s e = ab s (F + j) + hj ∧ hj ≤ 15 := fun j hj => by
        obtain ⟨hi, c1, ⟨e, e1, e2, e3⟩, _⟩ := hk (F + j) (by omega) (by omega)
        have := (ab_ev h e2).2
        exact ⟨e, hi, c1, e1, e2, e3, by omega⟩
      obtain ⟨w, w1, w2, w3, w4, w5⟩ := l30_ev (x := x) (F := F) (M := M) (r := r) t16 t13 t15 (by omega) (fun j hj => by
        obtain ⟨_, hj', a, _, _, _, b⟩ := hch j hj
        exact ⟨hj', a, b⟩) (fun x1 st => fR_longest_b88 (fR_longest_l17 m) x1 st) M 4096 0 0 (by omega) (by omega) (by omega)
      have hM1 : 1 ≤ M := by
        rcases t18 with ⟨_, _, m2, rfl, _⟩ | ⟨_, _, u3, _⟩
        · omega
        · exact u3
      refine key w w1 ?_ (fun F2 M2 hFM h33 h34 j hj => ?_) ?_
      · rcases w3 with e | ⟨j, j1, hh, j2, j3, j4⟩
        · obtain ⟨hh, z1, z2, z3⟩ := w4 0 (by omega) (by omega)
          omega
        · obtain ⟨e, h', z1, z2, z3, z4, z5⟩ := hch j j1
          have eh : h' = hh := (ln_eq (by omega) (by omega)).mp (z1.symm.trans j2)
          have eab : ab s (F + j) = ab s x + 1 := by
            have := ts_brn q hN t12 t14 (by omega) j1
            obtain ⟨y1, y2⟩ := ab_ev h hx
            unfold ab
            rw [this, y1, show Int32.ofNat (ab s x) + 1 = Int32.ofNat (ab s x + 1) from ln_addL _ 1, ln_at (by omega), ln_at (by omega)]
          exact ⟨e, by omega, z3, by omega⟩
      · have e2 : F = F2 := (ln_eq (by omega) (by omega)).mp (t12.symm.trans h33)
        have e3 : M = M2 := (ln_eq (by omega) (by omega)).mp (t14.symm.trans h34)
        subst e2; subst e3
        exact w4 j (by omega) hj
      · rw [hid, fR_longest_l17, if_neg (ln_lt0 (by omega)), ck_gd_ok (by omega) (by omega), ln_at (by omega)]
        refine Eq.trans w5 ?_
        unfold fR_longest_b88
        rw [hdec]
theorem longest_T {n k N : Nat} {s r : ck_S} (h : GI n k N N s r) (h16 : s 5 16 = 1) (h28 : r 0 28 = 1) : ∃ v r2, fC_longest s = some (v, s) ∧ fR_longest r = some (v, r2) ∧ (∀ a, ¬ a = 31 → r2 a = r a) := by
  have hN := h.2.2.1
  have hN1 := h.2.1
  obtain ⟨v, r2, b1, b2, b3, b4⟩ := long_loop N 4096 s r (Nat.le_refl _) (by omega) h (fun i h1 h2 => absurd h2 (by omega))
  obtain ⟨h0, c1, ⟨e, e1, e2, e3⟩, _⟩ := b4 0 (by omega)
  have a0 : ab s 0 = 0 := by
    unfold ab
    rw [h.2.2.2.2.2.2.2.2.2.2.2.2.1]
    rfl
  have hup : ∀ q i, i < q → i < N → ∃ hi, r2 31 i = Int32.ofNat hi ∧ hi ≤ 15 ∧ ab s i + hi ≤ h0 := by
    intro q
    induction q with
    | zero => intro i hi; omega
    | succ q ih =>
      intro i hi hiN
      by_cases e0 : i = 0
      · subst e0
        have := (ab_ev h e2).2
        exact ⟨h0, c1, by omega, by omega⟩
      · obtain ⟨p, F, M, p1, p2, p3, p4, p5, p6, p7⟩ := h.2.2.2.2.2.2.2.2.2.2.1 i (by omega) hiN
        obtain ⟨hp, d1, d2, d3⟩ := ih p (by omega) p1
        obtain ⟨hp', f1, f2, f3⟩ := b4 p p1
        obtain ⟨hj, g1, g2, g3⟩ := f3 F M p7 p3 p4 (i - F) (by omega)
        have hle := (ab_ev h (i := p) p1).2
        have ehp : hp = hp' := by
          obtain ⟨e', y1, y2, y3⟩ := f2
          have := (ab_ev h y2).2
          exact (ln_eq (by omega) (by omega)).mp (d1.symm.trans f1)
        rw [show F + (i - F) = i by omega] at g1
        have eab : ab s i = ab s p + 1 := by
          rcases GI_node h p1 with ⟨_, _, z⟩ | ⟨_, _, z⟩
          · have := z.2.2.2.2.1
            rw [p4] at this
            have := (ln_eq (b := 0) (by omega) (by omega)).mp this
            omega
          · have := ts_brn z hN p3 p4 p7 (j := i - F) (by omega)
            rw [show F + (i - F) = i by omega] at this
            unfold ab
            rw [this, (ab_ev h p1).1, show Int32.ofNat (ab s p) + 1 = Int32.ofNat (ab s p + 1) from ln_addL _ 1, ln_at (by omega), ln_at (by omega)]
        exact ⟨hj, g1, g3, by omega⟩
  have hmx : mx s N = h0 := by
    have h1 := mx_ge (s := s) N e e2
    have h2 := mx_le (s := s) (b := h0) N (fun i hi => by
      obtain ⟨hi', _, _, z⟩ := hup (i + 1) i (by omega) hi
      omega)
    omega
  refine ⟨v, r2, ?_, ?_, b2⟩
  · unfold fC_longest fT_isThere
    rw [h16, ck_gz1, ck_b_some, if_neg (show ¬ ((1 : Int32) = 0) by decide), mostTests_ev h, ck_b_some, hmx, ← c1, b3]
  · unfold fR_longest
    rw [h28, if_neg (show ¬ ((1 : Int32) = 0) by decide), h.2.2.2.2.2.1, idx_sub h.2.1, b1]
