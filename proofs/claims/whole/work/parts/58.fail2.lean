/-! which nodes fail, the loop -/
theorem ts_ne {n k N i : Nat} {s r : ck_S} (h : tsN n k N s r i) : ¬ s 30 i = 0 ∧ ¬ r 24 i = 0 := by
  obtain ⟨p, f, F, M, h1, h2, h3, h4, _⟩ := h
  rw [h3, h4]
  exact ⟨mt (ln_eq (b := 0) (by omega) (by omega)).mp (by omega), mt (ln_eq (b := 0) (by omega) (by omega)).mp (by omega)⟩
theorem GI_node {n k N i : Nat} {s r : ck_S} (h : GI n k N N s r) (hi : i < N) : (s 30 i = 0 ∧ r 24 i = 0 ∧ lfN k s r i) ∨ (¬ s 30 i = 0 ∧ ¬ r 24 i = 0 ∧ tsN n k N s r i) := by
  rcases h.2.2.2.2.2.2.2.2.1 i hi with h | h
  · exact Or.inl ⟨h.1, h.2.1, h⟩
  · exact Or.inr ⟨(ts_ne h).1, (ts_ne h).2, h⟩
theorem ts_FM {n k N i F M : Nat} {s r : ck_S} (h : tsN n k N s r i) (hN : N ≤ 60) (hF : F + M ≤ 60) (h33 : s 33 i = Int32.ofNat F) (h34 : s 34 i = Int32.ofNat M) : i < F ∧ F + M ≤ N := by
  obtain ⟨p, f, F2, M2, h1, h2, h3, h4, h5, h6, h7, h8, h9, h10, h11, h12, h13, h14, h15, h16, h17, h18⟩ := h
  have e1 := (ln_eq (by omega) (by omega)).mp (h33.symm.trans h12)
  have e2 := (ln_eq (by omega) (by omega)).mp (h34.symm.trans h14)
  omega
theorem GI_36 {n k N x : Nat} {v w : Int32} {s r : ck_S} (h : GI n k N N s r) : GI n k N N (ck_u s 36 x v) (ck_u r 31 x w) := GI_cells h (fun a _ _ => ck_u_ne (by omega)) (fun a _ _ => ck_u_ne (by omega)) (fun a _ _ => ck_u_ne (by omega)) (ck_u_ne (by omega)) (ck_u_ne (by omega)) (ck_u_ne (by omega)) (by rw [ck_u_ne (by omega)]) (by rw [ck_u_ne (by omega)]) (by rw [ck_u_ne (by omega)]) (by rw [ck_u_ne (by omega)]) (by rw [ck_u_ne (by omega)])
theorem FV_up {n k N x i : Nat} {v w : Int32} {s r : ck_S} (h : GI n k N N s r) (hx : x < i) (hi : i < N) (hf : FV s r i) : FV (ck_u s 36 x v) (ck_u r 31 x w) i := by
  obtain ⟨f1, f2, f3, f4⟩ := hf
  unfold FV
  rw [ck_u_nei (show ¬ i = x by omega), ck_u_nei (show ¬ i = x by omega), ck_u_ne (show ¬ (30 = 36) by decide), ck_u_ne (show ¬ (33 = 36) by decide), ck_u_ne (show ¬ (34 = 36) by decide), ck_u_ne (show ¬ (26 = 31) by decide)]
  refine ⟨f1, f2, f3, fun F M hF h30 h33 h34 => ?_⟩
  rcases GI_node h hi with ⟨a, _⟩ | ⟨a, b, c⟩
  · exact absurd a h30
  · have hh := ts_FM c h.2.2.1 hF h33 h34
    rw [f4 F M hF h30 h33 h34]
    constructor
    · rintro ⟨j, j1, j2⟩
      exact ⟨j, j1, by rw [ck_u_nei (by omega)]; exact j2⟩
    · rintro ⟨j, j1, j2⟩
      rw [ck_u_nei (by omega)] at j2
      exact ⟨j, j1, j2⟩
theorem fail_loop {n k N : Nat} (K : ck_S → Option ck_S) : ∀ (d m1 m2 : Nat) (s r : ck_S), d ≤ N → d < m1 → d < m2 → GI n k N N s r → (∀ i, d ≤ i → i < N → FV s r i) →
    ∃ s2 r2, fT_markFailing_l7 m1 (idx d) s = some s2 ∧ fR_findWitness_l12 K m2 (idx d) r = K r2 ∧ (∀ a, ¬ a = 36 → s2 a = s a) ∧ (∀ a, ¬ a = 31 → r2 a = r a) ∧ GI n k N N s2 r2 ∧ (∀ i, i < N → FV s2 r2 i) := by
  intro d
  induction d with
  | zero =>
    intro m1 m2 s r hd hm1 hm2 h hf
    obtain ⟨m1, rfl⟩ : ∃ z, m1 = z + 1 := ⟨m1 - 1, by omega⟩
    obtain ⟨m2, rfl⟩ : ∃ z, m2 = z + 1 := ⟨m2 - 1, by omega⟩
    refine ⟨s, r, ?_, ?_, fun _ _ => rfl, fun _ _ => rfl, h, fun i hi => hf i (by omega) hi⟩
    · rw [fT_markFailing_l7, if_pos idx_neg]
    · rw [fR_findWitness_l12, if_pos idx_neg]
  | succ x ih =>
    intro m1 m2 s r hd hm1 hm2 h hf
    obtain ⟨m1, rfl⟩ : ∃ z, m1 = z + 1 := ⟨m1 - 1, by omega⟩
    obtain ⟨m2, rfl⟩ : ∃ z, m2 = z + 1 := ⟨m2 - 1, by omega⟩
    have hN := h.2.2.1
    have hx60 : x < 60 := by omega
    have h14 := h.2.2.2.2.1
    have key : ∀ v : Int32, (v = 0 ∨ v = 1) → (s 30 x = 0 → (v = 1 ↔ r 26 x = -1)) → (∀ F M, F + M ≤ 60 → ¬ s 30 x = 0 → s 33 x = Int32.ofNat F → s 34 x = Int32.ofNat M → (v = 1 ↔ ∃ j, j < M ∧ s 36 (F + j) = 1)) →
        fT_markFailing_l7 (m1 + 1) (idx (x + 1)) s = fT_markFailing_l7 m1 (idx x) (ck_u s 36 x v) → fR_findWitness_l12 K (m2 + 1) (idx (x + 1)) r = fR_findWitness_l12 K m2 (idx x) (ck_u r 31 x v) →
        ∃ s2 r2, fT_markFailing_l7 (m1 + 1) (idx (x + 1)) s = some s2 ∧ fR_findWitness_l12 K (m2 + 1) (idx (x + 1)) r = K r2 ∧ (∀ a, ¬ a = 36 → s2 a = s a) ∧ (∀ a, ¬ a = 31 → r2 a = r a) ∧ GI n k N N s2 r2 ∧ (∀ i, i < N → FV s2 r2 i) := by
      intro v hv hl ht e1 e2
      rw [e1, e2]
      obtain ⟨s2, r2, b1, b2, b3, b4, b5, b6⟩ := ih m1 m2 (ck_u s 36 x v) (ck_u r 31 x v) (by omega) (by omega) (by omega) (GI_36 h) (fun i hi hi2 => by
        by_cases e : i = x
        · subst e
          refine ⟨by rw [ck_u_eq, ck_u_eq], by rw [ck_u_eq]; exact hv, ?_, ?_⟩
          · rw [ck_u_eq, ck_u_ne (show ¬ (30 = 36) by decide), ck_u_ne (show ¬ (26 = 31) by decide)]
            exact hl
          · intro F M hF h30 h33 h34
            rw [ck_u_ne (show ¬ (30 = 36) by decide)] at h30
            rw [ck_u_ne (show ¬ (33 = 36) by decide)] at h33
            rw [ck_u_ne (show ¬ (34 = 36) by decide)] at h34
            rw [ck_u_eq, ht F M hF h30 h33 h34]
            rcases GI_node h hi2 with ⟨a, _⟩ | ⟨a, b, c⟩
            · exact absurd a h30
            · have hh := ts_FM c hN hF h33 h34
              constructor
              · rintro ⟨j, j1, j2⟩
                exact ⟨j, j1, by rw [ck_u_nei (by omega)]; exact j2⟩
              · rintro ⟨j, j1, j2⟩
                rw [ck_u_nei (by omega)] at j2
                exact ⟨j, j1, j2⟩
        · exact FV_up h (by omega) hi2 (hf i (by omega) hi2))
      exact ⟨s2, r2, b1, b2, fun a ha => by rw [b3 a ha, ck_u_ne ha], fun a ha => by rw [b4 a ha, ck_u_ne ha], b5, b6⟩
    have hid : idx (x + 1) = Int32.ofNat x := rfl
    have hdec : Int32.ofNat x + (-1) = idx x := idx_dec x
    rcases GI_node h (i := x) (by omega) with ⟨q1, q2, q3⟩ | ⟨q1, q2, q3⟩
    · obtain ⟨l1, l2, l3, l4, l5, l6, l7⟩ := q3
      have hcl : ∀ v, fR_findWitness_l47 (fun x1 st => fR_findWitness_b89 (fR_findWitness_l12 K m2) K x1 st) 4096 (Int32.ofNat x) 0 (ck_u r 31 x v) = fR_findWitness_l12 K m2 (idx x) (ck_u r 31 x v) := fun v => by
        rw [show (4096 : Nat) = 4095 + 1 from rfl, fR_findWitness_l47]
        simp (disch := omega) only [ck_gd_ok, ln_at, ck_u_ne (show ¬ (28 = 31) by decide), l6]
        rw [if_pos (by decide)]
        unfold fR_findWitness_b89
        rw [hdec]
      by_cases e : r 26 x = -1
      · refine key 1 (Or.inr rfl) (fun _ => ⟨fun _ => e, fun _ => rfl⟩) (fun F M _ z => absurd q1 z) ?_ ?_
        · rw [hid, fT_markFailing_l7, if_neg (ln_lt0 (by omega))]
          unfold fT_markFailing_b25
          simp (disch := omega) only [ck_gd_ok, ln_at, q1, ↓reduceIte, show ¬ ((1 : Int32) = 0) by decide, l4, e, vp_z1, hdec]
        · rw [hid, fR_findWitness_l12, if_neg (ln_lt0 (by omega))]
          simp (disch := omega) only [ck_gd_ok, ln_at, q2, ↓reduceIte, e, show ¬ ((0 : Int32) ≤ -1) by decide, hcl]
      · have e0 : (0 : Int32) ≤ r 26 x := by
          rcases l7 with ⟨_, z⟩ | ⟨f, f1, f2, f3, _⟩
          · exact absurd z e
          · rw [f3]; exact ln_ge0 (by have := h.1.1; omega)
        refine key 0 (Or.inl rfl) (fun _ => ⟨fun z => absurd z (by decide), fun z => absurd z e⟩) (fun F M _ z => absurd q1 z) ?_ ?_
        · rw [hid, fT_markFailing_l7, if_neg (ln_lt0 (by omega))]
          unfold fT_markFailing_b25
          simp (disch := omega) only [ck_gd_ok, ln_at, q1, ↓reduceIte, show ¬ ((1 : Int32) = 0) by decide, l4, e, vp_z0, hdec]
        · rw [hid, fR_findWitness_l12, if_neg (ln_lt0 (by omega))]
          simp (disch := omega) only [ck_gd_ok, ln_at, q2, ↓reduceIte, e0, hcl]
    · obtain ⟨p, f, F, M, h1, h2, h3, h4, h5, h6, h7, h8, h9, h10, h11, h12, h13, h14', h15, h16, h17, h18⟩ := q3
      have hfx : ∀ j, j < M → FV s r (F + j) := fun j hj => hf (F + j) (by omega) (by omega)
      have hbr := failBr_ev (N := N) (x := x) hN (by omega) h14 h12 h14' (by omega)
      obtain ⟨w, w1, w2, w3⟩ := orl_ev (x := x) (F := F) (M := M) (r := r) h16 h13 h15 (by omega) (fun j hj => by rw [(hfx j hj).1]; exact (hfx j hj).2.1) (fun x1 st => fR_findWitness_b89 (fR_findWitness_l12 K m2) K x1 st) M 4096 0 0 (by omega) (by omega) (Or.inl rfl)
      have w2' : w = 1 ↔ ∃ j, j < M ∧ s 36 (F + j) = 1 := by
        rw [w2]
        constructor
        · rintro (z | ⟨j, _, a, b⟩)
          · exact absurd z (by decide)
          · rw [(hfx j a).1] at b
            exact ⟨j, a, b⟩
        · rintro ⟨j, a, b⟩
          exact Or.inr ⟨j, by omega, a, by rw [(hfx j a).1]; exact b⟩
      refine key w w1 (fun z => absurd z q1) (fun F2 M2 hF2 _ h33 h34 => ?_) ?_ ?_
      · rw [w2', (ln_eq (by omega) (by omega)).mp (h33.symm.trans h12), (ln_eq (by omega) (by omega)).mp (h34.symm.trans h14')]
      · rw [hid, fT_markFailing_l7, if_neg (ln_lt0 (by omega))]
        unfold fT_markFailing_b25
        simp (disch := omega) only [ck_gd_ok, ln_at, q1, ↓reduceIte]
        rcases hbr with ⟨j, j1, j2, j3, j4⟩ | ⟨j1, j2⟩
        · have ew : w = 1 := w2'.mpr ⟨j, j1, (hfx j j1).2.1.resolve_left j2⟩
          simp (disch := omega) only [j4, ck_b_some, ln_eq, show ¬ F + j = x by omega, ↓reduceIte, vp_z1, hdec, ew]
        · have ew : w = 0 := w1.resolve_right (fun z => by
            obtain ⟨j, a, b⟩ := w2'.mp z
            rw [j1 j a] at b
            exact absurd b (by decide))
          simp (disch := omega) only [j2, ck_b_some, ↓reduceIte, vp_z0, hdec, ew]
      · rw [hid, fR_findWitness_l12, if_neg (ln_lt0 (by omega))]
        simp (disch := omega) only [ck_gd_ok, ln_at, q2, ↓reduceIte]
        rw [show (0 : Int32) = Int32.ofNat 0 from rfl] at w3
        refine w3.trans ?_
        unfold fR_findWitness_b89
        rw [hdec]
