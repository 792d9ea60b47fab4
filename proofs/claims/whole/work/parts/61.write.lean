/-! the way, and the witness written -/
theorem setS_ne {p a : Nat} {kd sy : Int32} {s : ck_S} (h : ¬ a = 38) (h2 : ¬ a = 39) : setS p kd sy s a = s a := by
  unfold setS
  rw [ck_u_ne h2, ck_u_ne h]
theorem setR_ne {p a : Nat} {kd sy : Int32} {s : ck_S} (h : ¬ a = 34) (h2 : ¬ a = 35) : setR p kd sy s a = s a := by
  unfold setR
  rw [ck_u_ne h2, ck_u_ne h]
theorem ts_brn {n k N i F M j : Nat} {s r : ck_S} (h : tsN n k N s r i) (hN : N ≤ 60) (h33 : s 33 i = Int32.ofNat F) (h34 : s 34 i = Int32.ofNat M) (hFM : F + M ≤ 60) (hj : j < M) : s 29 (F + j) = s 29 i + 1 := by
  obtain ⟨p, f, F2, M2, t1, t2, t3, t4, t5, t6, t7, t8, t9, t10, t11, t12, t13, t14, t15, t16, t17, t18⟩ := h
  have e2 : F2 = F := (ln_eq (by omega) (by omega)).mp (t12.symm.trans h33)
  have e3 : M2 = M := (ln_eq (by omega) (by omega)).mp (t14.symm.trans h34)
  subst e2; subst e3
  rcases t18 with ⟨u1, u2, m, rfl, u3, u4, u5, _⟩ | ⟨_, _, _, u4⟩
  · by_cases e : j = m
    · subst e; exact u5.1
    · exact (u4 j (by omega)).1
  · exact (u4.1 j hj).1.1
theorem follow_ev {n k N : Nat} (hn : n ≤ 12) (K : ck_S → Option ck_S) : ∀ (d m1 m2 i x : Nat) (s r : ck_S), i + d = 16 → d < m1 → d < m2 → x < N → GI n k N N s r → (∀ j, j < N → FV s r j) → WR n s r → s 36 x = 1 → s 29 x = Int32.ofNat i →
    ∃ s2 r2, fG_followWayToFail_l4 m1 (Int32.ofNat x) (Int32.ofNat i) s = some s2 ∧ fR_findWitness_l128 K m2 (Int32.ofNat x) r = K r2 ∧ WR n s2 r2 ∧ (∀ a, ¬ a = 38 → ¬ a = 39 → s2 a = s a) ∧ (∀ a, ¬ a = 34 → ¬ a = 35 → r2 a = r a) := by
  intro d
  induction d with
  | zero =>
    intro m1 m2 i x s r hi hm1 hm2 hx h hf hw h36 h29
    obtain ⟨_, _, _, ⟨a, b1, b2⟩, _⟩ := h.2.2.2.2.2.2.2.1 x hx
    have := (ln_eq (by omega) (by omega)).mp (b1.symm.trans h29)
    omega
  | succ d ih =>
    intro m1 m2 i x s r hi hm1 hm2 hx h hf hw h36 h29
    obtain ⟨m1, rfl⟩ : ∃ z, m1 = z + 1 := ⟨m1 - 1, by omega⟩
    obtain ⟨m2, rfl⟩ : ∃ z, m2 = z + 1 := ⟨m2 - 1, by omega⟩
    have hN := h.2.2.1
    have h14 := h.2.2.2.2.1
    have hx60 : x < 60 := by omega
    obtain ⟨n1, _⟩ := node_ev hN hx h14
    rw [fG_followWayToFail_l4, if_neg (fun z => by have := (ln_le (a := 16) (by omega) (by omega)).mp z; omega), n1, ck_b_some, fR_findWitness_l128, ck_gd_ok hx60 (by omega), ln_at (by omega)]
    rcases GI_node h hx with ⟨q1, q2, q3⟩ | ⟨q1, q2, q3⟩
    · rw [if_pos q1, q2, if_pos (by decide)]
      exact ⟨s, r, rfl, rfl, hw, fun _ _ _ => rfl, fun _ _ _ => rfl⟩
    · obtain ⟨p, f, F, M, t1, t2, t3, t4, t5, t6, t7, t8, t9, t10, t11, t12, t13, t14, t15, t16, t17, t18⟩ := id q3
      have hp60 : F + M ≤ 60 := by omega
      rw [if_neg q1, t4, if_neg (fun z => by have := (ln_le (b := 0) (by omega) (by omega)).mp z; omega)]
      obtain ⟨f1, f2, f3, f4⟩ := hf x hx
      obtain ⟨j0, j1, j2⟩ := (f4 F M hp60 q1 t12 t14).mp h36
      rcases failBr_ev hN hx h14 t12 t14 hp60 with ⟨j, y1, y2, y3, y4⟩ | ⟨y1, _⟩
      · obtain ⟨kd, sy, z1, z2, z3, z4⟩ := note_ev h hx q3 t3 t12 t14 hp60 y1 (fR_findWitness_l128 K m2) K hn t2
        rw [y4, ck_b_some, z3, ck_bv_some, t13, ck_gd_ok hx60 (by omega), l144_ev (j := j) (by omega) (fun i hi => by rw [(hf (F + i) (by omega)).1]; exact y3 i hi) (by rw [(hf (F + j) (by omega)).1]; exact y2), z4, show Int32.ofNat i + 1 = Int32.ofNat (i + 1) from ln_addL i 1]
        obtain ⟨s2, r2, b1, b2, b3, b4, b5⟩ := ih m1 m2 (i + 1) (F + j) (setS p kd sy s) (setR p kd sy r) (by omega) (by omega) (by omega) (by omega)
          (GI_cells h (fun a _ _ => setS_ne (by omega) (by omega)) (fun a _ _ => setS_ne (by omega) (by omega)) (fun a _ _ => setR_ne (by omega) (by omega)) (setR_ne (by omega) (by omega)) (setR_ne (by omega) (by omega)) (setS_ne (by omega) (by omega)) (by rw [setS_ne (by omega) (by omega)]) (by rw [setS_ne (by omega) (by omega)]) (by rw [setR_ne (by omega) (by omega)]) (by rw [setR_ne (by omega) (by omega)]) (by rw [setR_ne (by omega) (by omega)]))
          (fun q hq => by
            unfold FV
            rw [setS_ne (a := 36) (by omega) (by omega), setS_ne (a := 30) (by omega) (by omega), setS_ne (a := 33) (by omega) (by omega), setS_ne (a := 34) (by omega) (by omega), setR_ne (a := 31) (by omega) (by omega), setR_ne (a := 26) (by omega) (by omega)]
            exact hf q hq)
          (WR_set hw t2 z1 z2)
          (by rw [setS_ne (a := 36) (by omega) (by omega)]; exact (hf (F + j) (by omega)).2.1.resolve_left y2)
          (by rw [setS_ne (a := 29) (by omega) (by omega), ts_brn q3 hN t12 t14 hp60 y1, h29]; exact ln_addL i 1)
        exact ⟨s2, r2, b1, b2, b3, fun a h1 h2 => by rw [b4 a h1 h2, setS_ne h1 h2], fun a h1 h2 => by rw [b5 a h1 h2, setR_ne h1 h2]⟩
      · exact absurd (y1 j0 j1) (by rw [j2]; decide)
def OUT (s r : ck_S) (l : Nat) : Prop := s 6 6 = Int32.ofNat l ∧ r 0 41 = Int32.ofNat l ∧ ∀ j, j < l → s 40 j = r 32 j ∧ s 41 j = r 33 j
def outS (l : Nat) (kd sy : Int32) (s : ck_S) : ck_S := ck_u (ck_u (ck_u s 40 l kd) 41 l sy) 6 6 (Int32.ofNat (l + 1))
def outR (l : Nat) (kd sy : Int32) (r : ck_S) : ck_S := ck_u (ck_u (ck_u r 32 l kd) 33 l sy) 0 41 (Int32.ofNat (l + 1))
theorem OUT_out {s r : ck_S} {l : Nat} (kd sy : Int32) (h : OUT s r l) : OUT (outS l kd sy s) (outR l kd sy r) (l + 1) := by
  refine ⟨ck_u_eq, ck_u_eq, fun j hj => ?_⟩
  unfold outS outR
  by_cases e : j = l
  · subst e
    rw [ck_u_ne (show ¬ (40 = 6) by decide), ck_u_ne (show ¬ (40 = 41) by decide), ck_u_eq, ck_u_ne (show ¬ (32 = 0) by decide), ck_u_ne (show ¬ (32 = 33) by decide), ck_u_eq, ck_u_ne (show ¬ (41 = 6) by decide), ck_u_eq, ck_u_ne (show ¬ (33 = 0) by decide), ck_u_eq]
    exact ⟨rfl, rfl⟩
  · rw [ck_u_off (by omega), ck_u_off (by omega), ck_u_off (by omega), ck_u_off (by omega), ck_u_off (by omega), ck_u_off (by omega), ck_u_off (by omega), ck_u_off (by omega), ck_u_off (by omega), ck_u_off (by omega), ck_u_off (by omega), ck_u_off (by omega)]
    exact h.2.2 j (by omega)
theorem OUT_21 {s r : ck_S} {l i : Nat} {v : Int32} (h : OUT s r l) : OUT s (ck_u r 21 i v) l := by
  refine ⟨h.1, by rw [ck_u_ne (by omega)]; exact h.2.1, fun j hj => ?_⟩
  rw [ck_u_ne (show ¬ (32 = 21) by decide), ck_u_ne (show ¬ (33 = 21) by decide)]
  exact h.2.2 j hj
def WFs (s s2 : ck_S) : Prop := (∀ a, ¬ a = 40 → ¬ a = 41 → ¬ a = 6 → s2 a = s a) ∧ (∀ j, ¬ j = 6 → s2 6 j = s 6 j)
def WFr (h : Nat) (r r2 : ck_S) : Prop := (∀ a, 1 ≤ a → ¬ a = 21 → ¬ a = 32 → ¬ a = 33 → r2 a = r a) ∧ (∀ j, ¬ j = 41 → r2 0 j = r 0 j) ∧ (∀ j, j < h → r2 21 j = r 21 j)
theorem WFs_trans {s s2 s3 : ck_S} (a : WFs s s2) (b : WFs s2 s3) : WFs s s3 := ⟨fun q h1 h2 h3 => (b.1 q h1 h2 h3).trans (a.1 q h1 h2 h3), fun j h => (b.2 j h).trans (a.2 j h)⟩
theorem WFr_trans {h : Nat} {s s2 s3 : ck_S} (a : WFr h s s2) (b : WFr h s2 s3) : WFr h s s3 := ⟨fun q h1 h2 h3 h4 => (b.1 q h1 h2 h3 h4).trans (a.1 q h1 h2 h3 h4), fun j h => (b.2.1 j h).trans (a.2.1 j h), fun j h => (b.2.2 j h).trans (a.2.2 j h)⟩
theorem WFr_le {h h2 : Nat} {s s2 : ck_S} (a : WFr h s s2) (hh : h2 ≤ h) : WFr h2 s s2 := ⟨a.1, a.2.1, fun j hj => a.2.2 j (by omega)⟩
theorem WFs_out {l : Nat} {kd sy : Int32} {s : ck_S} : WFs s (outS l kd sy s) := ⟨fun a h1 h2 h3 => by unfold outS; rw [ck_u_ne h3, ck_u_ne h2, ck_u_ne h1], fun j h => by unfold outS; rw [ck_u_nei h, ck_u_ne (by omega), ck_u_ne (by omega)]⟩
theorem WFr_out {l h : Nat} {kd sy : Int32} {r : ck_S} : WFr h r (outR l kd sy r) := ⟨fun a h1 h2 h3 h4 => by unfold outR; rw [ck_u_ne (by omega), ck_u_ne h4, ck_u_ne h3], fun j h => by unfold outR; rw [ck_u_nei h, ck_u_ne (by omega), ck_u_ne (by omega)], fun j _ => by unfold outR; rw [ck_u_ne (by omega), ck_u_ne (by omega), ck_u_ne (by omega)]⟩
theorem WFr_21 {h i : Nat} {v : Int32} {r : ck_S} (hi : h ≤ i) : WFr h r (ck_u r 21 i v) := ⟨fun a h1 h2 h3 h4 => ck_u_ne h2, fun j _ => by rw [ck_u_ne (by omega)], fun j hj => ck_u_nei (by omega)⟩
theorem WR_frame {n h : Nat} {s r s2 r2 : ck_S} (hw : WR n s r) (a : WFs s s2) (b : WFr h r r2) : WR n s2 r2 := by
  unfold WR
  rw [a.1 38 (by omega) (by omega) (by omega), a.1 39 (by omega) (by omega) (by omega), b.1 34 (by omega) (by omega) (by omega) (by omega), b.1 35 (by omega) (by omega) (by omega) (by omega)]
  exact hw
theorem WF_rD {t n h : Nat} {s r s2 r2 : ck_S} (hD : rD t n s r) (a : WFs s s2) (b : WFr h r r2) : rD t n s2 r2 := rD_frame hD (by rw [a.1 1 (by omega) (by omega) (by omega)]) (by rw [a.1 1 (by omega) (by omega) (by omega)]) (a.1 7 (by omega) (by omega) (by omega)) (a.1 8 (by omega) (by omega) (by omega)) (a.1 9 (by omega) (by omega) (by omega)) (b.2.1 0 (by omega)) (b.2.1 1 (by omega)) (b.1 1 (by omega) (by omega) (by omega) (by omega)) (b.1 2 (by omega) (by omega) (by omega) (by omega)) (b.1 3 (by omega) (by omega) (by omega) (by omega))
