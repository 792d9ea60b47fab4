/-! the start, and which nodes fail -/
theorem GI_frame {n k N : Nat} {s r s2 r2 : ck_S} (h : GI n k N N s r) (f : TF N s r s2 r2) (g : XF N s r s2 r2) (e4 : s2 4 = s 4) (e14 : s2 5 14 = s 5 14) (e15 : s2 5 15 = s 5 15) (e20 : r2 0 20 = r 0 20) (e29 : r2 0 29 = r 0 29) (e30 : r2 0 30 = r 0 30) : GI n k N N s2 r2 := by
  obtain ⟨a1, a2, a3, a4, a5, a6, a7, a8, a9, a10, a11, a12, a13, a14, a15⟩ := h
  refine ⟨gC_frame a1 e4 e20 f, a2, a3, a4, by rw [e14]; exact a5, by rw [e29]; exact a6, by rw [e30]; exact a7, fun i hi => nd_frame (a8 i hi) f hi, fun i hi => ?_, fun i h1 h2 => absurd h2 (by omega), fun j h1 h2 => ?_, fun c hc hb => ?_, ?_, ?_, fun c hc => ?_⟩
  · rcases a9 i hi with h | h
    · exact Or.inl (lfN_frame a1.1 h f g hi hi)
    · exact Or.inr (tsN_frame h f g hi hi (Nat.le_refl _))
  · obtain ⟨i, F, M, b1, b2, b3, b4, b5⟩ := a11 j h1 h2
    exact ⟨i, F, M, b1, b2, by rw [g.1 33 i (by omega) (by omega) b1]; exact b3, by rw [g.1 34 i (by omega) (by omega) b1]; exact b4, b5⟩
  · rw [e15] at hb
    obtain ⟨i, b1, b2, b3⟩ := a12 c hc hb
    exact ⟨i, b1, by rw [g.2.1 24 i (by omega) (by omega) b1]; exact b2, by rw [g.2.1 26 i (by omega) (by omega) b1]; exact b3⟩
  · rw [f.2.2.1 29 0 (by omega) (by omega) (by omega)]; exact a13
  · rw [(f.2.2.2.2.2 0 (by omega)).2.1]; exact a14
  · rw [(f.2.2.2.2.2 0 (by omega)).1]; exact a15 c hc
/-- the same, when whole cells are the same -/
theorem GI_cells {n k N : Nat} {s r s2 r2 : ck_S} (h : GI n k N N s r) (d : ∀ a, 7 ≤ a → a ≤ 9 → s2 a = s a) (es : ∀ a, 23 ≤ a → a ≤ 34 → s2 a = s a) (er : ∀ a, 22 ≤ a → a ≤ 30 → r2 a = r a) (e17 : r2 17 = r 17) (e18 : r2 18 = r 18) (e4 : s2 4 = s 4) (e14 : s2 5 14 = s 5 14) (e15 : s2 5 15 = s 5 15) (e20 : r2 0 20 = r 0 20) (e29 : r2 0 29 = r 0 29) (e30 : r2 0 30 = r 0 30) : GI n k N N s2 r2 :=
  GI_frame h ⟨d, fun a x y => es a x (by omega), fun a j x y _ => by rw [es a (by omega) (by omega)], e17, e18, fun j _ => ⟨by rw [er 22 (by omega) (by omega)], by rw [er 23 (by omega) (by omega)], by rw [er 29 (by omega) (by omega)], by rw [er 30 (by omega) (by omega)]⟩⟩ ⟨fun a i x y _ => by rw [es a (by omega) y], fun a i x y _ => by rw [er a (by omega) (by omega)], fun c _ hb => by rw [e15]; exact hb⟩ e4 e14 e15 e20 e29 e30
def s0S (k : Nat) (s : ck_S) : ck_S := addS 0 0 (((1 : Int32) <<< (Int32.ofNat k &&& 31)) - 1) 2 0 (ck_u (ck_u (ck_u s 5 16 0) 5 14 0) 5 15 0)
def r0S (k : Nat) (r : ck_S) : ck_S := ck_u (ck_u (ck_u (ck_u r 0 29 1) 0 30 0) 22 0 (((1 : Int32) <<< (Int32.ofNat k &&& 31)) - 1)) 23 0 2
theorem bt_2 : ∀ b : Fin 32, bt 2 b.val = decide (b.val = 1) := by decide +kernel
theorem mu_2 : mu 2 = 15 := by decide +kernel
theorem GI_0 {n k : Nat} {s r : ck_S} (hg : gC n k s r) : GI n k 0 1 (s0S k s) (r0S k r) := by
  have hk := hg.1
  have hTF : TF 0 s r (s0S k s) (r0S k r) := ⟨fun a x y => by
      unfold s0S
      rw [addS_cell (by omega) (by omega), ck_u_ne (by omega), ck_u_ne (by omega), ck_u_ne (by omega)], fun a x y => by
      unfold s0S
      rw [addS_cell (by omega) (by omega), ck_u_ne (by omega), ck_u_ne (by omega), ck_u_ne (by omega)], fun a j _ _ z => absurd z (by omega), by
      unfold r0S
      rw [ck_u_ne (by omega), ck_u_ne (by omega), ck_u_ne (by omega), ck_u_ne (by omega)], by
      unfold r0S
      rw [ck_u_ne (by omega), ck_u_ne (by omega), ck_u_ne (by omega), ck_u_ne (by omega)], fun j z => absurd z (by omega)⟩
  have e4 : s0S k s 4 = s 4 := by
    unfold s0S
    rw [addS_cell (by omega) (by omega), ck_u_ne (by omega), ck_u_ne (by omega), ck_u_ne (by omega)]
  have hg2 : gC n k (s0S k s) (r0S k r) := gC_frame hg e4 (by
    unfold r0S
    rw [ck_u_off (by omega), ck_u_off (by omega), ck_u_off (by omega), ck_u_off (by omega)]) hTF
  have r22 : r0S k r 22 0 = ((1 : Int32) <<< (Int32.ofNat k &&& 31)) - 1 := by
    unfold r0S
    rw [ck_u_off (by omega), ck_u_eq]
  have r23 : r0S k r 23 0 = 2 := ck_u_eq
  obtain ⟨n26, n27, n28, n29, n30, n31, n32, n34⟩ := addS_new (N := 0) (lab := 0) (L := ((1 : Int32) <<< (Int32.ofNat k &&& 31)) - 1) (O := 2) (ab := 0) (s := ck_u (ck_u (ck_u s 5 16 0) 5 14 0) 5 15 0)
  refine ⟨hg2, by omega, by omega, by omega, addS_14, ?_, ?_, fun i hi => ?_, fun i hi => absurd hi (by omega), fun i h1 h2 => ?_, fun j h1 h2 => absurd h2 (by omega), fun c hc hb => ?_, n29, r23, fun c hc => ?_⟩
  · unfold r0S
    rw [ck_u_off (by omega), ck_u_off (by omega), ck_u_off (by omega), ck_u_eq]; rfl
  · unfold r0S
    rw [ck_u_off (by omega), ck_u_off (by omega), ck_u_eq]
  · have e : i = 0 := by omega
    subst e
    unfold nd
    rw [r22, r23, show s0S k s 26 0 = _ from n26, show s0S k s 27 0 = _ from n27, show s0S k s 29 0 = _ from n29]
    refine ⟨rfl, fun b h1 h2 => ?_, fun b _ => rfl, ⟨0, rfl, by rw [mu_2]; omega⟩, fun p hp1 hp2 hb => ⟨s 4 6, fun c hc hc2 ha => ?_⟩, fun z => absurd z (by omega)⟩
    · rw [bt_low ⟨k, by omega⟩ ⟨b, h2⟩]
      simp
      omega
    · have := bt_2 ⟨p, by omega⟩
      simp only at this
      rw [hb] at this
      have e1 : p = 1 := of_decide_eq_true this.symm
      subst e1
      have hT := (hg2.2.2.2.2.2 c hc).1
      rw [e4] at hT
      rw [Nat.one_mul]
      refine hT ?_
      have := (ask_bt hg2 (c := c) (i := 1) hc (by omega) (by omega)).2
      intro z
      have := this.mp z
      rw [ha] at this
      cases this
  · have e : i = 0 := by omega
    subst e
    exact ⟨n31, n32, n34⟩
  · have : s0S k s 5 15 = 0 := by
      unfold s0S
      rw [addS_5 (by omega), ck_u_eq]
    rw [this, bt_zero] at hb
    cases hb
  · rw [r22, bt_low ⟨k, by omega⟩ ⟨c, by omega⟩]
    simp
    omega
/-! counting down -/
def idx : Nat → Int32
  | 0 => -1
  | d + 1 => Int32.ofNat d
theorem idx_dec (d : Nat) : idx (d + 1) + (-1) = idx d := by
  cases d with
  | zero => decide
  | succ d => exact ln_dec
theorem idx_neg : idx 0 < 0 := by decide
/-- node i fails, on both sides -/
def FV (s r : ck_S) (i : Nat) : Prop := r 31 i = s 36 i ∧ (s 36 i = 0 ∨ s 36 i = 1) ∧ (s 30 i = 0 → (s 36 i = 1 ↔ r 26 i = -1)) ∧ (∀ F M, F + M ≤ 60 → ¬ s 30 i = 0 → s 33 i = Int32.ofNat F → s 34 i = Int32.ofNat M → (s 36 i = 1 ↔ ∃ j, j < M ∧ s 36 (F + j) = 1))
theorem failBr_ev {N x F M : Nat} {s : ck_S} (hN : N ≤ 60) (hx : x < N) (h14 : s 5 14 = Int32.ofNat N) (h33 : s 33 x = Int32.ofNat F) (h34 : s 34 x = Int32.ofNat M) (hF : F + M ≤ 60) :
    (∃ j, j < M ∧ ¬ s 36 (F + j) = 0 ∧ (∀ i, i < j → s 36 (F + i) = 0) ∧ fT_failingBranch (Int32.ofNat x) s = some (Int32.ofNat (F + j), s)) ∨ ((∀ j, j < M → s 36 (F + j) = 0) ∧ fT_failingBranch (Int32.ofNat x) s = some (Int32.ofNat x, s)) := by
  have hx60 : x < 60 := by omega
  have hh : fT_has (Int32.ofNat x) s = some (1, s) := by
    unfold fT_has
    rw [h14, if_neg (ln_lt0 (by omega)), if_neg (mt (ln_le (by omega) (by omega)).mp (by omega))]
  unfold fT_failingBranch
  rw [hh, ck_b_some, if_neg (show ¬ ((1 : Int32) = 0) by decide)]
  have key : ∀ (d m i : Nat), i + d = M → d < m → (∀ j, j < i → s 36 (F + j) = 0) → (∃ j, j < M ∧ ¬ s 36 (F + j) = 0 ∧ (∀ i, i < j → s 36 (F + i) = 0) ∧ fT_failingBranch_l12 m (Int32.ofNat x) (Int32.ofNat i) s = some (Int32.ofNat (F + j), s)) ∨ ((∀ j, j < M → s 36 (F + j) = 0) ∧ fT_failingBranch_l12 m (Int32.ofNat x) (Int32.ofNat i) s = some (Int32.ofNat x, s)) := by
    intro d
    induction d with
    | zero =>
      intro m i hi hm h0
      obtain ⟨m, rfl⟩ : ∃ z, m = z + 1 := ⟨m - 1, by omega⟩
      refine Or.inr ⟨fun j hj => h0 j (by omega), ?_⟩
      rw [fT_failingBranch_l12]
      simp (disch := omega) only [ck_gd_ok, ln_at, h34, ln_le, show M ≤ i by omega, ↓reduceIte]
    | succ d ih =>
      intro m i hi hm h0
      obtain ⟨m, rfl⟩ : ∃ z, m = z + 1 := ⟨m - 1, by omega⟩
      rw [fT_failingBranch_l12]
      simp (disch := omega) only [ck_gd_ok, ln_at, h34, h33, ln_le, show ¬ M ≤ i by omega, ↓reduceIte, ln_add]
      by_cases e : s 36 (F + i) = 0
      · rw [if_pos e, show Int32.ofNat i + 1 = Int32.ofNat (i + 1) from ln_addL i 1]
        exact ih m (i + 1) (by omega) (by omega) (fun j hj => by
          by_cases e2 : j = i
          · rw [e2]; exact e
          · exact h0 j (by omega))
      · rw [if_neg e]
        exact Or.inl ⟨i, by omega, e, h0, rfl⟩
  exact key M 4096 0 (by omega) (by omega) (fun j hj => absurd hj (by omega))
/-- the reference gathers what its branches say -/
theorem orl_ev {x F M : Nat} {r : ck_S} (hx : x < F) (h27 : r 27 x = Int32.ofNat F) (h28 : r 28 x = Int32.ofNat M) (hF : F + M ≤ 60) (h01 : ∀ j, j < M → r 31 (F + j) = 0 ∨ r 31 (F + j) = 1) (K : Int32 → ck_S → Option ck_S) :
    ∀ (d m i : Nat) (v : Int32), i + d = M → d < m → (v = 0 ∨ v = 1) → ∃ w, (w = 0 ∨ w = 1) ∧ (w = 1 ↔ v = 1 ∨ ∃ j, i ≤ j ∧ j < M ∧ r 31 (F + j) = 1) ∧ fR_findWitness_l47 K m (Int32.ofNat x) (Int32.ofNat i) (ck_u r 31 x v) = K (Int32.ofNat x) (ck_u r 31 x w) := by
  have hx60 : x < 60 := by omega
  intro d
  induction d with
  | zero =>
    intro m i v hi hm hv
    obtain ⟨m, rfl⟩ : ∃ z, m = z + 1 := ⟨m - 1, by omega⟩
    refine ⟨v, hv, ⟨Or.inl, fun z => ?_⟩, ?_⟩
    · rcases z with z | ⟨j, a, b, _⟩
      · exact z
      · omega
    · rw [fR_findWitness_l47]
      simp (disch := omega) only [ck_gd_ok, ln_at, ck_u_ne (show ¬ (28 = 31) by decide), h28, ln_le, show M ≤ i by omega, ↓reduceIte]
  | succ d ih =>
    intro m i v hi hm hv
    obtain ⟨m, rfl⟩ : ∃ z, m = z + 1 := ⟨m - 1, by omega⟩
    have hu : ∀ w, ck_u (ck_u r 31 x v) 31 x w = ck_u r 31 x w := fun w => by
      funext a
      by_cases e : a = 31
      · subst e
        funext j
        rw [ck_u_at, ck_u_at, ck_u_at]
        split <;> rfl
      · rw [ck_u_ne e, ck_u_ne e, ck_u_ne e]
    have h1 := h01 i (by omega)
    have hor : (v ||| r 31 (F + i) = 0 ∨ v ||| r 31 (F + i) = 1) ∧ (v ||| r 31 (F + i) = 1 ↔ v = 1 ∨ r 31 (F + i) = 1) := by
      rcases hv with rfl | rfl <;> rcases h1 with e | e <;> rw [e] <;> decide
    obtain ⟨w, w1, w2, w3⟩ := ih m (i + 1) (v ||| r 31 (F + i)) (by omega) (by omega) hor.1
    refine ⟨w, w1, ?_, ?_⟩
    · rw [w2, hor.2]
      constructor
      · rintro ((z | z) | ⟨j, a, b, c⟩)
        · exact Or.inl z
        · exact Or.inr ⟨i, by omega, by omega, z⟩
        · exact Or.inr ⟨j, by omega, b, c⟩
      · rintro (z | ⟨j, a, b, c⟩)
        · exact Or.inl (Or.inl z)
        · by_cases e : j = i
          · rw [e] at c; exact Or.inl (Or.inr c)
          · exact Or.inr ⟨j, by omega, b, c⟩
    · rw [fR_findWitness_l47]
      simp (disch := omega) only [ck_gd_ok, ln_at, ck_u_ne (show ¬ (28 = 31) by decide), ck_u_ne (show ¬ (27 = 31) by decide), h28, h27, ln_le, show ¬ M ≤ i by omega, ↓reduceIte, ln_add, ck_u_eq, ck_u_nei (show ¬ F + i = x by omega), hu]
      rw [show Int32.ofNat i + 1 = Int32.ofNat (i + 1) from ln_addL i 1]
      exact w3
