/-! the branches of a test of an own type -/
theorem d_con {t n co : Nat} {s r : ck_S} (hD : rD t n s r) (hc : co < n) : fD_ownerOf (Int32.ofNat co) s = some (s 7 co, s) ∧ fD_firstTypeOf (Int32.ofNat co) s = some (s 8 co, s) ∧ fD_secondTypeOf (Int32.ofNat co) s = some (s 9 co, s) := by
  obtain ⟨d1, d2, d3, d4, d5, d6, d7, d8, d9⟩ := hD
  have hi : fD_isConstructor (Int32.ofNat co) s = some (1, s) := by
    unfold fD_isConstructor
    rw [d5, if_neg (ln_lt0 (by omega)), if_neg (mt (ln_le (by omega) (by omega)).mp (by omega))]
  unfold fD_ownerOf fD_firstTypeOf fD_secondTypeOf
  simp (disch := omega) only [hi, ck_b_some, show ¬ ((1 : Int32) = 0) by decide, ↓reduceIte, ck_gd_ok, ln_at, and_self]
theorem shl2 : ∀ p : Fin 15, (2 : Int32) <<< (Int32.ofNat (2 * p.val) &&& 31) = (1 : Int32) <<< (Int32.ofNat (2 * p.val + 1) &&& 31) := by decide +kernel
theorem argPl_ev {t n co p : Nat} {s r : ck_S} (hD : rD t n s r) (hc : co < n) (hp : p < 16) : ∃ y, fD_argumentPlaces (Int32.ofNat co) (Int32.ofNat p) s = some (y, s) ∧ ∀ b, b < 32 → bt y b = ((decide (b = 2 * p) && decide (¬ s 8 co = -1)) || (decide (b = 2 * p + 1) && decide (¬ s 9 co = -1))) := by
  obtain ⟨e1, e2, e3⟩ := d_con hD hc
  unfold fD_argumentPlaces fD_argumentPlaces_b19
  simp only [e2, e3, ck_b_some, ln_Lmul, ln_addL]
  by_cases h8 : s 8 co = -1
  · rw [if_pos h8]
    by_cases h9 : s 9 co = -1
    · rw [if_pos h9]
      exact ⟨_, rfl, fun b hb => by rw [bt_zero]; simp [h8, h9]⟩
    · rw [if_neg h9]
      exact ⟨_, rfl, fun b hb => by rw [bt_or, bt_zero, bt_1 (by omega) hb]; simp [h8, h9]⟩
  · rw [if_neg h8]
    by_cases h9 : s 9 co = -1
    · rw [if_pos h9]
      exact ⟨_, rfl, fun b hb => by rw [bt_or, bt_zero, bt_1 (by omega) hb]; simp [h8, h9]⟩
    · rw [if_neg h9]
      exact ⟨_, rfl, fun b hb => by rw [bt_or, bt_or, bt_zero, bt_1 (by omega) hb, bt_1 (by omega) hb]; simp [h8, h9]⟩
def O2w (p : Nat) (S a b : Int32) : Int32 := if 8 ≤ p then S else S ||| ((if a = -1 then 0 else (1 : Int32) <<< (Int32.ofNat (2 * p) &&& 31)) ||| (if b = -1 then 0 else (2 : Int32) <<< (Int32.ofNat (2 * p) &&& 31)))
theorem arg_neg {t n co : Nat} {s r : ck_S} (hD : rD t n s r) (hc : co < n) : (r 2 co < 0 ↔ s 8 co = -1) ∧ (r 3 co < 0 ↔ s 9 co = -1) ∧ r 1 co = s 7 co := by
  obtain ⟨d1, d2, d3, d4, d5, d6, d7, d8, d9⟩ := hD
  obtain ⟨a1, a2, a3⟩ := d7 co hc
  obtain ⟨b1, b2, b3, b4⟩ := d8 co hc
  rw [a1, a2, a3]
  refine ⟨?_, ?_, rfl⟩
  · rcases b2 with h | ⟨a, ha, h⟩
    · rw [h]; decide
    · rw [h]
      exact ⟨fun z => absurd z (ln_lt0 (by omega)), fun z => absurd z (ln_m1 (by omega))⟩
  · rcases b3 with h | ⟨a, ha, h⟩
    · rw [h]; decide
    · rw [h]
      exact ⟨fun z => absurd z (ln_lt0 (by omega)), fun z => absurd z (ln_m1 (by omega))⟩
theorem l146_step {t n c x p m : Nat} {s r : ck_S} {S : Int32} (hD : rD t n s r) (hc : c < n) (hx : x < 60) (hp : p < 16) (ho : s 7 c = r 25 x) : fR_grow_l146 (m + 1) (Int32.ofNat x) (Int32.ofNat p) S (Int32.ofNat c) r = ck_bv (fR_branch (Int32.ofNat x) (Int32.ofNat c) 0 (O2w p S (s 8 c) (s 9 c)) r) fun st1 => fR_grow_l146 m (Int32.ofNat x) (Int32.ofNat p) S (Int32.ofNat (c + 1)) st1 := by
  obtain ⟨h1, h2, h3⟩ := arg_neg hD hc
  have d2 := hD.2.1
  rw [fR_grow_l146, hD.2.2.2.2.2.1, if_neg (mt (ln_le (by omega) (by omega)).mp (by omega))]
  unfold fR_grow_b190 fR_grow_b209 fR_grow_b233 O2w
  simp (disch := omega) only [ck_gd_ok, ln_at, h3, ho, ↓reduceIte, h1, h2, ln_addL, ln_Lmul, ln_Lle]
  by_cases e8 : s 8 c = -1 <;> by_cases e9 : s 9 c = -1 <;> by_cases e : 8 ≤ p <;> simp only [e8, e9, e, ↓reduceIte]
theorem l146_skip {t n c x p m : Nat} {s r : ck_S} {S : Int32} (hD : rD t n s r) (hc : c < n) (hx : x < 60) (ho : ¬ s 7 c = r 25 x) : fR_grow_l146 (m + 1) (Int32.ofNat x) (Int32.ofNat p) S (Int32.ofNat c) r = fR_grow_l146 m (Int32.ofNat x) (Int32.ofNat p) S (Int32.ofNat (c + 1)) r := by
  obtain ⟨h1, h2, h3⟩ := arg_neg hD hc
  have d2 := hD.2.1
  rw [fR_grow_l146, hD.2.2.2.2.2.1, if_neg (mt (ln_le (by omega) (by omega)).mp (by omega))]
  simp (disch := omega) only [ck_gd_ok, ln_at, h3, ho, ↓reduceIte, ln_addL]
theorem ck_u_same {st : ck_S} {q i : Nat} {x : Int32} (h : st q i = x) : ck_u st q i x = st := by
  funext a
  by_cases e : a = q
  · subst e
    funext j
    rw [ck_u_at]
    split
    · rename_i e2; rw [e2, h]
    · rfl
  · rw [ck_u_ne e]
theorem branch_full2 {r : ck_S} (h : r 0 29 = Int32.ofNat 60) (h30 : r 0 30 = 1) (x1 x2 x3 x4 : Int32) : fR_branch x1 x2 x3 x4 r = some r := by
  rw [branch_full h, ck_u_same h30]
theorem l146_full {t n x p : Nat} {s r : ck_S} {S : Int32} (hD : rD t n s r) (hx : x < 60) (hp : p < 16) (h : r 0 29 = Int32.ofNat 60) (h30 : r 0 30 = 1) : ∀ (d c m : Nat), c + d = n → d < m → fR_grow_l146 m (Int32.ofNat x) (Int32.ofNat p) S (Int32.ofNat c) r = some r := by
  have d2 := hD.2.1
  intro d
  induction d with
  | zero =>
    intro c m hc hm
    obtain ⟨m, rfl⟩ : ∃ z, m = z + 1 := ⟨m - 1, by omega⟩
    rw [fR_grow_l146, hD.2.2.2.2.2.1, if_pos ((ln_le (by omega) (by omega)).mpr (by omega))]
  | succ d ih =>
    intro c m hc hm
    obtain ⟨m, rfl⟩ : ∃ z, m = z + 1 := ⟨m - 1, by omega⟩
    by_cases ho : s 7 c = r 25 x
    · rw [l146_step hD (by omega) hx hp ho, branch_full2 h h30, ck_bv_some]
      exact ih (c + 1) m (by omega) (by omega)
    · rw [l146_skip hD (by omega) hx ho]
      exact ih (c + 1) m (by omega) (by omega)
def CI (x p N0 : Nat) (ty : Int32) (s r : ck_S) (c M : Nat) : Prop := (∀ j, j < M → brn s r x p (N0 + j) false true ∧ ∃ co, co < c ∧ r 29 (N0 + j) = Int32.ofNat co ∧ s 7 co = ty) ∧ (∀ co, co < c → s 7 co = ty → ∃ j, j < M ∧ r 29 (N0 + j) = Int32.ofNat co)
theorem CI_frame {x p N0 c M : Nat} {ty : Int32} {s r s2 r2 : ck_S} (h : CI x p N0 ty s r c M) (f : TF (N0 + M) s r s2 r2) (hx : x < N0) : CI x p N0 ty s2 r2 c M := by
  obtain ⟨h1, h2⟩ := h
  have e7 := f.1 7 (by omega) (by omega)
  constructor
  · intro j hj
    obtain ⟨a1, co, a2, a3, a4⟩ := h1 j hj
    exact ⟨brn_frame a1 f (by omega) (by omega), co, a2, by rw [(f.2.2.2.2.2 (N0 + j) (by omega)).2.2.1]; exact a3, by rw [e7]; exact a4⟩
  · intro co hco ho
    rw [e7] at ho
    obtain ⟨j, a1, a2⟩ := h2 co hco ho
    exact ⟨j, a1, by rw [(f.2.2.2.2.2 (N0 + j) (by omega)).2.2.1]; exact a2⟩
theorem mid_rD {t n k x N0 M : Nat} {st rt s r : ck_S} (hD : rD t n st rt) (h : mid n k x N0 st rt s r M) : rD t n s r := by
  obtain ⟨⟨w1, w2, w3, w4⟩, _⟩ := h
  exact rD_frame hD (by rw [w1 1 (by omega) (by omega)]) (by rw [w1 1 (by omega) (by omega)]) (w1 7 (by omega) (by omega)) (w1 8 (by omega) (by omega)) (w1 9 (by omega) (by omega)) (w4 0 (by omega) (by omega)) (w4 1 (by omega) (by omega)) (w3 1 (by omega) (by omega)) (w3 2 (by omega) (by omega)) (w3 3 (by omega) (by omega))
def stl (x : Int32) (p : Nat) : Int32 := x &&& (((1 : Int32) <<< (Int32.ofNat p &&& 31)) ^^^ (-1))
theorem stl_bt {x : Int32} {p b : Nat} (hp : p < 32) (hb : b < 32) : bt (stl x p) b = (bt x b && decide (¬ b = p)) := by
  unfold stl
  rw [bt_and, bt_not _ hb, bt_1 hp hb]
  simp
theorem con_loop {t n k x p N0 : Nat} {st rt : ck_S} (hD : rD t n st rt) (hg : gC n k st rt) (hx : nd k st rt x) (hxN : x < N0) (hp1 : 1 ≤ p) (hp2 : p < 16) (hop : bt (rt 23 x) p = true) (e30 : st 30 x = Int32.ofNat p) (e24 : rt 24 x = Int32.ofNat p) (e25 : rt 25 x = st 31 x) :
    ∀ (d c m1 m2 M : Nat) (s r : ck_S), c + d = n → d < m1 → d < m2 → mid n k x N0 st rt s r M → CI x p N0 (st 31 x) s r c M →
    (∃ s2 r2 M2, fT_addConstructors_l23 m1 (Int32.ofNat x) 1 (stl (st 27 x) p) (Int32.ofNat c) s = some (1, s2) ∧ fR_grow_l146 m2 (Int32.ofNat x) (Int32.ofNat p) (stl (rt 23 x) p) (Int32.ofNat c) r = some r2 ∧ mid n k x N0 st rt s2 r2 M2 ∧ CI x p N0 (st 31 x) s2 r2 n M2) ∨
    (∃ s2 r2, fT_addConstructors_l23 m1 (Int32.ofNat x) 1 (stl (st 27 x) p) (Int32.ofNat c) s = some (0, s2) ∧ fR_grow_l146 m2 (Int32.ofNat x) (Int32.ofNat p) (stl (rt 23 x) p) (Int32.ofNat c) r = some r2 ∧ r2 0 30 = 1 ∧ wk st rt s2 r2) := by
  have d2 := hD.2.1
  intro d
  induction d with
  | zero =>
    intro c m1 m2 M s r hc hm1 hm2 hm hC
    obtain ⟨m1, rfl⟩ : ∃ z, m1 = z + 1 := ⟨m1 - 1, by omega⟩
    obtain ⟨m2, rfl⟩ : ∃ z, m2 = z + 1 := ⟨m2 - 1, by omega⟩
    have hD2 := mid_rD hD hm
    have e : c = n := by omega
    subst e
    refine Or.inl ⟨s, r, M, ?_, ?_, hm, hC⟩
    · rw [fT_addConstructors_l23]
      unfold fD_constructorCount
      rw [ck_b_some, hD2.2.2.2.2.1, if_pos ((ln_le (by omega) (by omega)).mpr (by omega)), ck_gz1]
    · rw [fR_grow_l146, hD2.2.2.2.2.2.1, if_pos ((ln_le (by omega) (by omega)).mpr (by omega))]
  | succ d ih =>
    intro c m1 m2 M s r hc hm1 hm2 hm hC
    obtain ⟨m1, rfl⟩ : ∃ z, m1 = z + 1 := ⟨m1 - 1, by omega⟩
    obtain ⟨m2, rfl⟩ : ∃ z, m2 = z + 1 := ⟨m2 - 1, by omega⟩
    have hD2 := mid_rD hD hm
    have hTF := mid_TF hm
    have hg2 := mid_gC hg hm
    obtain ⟨w, h15, h30, h1, h2, h3, h4, h5, h6, h7⟩ := id hm
    have hx60 : x < 60 := by omega
    obtain ⟨o1, o2, o3⟩ := d_con hD2 (co := c) (by omega)
    have s31 : s 31 x = st 31 x := h1 31 x (by omega) (by omega) hxN
    have r25 : r 25 x = st 31 x := by rw [h2 25 x (by omega) (by omega) hxN (by omega)]; exact e25
    have s30 : s 30 x = Int32.ofNat p := by rw [h1 30 x (by omega) (by omega) hxN]; exact e30
    have r24 : r 24 x = Int32.ofNat p := by rw [h2 24 x (by omega) (by omega) hxN (by omega)]; exact e24
    have s26 : s 26 x = r 22 x := (nd_frame hx hTF hxN).1
    have r22l : lowb k (r 22 x) := (nd_frame hx hTF hxN).2.1
    have s7 : s 7 = st 7 := w.1 7 (by omega) (by omega)
    rw [fT_addConstructors_l23]
    unfold fD_constructorCount
    rw [ck_b_some, hD2.2.2.2.2.1, if_neg (mt (ln_le (by omega) (by omega)).mp (by omega)), if_neg (show ¬ ((1 : Int32) = 0) by decide), o1, ck_b_some]
    rw [ck_gd_ok (k := x) (n := 60) hx60 (by omega), ln_at (a := x) (by omega), s31]
    by_cases ho : s 7 c = st 31 x
    · rw [if_pos ho]
      obtain ⟨K, k1, k2, k3, k4⟩ := (keep_same hg2 r22l hp1 hp2 (Int32.ofNat c)).1
      obtain ⟨y, y1, y2⟩ := argPl_ev hD2 (co := c) (p := p) (by omega) hp2
      simp (disch := omega) only [ck_gd_ok, s26, s30, k1, ck_b_some, y1]
      rw [l146_step hD2 (by omega) hx60 hp2 (by rw [r25]; exact ho)]
      have hO : ∀ b, b < 16 → bt (stl (st 27 x) p ||| y) b = bt (O2w p (stl (rt 23 x) p) (s 8 c) (s 9 c)) b := by
        intro b hb
        rw [bt_or, y2 b (by omega), stl_bt (by omega) (by omega), hx.2.2.1 b hb]
        unfold O2w
        by_cases e : 8 ≤ p
        · rw [if_pos e, stl_bt (by omega) (by omega), show decide (b = 2 * p) = false by simp; omega, show decide (b = 2 * p + 1) = false by simp; omega]
          simp
        · rw [if_neg e, bt_or, bt_or, stl_bt (by omega) (by omega), shl2 ⟨p, by omega⟩]
          by_cases e8 : s 8 c = -1 <;> by_cases e9 : s 9 c = -1 <;> simp only [e8, e9, ↓reduceIte, bt_zero, bt_1 (show 2 * p < 32 by omega) (show b < 32 by omega), bt_1 (show 2 * p + 1 < 32 by omega) (show b < 32 by omega)] <;> simp
      have hOw : obw s r x p (Int32.ofNat c) true (O2w p (stl (rt 23 x) p) (s 8 c) (s 9 c)) := by
        intro b hb
        rw [← hO b hb, bt_or, y2 b (by omega), stl_bt (by omega) (by omega), hx.2.2.1 b hb, ln_at (by omega), h2 23 x (by omega) (by omega) hxN (by omega)]
        simp
      by_cases hfull : N0 + M < 60
      · obtain ⟨s2, r2, a1, a2, a3, a4, a5, a6⟩ := mid_step (lab := Int32.ofNat c) false true d2 hg hm hx hxN hp1 hp2 hop hfull (by rw [r24]; exact k2) k3 k4 hO hOw (fun _ => ⟨c, by omega, rfl⟩)
        rw [a1, ck_b_some]
        rw [show (if false = true then (1 : Int32) else 0) = 0 from rfl] at a2
        rw [a2, ck_bv_some, show Int32.ofNat c + 1 = Int32.ofNat (c + 1) from ln_addL c 1]
        refine ih (c + 1) m1 m2 (M + 1) s2 r2 (by omega) (by omega) (by omega) a3 ?_
        have e7 : s2 7 = s 7 := a6.1 7 (by omega) (by omega)
        obtain ⟨b1, b2⟩ := CI_frame hC a6 hxN
        constructor
        · intro j hj
          by_cases e : j = M
          · subst e
            exact ⟨a4, c, by omega, a5, by rw [e7]; exact ho⟩
          · obtain ⟨z1, co, z2, z3, z4⟩ := b1 j (by omega)
            exact ⟨z1, co, by omega, z3, z4⟩
        · intro co hco hcy
          by_cases e : co = c
          · subst e
            exact ⟨M, by omega, a5⟩
          · obtain ⟨j, z1, z2⟩ := b2 co (by omega) hcy
            exact ⟨j, by omega, z2⟩
      · have hf : N0 + M = 60 := by omega
        rw [hf] at h3 h4
        have hr2 : (ck_u r 0 30 1) 0 29 = Int32.ofNat 60 := by rw [ck_u_nei (by omega)]; exact h4
        have hD3 : rD t n s (ck_u r 0 30 1) := rD_frame hD2 rfl rfl rfl rfl rfl (ck_u_nei (by omega)) (ck_u_nei (by omega)) (ck_u_ne (by omega)) (ck_u_ne (by omega)) (ck_u_ne (by omega))
        refine Or.inr ⟨s, ck_u r 0 30 1, ?_, ?_, ck_u_eq, ?_⟩
        · rw [addNode_full h3, ck_b_some]
          obtain ⟨m1, rfl⟩ : ∃ z, m1 = z + 1 := ⟨m1 - 1, by omega⟩
          rw [fT_addConstructors_l23]
          unfold fD_constructorCount
          rw [ck_b_some, if_pos rfl, ck_gz0]
          split <;> rfl
        · rw [branch_full h4, ck_bv_some]
          exact l146_full hD3 hx60 hp2 hr2 ck_u_eq d (c + 1) m2 (by omega) (by omega)
        · obtain ⟨w1, w2, w3, w4⟩ := w
          exact ⟨w1, w2, fun a y z => by rw [ck_u_ne (by omega)]; exact w3 a y z, fun j y z => by rw [ck_u_nei (by omega)]; exact w4 j y z⟩
    · rw [if_neg ho, l146_skip hD2 (by omega) hx60 (by rw [r25]; exact ho), show Int32.ofNat c + 1 = Int32.ofNat (c + 1) from ln_addL c 1]
      refine ih (c + 1) m1 m2 M s r (by omega) (by omega) (by omega) hm ?_
      obtain ⟨b1, b2⟩ := hC
      constructor
      · intro j hj
        obtain ⟨z1, co, z2, z3, z4⟩ := b1 j (by omega)
        exact ⟨z1, co, by omega, z3, z4⟩
      · intro co hco hcy
        by_cases e : co = c
        · subst e
          exact absurd hcy ho
        · exact b2 co (by omega) hcy
