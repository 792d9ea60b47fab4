/-! which place is tested -/
def gC (n k : Nat) (s r : ck_S) : Prop := k ≤ 16 ∧ s 4 8 = Int32.ofNat k ∧ r 0 20 = Int32.ofNat k ∧ cls n k s r
def lowb (k : Nat) (x : Int32) : Prop := ∀ b, k ≤ b → b < 32 → bt x b = false
def lws (x : Int32) (f : Nat) : Prop := bt x f = true ∧ ∀ b, b < f → bt x b = false
theorem low_ex (x : Int32) : ∀ k, (∀ b, b < k → bt x b = false) ∨ ∃ f, f < k ∧ lws x f
  | 0 => Or.inl (fun b hb => absurd hb (by omega))
  | k + 1 => by
    rcases low_ex x k with h | ⟨f, hf, h⟩
    · cases hb : bt x k with
      | true => exact Or.inr ⟨k, by omega, hb, h⟩
      | false =>
        refine Or.inl (fun b hb2 => ?_)
        by_cases e : b = k
        · rw [e]; exact hb
        · exact h b (by omega)
    · exact Or.inr ⟨f, by omega, h⟩
theorem low_zero {x : Int32} {k : Nat} (h : lowb k x) (h2 : ∀ b, b < k → bt x b = false) : x = 0 := by
  apply bt_ext
  intro b hb
  rw [bt_zero]
  by_cases e : b < k
  · exact h2 b e
  · exact h b (by omega) hb
theorem low_ne {x : Int32} {f : Nat} (h : lws x f) : ¬ x = 0 := fun e => by
  have := h.1
  rw [e, bt_zero] at this
  cases this
theorem firstOf_ev {n k : Nat} {s r : ck_S} (hg : gC n k s r) (x : Int32) : ((∀ b, b < k → bt x b = false) → fM_firstOf x s = some (-1, s)) ∧ (∀ f, f < k → lws x f → fM_firstOf x s = some (Int32.ofNat f, s)) := by
  obtain ⟨g1, g2, g3, g4⟩ := hg
  constructor
  · intro h
    have key : ∀ (d m j : Nat), j + d = k → d < m → fM_firstOf_l2 m x (Int32.ofNat j) s = some (-1, s) := by
      intro d
      induction d with
      | zero =>
        intro m j hj hm
        obtain ⟨m, rfl⟩ : ∃ z, m = z + 1 := ⟨m - 1, by omega⟩
        rw [fM_firstOf_l2, g2, if_pos ((ln_le (by omega) (by omega)).mpr (by omega))]
      | succ d ih =>
        intro m j hj hm
        obtain ⟨m, rfl⟩ : ∃ z, m = z + 1 := ⟨m - 1, by omega⟩
        rw [fM_firstOf_l2, g2, if_neg (mt (ln_le (by omega) (by omega)).mp (by omega)), if_neg (fun z => by have := (bt_t x (by omega)).mp z; rw [h j (by omega)] at this; cases this), show Int32.ofNat j + 1 = Int32.ofNat (j + 1) from ln_addL j 1]
        exact ih m (j + 1) (by omega) (by omega)
    exact key k 4096 0 (by omega) (by omega)
  · intro f hf h
    have key : ∀ (d m j : Nat), j + d = f → d < m → fM_firstOf_l2 m x (Int32.ofNat j) s = some (Int32.ofNat f, s) := by
      intro d
      induction d with
      | zero =>
        intro m j hj hm
        obtain ⟨m, rfl⟩ : ∃ z, m = z + 1 := ⟨m - 1, by omega⟩
        rw [fM_firstOf_l2, g2, if_neg (mt (ln_le (by omega) (by omega)).mp (by omega)), if_pos ((bt_t x (by omega)).mpr (by rw [show j = f by omega]; exact h.1)), show j = f by omega]
      | succ d ih =>
        intro m j hj hm
        obtain ⟨m, rfl⟩ : ∃ z, m = z + 1 := ⟨m - 1, by omega⟩
        rw [fM_firstOf_l2, g2, if_neg (mt (ln_le (by omega) (by omega)).mp (by omega)), if_neg (fun z => by have := (bt_t x (by omega)).mp z; rw [h.2 j (by omega)] at this; cases this), show Int32.ofNat j + 1 = Int32.ofNat (j + 1) from ln_addL j 1]
        exact ih m (j + 1) (by omega) (by omega)
    exact key f 4096 0 (by omega) (by omega)
theorem lowest_ev {x : Int32} {f : Nat} (hf : f < 16) (h : lws x f) (r : ck_S) : fR_lowest x r = some (Int32.ofNat f, r) := by
  have key : ∀ (d m j : Nat), j + d = f → d < m → fR_lowest_l2 m x (Int32.ofNat j) r = some (Int32.ofNat f, r) := by
    intro d
    induction d with
    | zero =>
      intro m j hj hm
      obtain ⟨m, rfl⟩ : ∃ z, m = z + 1 := ⟨m - 1, by omega⟩
      rw [fR_lowest_l2, if_neg (fun z => by have := (ln_le (a := 16) (by omega) (by omega)).mp z; omega), if_neg (fun z => by have := (bt_f x (by omega)).mp z; rw [show j = f by omega, h.1] at this; cases this), show j = f by omega]
    | succ d ih =>
      intro m j hj hm
      obtain ⟨m, rfl⟩ : ∃ z, m = z + 1 := ⟨m - 1, by omega⟩
      rw [fR_lowest_l2, if_neg (fun z => by have := (ln_le (a := 16) (by omega) (by omega)).mp z; omega), if_pos ((bt_f x (by omega)).mpr (h.2 j (by omega))), show Int32.ofNat j + 1 = Int32.ofNat (j + 1) from ln_addL j 1]
      exact ih m (j + 1) (by omega) (by omega)
  exact key f 4096 0 (by omega) (by omega)
/-- a clause asks at a place -/
theorem ask_bt {n k c i : Nat} {s r : ck_S} (hg : gC n k s r) (hc : c < k) (hi : 1 ≤ i) (hi2 : i < 16) : (r 17 (16 * c + i) ≤ 0 ↔ bt (s 23 i) c = false) ∧ (r 17 (16 * c + i) = 0 ↔ bt (s 23 i) c = false) := by
  have := hg.2.2.2.2.1 c i hc hi hi2
  rcases this with ⟨a, b⟩ | ⟨a, b, _⟩ | ⟨a, b, _⟩
  · rw [a, b]; simp
  · rw [a, b]; simp
  · rw [a, b]; simp
theorem cb_more {x : Int32} {k : Nat} (h : lowb k x) : ∀ j, k ≤ j → j ≤ 32 → cb x j = cb x k := by
  intro j hj
  induction hj with
  | refl => intro _; rfl
  | step hj ih =>
    intro h32
    rename_i m
    show cb x m + (if bt x m = true then 1 else 0) = cb x k
    rw [h m hj (by omega), ih (by omega)]
    rfl
theorem cb_pos {x : Int32} {f k : Nat} (hf : f < k) (h : bt x f = true) : 1 ≤ cb x k := by
  induction k with
  | zero => omega
  | succ k ih =>
    unfold cb
    by_cases e : f = k
    · subst e
      rw [if_pos h]
      omega
    · have := ih (by omega)
      omega
theorem askers_ev {n k i : Nat} {s r : ck_S} (hg : gC n k s r) (hi : 1 ≤ i) (hi2 : i < 16) (L : Int32) : fR_askers L (Int32.ofNat i) r = some (Int32.ofNat (cb (s 23 i &&& L) k), r) := by
  have hg' := hg
  obtain ⟨g1, g2, g3, g4⟩ := hg'
  have key : ∀ (d m c : Nat), c + d = k → d < m → fR_askers_l5 m L (Int32.ofNat i) (Int32.ofNat (cb (s 23 i &&& L) c)) (Int32.ofNat c) r = some (Int32.ofNat (cb (s 23 i &&& L) k), r) := by
    intro d
    induction d with
    | zero =>
      intro m c hc hm
      obtain ⟨m, rfl⟩ : ∃ z, m = z + 1 := ⟨m - 1, by omega⟩
      rw [fR_askers_l5, g3, if_pos ((ln_le (by omega) (by omega)).mpr (by omega)), show c = k by omega]
    | succ d ih =>
      intro m c hc hm
      obtain ⟨m, rfl⟩ : ∃ z, m = z + 1 := ⟨m - 1, by omega⟩
      have hi1 := ih m (c + 1) (by omega) (by omega)
      have hb := (ask_bt hg (c := c) (by omega) hi hi2).1
      rw [fR_askers_l5, g3, if_neg (mt (ln_le (by omega) (by omega)).mp (by omega))]
      simp (disch := omega) only [ln_Lmul, ln_add, ck_gd_ok, ln_at, ln_addL]
      have e : cb (s 23 i &&& L) (c + 1) = cb (s 23 i &&& L) c + (if bt (s 23 i &&& L) c = true then 1 else 0) := rfl
      rw [bt_and] at e
      cases b1 : bt L c with
      | false =>
        rw [if_neg (fun z => by have := (bt_t L (by omega)).mp z; rw [b1] at this; cases this)]
        rw [b1, Bool.and_false] at e
        rw [show cb (s 23 i &&& L) (c + 1) = cb (s 23 i &&& L) c by rw [e]; simp] at hi1
        exact hi1
      | true =>
        rw [if_pos ((bt_t L (by omega)).mpr b1)]
        cases b2 : bt (s 23 i) c with
        | false =>
          rw [if_pos (hb.mpr b2)]
          rw [b2, Bool.false_and] at e
          rw [show cb (s 23 i &&& L) (c + 1) = cb (s 23 i &&& L) c by rw [e]; simp] at hi1
          exact hi1
        | true =>
          rw [if_neg (fun z => by have := hb.mp z; rw [b2] at this; cases this)]
          rw [b1, b2] at e
          rw [show cb (s 23 i &&& L) (c + 1) = cb (s 23 i &&& L) c + 1 by rw [e]; simp] at hi1
          exact hi1
  exact key k 4096 0 (by omega) (by omega)
theorem lowb_and {k : Nat} {x y : Int32} (h : lowb k y) : lowb k (x &&& y) := fun b h1 h2 => by rw [bt_and, h b h1 h2, Bool.and_false]
/-- the place that is chosen, on both sides -/
theorem choose_ev {n k f : Nat} {s r : ck_S} {L o1 o2 : Int32} (hg : gC n k s r) (hL : lowb k L) (hf : f < k) (hl : lws L f) (ho : ∀ b, b < 16 → bt o1 b = bt o2 b) :
    ∃ v, v < 16 ∧ fM_placeToTest L o1 s = some (Int32.ofNat v, s) ∧ fR_choose L o2 r = some (Int32.ofNat v, r) ∧ (v = 0 → ∀ i, 1 ≤ i → i < 16 → ¬ (bt o2 i = true ∧ bt (s 23 i) f = true)) ∧ (¬ v = 0 → bt o2 v = true ∧ bt (s 23 v) f = true) := by
  have hg' := hg
  obtain ⟨g1, g2, g3, g4⟩ := hg'
  have h23 : ∀ i, i < 16 → lowb k (s 23 i &&& L) := fun i _ => lowb_and hL
  have hcnt : ∀ i, i < 16 → cb (s 23 i &&& L) 16 = cb (s 23 i &&& L) k := fun i hi => cb_more (h23 i hi) 16 g1 (by omega)
  have hck : ∀ i, cb (s 23 i &&& L) k ≤ 16 := fun i => Nat.le_trans (cb_le _ k) g1
  -- the first clause asks
  have hfi : ∀ i, (s 23 i &&& (L &&& (-L)) = 0) ↔ bt (s 23 i) f = false := by
    intro i
    constructor
    · intro z
      have := congrArg (fun x => bt x f) z
      simp only [bt_and, bt_zero] at this
      have e := bt_lowbit (x := L) (f := f) (by omega) hl.1 hl.2 (b := f) (by omega)
      rw [bt_and] at e
      rw [e] at this
      simpa using this
    · intro z
      apply bt_ext
      intro b hb
      rw [bt_zero, bt_and, bt_lowbit (x := L) (f := f) (by omega) hl.1 hl.2 hb]
      by_cases e : b = f
      · rw [e, z]; rfl
      · simp [e]
  have key : ∀ (d m1 m2 i best most : Nat), i + d = 16 → 1 ≤ i → d < m1 → d < m2 → best < 16 → most ≤ 16 → (best = 0 → most = 0) → (¬ best = 0 → bt o2 best = true ∧ bt (s 23 best) f = true) →
      ∃ v, v < 16 ∧ fM_placeToTest_l14 m1 L o1 (L &&& (-L)) (Int32.ofNat best) (Int32.ofNat most) (Int32.ofNat i) s = some (Int32.ofNat v, s) ∧ fR_choose_l20 m2 L o2 (Int32.ofNat f) (Int32.ofNat best) (Int32.ofNat most) (Int32.ofNat i) r = some (Int32.ofNat v, r) ∧ (v = 0 → best = 0 ∧ ∀ j, i ≤ j → j < 16 → ¬ (bt o2 j = true ∧ bt (s 23 j) f = true)) ∧ (¬ v = 0 → bt o2 v = true ∧ bt (s 23 v) f = true) := by
    intro d
    induction d with
    | zero =>
      intro m1 m2 i best most hi hi1 hm1 hm2 hb hmo h0 hgd
      obtain ⟨m1, rfl⟩ : ∃ z, m1 = z + 1 := ⟨m1 - 1, by omega⟩
      obtain ⟨m2, rfl⟩ : ∃ z, m2 = z + 1 := ⟨m2 - 1, by omega⟩
      have ei : i = 16 := by omega
      subst ei
      refine ⟨best, hb, ?_, ?_, fun z => ⟨z, fun j h1 h2 => absurd h2 (by omega)⟩, hgd⟩
      · rw [fM_placeToTest_l14, if_pos (by decide)]
      · rw [fR_choose_l20, if_pos (by decide)]
    | succ d ih =>
      intro m1 m2 i best most hi hi1 hm1 hm2 hb hmo h0 hgd
      obtain ⟨m1, rfl⟩ : ∃ z, m1 = z + 1 := ⟨m1 - 1, by omega⟩
      obtain ⟨m2, rfl⟩ : ∃ z, m2 = z + 1 := ⟨m2 - 1, by omega⟩
      have hi16 : i < 16 := by omega
      have hn16 : ¬ ((16 : Int32) ≤ Int32.ofNat i) := fun z => by have := (ln_le (a := 16) (by omega) (by omega)).mp z; omega
      have hinc : Int32.ofNat i + 1 = Int32.ofNat (i + 1) := ln_addL i 1
      have hbc : fI_bitCount_C (s 23 i &&& L) s = some (Int32.ofNat (cb (s 23 i &&& L) k), s) := by
        rw [bitCount_ev (fun b h1 h2 => lowb_and hL b (by omega) h2), hcnt i hi16]
      have hb48 : ∀ y : Int32, fM_placeToTest_b48 (fM_placeToTest_l14 m1) y L o1 (L &&& (-L)) (Int32.ofNat best) (Int32.ofNat most) (Int32.ofNat i) s = (if y = 0 then fM_placeToTest_l14 m1 L o1 (L &&& (-L)) (Int32.ofNat best) (Int32.ofNat most) (Int32.ofNat (i + 1)) s else if cb (s 23 i &&& L) k ≤ most then fM_placeToTest_l14 m1 L o1 (L &&& (-L)) (Int32.ofNat best) (Int32.ofNat most) (Int32.ofNat (i + 1)) s else fM_placeToTest_l14 m1 L o1 (L &&& (-L)) (Int32.ofNat i) (Int32.ofNat (cb (s 23 i &&& L) k)) (Int32.ofNat (i + 1)) s) := by
        intro y
        have := hck i
        unfold fM_placeToTest_b48
        simp (disch := omega) only [ck_gd_ok, ln_at, hbc, ck_b_some, hinc, ln_le]
      have hob := ho i hi16
      -- go on without a change
      have stay : ¬ (bt o2 i = true ∧ bt (s 23 i) f = true ∧ most < cb (s 23 i &&& L) k) → (bt o2 i = true → bt (s 23 i) f = true → ¬ best = 0) → ∀ C R, C = fM_placeToTest_l14 m1 L o1 (L &&& (-L)) (Int32.ofNat best) (Int32.ofNat most) (Int32.ofNat (i + 1)) s → R = fR_choose_l20 m2 L o2 (Int32.ofNat f) (Int32.ofNat best) (Int32.ofNat most) (Int32.ofNat (i + 1)) r → ∃ v, v < 16 ∧ C = some (Int32.ofNat v, s) ∧ R = some (Int32.ofNat v, r) ∧ (v = 0 → best = 0 ∧ ∀ j, i ≤ j → j < 16 → ¬ (bt o2 j = true ∧ bt (s 23 j) f = true)) ∧ (¬ v = 0 → bt o2 v = true ∧ bt (s 23 v) f = true) := by
        intro hno hz C R hC hR
        obtain ⟨v, v1, v2, v3, v4, v5⟩ := ih m1 m2 (i + 1) best most (by omega) (by omega) (by omega) (by omega) hb hmo h0 hgd
        refine ⟨v, v1, by rw [hC]; exact v2, by rw [hR]; exact v3, fun z => ⟨(v4 z).1, fun j h1 h2 hh => ?_⟩, v5⟩
        by_cases e : j = i
        · subst e
          exact hz hh.1 hh.2 (v4 z).1
        · exact (v4 z).2 j (by omega) h2 hh
      rw [fM_placeToTest_l14, fR_choose_l20, if_neg hn16, if_neg hn16]
      cases bo : bt o2 i with
      | false =>
        refine stay (fun h => by rw [bo] at h; exact absurd h.1 (by decide)) (fun h => by rw [bo] at h; exact absurd h (by decide)) _ _ ?_ ?_
        · rw [if_neg (fun z => by have := (bt_t o1 (by omega)).mp z; rw [hob, bo] at this; cases this), hb48, if_pos rfl]
        · rw [if_neg (fun z => by have := (bt_t o2 (by omega)).mp z; rw [bo] at this; cases this), hinc]
      | true =>
        rw [if_pos ((bt_t o1 (by omega)).mpr (by rw [hob]; exact bo)), if_pos ((bt_t o2 (by omega)).mpr bo)]
        rw [ck_gd_ok hi16 (by omega), ln_at (by omega)]
        have hab := (ask_bt hg (c := f) hf hi1 hi16).1
        cases ba : bt (s 23 i) f with
        | false =>
          refine stay (fun h => by rw [ba] at h; exact absurd h.2.1 (by decide)) (fun _ h => by rw [ba] at h; exact absurd h (by decide)) _ _ ?_ ?_
          · rw [if_pos ((hfi i).mpr ba), hb48, if_pos rfl]
          · simp (disch := omega) only [ln_Lmul, ln_add, ck_gd_ok, ln_at, hab.mpr ba, ↓reduceIte, hinc]
        | true =>
          have hpos : 1 ≤ cb (s 23 i &&& L) k := cb_pos hf (by rw [bt_and, ba, hl.1]; rfl)
          have hna : ¬ (r 17 (16 * f + i) ≤ 0) := fun z => by have := hab.mp z; rw [ba] at this; cases this
          have hcki := hck i
          by_cases z : cb (s 23 i &&& L) k ≤ most
          · refine stay (fun h => by omega) (fun _ _ hz => by have := h0 hz; omega) _ _ ?_ ?_
            · rw [if_neg (fun y => by have := (hfi i).mp y; rw [ba] at this; cases this), hb48, if_neg (by decide), if_pos z]
            · simp (disch := omega) only [ln_Lmul, ln_add, ck_gd_ok, ln_at, hna, ↓reduceIte, askers_ev hg hi1 hi16, ck_b_some, ln_le, z, hinc]
          · obtain ⟨v, v1, v2, v3, v4, v5⟩ := ih m1 m2 (i + 1) i (cb (s 23 i &&& L) k) (by omega) (by omega) (by omega) (by omega) hi16 hcki (fun h => by omega) (fun _ => ⟨bo, ba⟩)
            refine ⟨v, v1, ?_, ?_, fun h => absurd (v4 h).1 (by omega), v5⟩
            · rw [if_neg (fun y => by have := (hfi i).mp y; rw [ba] at this; cases this), hb48, if_neg (by decide), if_neg z]
              exact v2
            · simp (disch := omega) only [ln_Lmul, ln_add, ck_gd_ok, ln_at, hna, ↓reduceIte, askers_ev hg hi1 hi16, ck_b_some, ln_le, z, hinc]
              exact v3
  obtain ⟨v, v1, v2, v3, v4, v5⟩ := key 15 4096 4096 1 0 0 (by omega) (by omega) (by omega) (by omega) (by omega) (by omega) (fun _ => rfl) (fun h => absurd rfl h)
  refine ⟨v, v1, v2, ?_, fun z i h1 h2 => (v4 z).2 i h1 h2, v5⟩
  unfold fR_choose
  rw [if_neg (low_ne hl), lowest_ev (by omega) hl, ck_b_some]
  exact v3
theorem choose_0 {s r : ck_S} {o1 o2 : Int32} : fM_placeToTest 0 o1 s = some (0, s) ∧ fR_choose 0 o2 r = some (0, r) := by
  constructor
  · have key : ∀ (d m i : Nat), i + d = 16 → 1 ≤ i → d < m → fM_placeToTest_l14 m 0 o1 (0 &&& (-0)) 0 0 (Int32.ofNat i) s = some (0, s) := by
      intro d
      induction d with
      | zero =>
        intro m i hi _ hm
        obtain ⟨m, rfl⟩ : ∃ z, m = z + 1 := ⟨m - 1, by omega⟩
        rw [show i = 16 by omega, fM_placeToTest_l14, if_pos (by decide)]
      | succ d ih =>
        intro m i hi h1 hm
        obtain ⟨m, rfl⟩ : ∃ z, m = z + 1 := ⟨m - 1, by omega⟩
        have hn16 : ¬ ((16 : Int32) ≤ Int32.ofNat i) := fun z => by have := (ln_le (a := 16) (by omega) (by omega)).mp z; omega
        have e0 : ∀ x : Int32, x &&& (0 &&& (-0)) = 0 := fun x => by
          apply bt_ext
          intro b hb
          rw [bt_and, bt_and, bt_zero]
          simp
        have e1 : ∀ x : Int32, x &&& 0 = 0 := fun x => by
          apply bt_ext
          intro b hb
          rw [bt_and, bt_zero]
          simp
        have hb48 : fM_placeToTest_b48 (fM_placeToTest_l14 m) 0 0 o1 (0 &&& (-0)) 0 0 (Int32.ofNat i) s = some (0, s) := by
          unfold fM_placeToTest_b48
          rw [ck_gd_ok (by omega) (by omega), e1, bitCount_ev (fun b _ _ => bt_zero b), ck_b_some, if_pos rfl, show Int32.ofNat i + 1 = Int32.ofNat (i + 1) from ln_addL i 1]
          exact ih m (i + 1) (by omega) (by omega) (by omega)
        rw [fM_placeToTest_l14, if_neg hn16]
        split
        · rw [ck_gd_ok (by omega) (by omega), if_pos (e0 _)]
          exact hb48
        · exact hb48
    exact key 15 4096 1 (by omega) (by omega) (by omega)
  · unfold fR_choose
    rw [if_pos rfl]
