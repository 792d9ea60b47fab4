/-! branches by their label -/
theorem has_ev {N x : Nat} {s : ck_S} (hN : N ≤ 60) (hx : x < N) (h14 : s 5 14 = Int32.ofNat N) : fT_has (Int32.ofNat x) s = some (1, s) := by
  unfold fT_has
  rw [h14, if_neg (ln_lt0 (by omega)), if_neg (mt (ln_le (by omega) (by omega)).mp (by omega))]
theorem node_ev {N x : Nat} {s : ck_S} (hN : N ≤ 60) (hx : x < N) (h14 : s 5 14 = Int32.ofNat N) : fT_placeOf (Int32.ofNat x) s = some (s 30 x, s) ∧ fT_typeOfTest (Int32.ofNat x) s = some (s 31 x, s) ∧ fT_labelOf (Int32.ofNat x) s = some (s 28 x, s) ∧ fT_testsAbove (Int32.ofNat x) s = some (s 29 x, s) ∧ fT_clauseAt (Int32.ofNat x) s = some (s 32 x, s) := by
  have hh := has_ev hN hx h14
  have hx60 : x < 60 := by omega
  unfold fT_placeOf fT_typeOfTest fT_labelOf fT_testsAbove fT_clauseAt
  simp (disch := omega) only [hh, ck_b_some, show ¬ ((1 : Int32) = 0) by decide, ↓reduceIte, ck_gd_ok, ln_at, and_self]
theorem branchFor_ev {x F M : Nat} {s : ck_S} (hx : x < 60) (h33 : s 33 x = Int32.ofNat F) (h34 : s 34 x = Int32.ofNat M) (hM : 1 ≤ M) (hF : F + M ≤ 60) (sym : Int32) :
    (∃ j, j + 1 < M ∧ s 28 (F + j) = sym ∧ (∀ i, i < j → ¬ s 28 (F + i) = sym) ∧ fT_branchFor (Int32.ofNat x) sym s = some (Int32.ofNat (F + j), s)) ∨ ((∀ j, j + 1 < M → ¬ s 28 (F + j) = sym) ∧ fT_branchFor (Int32.ofNat x) sym s = some (Int32.ofNat (F + (M - 1)), s)) := by
  have key : ∀ (d m i : Nat), i + d = M - 1 → d < m → (∀ j, j < i → ¬ s 28 (F + j) = sym) → (∃ j, j + 1 < M ∧ s 28 (F + j) = sym ∧ (∀ i, i < j → ¬ s 28 (F + i) = sym) ∧ fT_branchFor_l24 m sym (Int32.ofNat (F + (M - 1))) (Int32.ofNat (F + i)) s = some (Int32.ofNat (F + j), s)) ∨ ((∀ j, j + 1 < M → ¬ s 28 (F + j) = sym) ∧ fT_branchFor_l24 m sym (Int32.ofNat (F + (M - 1))) (Int32.ofNat (F + i)) s = some (Int32.ofNat (F + (M - 1)), s)) := by
    intro d
    induction d with
    | zero =>
      intro m i hi hm h0
      obtain ⟨m, rfl⟩ : ∃ z, m = z + 1 := ⟨m - 1, by omega⟩
      refine Or.inr ⟨fun j hj => h0 j (by omega), ?_⟩
      rw [fT_branchFor_l24, if_pos ((ln_le (by omega) (by omega)).mpr (by omega))]
    | succ d ih =>
      intro m i hi hm h0
      obtain ⟨m, rfl⟩ : ∃ z, m = z + 1 := ⟨m - 1, by omega⟩
      rw [fT_branchFor_l24, if_neg (mt (ln_le (by omega) (by omega)).mp (by omega)), ck_gd_ok (by omega) (by omega), ln_at (by omega)]
      by_cases e : s 28 (F + i) = sym
      · rw [if_pos e]
        exact Or.inl ⟨i, by omega, e, h0, rfl⟩
      · rw [if_neg e, show Int32.ofNat (F + i) + 1 = Int32.ofNat (F + (i + 1)) from ln_addL (F + i) 1]
        exact ih m (i + 1) (by omega) (by omega) (fun j hj => by
          by_cases e2 : j = i
          · rw [e2]; exact e
          · exact h0 j (by omega))
  unfold fT_branchFor
  simp (disch := omega) only [ck_gd_ok, ln_at, h33, h34, ln_add, ln_subL]
  rw [show F + M - 1 = F + (M - 1) by omega]
  exact key (M - 1) 4096 0 (by omega) (by omega) (fun j hj => absurd hj (by omega))
/-- a number has a branch of its own -/
def hasL (r : ck_S) (F m : Nat) (sym : Int32) : Prop := ∃ j, j < m ∧ r 29 (F + j) = sym
theorem hasBranch_ev {x F m : Nat} {r : ck_S} (hx : x < 60) (h27 : r 27 x = Int32.ofNat F) (h28 : r 28 x = Int32.ofNat (m + 1)) (hF : F + (m + 1) ≤ 60) (h0 : ∀ j, j < m → r 30 (F + j) = 0) (h1 : r 30 (F + m) = 1) (sym : Int32) :
    ∃ v, (v = 0 ∨ v = 1) ∧ (v = 1 ↔ hasL r F m sym) ∧ fR_hasBranch (Int32.ofNat x) sym r = some (v, r) := by
  have key : ∀ (d l i : Nat) (v : Int32), i + d = m + 1 → d < l → (v = 0 ∨ v = 1) → ∃ w, (w = 0 ∨ w = 1) ∧ (w = 1 ↔ v = 1 ∨ ∃ j, i ≤ j ∧ j < m ∧ r 29 (F + j) = sym) ∧ fR_hasBranch_l5 l (Int32.ofNat x) sym v (Int32.ofNat i) r = some (w, r) := by
    intro d
    induction d with
    | zero =>
      intro l i v hi hl hv
      obtain ⟨l, rfl⟩ : ∃ z, l = z + 1 := ⟨l - 1, by omega⟩
      refine ⟨v, hv, ⟨Or.inl, fun z => ?_⟩, ?_⟩
      · rcases z with z | ⟨j, a, b, _⟩
        · exact z
        · omega
      · rw [fR_hasBranch_l5]
        simp (disch := omega) only [ck_gd_ok, ln_at, h28, ln_le, show m + 1 ≤ i by omega, ↓reduceIte]
        rcases hv with rfl | rfl
        · exact ck_gz0
        · exact ck_gz1
    | succ d ih =>
      intro l i v hi hl hv
      obtain ⟨l, rfl⟩ : ∃ z, l = z + 1 := ⟨l - 1, by omega⟩
      rw [fR_hasBranch_l5]
      simp (disch := omega) only [ck_gd_ok, ln_at, h28, h27, ln_le, show ¬ m + 1 ≤ i by omega, ↓reduceIte, ln_add]
      rw [show Int32.ofNat i + 1 = Int32.ofNat (i + 1) from ln_addL i 1]
      rcases hv with rfl | rfl
      · rw [if_pos rfl]
        by_cases e : i < m
        · rw [if_pos (h0 i e)]
          by_cases e2 : r 29 (F + i) = sym
          · rw [if_pos e2]
            obtain ⟨w, w1, w2, w3⟩ := ih l (i + 1) 1 (by omega) (by omega) (Or.inr rfl)
            exact ⟨w, w1, ⟨fun _ => Or.inr ⟨i, by omega, e, e2⟩, fun _ => w2.mpr (Or.inl rfl)⟩, w3⟩
          · rw [if_neg e2]
            obtain ⟨w, w1, w2, w3⟩ := ih l (i + 1) 0 (by omega) (by omega) (Or.inl rfl)
            refine ⟨w, w1, ?_, w3⟩
            rw [w2]
            constructor
            · rintro (z | ⟨j, a, b, c⟩)
              · exact Or.inl z
              · exact Or.inr ⟨j, by omega, b, c⟩
            · rintro (z | ⟨j, a, b, c⟩)
              · exact Or.inl z
              · by_cases e3 : j = i
                · rw [e3] at c; exact absurd c e2
                · exact Or.inr ⟨j, by omega, b, c⟩
        · rw [if_neg (by rw [show i = m by omega, h1]; decide)]
          obtain ⟨w, w1, w2, w3⟩ := ih l (i + 1) 0 (by omega) (by omega) (Or.inl rfl)
          refine ⟨w, w1, ?_, w3⟩
          rw [w2]
          constructor
          · rintro (z | ⟨j, a, b, c⟩)
            · exact Or.inl z
            · omega
          · rintro (z | ⟨j, a, b, c⟩)
            · exact Or.inl z
            · omega
      · rw [if_neg (show ¬ ((1 : Int32) = 0) by decide)]
        obtain ⟨w, w1, w2, w3⟩ := ih l (i + 1) 1 (by omega) (by omega) (Or.inr rfl)
        exact ⟨w, w1, ⟨fun _ => Or.inl rfl, fun _ => w2.mpr (Or.inl rfl)⟩, w3⟩
  obtain ⟨w, w1, w2, w3⟩ := key (m + 1) 4096 0 0 (by omega) (by omega) (Or.inl rfl)
  refine ⟨w, w1, ?_, w3⟩
  rw [w2]
  constructor
  · rintro (z | ⟨j, a, b, c⟩)
    · exact absurd z (by decide)
    · exact ⟨j, b, c⟩
  · rintro ⟨j, b, c⟩
    exact Or.inr ⟨j, by omega, b, c⟩
theorem pigeon {r : ck_S} {F m : Nat} (hasc : ∀ j1 j2, j1 < j2 → j2 < m → (r 29 (F + j1)).toInt < (r 29 (F + j2)).toInt) (hm : m ≤ 16) (h : ∀ i, i < 16 → hasL r F m (Int32.ofNat i)) : ¬ hasL r F m (Int32.ofNat 16) := by
  have key : ∀ i, i ≤ 16 → ∀ j, j < m → r 29 (F + j) = Int32.ofNat i → i ≤ j := by
    intro i
    induction i with
    | zero => intro _ j _ _; exact Nat.zero_le _
    | succ i ih =>
      intro hi j hj e
      obtain ⟨j2, a, b⟩ := h i (by omega)
      have h1 := ih (by omega) j2 a b
      have hlt : j2 < j := by
        rcases Nat.lt_trichotomy j2 j with z | z | z
        · exact z
        · rw [z, e] at b
          have := (ln_eq (by omega) (by omega)).mp b
          omega
        · have := hasc j j2 z a
          rw [e, b, Int32.toInt_ofNat_of_lt (by omega), Int32.toInt_ofNat_of_lt (by omega)] at this
          omega
      omega
  rintro ⟨j, a, b⟩
  have := key 16 (by omega) j a b
  omega
theorem least_ev {N x F m : Nat} {s r : ck_S} (hN : N ≤ 60) (hx : x < N) (h14 : s 5 14 = Int32.ofNat N) (h33 : s 33 x = Int32.ofNat F) (h34 : s 34 x = Int32.ofNat (m + 1)) (h27 : r 27 x = Int32.ofNat F) (h28 : r 28 x = Int32.ofNat (m + 1)) (hF : F + (m + 1) ≤ 60) (h0 : ∀ j, j < m → r 30 (F + j) = 0) (h1 : r 30 (F + m) = 1) (hlab : ∀ j, j < m → s 28 (F + j) = r 29 (F + j)) (hm : m ≤ 16) (hasc : ∀ j1 j2, j1 < j2 → j2 < m → (r 29 (F + j1)).toInt < (r 29 (F + j2)).toInt) (K : Int32 → Int32 → Int32 → ck_S → Option ck_S) (x2 : Int32) :
    ∃ v, fT_leastWithoutBranch (Int32.ofNat x) s = some (v, s) ∧ fR_findWitness_l177 K 4096 (Int32.ofNat x) x2 0 r = K (Int32.ofNat x) x2 v r := by
  have hx60 : x < 60 := by omega
  have hh := has_ev hN hx h14
  have hlast : fT_lastBranch (Int32.ofNat x) s = some (Int32.ofNat (F + m), s) := by
    unfold fT_lastBranch
    simp (disch := omega) only [hh, ck_b_some, show ¬ ((1 : Int32) = 0) by decide, ↓reduceIte, ck_gd_ok, ln_at, h33, h34, ln_add, ln_subL]
    rw [show F + (m + 1) - 1 = F + m by omega]
  have key : ∀ (d m1 m2 i : Nat), i + d = 16 → d < m1 → d + 1 < m2 → (∀ q, q < i → hasL r F m (Int32.ofNat q)) → ∃ v, fT_leastWithoutBranch_l21 m1 (Int32.ofNat x) (Int32.ofNat (F + m)) (Int32.ofNat i) (Int32.ofNat i) s = some (v, s) ∧ fR_findWitness_l177 K m2 (Int32.ofNat x) x2 (Int32.ofNat i) r = K (Int32.ofNat x) x2 v r := by
    intro d
    induction d with
    | zero =>
      intro m1 m2 i hi hm1 hm2 hq
      obtain ⟨m1, rfl⟩ : ∃ z, m1 = z + 1 := ⟨m1 - 1, by omega⟩
      obtain ⟨m2, rfl⟩ : ∃ z, m2 = z + 1 := ⟨m2 - 1, by omega⟩
      have e : i = 16 := by omega
      subst e
      refine ⟨Int32.ofNat 16, ?_, ?_⟩
      · rw [fT_leastWithoutBranch_l21, if_pos (by decide)]
      · obtain ⟨v, v1, v2, v3⟩ := hasBranch_ev hx60 h27 h28 hF h0 h1 (Int32.ofNat 16)
        have : v = 0 := v1.resolve_right (fun z => pigeon hasc hm hq (v2.mp z))
        subst this
        rw [fR_findWitness_l177, v3, ck_b_some, if_pos rfl]
    | succ d ih =>
      intro m1 m2 i hi hm1 hm2 hq
      obtain ⟨m1, rfl⟩ : ∃ z, m1 = z + 1 := ⟨m1 - 1, by omega⟩
      obtain ⟨m2, rfl⟩ : ∃ z, m2 = z + 1 := ⟨m2 - 1, by omega⟩
      obtain ⟨v, v1, v2, v3⟩ := hasBranch_ev hx60 h27 h28 hF h0 h1 (Int32.ofNat i)
      rw [fT_leastWithoutBranch_l21, if_neg (fun z => by have := (ln_le (a := 16) (by omega) (by omega)).mp z; omega), fR_findWitness_l177, v3, ck_b_some]
      rcases branchFor_ev hx60 h33 h34 (by omega) (by omega) (Int32.ofNat i) with ⟨j, j1, j2, j3, j4⟩ | ⟨j1, j2⟩
      · have hP : hasL r F m (Int32.ofNat i) := ⟨j, by omega, by rw [← hlab j (by omega)]; exact j2⟩
        have : v = 1 := v2.mpr hP
        subst this
        rw [j4, ck_b_some, if_neg (mt (ln_eq (by omega) (by omega)).mp (by omega)), if_neg (show ¬ ((1 : Int32) = 0) by decide), show Int32.ofNat i + 1 = Int32.ofNat (i + 1) from ln_addL i 1]
        exact ih m1 m2 (i + 1) (by omega) (by omega) (by omega) (fun q hq2 => by
          by_cases e : q = i
          · rw [e]; exact hP
          · exact hq q (by omega))
      · have hP : ¬ hasL r F m (Int32.ofNat i) := fun ⟨j, a, b⟩ => j1 j (by omega) (by rw [hlab j a]; exact b)
        have : v = 0 := v1.resolve_right (fun z => hP (v2.mp z))
        subst this
        rw [j2, ck_b_some, show F + (m + 1 - 1) = F + m by omega, if_pos rfl, if_pos rfl]
        exact ⟨_, rfl, rfl⟩
  unfold fT_leastWithoutBranch
  rw [hh, ck_b_some, if_neg (show ¬ ((1 : Int32) = 0) by decide), hlast, ck_b_some]
  exact key 16 4096 4096 0 (by omega) (by omega) (by omega) (fun q hq => absurd hq (by omega))
