/-! the simple calls on declarations, patterns, values: what each side does -/
theorem ln_10 : ((1 : Int32) = 0) = False := by simp
theorem isBegun_ev (st : ck_S) : fM_isBegun st = some (if st 4 6 = -1 then 0 else 1, st) := by
  unfold fM_isBegun
  split <;> rfl
/-- type: both refuse alike, or both add -/
theorem type_D {t n : Nat} {st rt : ck_S} (hD : rD t n st rt) (hO : rO t st rt) : (fC_type st = some (-2, st) ∧ fR_type rt = some (-2, rt)) ∨ (st 4 6 = -1 ∧ fC_type st = some (-8, st) ∧ fR_type rt = some (-8, rt)) ∨
    (st 4 6 = -1 ∧ t < 5 ∧ fC_type st = some (Int32.ofNat (t + 1), ck_u st 1 3 (Int32.ofNat (t + 1))) ∧ fR_type rt = some (Int32.ofNat (t + 1), ck_u rt 0 0 (Int32.ofNat (t + 1)))) := by
  obtain ⟨h1, h2, h3, h4, h5, h6, h7, h8, h9⟩ := hD
  obtain ⟨o1, o2⟩ := hO
  unfold fC_type fR_type fD_addType
  rcases o2 with o2 | ⟨o, ho, o2⟩
  · by_cases ht : t < 5
    · have ht2 : ¬ t = 5 := by omega
      refine Or.inr (Or.inr ⟨o2, ht, ?_, ?_⟩) <;> simp (disch := omega) only [isBegun_ev, ck_b_some, o1, o2, h3, h4, ln_ltL, ln_eqL, ln_addL, ht, ht2, ln_m1', ↓reduceIte]
    · have ht2 : t = 5 := by omega
      refine Or.inr (Or.inl ⟨o2, ?_, ?_⟩) <;> simp (disch := omega) only [isBegun_ev, ck_b_some, o1, o2, h3, h4, ln_ltL, ln_eqL, ln_addL, ht2, ln_m1', ↓reduceIte, Nat.lt_irrefl]
  · refine Or.inl ⟨?_, ?_⟩ <;> simp (disch := omega) only [isBegun_ev, ck_b_some, o1, o2, ln_m1, ln_lt0, ↓reduceIte, ln_10]
theorem type_rD {t n : Nat} {st rt : ck_S} (h : rD t n st rt) (ht : t < 5) : rD (t + 1) n (ck_u st 1 3 (Int32.ofNat (t + 1))) (ck_u rt 0 0 (Int32.ofNat (t + 1))) := by
  obtain ⟨h1, h2, h3, h4, h5, h6, h7, h8, h9⟩ := h
  refine ⟨by omega, h2, ck_u_eq, ck_u_eq, ?_, ?_, ?_, ?_, ?_⟩
  · rw [ck_u_nei (by decide)]; exact h5
  · rw [ck_u_nei (by decide)]; exact h6
  · intro c hc
    rw [ck_u_ne (by decide), ck_u_ne (by decide), ck_u_ne (by decide), ck_u_ne (by decide), ck_u_ne (by decide), ck_u_ne (by decide)]
    exact h7 c hc
  · intro c hc
    rw [ck_u_ne (by decide), ck_u_ne (by decide), ck_u_ne (by decide)]
    obtain ⟨⟨o, a1, a2, a3⟩, b, d, e⟩ := h8 c hc
    refine ⟨⟨o, a1, by omega, a3⟩, ?_, ?_, e⟩
    · rcases b with b | ⟨a, b1, b2⟩
      · exact Or.inl b
      · exact Or.inr ⟨a, by omega, b2⟩
    · rcases d with d | ⟨a, b1, b2⟩
      · exact Or.inl d
      · exact Or.inr ⟨a, by omega, b2⟩
  · intro o
    rw [ck_u_ne (by decide)]
    exact h9 o
theorem isType_ev {t n : Nat} {st rt : ck_S} (h : rD t n st rt) (x : Int32) : (∃ a, a ≤ t ∧ x = Int32.ofNat a ∧ fD_isType x st = some (1, st) ∧ fR_isType x rt = some (1, rt)) ∨ (fD_isType x st = some (0, st) ∧ fR_isType x rt = some (0, rt)) := by
  obtain ⟨h1, h2, h3, h4, h5, h6, h7, h8, h9⟩ := h
  unfold fD_isType fR_isType
  rw [h3, h4]
  by_cases h0 : x < 0
  · rw [if_pos h0, if_pos h0]
    exact Or.inr ⟨rfl, rfl⟩
  · rw [if_neg h0, if_neg h0]
    by_cases hl : Int32.ofNat t < x
    · rw [if_pos hl, if_pos hl]
      exact Or.inr ⟨rfl, rfl⟩
    · rw [if_neg hl, if_neg hl]
      obtain ⟨k, k1, k2⟩ := ln_ofle h0 (by omega) hl
      exact Or.inl ⟨k, k1, k2, rfl, rfl⟩
/-- constructor: the checks of its arguments -/
theorem cons_args {t n : Nat} {st rt : ck_S} (h : rD t n st rt) (x1 x2 x3 : Int32) (ho : st 4 6 = -1) (hr : rt 0 18 = -1) : (fC_constructor x1 x2 x3 st = some (-3, st) ∧ fR_constructor x1 x2 x3 rt = some (-3, rt)) ∨
    ((∃ o, 1 ≤ o ∧ o ≤ t ∧ x1 = Int32.ofNat o) ∧ (x2 = -1 ∨ ∃ a, a ≤ t ∧ x2 = Int32.ofNat a) ∧ (x3 = -1 ∨ ∃ a, a ≤ t ∧ x3 = Int32.ofNat a) ∧ (x2 = -1 → x3 = -1) ∧ fC_constructor x1 x2 x3 st = fD_addConstructor x1 x2 x3 st ∧ fR_constructor x1 x2 x3 rt = fR_constructor_b62 x1 x2 x3 rt) := by
  have hb : ∀ o : Option (Int32 × ck_S), (ck_b o fun v8 st7 => some (v8, st7)) = o := fun o => by cases o <;> rfl
  unfold fC_constructor fR_constructor fD_isOwnType fD_canBeArguments fR_constructor_b36 fR_constructor_b49
  obtain ⟨h1, h2, h3, h4, h5, h6, h7, h8, h9⟩ := id h
  by_cases c1 : x1 ≤ 0
  · have c1' : x1 < 1 := by
      have : x1.toInt ≤ 0 := Int32.le_iff_toInt_le.mp c1
      exact Int32.lt_iff_toInt_lt.mpr (by show x1.toInt < 1; omega)
    refine Or.inl ⟨?_, ?_⟩ <;> simp only [isBegun_ev, ck_b_some, ho, hr, ln_m1', ↓reduceIte, c1, c1']
  · have c1' : ¬ x1 < 1 := fun z => c1 (by
      have : x1.toInt < 1 := Int32.lt_iff_toInt_lt.mp z
      exact Int32.le_iff_toInt_le.mpr (by show x1.toInt ≤ 0; omega))
    have c0 : ¬ x1 < 0 := fun z => c1 (Int32.le_of_lt z)
    by_cases c2 : Int32.ofNat t < x1
    · refine Or.inl ⟨?_, ?_⟩ <;> simp only [isBegun_ev, ck_b_some, ho, hr, ln_m1', ↓reduceIte, c1, c1', h3, h4, c2]
    · obtain ⟨o, o1, o3⟩ := ln_ofle c0 (by omega) c2
      have o2 : 1 ≤ o := by
        rw [o3] at c1
        have := mt (ln_le (b := 0) (a := o) (by omega) (by omega)).mpr c1
        omega
      have hx1 : ∃ o, 1 ≤ o ∧ o ≤ t ∧ x1 = Int32.ofNat o := ⟨o, o2, o1, o3⟩
      by_cases e2 : x2 = -1
      · by_cases e3 : x3 = -1
        · refine Or.inr ⟨hx1, Or.inl e2, Or.inl e3, fun _ => e3, ?_, ?_⟩ <;> simp only [isBegun_ev, ck_b_some, ho, hr, ln_m1', ↓reduceIte, c1, c1', h3, h4, c2, e2, e3, ln_10, hb]
        · rcases isType_ev h x3 with ⟨a, a1, a2, a3, a4⟩ | ⟨a3, a4⟩
          · refine Or.inl ⟨?_, ?_⟩ <;> simp only [isBegun_ev, ck_b_some, ho, hr, ln_m1', ↓reduceIte, c1, c1', h3, h4, c2, e2, e3, ln_10, hb, a3, a4]
          · refine Or.inl ⟨?_, ?_⟩ <;> simp only [isBegun_ev, ck_b_some, ho, hr, ln_m1', ↓reduceIte, c1, c1', h3, h4, c2, e2, e3, ln_10, hb, a3, a4]
      · rcases isType_ev h x2 with ⟨a, a1, a2, a3, a4⟩ | ⟨a3, a4⟩
        · by_cases e3 : x3 = -1
          · refine Or.inr ⟨hx1, Or.inr ⟨a, a1, a2⟩, Or.inl e3, fun z => absurd z e2, ?_, ?_⟩ <;> simp only [isBegun_ev, ck_b_some, ho, hr, ln_m1', ↓reduceIte, c1, c1', h3, h4, c2, e2, e3, ln_10, hb, a3, a4]
          · rcases isType_ev h x3 with ⟨b, b1, b2, b3, b4⟩ | ⟨b3, b4⟩
            · refine Or.inr ⟨hx1, Or.inr ⟨a, a1, a2⟩, Or.inr ⟨b, b1, b2⟩, fun z => absurd z e2, ?_, ?_⟩ <;> simp only [isBegun_ev, ck_b_some, ho, hr, ln_m1', ↓reduceIte, c1, c1', h3, h4, c2, e2, e3, ln_10, hb, a3, a4, b3, b4]
            · refine Or.inl ⟨?_, ?_⟩ <;> simp only [isBegun_ev, ck_b_some, ho, hr, ln_m1', ↓reduceIte, c1, c1', h3, h4, c2, e2, e3, ln_10, hb, a3, a4, b3, b4]
        · refine Or.inl ⟨?_, ?_⟩ <;> simp only [isBegun_ev, ck_b_some, ho, hr, ln_m1', ↓reduceIte, c1, c1', h3, h4, c2, e2, ln_10, hb, a3, a4]
/-- the states behind a constructor that was added -/
def consC (n : Nat) (x1 x2 x3 : Int32) (st : ck_S) : ck_S := ck_u (ck_u (ck_u (ck_u st 7 n x1) 8 n x2) 9 n x3) 1 4 (Int32.ofNat (n + 1))
def consR (n : Nat) (x1 x2 x3 : Int32) (st : ck_S) : ck_S := ck_u (ck_u (ck_u (ck_u st 1 n x1) 2 n x2) 3 n x3) 0 1 (Int32.ofNat (n + 1))
theorem cons_add {t n : Nat} {st rt : ck_S} (h : rD t n st rt) (x1 x2 x3 : Int32) : (fD_addConstructor x1 x2 x3 st = some (-8, st) ∧ fR_constructor_b62 x1 x2 x3 rt = some (-8, rt)) ∨
    (n < 12 ∧ cnt (st 7) x1 n < 4 ∧ fD_addConstructor x1 x2 x3 st = some (Int32.ofNat n, consC n x1 x2 x3 st) ∧ fR_constructor_b62 x1 x2 x3 rt = some (Int32.ofNat n, consR n x1 x2 x3 rt)) := by
  have ev1 := fD_countOfType_ev h x1
  have ev2 := fR_constructorsOf_ev h x1
  obtain ⟨h1, h2, h3, h4, h5, h6, h7, h8, h9⟩ := h
  have hc := cnt_le (f := st 7) (x := x1) n
  have h9 := h9 x1
  unfold fD_addConstructor fR_constructor_b62
  rw [h5, h6]
  by_cases hn : n < 12
  · rw [if_neg (mt (ln_Lle (by omega) (by omega)).mp (by omega)), if_neg (mt (ln_eqL (by omega) (by omega)).mp (by omega)), ev1, ev2, ck_b_some, ck_b_some, h5, h6]
    by_cases h4 : cnt (st 7) x1 n < 4
    · rw [if_pos ((ln_ltL (by omega) (by omega)).mpr h4), if_neg (mt (ln_eqL (by omega) (by omega)).mp (by omega))]
      rw [ck_gd_ok hn (by omega), ck_gd_ok hn (by omega), ck_gd_ok hn (by omega), ck_gd_ok hn (by omega), ck_gd_ok hn (by omega), ck_gd_ok hn (by omega), ln_at (by omega), ln_addL, ln_subL (by omega)]
      exact Or.inr ⟨hn, h4, rfl, rfl⟩
    · rw [if_neg (mt (ln_ltL (by omega) (by omega)).mp h4), if_pos ((ln_eqL (by omega) (by omega)).mpr (by omega))]
      exact Or.inl ⟨rfl, rfl⟩
  · rw [if_pos ((ln_Lle (by omega) (by omega)).mpr (by omega)), if_pos ((ln_eqL (by omega) (by omega)).mpr (by omega))]
    exact Or.inl ⟨rfl, rfl⟩
theorem cons_rD {t n : Nat} {st rt : ck_S} {x1 x2 x3 : Int32} (h : rD t n st rt) (hn : n < 12) (hc : cnt (st 7) x1 n < 4) (k1 : ∃ o, 1 ≤ o ∧ o ≤ t ∧ x1 = Int32.ofNat o) (k2 : x2 = -1 ∨ ∃ a, a ≤ t ∧ x2 = Int32.ofNat a) (k3 : x3 = -1 ∨ ∃ a, a ≤ t ∧ x3 = Int32.ofNat a) (k4 : x2 = -1 → x3 = -1) : rD t (n + 1) (consC n x1 x2 x3 st) (consR n x1 x2 x3 rt) := by
  obtain ⟨h1, h2, h3, h4, h5, h6, h7, h8, h9⟩ := h
  have a7 : ∀ c, consC n x1 x2 x3 st 7 c = if c = n then x1 else st 7 c := fun c => by simp [consC, ck_u, upd]
  have a8 : ∀ c, consC n x1 x2 x3 st 8 c = if c = n then x2 else st 8 c := fun c => by simp [consC, ck_u, upd]
  have a9 : ∀ c, consC n x1 x2 x3 st 9 c = if c = n then x3 else st 9 c := fun c => by simp [consC, ck_u, upd]
  have b1 : ∀ c, consR n x1 x2 x3 rt 1 c = if c = n then x1 else rt 1 c := fun c => by simp [consR, ck_u, upd]
  have b2 : ∀ c, consR n x1 x2 x3 rt 2 c = if c = n then x2 else rt 2 c := fun c => by simp [consR, ck_u, upd]
  have b3 : ∀ c, consR n x1 x2 x3 rt 3 c = if c = n then x3 else rt 3 c := fun c => by simp [consR, ck_u, upd]
  refine ⟨h1, by omega, by simp [consC, ck_u, upd]; exact h3, by simp [consR, ck_u, upd]; exact h4, by simp [consC, ck_u, upd], by simp [consR, ck_u, upd], ?_, ?_, ?_⟩
  · intro c hc
    rw [a7, a8, a9, b1, b2, b3]
    by_cases e : c = n
    · simp [e]
    · simp [e]
      exact h7 c (by omega)
  · intro c hc
    rw [a7, a8, a9]
    by_cases e : c = n
    · simp [e]
      exact ⟨k1, k2, k3, k4⟩
    · simp [e]
      exact h8 c (by omega)
  · intro o
    have e : cnt (consC n x1 x2 x3 st 7) o n = cnt (st 7) o n := cnt_congr n (fun c hc => by rw [a7, if_neg (by omega)])
    show cnt (consC n x1 x2 x3 st 7) o n + _ ≤ 4
    rw [e, a7, if_pos rfl]
    have := h9 o
    by_cases ho : x1 = o
    · subst ho
      rw [if_pos rfl]
      omega
    · rw [if_neg ho]
      omega
