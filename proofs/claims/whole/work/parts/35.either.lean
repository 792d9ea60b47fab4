/-! either -/
theorem pat_ty {n p i : Nat} {st rt : ck_S} (h : rP n p st rt) (hi : i < p) : (st 11 i = -1 ∨ ∃ a, a ≤ 5 ∧ st 11 i = Int32.ofNat a) ∧ rt 8 i = st 11 i := ⟨(h.2.2.2 i hi).2.1, (h.2.2.2 i hi).1.2.2.2.1⟩
theorem pat_open {n p i : Nat} {st rt : ck_S} (h : rP n p st rt) (hi : i < p) : fP_isOpen (Int32.ofNat i) st = some (if st 11 i = -1 then 1 else 0, st) := by
  have hh := pat_has h hi
  have h1 := h.1
  unfold fP_isOpen
  simp (disch := omega) only [hh.1, ck_b_some, ln_10, ↓reduceIte, ck_gd_ok, ln_at]
  split <;> rfl
def eres (s full : ck_S) (x : Int32) (k p : Nat) : Option (Int32 × ck_S) := if 8 < k then some (-10, s) else if p < 60 then some (x, full) else some (-8, s)
theorem either_C {n p i j d1 k1 d2 k2 : Nat} {st rt : ck_S} {ty : Int32} (hP : rP n p st rt) (hi : i < p) (hj : j < p) (ht : ty = if st 11 i = -1 then st 11 j else st 11 i) (k1b : k1 ≤ 8) (k2b : k2 ≤ 8) (d1b : d1 ≤ 4) (d2b : d2 ≤ 4)
    (e1 : fP_depthOf (Int32.ofNat i) st = some (Int32.ofNat d1, st)) (e2 : fP_depthOf (Int32.ofNat j) st = some (Int32.ofNat d2, st)) (e3 : fP_choicesOf (Int32.ofNat i) st = some (Int32.ofNat k1, st)) (e4 : fP_choicesOf (Int32.ofNat j) st = some (Int32.ofNat k2, st)) :
    fP_addEither (Int32.ofNat i) (Int32.ofNat j) st = eres st (ppar p (Int32.ofNat i) (Int32.ofNat j) (Int32.ofNat (max d1 d2)) (Int32.ofNat (k1 + k2)) (padd p 1 ty 0 st)) (Int32.ofNat p) (k1 + k2) p := by
  have h1 := hP.1
  have hb : ∀ y, fP_addEither_b44 y (Int32.ofNat i) (Int32.ofNat j) (Int32.ofNat (k1 + k2)) st = if p < 60 then some (Int32.ofNat p, ppar p (Int32.ofNat i) (Int32.ofNat j) (Int32.ofNat (max d1 d2)) (Int32.ofNat (k1 + k2)) (padd p 1 y 0 st)) else some (-8, st) := by
    intro y
    unfold fP_addEither_b44
    simp only [e1, e2, ck_b_some]
    by_cases z5 : p < 60
    · simp (disch := omega) only [(padd_ev hP _ _ _).1 z5, ck_b_some, ppar_ev z5 padd_27, z5, ↓reduceIte, ln_mxv]
    · simp only [(padd_ev hP _ _ _).2 z5, ck_b_some, ppar_full hP, z5, ↓reduceIte]
  unfold fP_addEither eres
  simp only [e3, e4, ck_b_some, ln_add, pat_open hP hi]
  by_cases z4 : 8 < k1 + k2
  · simp (disch := omega) only [z4, ↓reduceIte, ln_leL, show ¬ (k1 + k2 ≤ 8) by omega]
  · by_cases z1 : st 11 i = -1
    · rw [if_pos z1] at ht
      simp (disch := omega) only [z4, ↓reduceIte, ln_leL, show (k1 + k2 ≤ 8) by omega, z1, ln_10, ck_gd_ok, ln_at, hb, ht]
    · rw [if_neg z1] at ht
      simp (disch := omega) only [z4, ↓reduceIte, ln_leL, show (k1 + k2 ≤ 8) by omega, z1, ck_gd_ok, ln_at, hb, ht]
theorem either_R {n p i j d1 k1 d2 k2 : Nat} {st rt : ck_S} {ty : Int32} (hP : rP n p st rt) (hi : i < p) (hj : j < p) (ht : ty = if st 11 i = -1 then st 11 j else st 11 i) (k1b : k1 ≤ 8) (k2b : k2 ≤ 8) (d1b : d1 ≤ 4) (d2b : d2 ≤ 4)
    (e1 : rt 9 i = Int32.ofNat d1) (e2 : rt 9 j = Int32.ofNat d2) (e3 : rt 10 i = Int32.ofNat k1) (e4 : rt 10 j = Int32.ofNat k2) :
    fR_either_b52 (Int32.ofNat i) (Int32.ofNat j) (rt 8 i) (rt 8 j) rt = eres rt (radd p 3 0 (Int32.ofNat i) (Int32.ofNat j) ty (Int32.ofNat (max d1 d2)) (Int32.ofNat (k1 + k2)) rt) (Int32.ofNat p) (k1 + k2) p := by
  have h1 := hP.1
  have h3 := hP.2.2.1
  have hy : (if (0 : Int32) ≤ rt 8 i then rt 8 i else rt 8 j) = ty := by
    rw [ht, (pat_ty hP hi).2, (pat_ty hP hj).2]
    rcases (pat_ty hP hi).1 with b | ⟨a, b1, b2⟩
    · rw [b, if_pos rfl, if_neg (by decide)]
    · rw [b2, if_neg (ln_m1 (by omega)), if_pos (ln_ge0 (by omega))]
  have hb : ∀ d : Nat, fR_either_b103 (Int32.ofNat d) (Int32.ofNat i) (Int32.ofNat j) (rt 8 i) (rt 8 j) rt = if p < 60 then some (Int32.ofNat p, radd p 3 0 (Int32.ofNat i) (Int32.ofNat j) ty (Int32.ofNat d) (Int32.ofNat (k1 + k2)) rt) else some (-8, rt) := by
    intro d
    unfold fR_either_b103 fR_either_b134
    by_cases z5 : p < 60
    · simp (disch := omega) only [h3, ln_eqL, z5, show ¬ (p = 60) by omega, ↓reduceIte, ck_gd_ok, ln_at, e3, e4, ln_add, radd_ev hP z5, ck_b_some]
      by_cases z : (0 : Int32) ≤ rt 8 i
      · rw [if_pos z] at hy
        rw [if_pos z, hy]
      · rw [if_neg z] at hy
        rw [if_neg z, hy]
    · simp (disch := omega) only [h3, ln_eqL, z5, show (p = 60) by omega, ↓reduceIte, Nat.lt_irrefl]
  unfold fR_either_b52 eres
  simp (disch := omega) only [ck_gd_ok, ln_at, e1, e2, e3, e4, ln_add, ln_leL, ln_le, hb]
  by_cases z4 : 8 < k1 + k2
  · simp only [z4, ↓reduceIte, show ¬ (k1 + k2 ≤ 8) by omega]
  · by_cases z : d1 ≤ d2
    · simp only [z4, ↓reduceIte, show (k1 + k2 ≤ 8) by omega, z, Nat.max_eq_right z]
    · simp only [z4, ↓reduceIte, show (k1 + k2 ≤ 8) by omega, z, Nat.max_eq_left (Nat.le_of_not_le z)]
theorem either_P {n p : Nat} {st rt : ck_S} (hP : rP n p st rt) (x1 x2 : Int32) : simP n p st rt (fC_either x1 x2 st) (fR_either x1 x2 rt) := by
  have h1 := hP.1
  unfold fC_either fR_either
  rcases pat_cases hP x1 with ⟨i, hi, rfl, c1, c2⟩ | ⟨c1, c2, _⟩
  · rcases pat_cases hP x2 with ⟨j, hj, rfl, c3, c4⟩ | ⟨c3, c4, _⟩
    · obtain ⟨d1, k1, a1, a2, a3, a4, a5, a6, a7, a8, a9, a10, a11, a12⟩ := pat_dc hP hi
      obtain ⟨d2, k2, b1, b2, b3, b4, b5, b6, b7, b8, b9, b10, b11, b12⟩ := pat_dc hP hj
      obtain ⟨t1, t2⟩ := pat_ty hP hi
      obtain ⟨u1, u2⟩ := pat_ty hP hj
      have hag : ∃ f : Int32, fP_agree (Int32.ofNat i) (Int32.ofNat j) st = some (f, st) ∧ ((f = 0 ∧ ¬ st 11 i = -1 ∧ ¬ st 11 j = -1 ∧ ¬ st 11 i = st 11 j) ∨ (f = 1 ∧ (st 11 i = -1 ∨ st 11 j = -1 ∨ st 11 i = st 11 j))) := by
        unfold fP_agree
        rw [pat_open hP hj, ck_b_some]
        by_cases z : st 11 j = -1
        · exact ⟨1, by simp only [z, ↓reduceIte, ln_10], Or.inr ⟨rfl, Or.inr (Or.inl z)⟩⟩
        · obtain ⟨f, f1, f2, f3⟩ := pat_fits hP hi (st 11 j)
          rcases f3 with ⟨rfl, f3, f4⟩ | ⟨rfl, f3⟩
          · exact ⟨0, by simp (disch := omega) only [z, ↓reduceIte, c3, ck_b_some, ln_10, ck_gd_ok, ln_at, f1], Or.inl ⟨rfl, f3, z, f4⟩⟩
          · exact ⟨1, by simp (disch := omega) only [z, ↓reduceIte, c3, ck_b_some, ln_10, ck_gd_ok, ln_at, f1], Or.inr ⟨rfl, f3.elim Or.inl (fun h => Or.inr (Or.inr h))⟩⟩
      obtain ⟨f, f1, f2⟩ := hag
      rcases f2 with ⟨rfl, f2, f3, f4⟩ | ⟨rfl, f2⟩
      · refine simP_no (x := -7) hP ?_ ?_
        · simp only [c1, c3, ck_b_some, ln_10, ↓reduceIte, f1]
        · rcases t1 with t1 | ⟨a, t1, t3⟩
          · exact absurd t1 f2
          · rcases u1 with u1 | ⟨b, u1, u3⟩
            · exact absurd u1 f3
            · have hne : ¬ Int32.ofNat a = Int32.ofNat b := by rw [← t3, ← u3]; exact f4
              simp (disch := omega) only [c2, c4, ck_b_some, ln_10, ↓reduceIte, ck_gd_ok, ln_at, t2, t3, u2, u3, ln_lt0, hne]
      · have hC := either_C (ty := if st 11 i = -1 then st 11 j else st 11 i) hP hi hj rfl a4 b4 a2 b2 a9 b9 a10 b10
        have hR := either_R (ty := if st 11 i = -1 then st 11 j else st 11 i) hP hi hj rfl a4 b4 a2 b2 a7 b7 a8 b8
        have hc : (fC_either (Int32.ofNat i) (Int32.ofNat j) st) = fP_addEither (Int32.ofNat i) (Int32.ofNat j) st := by
          unfold fC_either
          simp only [c1, c3, ck_b_some, ln_10, ↓reduceIte, f1, ck_bid]
        have hr : fR_either (Int32.ofNat i) (Int32.ofNat j) rt = fR_either_b52 (Int32.ofNat i) (Int32.ofNat j) (rt 8 i) (rt 8 j) rt := by
          unfold fR_either
          simp (disch := omega) only [c2, c4, ck_b_some, ln_10, ↓reduceIte, ck_gd_ok, ln_at]
          by_cases z1 : rt 8 i < 0
          · rw [if_pos z1]
          · rw [if_neg z1]
            by_cases z2 : rt 8 j < 0
            · rw [if_pos z2]
            · rw [if_neg z2, if_pos]
              rw [t2, u2] at *
              rcases f2 with f2 | f2 | f2
              · rw [f2] at z1; exact absurd (by decide) z1
              · rw [f2] at z2; exact absurd (by decide) z2
              · exact f2
        have hc' := hc
        have hr' := hr
        unfold fC_either at hc'
        unfold fR_either at hr'
        rw [hc', hr', hC, hR]
        unfold eres
        by_cases z4 : 8 < k1 + k2
        · simp only [z4, ↓reduceIte]
          exact simP_no hP rfl rfl
        · by_cases z5 : p < 60
          · simp only [z4, z5, ↓reduceIte]
            have m1 : 1 ≤ max d1 d2 := Nat.le_trans a1 (Nat.le_max_left _ _)
            have m2 : max d1 d2 ≤ 4 := Nat.max_le.mpr ⟨a2, b2⟩
            have hip := Nat.ne_of_lt hi
            have hjp := Nat.ne_of_lt hj
            have hty : (if st 11 i = -1 then st 11 j else st 11 i) = -1 ∨ ∃ a, a ≤ 5 ∧ (if st 11 i = -1 then st 11 j else st 11 i) = Int32.ofNat a := by
              by_cases z : st 11 i = -1
              · rw [if_pos z]; exact u1
              · rw [if_neg z]; exact t1
            generalize hgt : (if st 11 i = -1 then st 11 j else st 11 i) = ty at *
            refine ⟨_, p + 1, _, _, rfl, rfl, add_rP hP z5 ⟨?_, ?_, ?_, ?_, Or.inr (Or.inr (Or.inr ⟨?_, ?_, i, j, hi, hj, ?_, ?_, ?_, ?_, ?_, ?_⟩))⟩, add_touch⟩
            · simp [ppar, padd, radd, ck_u, upd]
            · simp only [ppar, padd, ck_u_ne (show ¬ (11 = 16) by decide), ck_u_ne (show ¬ (11 = 15) by decide), ck_u_ne (show ¬ (11 = 14) by decide), ck_u_ne (show ¬ (11 = 13) by decide), ck_u_ne (show ¬ (11 = 12) by decide), ck_u_eq]
              exact hty
            · exact ⟨max d1 d2, m1, m2, by simp only [ppar, ck_u_ne (show ¬ (15 = 16) by decide), ck_u_eq]⟩
            · exact ⟨k1 + k2, by omega, by omega, by simp only [ppar, ck_u_eq]⟩
            · simp [radd, ck_u, upd]
            · simp [ppar, padd, ck_u, upd, vp_z1]
            · simp [ppar, padd, ck_u, upd]
            · simp [ppar, padd, ck_u, upd]
            · rw [show (ppar p (Int32.ofNat i) (Int32.ofNat j) (Int32.ofNat (max d1 d2)) (Int32.ofNat (k1 + k2)) (padd p 1 ty 0 st)) 13 p = Int32.ofNat i by simp [ppar, padd, ck_u, upd], show (ppar p (Int32.ofNat i) (Int32.ofNat j) (Int32.ofNat (max d1 d2)) (Int32.ofNat (k1 + k2)) (padd p 1 ty 0 st)) 14 p = Int32.ofNat j by simp [ppar, padd, ck_u, upd]]
              rw [pd_frame (st := st) (i := p) (Or.inr ⟨i, hi, rfl⟩) (by omega) (fun l hl => by have := Nat.ne_of_lt hl; simp [ppar, padd, ck_u, upd, this]), pd_frame (st := st) (i := p) (Or.inr ⟨j, hj, rfl⟩) (by omega) (fun l hl => by have := Nat.ne_of_lt hl; simp [ppar, padd, ck_u, upd, this]), a11, b11]
              simp only [ppar, ck_u_ne (show ¬ (15 = 16) by decide), ck_u_eq]
            · rw [show (ppar p (Int32.ofNat i) (Int32.ofNat j) (Int32.ofNat (max d1 d2)) (Int32.ofNat (k1 + k2)) (padd p 1 ty 0 st)) 13 p = Int32.ofNat i by simp [ppar, padd, ck_u, upd], show (ppar p (Int32.ofNat i) (Int32.ofNat j) (Int32.ofNat (max d1 d2)) (Int32.ofNat (k1 + k2)) (padd p 1 ty 0 st)) 14 p = Int32.ofNat j by simp [ppar, padd, ck_u, upd]]
              rw [pch_frame (st := st) (i := p) (Or.inr ⟨i, hi, rfl⟩) (by omega) (fun l hl => by have := Nat.ne_of_lt hl; simp [ppar, padd, ck_u, upd, this]), pch_frame (st := st) (i := p) (Or.inr ⟨j, hj, rfl⟩) (by omega) (fun l hl => by have := Nat.ne_of_lt hl; simp [ppar, padd, ck_u, upd, this]), a12, b12]
              simp only [ppar, ck_u_eq]
            · simp [ppar, padd, ck_u, upd, hip, hjp, hgt]
            · simp [ppar, padd, ck_u, upd, hip, hjp]
              exact f2
          · simp only [z4, z5, ↓reduceIte]
            exact simP_no hP rfl rfl
    · refine simP_no (x := -5) hP ?_ ?_ <;> simp only [c1, c2, c3, c4, ck_b_some, ln_10, ↓reduceIte]
  · refine simP_no (x := -5) hP ?_ ?_ <;> simp only [c1, c2, ck_b_some, ↓reduceIte]
