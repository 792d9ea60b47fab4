/-! the other calls keep the relation -/
theorem sim_type : ag Rel fC_type fR_type := by
  rintro st rt hR
  have h := hR
  obtain ⟨t, n, p, v, q, k, hD, hO, hP, hV, hM, hT, h6⟩ := h
  rcases type_D hD hO with ⟨a, b⟩ | ⟨_, a, b⟩ | ⟨e, ht, a, b⟩
  · exact ⟨_, _, _, a, b, hR⟩
  · exact ⟨_, _, _, a, b, hR⟩
  · have es : ∀ y a, ¬ a = 1 → ck_u st 1 3 y a = st a := fun y a h => ck_u_ne h
    have er : ∀ y a, ¬ a = 0 → ck_u rt 0 0 y a = rt a := fun y a h => ck_u_ne h
    have e0 : ∀ y j, ¬ j = 0 → ck_u rt 0 0 y 0 j = rt 0 j := fun y j h => ck_u_nei h
    refine ⟨_, _, _, a, b, t + 1, n, p, v, q, k, type_rD hD ht, rO_frame hO (by omega) (by rw [es _ _ (by omega)]) (e0 _ _ (by omega)), rP_frame hP (Nat.le_refl _) (by rw [es _ _ (by omega)]) (es _ _ (by omega)) (es _ _ (by omega)) (es _ _ (by omega)) (es _ _ (by omega)) (es _ _ (by omega)) (es _ _ (by omega)) (es _ _ (by omega)) (fun c _ => ⟨by rw [es _ _ (by omega)], by rw [es _ _ (by omega)], by rw [es _ _ (by omega)]⟩) (e0 _ _ (by omega)) (fun q _ _ => er _ q (by omega)), rV_frame hV (Nat.le_refl _) (by rw [es _ _ (by omega)]) (es _ _ (by omega)) (es _ _ (by omega)) (es _ _ (by omega)) (es _ _ (by omega)) (fun c _ => ⟨by rw [es _ _ (by omega)], by rw [es _ _ (by omega)], by rw [es _ _ (by omega)]⟩) (e0 _ _ (by omega)) (fun q _ _ => er _ q (by omega)), rM_frame hM (Nat.le_refl _) (es _ _ (by omega)) (es _ _ (by omega)) (es _ _ (by omega)) (es _ _ (by omega)) (es _ _ (by omega)) (es _ _ (by omega)) (fun c _ => ⟨by rw [es _ _ (by omega)], by rw [es _ _ (by omega)], by rw [es _ _ (by omega)]⟩) (e0 _ _ (by omega)) (e0 _ _ (by omega)) (er _ _ (by omega)) (er _ _ (by omega)) (er _ _ (by omega)) (er _ _ (by omega)), Or.inl ?_, ?_⟩
    · rw [es _ _ (by omega), e0 _ _ (by omega)]
      exact tre_none hT e
    · rw [es _ _ (by omega), e0 _ _ (by omega)]
      exact h6
theorem sim_cons (x1 x2 x3 : Int32) : ag Rel (fC_constructor x1 x2 x3) (fR_constructor x1 x2 x3) := by
  rintro st rt hR
  have h := hR
  obtain ⟨t, n, p, v, q, k, hD, hO, hP, hV, hM, hT, h6⟩ := h
  by_cases e : st 4 6 = -1
  · have e2 : rt 0 18 = -1 := by rw [hO.1]; exact e
    rcases cons_args hD x1 x2 x3 e e2 with ⟨a, b⟩ | ⟨k1, k2, k3, k4, a, b⟩
    · exact ⟨_, _, _, a, b, hR⟩
    · rw [a, b]
      rcases cons_add hD x1 x2 x3 with ⟨a, b⟩ | ⟨hn, hc, a, b⟩
      · exact ⟨_, _, _, a, b, hR⟩
      · have es : ∀ a, ¬ a = 1 → (a < 7 ∨ 9 < a) → consC n x1 x2 x3 st a = st a := fun a h1 h2 => by
          unfold consC
          rw [ck_u_ne (by omega), ck_u_ne (by omega), ck_u_ne (by omega), ck_u_ne (by omega)]
        have er : ∀ a, 3 < a → consR n x1 x2 x3 rt a = rt a := fun a h1 => by
          unfold consR
          rw [ck_u_ne (by omega), ck_u_ne (by omega), ck_u_ne (by omega), ck_u_ne (by omega)]
        have e0 : ∀ j, ¬ j = 1 → consR n x1 x2 x3 rt 0 j = rt 0 j := fun j h1 => by
          unfold consR
          rw [ck_u_nei h1, ck_u_ne (by omega), ck_u_ne (by omega), ck_u_ne (by omega)]
        have d : ∀ c, c < n → consC n x1 x2 x3 st 7 c = st 7 c ∧ consC n x1 x2 x3 st 8 c = st 8 c ∧ consC n x1 x2 x3 st 9 c = st 9 c := fun c hc => by
          unfold consC
          refine ⟨?_, ?_, ?_⟩
          · rw [ck_u_off (by omega), ck_u_off (by omega), ck_u_off (by omega), ck_u_off (by omega)]
          · rw [ck_u_off (by omega), ck_u_off (by omega), ck_u_off (by omega), ck_u_off (by omega)]
          · rw [ck_u_off (by omega), ck_u_off (by omega), ck_u_off (by omega), ck_u_off (by omega)]
        refine ⟨_, _, _, a, b, t, n + 1, p, v, q, k, cons_rD hD hn hc k1 k2 k3 k4, rO_frame hO (by omega) (by rw [es _ (by omega) (by omega)]) (e0 _ (by omega)), rP_frame hP (by omega) (by rw [es _ (by omega) (by omega)]) (es _ (by omega) (by omega)) (es _ (by omega) (by omega)) (es _ (by omega) (by omega)) (es _ (by omega) (by omega)) (es _ (by omega) (by omega)) (es _ (by omega) (by omega)) (es _ (by omega) (by omega)) d (e0 _ (by omega)) (fun q _ _ => er q (by omega)), rV_frame hV (by omega) (by rw [es _ (by omega) (by omega)]) (es _ (by omega) (by omega)) (es _ (by omega) (by omega)) (es _ (by omega) (by omega)) (es _ (by omega) (by omega)) d (e0 _ (by omega)) (fun q _ _ => er q (by omega)), rM_frame hM (by omega) (es _ (by omega) (by omega)) (es _ (by omega) (by omega)) (es _ (by omega) (by omega)) (es _ (by omega) (by omega)) (es _ (by omega) (by omega)) (es _ (by omega) (by omega)) d (e0 _ (by omega)) (e0 _ (by omega)) (er _ (by omega)) (er _ (by omega)) (er _ (by omega)) (er _ (by omega)), Or.inl ?_, ?_⟩
        · rw [es _ (by omega) (by omega), e0 _ (by omega)]
          exact tre_none hT e
        · rw [es _ (by omega) (by omega), e0 _ (by omega)]
          exact h6
  · obtain ⟨o1, o2 | ⟨o, oo, o2⟩⟩ := hO
    · exact absurd o2 e
    · have ot := hD.1
      refine ⟨-2, st, rt, ?_, ?_, hR⟩
      · unfold fC_constructor
        rw [isBegun_ev, if_neg e, ck_b_some, if_neg (by decide)]
      · unfold fR_constructor
        rw [o1, o2]
        first
          | rw [if_neg (ln_lt0 (by omega))]
          | rw [if_pos (ln_ge0 (by omega))]
theorem sim_begin (x : Int32) : ag Rel (fC_begin x) (fR_begin x) := by
  rintro st rt hR
  have h := hR
  obtain ⟨t, n, p, v, q, k, hD, hO, hP, hV, hM, hT, h6⟩ := h
  rcases begin_D hD hO x with ⟨y, a, b⟩ | ⟨e, ⟨a1, a2, a3⟩, a, b⟩
  · exact ⟨_, _, _, a, b, hR⟩
  · obtain ⟨z1, z2⟩ := rM_none hM e
    subst z1 z2
    have es : ∀ a, ¬ a = 4 → ck_u st 4 6 x a = st a := fun a h => ck_u_ne h
    have e4 : ∀ j, ¬ j = 6 → ck_u st 4 6 x 4 j = st 4 j := fun j h => ck_u_nei h
    have er : ∀ a, ¬ a = 0 → ck_u rt 0 18 x a = rt a := fun a h => ck_u_ne h
    have e0 : ∀ j, ¬ j = 18 → ck_u rt 0 18 x 0 j = rt 0 j := fun j h => ck_u_nei h
    refine ⟨_, _, _, a, b, t, n, p, v, 0, 0, rD_frame hD (by rw [es _ (by omega)]) (by rw [es _ (by omega)]) (es _ (by omega)) (es _ (by omega)) (es _ (by omega)) (e0 _ (by omega)) (e0 _ (by omega)) (er _ (by omega)) (er _ (by omega)) (er _ (by omega)), ⟨by rw [ck_u_eq, ck_u_eq], Or.inr ⟨a1, a2, by rw [ck_u_eq]; exact a3⟩⟩, rP_frame hP (Nat.le_refl _) (by rw [es _ (by omega)]) (es _ (by omega)) (es _ (by omega)) (es _ (by omega)) (es _ (by omega)) (es _ (by omega)) (es _ (by omega)) (es _ (by omega)) (fun c _ => ⟨by rw [es _ (by omega)], by rw [es _ (by omega)], by rw [es _ (by omega)]⟩) (e0 _ (by omega)) (fun q _ _ => er q (by omega)), rV_frame hV (Nat.le_refl _) (by rw [es _ (by omega)]) (es _ (by omega)) (es _ (by omega)) (es _ (by omega)) (es _ (by omega)) (fun c _ => ⟨by rw [es _ (by omega)], by rw [es _ (by omega)], by rw [es _ (by omega)]⟩) (e0 _ (by omega)) (fun q _ _ => er q (by omega)), rM_zero ?_ ?_ ?_ ?_ ?_ ?_, Or.inl ?_, ?_⟩
    · rw [e4 _ (by omega)]; exact hM.2.2.1
    · rw [e4 _ (by omega)]; exact hM.2.2.2.2.1
    · rw [e0 _ (by omega)]; exact hM.2.2.2.1
    · rw [e0 _ (by omega)]; exact hM.2.2.2.2.2.1
    · rw [es _ (by omega)]; exact rM_21 hM
    · intro i b h1 h2
      rw [es _ (by omega)]
      exact hM.2.2.2.2.2.2.2.2.1 i b h1 (Nat.zero_le _) h2
    · rw [es _ (by omega), e0 _ (by omega)]
      exact tre_none hT e
    · rw [es _ (by omega), e0 _ (by omega)]
      exact h6
/-- what a step on the patterns leaves -/
theorem Rel_P {t n p v q k : Nat} {st rt : ck_S} {fc fr : Option (Int32 × ck_S)} (hD : rD t n st rt) (hO : rO t st rt) (hV : rV n v st rt) (hM : rM n q k st rt) (hT : tre n k st rt) (h6 : st 0 6 = rt 0 46) (h : simP n p st rt fc fr) : ∃ (y : Int32) (s2 r2 : ck_S), fc = some (y, s2) ∧ fr = some (y, r2) ∧ Rel s2 r2 := by
  obtain ⟨y, p2, s2, r2, a, b, hP2, es, er1, er2, e0⟩ := h
  have er : ∀ a, 1 ≤ a → (a < 4 ∨ 10 < a) → r2 a = rt a := fun a h1 h2 => by
    rcases h2 with h2 | h2
    · exact er2 a h1 h2
    · exact er1 a h2
  refine ⟨y, s2, r2, a, b, t, n, p2, v, q, k, rD_frame hD (by rw [es _ (by omega) (by omega)]) (by rw [es _ (by omega) (by omega)]) (es _ (by omega) (by omega)) (es _ (by omega) (by omega)) (es _ (by omega) (by omega)) (e0 _ (by omega)) (e0 _ (by omega)) (er _ (by omega) (by omega)) (er _ (by omega) (by omega)) (er _ (by omega) (by omega)), rO_frame hO (Nat.le_refl _) (by rw [es _ (by omega) (by omega)]) (e0 _ (by omega)), hP2, rV_frame hV (Nat.le_refl _) (by rw [es _ (by omega) (by omega)]) (es _ (by omega) (by omega)) (es _ (by omega) (by omega)) (es _ (by omega) (by omega)) (es _ (by omega) (by omega)) (fun c _ => ⟨by rw [es _ (by omega) (by omega)], by rw [es _ (by omega) (by omega)], by rw [es _ (by omega) (by omega)]⟩) (e0 _ (by omega)) (fun q _ _ => er q (by omega) (by omega)), rM_frame hM (Nat.le_refl _) (es _ (by omega) (by omega)) (es _ (by omega) (by omega)) (es _ (by omega) (by omega)) (es _ (by omega) (by omega)) (es _ (by omega) (by omega)) (es _ (by omega) (by omega)) (fun c _ => ⟨by rw [es _ (by omega) (by omega)], by rw [es _ (by omega) (by omega)], by rw [es _ (by omega) (by omega)]⟩) (e0 _ (by omega)) (e0 _ (by omega)) (er _ (by omega) (by omega)) (er _ (by omega) (by omega)) (er _ (by omega) (by omega)) (er _ (by omega) (by omega)),
    tre_frame hT (fun a _ _ => es a (by omega) (by omega)) (fun a _ _ => es a (by omega) (by omega)) (fun a _ _ => er a (by omega) (by omega)) (er _ (by omega) (by omega)) (er _ (by omega) (by omega)) (es _ (by omega) (by omega)) (es _ (by omega) (by omega)) (es _ (by omega) (by omega)) (es _ (by omega) (by omega)) (es _ (by omega) (by omega)) (e0 _ (by omega)) (e0 _ (by omega)) (e0 _ (by omega)) (e0 _ (by omega)) (e0 _ (by omega)) (er _ (by omega) (by omega)) (er _ (by omega) (by omega)), by rw [es _ (by omega) (by omega), e0 _ (by omega)]; exact h6⟩
theorem Rel_V {t n p v q k : Nat} {st rt : ck_S} {fc fr : Option (Int32 × ck_S)} (hD : rD t n st rt) (hO : rO t st rt) (hP : rP n p st rt) (hM : rM n q k st rt) (hT : tre n k st rt) (h6 : st 0 6 = rt 0 46) (h : simV n v st rt fc fr) : ∃ (y : Int32) (s2 r2 : ck_S), fc = some (y, s2) ∧ fr = some (y, r2) ∧ Rel s2 r2 := by
  obtain ⟨y, v2, s2, r2, a, b, hV2, es, er, e0⟩ := h
  refine ⟨y, s2, r2, a, b, t, n, p, v2, q, k, rD_frame hD (by rw [es _ (by omega) (by omega)]) (by rw [es _ (by omega) (by omega)]) (es _ (by omega) (by omega)) (es _ (by omega) (by omega)) (es _ (by omega) (by omega)) (e0 _ (by omega)) (e0 _ (by omega)) (er _ (by omega) (by omega)) (er _ (by omega) (by omega)) (er _ (by omega) (by omega)), rO_frame hO (Nat.le_refl _) (by rw [es _ (by omega) (by omega)]) (e0 _ (by omega)), rP_frame hP (Nat.le_refl _) (by rw [es _ (by omega) (by omega)]) (es _ (by omega) (by omega)) (es _ (by omega) (by omega)) (es _ (by omega) (by omega)) (es _ (by omega) (by omega)) (es _ (by omega) (by omega)) (es _ (by omega) (by omega)) (es _ (by omega) (by omega)) (fun c _ => ⟨by rw [es _ (by omega) (by omega)], by rw [es _ (by omega) (by omega)], by rw [es _ (by omega) (by omega)]⟩) (e0 _ (by omega)) (fun q _ _ => er q (by omega) (by omega)), hV2, rM_frame hM (Nat.le_refl _) (es _ (by omega) (by omega)) (es _ (by omega) (by omega)) (es _ (by omega) (by omega)) (es _ (by omega) (by omega)) (es _ (by omega) (by omega)) (es _ (by omega) (by omega)) (fun c _ => ⟨by rw [es _ (by omega) (by omega)], by rw [es _ (by omega) (by omega)], by rw [es _ (by omega) (by omega)]⟩) (e0 _ (by omega)) (e0 _ (by omega)) (er _ (by omega) (by omega)) (er _ (by omega) (by omega)) (er _ (by omega) (by omega)) (er _ (by omega) (by omega)),
    tre_frame hT (fun a _ _ => es a (by omega) (by omega)) (fun a _ _ => es a (by omega) (by omega)) (fun a _ _ => er a (by omega) (by omega)) (er _ (by omega) (by omega)) (er _ (by omega) (by omega)) (es _ (by omega) (by omega)) (es _ (by omega) (by omega)) (es _ (by omega) (by omega)) (es _ (by omega) (by omega)) (es _ (by omega) (by omega)) (e0 _ (by omega)) (e0 _ (by omega)) (e0 _ (by omega)) (e0 _ (by omega)) (e0 _ (by omega)) (er _ (by omega) (by omega)) (er _ (by omega) (by omega)), by rw [es _ (by omega) (by omega), e0 _ (by omega)]; exact h6⟩
theorem sim_any : ag Rel fC_any fR_any := by
  rintro st rt ⟨t, n, p, v, q, k, hD, hO, hP, hV, hM, hT, h6⟩
  exact Rel_P hD hO hV hM hT h6 (any_P hP)
theorem sim_number (x : Int32) : ag Rel (fC_number x) (fR_number x) := by
  rintro st rt ⟨t, n, p, v, q, k, hD, hO, hP, hV, hM, hT, h6⟩
  exact Rel_P hD hO hV hM hT h6 (number_P hP x)
theorem sim_build (x1 x2 x3 : Int32) : ag Rel (fC_build x1 x2 x3) (fR_build x1 x2 x3) := by
  rintro st rt ⟨t, n, p, v, q, k, hD, hO, hP, hV, hM, hT, h6⟩
  exact Rel_P hD hO hV hM hT h6 (build_P hD hP x1 x2 x3)
theorem sim_either (x1 x2 : Int32) : ag Rel (fC_either x1 x2) (fR_either x1 x2) := by
  rintro st rt ⟨t, n, p, v, q, k, hD, hO, hP, hV, hM, hT, h6⟩
  exact Rel_P hD hO hV hM hT h6 (either_P hP x1 x2)
theorem sim_vn (x : Int32) : ag Rel (fC_valueNumber x) (fR_valueNumber x) := by
  rintro st rt ⟨t, n, p, v, q, k, hD, hO, hP, hV, hM, hT, h6⟩
  exact Rel_V hD hO hP hM hT h6 (valueNumber_V hV x)
theorem sim_vo (x1 x2 x3 : Int32) : ag Rel (fC_valueOf x1 x2 x3) (fR_valueOf x1 x2 x3) := by
  rintro st rt ⟨t, n, p, v, q, k, hD, hO, hP, hV, hM, hT, h6⟩
  exact Rel_V hD hO hP hM hT h6 (valueOf_V hD hV x1 x2 x3)
