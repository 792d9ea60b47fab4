/-! row -/
theorem cls_frame {n n2 k : Nat} {s r s2 r2 : ck_S} (h : cls n k s r) (hn : n ≤ n2) (e23 : s2 23 = s 23) (e24 : s2 24 = s 24) (e25 : s2 25 = s 25) (d : ∀ c, c < n → s2 7 c = s 7 c ∧ s2 8 c = s 8 c ∧ s2 9 c = s 9 c) (e4 : s2 4 6 = s 4 6) (f17 : r2 17 = r 17) (f18 : r2 18 = r 18) : cls n2 k s2 r2 := by
  obtain ⟨h1, h2, h3⟩ := h
  refine ⟨by rw [e23]; exact h1, fun c i hc hi1 hi2 => ?_, fun c hc => ?_⟩
  · have := h2 c i hc hi1 hi2
    unfold clOK at this ⊢
    rw [e23, e24, e25, f17, f18]
    rcases this with t | t | ⟨t1, t2, t3, co, t4, t5, t6⟩
    · exact Or.inl t
    · exact Or.inr (Or.inl t)
    · exact Or.inr (Or.inr ⟨t1, t2, t3, co, by omega, t5, by rw [(d co t4).1]; exact t6⟩)
  · have := h3 c hc
    unfold clTy at this ⊢
    rw [e25, f17, f18, e4]
    refine ⟨this.1, fun i hi1 hi2 => ?_⟩
    obtain ⟨t1, t2⟩ := this.2 i hi1 hi2
    refine ⟨fun z => ?_, fun z => ?_⟩
    · obtain ⟨u1, co, u2, u3, u4, u5⟩ := t1 z
      exact ⟨u1, co, by omega, u3, by rw [(d co u2).2.1]; exact u4, by rw [(d co u2).2.1]; exact u5⟩
    · obtain ⟨u1, co, u2, u3, u4, u5⟩ := t2 z
      exact ⟨u1, co, by omega, u3, by rw [(d co u2).2.2]; exact u4, by rw [(d co u2).2.2]; exact u5⟩
def rws (r k : Nat) (fc : Nat → Nat) (st rt : ck_S) : Prop := fc 0 = 0 ∧ fc r = k ∧ (∀ j, j ≤ r → st 21 j = Int32.ofNat (fc j)) ∧ (∀ j, j < r → fc j < fc (j + 1)) ∧ (∀ j c, j < r → fc j ≤ c → c < fc (j + 1) → st 22 c = Int32.ofNat j ∧ rt 15 c = Int32.ofNat j ∧ rt 16 c = Int32.ofNat (c - fc j))
def rM (n r k : Nat) (st rt : ck_S) : Prop := r ≤ 8 ∧ k ≤ 16 ∧ st 4 7 = Int32.ofNat r ∧ rt 0 19 = Int32.ofNat r ∧ st 4 8 = Int32.ofNat k ∧ rt 0 20 = Int32.ofNat k ∧ (st 4 6 = -1 → r = 0) ∧ (∃ fc, rws r k fc st rt) ∧ cls n k st rt
theorem rM_frame {n n2 r k : Nat} {st rt s2 r2 : ck_S} (h : rM n r k st rt) (hn : n ≤ n2) (e4 : s2 4 = st 4) (e21 : s2 21 = st 21) (e22 : s2 22 = st 22) (e23 : s2 23 = st 23) (e24 : s2 24 = st 24) (e25 : s2 25 = st 25) (d : ∀ c, c < n → s2 7 c = st 7 c ∧ s2 8 c = st 8 c ∧ s2 9 c = st 9 c) (r19 : r2 0 19 = rt 0 19) (r20 : r2 0 20 = rt 0 20) (f15 : r2 15 = rt 15) (f16 : r2 16 = rt 16) (f17 : r2 17 = rt 17) (f18 : r2 18 = rt 18) : rM n2 r k s2 r2 := by
  obtain ⟨h1, h2, h3, h4, h5, h6, h7, ⟨fc, h8⟩, h9⟩ := h
  refine ⟨h1, h2, by rw [e4]; exact h3, by rw [r19]; exact h4, by rw [e4]; exact h5, by rw [r20]; exact h6, by rw [e4]; exact h7, ⟨fc, ?_⟩, cls_frame h9 hn e23 e24 e25 d (by rw [e4]) f17 f18⟩
  unfold rws
  rw [e21, e22, f15, f16]
  exact h8
/-- between two alternatives of a new row -/
def jR (n k rw i : Nat) (st rt s r : ck_S) : Prop := (∀ a, (a < 22 ∨ 25 < a) → s a = st a) ∧ (∀ a, 1 ≤ a → (a < 15 ∨ 21 < a) → r a = rt a) ∧ (∀ j, ¬ j = 20 → r 0 j = rt 0 j) ∧ r 0 20 = Int32.ofNat (k + i) ∧ cls n (k + i) s r ∧ (∀ c, c < k → s 22 c = st 22 c ∧ r 15 c = rt 15 c ∧ r 16 c = rt 16 c) ∧ (∀ c, k ≤ c → c < k + i → s 22 c = Int32.ofNat rw ∧ r 15 c = Int32.ofNat rw ∧ r 16 c = Int32.ofNat (c - k))
theorem row_loop {n p q k rw : Nat} {st rt : ck_S} (hP : rP n p st rt) (ho : ∀ c, c < n → ¬ st 7 c = -1 ∧ (st 8 c = -1 → st 9 c = -1)) (hq : q < p) (hf : fit st q (st 4 6)) (hk : k + pch st (Int32.ofNat q) ≤ 16) (hr : rw ≤ 8) (h8 : st 4 8 = Int32.ofNat k) (h19 : rt 0 19 = Int32.ofNat rw) : ∀ (d i m1 m2 : Nat) (s r : ck_S), i + d = pch st (Int32.ofNat q) → d < m1 → d < m2 → jR n k rw i st rt s r →
    ∃ s2 r2, (∀ K, fM_addRow_l40 K m1 (Int32.ofNat q) (Int32.ofNat (pch st (Int32.ofNat q))) (Int32.ofNat rw) (Int32.ofNat i) s = K (Int32.ofNat (pch st (Int32.ofNat q))) (Int32.ofNat rw) s2) ∧ (∀ K, fR_row_l66 K m2 (Int32.ofNat q) (Int32.ofNat i) r = K r2) ∧ jR n k rw (pch st (Int32.ofNat q)) st rt s2 r2 := by
  have hp := hP.1
  obtain ⟨dq, kq, d1, d2, k1, k2, d3, k3, d4, k4, d5, k5, d6, k6⟩ := pat_dc hP hq
  rw [k6] at hk ⊢
  intro d
  induction d with
  | zero =>
    intro i m1 m2 s r hi hm1 hm2 hJ
    obtain ⟨m1, rfl⟩ : ∃ z, m1 = z + 1 := ⟨m1 - 1, by omega⟩
    obtain ⟨m2, rfl⟩ : ∃ z, m2 = z + 1 := ⟨m2 - 1, by omega⟩
    have ei : i = kq := by omega
    subst ei
    refine ⟨s, r, fun K => ?_, fun K => ?_, hJ⟩
    · rw [fM_addRow_l40, if_pos (Int32.le_refl _)]
    · rw [fR_row_l66, ck_gd_ok (by omega) (by omega), ln_at (by omega), hJ.2.1 10 (by omega) (by omega), k4, if_pos (Int32.le_refl _)]
  | succ d ih =>
    intro i m1 m2 s r hi hm1 hm2 hJ
    obtain ⟨m1, rfl⟩ : ∃ z, m1 = z + 1 := ⟨m1 - 1, by omega⟩
    obtain ⟨m2, rfl⟩ : ∃ z, m2 = z + 1 := ⟨m2 - 1, by omega⟩
    obtain ⟨j1, j2, j3, j4, j5, j6, j7⟩ := hJ
    have hps : pS s st := ⟨j1 2 (by omega), fun a _ _ => j1 a (by omega)⟩
    have hPs : rP n p s r := rP_frame hP (Nat.le_refl _) (by rw [j1 2 (by omega)]) (j1 10 (by omega)) (j1 11 (by omega)) (j1 12 (by omega)) (j1 13 (by omega)) (j1 14 (by omega)) (j1 15 (by omega)) (j1 16 (by omega)) (fun c _ => ⟨by rw [j1 7 (by omega)], by rw [j1 8 (by omega)], by rw [j1 9 (by omega)]⟩) (j3 5 (by omega)) (fun a a1 a2 => j2 a (by omega) (by omega))
    -- the class
    have hPu : rP n p (ck_u s 22 (k + i) (Int32.ofNat rw)) r := rP_frame hPs (Nat.le_refl _) rfl rfl rfl rfl rfl rfl rfl rfl (fun _ _ => ⟨rfl, rfl, rfl⟩) rfl (fun _ _ _ => rfl)
    have hpu : pS (ck_u s 22 (k + i) (Int32.ofNat rw)) s := ⟨rfl, fun a _ _ => ck_u_ne (by omega)⟩
    have hpk : pch s (Int32.ofNat q) = kq := by rw [pch_pS hps, k6]
    have hpd : pd s (Int32.ofNat q) = dq := by rw [pd_pS hps, d6]
    have hdp : 2 ^ (dq - 1) ≤ 8 := by
      have : 2 ^ (dq - 1) ≤ 2 ^ 3 := Nat.pow_le_pow_right (by omega) (by omega)
      exact this
    have hlay : fM_layOut (Int32.ofNat (k + i)) (Int32.ofNat q) (Int32.ofNat i) 1 (ck_u s 22 (k + i) (Int32.ofNat rw)) = some (appC (k + i) (wr s 8 (Int32.ofNat q) i 1) (ck_u s 22 (k + i) (Int32.ofNat rw))) := by
      unfold fM_layOut
      have := lay_ev (c := k + i) (by omega) 8 (Int32.ofNat q) i 1 _ hPu (Or.inr ⟨q, hq, rfl⟩) (by rw [pch_pS hpu, hpk]; omega) (by rw [pd_pS hpu, hpd]; omega) (by omega) (fun _ => by rw [pd_pS hpu, hpd]; omega)
      rw [wr_pS hpu] at this
      exact this
    -- the reference
    have hPr : rP n p s (ck_u (ck_u r 15 (k + i) (Int32.ofNat rw)) 16 (k + i) (Int32.ofNat i)) := rP_frame hPs (Nat.le_refl _) rfl rfl rfl rfl rfl rfl rfl rfl (fun _ _ => ⟨rfl, rfl, rfl⟩) rfl (fun a a1 a2 => by rw [ck_u_ne (by omega), ck_u_ne (by omega)])
    have hos : ∀ c, c < n → ¬ s 7 c = -1 ∧ (s 8 c = -1 → s 9 c = -1) := fun c hc => by rw [j1 7 (by omega), j1 8 (by omega), j1 9 (by omega)]; exact ho c hc
    obtain ⟨r2, w1, w2, w3, w4⟩ := wOut_ev hPr hos (c := k + i) (by omega) hq (k := i) (by rw [hpk]; omega)
    have hcl0 : cls n (k + i) s (ck_u (ck_u r 15 (k + i) (Int32.ofNat rw)) 16 (k + i) (Int32.ofNat i)) := cls_frame j5 (Nat.le_refl _) rfl rfl rfl (fun _ _ => ⟨rfl, rfl, rfl⟩) rfl rfl rfl
    have hfs : fit s q (s 4 6) := by
      unfold fit
      rw [j1 11 (by omega), j1 4 (by omega)]
      exact hf
    have hcl := cls_step (v := Int32.ofNat rw) hPr (by omega) hq (k := i) (by rw [hpk]; omega) hfs hcl0 w3 w4
    have hJ2 : jR n k rw (i + 1) st rt (appC (k + i) (wr s 8 (Int32.ofNat q) i 1) (ck_u s 22 (k + i) (Int32.ofNat rw))) (ck_u r2 0 20 (Int32.ofNat (k + i + 1))) := by
      refine ⟨fun a ha => ?_, fun a a1 a2 => ?_, fun j hj => ?_, ck_u_eq, ?_, fun c hc => ⟨?_, ?_, ?_⟩, fun c hc1 hc2 => ?_⟩
      · rw [appC_cell (by omega), ck_u_ne (by omega)]
        exact j1 a ha
      · rw [ck_u_ne (by omega), w2 a (by omega), ck_u_ne (by omega), ck_u_ne (by omega)]
        exact j2 a a1 a2
      · rw [ck_u_nei hj, w2 0 (by omega), ck_u_ne (by omega), ck_u_ne (by omega)]
        exact j3 j hj
      · exact cls_frame hcl (Nat.le_refl _) rfl rfl rfl (fun _ _ => ⟨rfl, rfl, rfl⟩) rfl rfl rfl
      · rw [appC_cell (by omega), ck_u_nei (by omega)]
        exact (j6 c hc).1
      · rw [ck_u_ne (by decide), w2 15 (by omega), ck_u_ne (by decide), ck_u_nei (by omega)]
        exact (j6 c hc).2.1
      · rw [ck_u_ne (by decide), w2 16 (by omega), ck_u_nei (by omega), ck_u_ne (by decide)]
        exact (j6 c hc).2.2
      · by_cases e : c = k + i
        · subst e
          rw [appC_cell (by omega), ck_u_eq, ck_u_ne (by decide), ck_u_ne (by decide), w2 15 (by omega), w2 16 (by omega), ck_u_eq, ck_u_ne (by decide), ck_u_eq, show k + i - k = i by omega]
          exact ⟨rfl, rfl, rfl⟩
        · rw [appC_cell (by omega), ck_u_nei e, ck_u_ne (by decide), ck_u_ne (by decide), w2 15 (by omega), w2 16 (by omega), ck_u_nei e, ck_u_ne (by decide), ck_u_nei e, ck_u_ne (by decide)]
          exact j7 c hc1 (by omega)
    obtain ⟨s9, r9, z1, z2, z3⟩ := ih (i + 1) m1 m2 _ _ (by omega) (by omega) (by omega) hJ2
    refine ⟨s9, r9, fun K => ?_, fun K => ?_, z3⟩
    · rw [fM_addRow_l40, if_neg (fun z => by have := (ln_le (by omega) (by omega)).mp z; omega)]
      rw [show s 4 8 = Int32.ofNat k by rw [j1 4 (by omega)]; exact h8]
      simp (disch := omega) only [ln_add, ck_gd_ok, ln_at, hlay, ck_bv_some, ln_addL]
      exact z1 K
    · rw [fR_row_l66, ck_gd_ok (by omega) (by omega), ln_at (by omega), j2 10 (by omega) (by omega), k4, if_neg (fun z => by have := (ln_le (by omega) (by omega)).mp z; omega)]
      rw [j4, show r 0 19 = Int32.ofNat rw by rw [j3 19 (by omega)]; exact h19]
      have e20 : r2 0 20 = Int32.ofNat (k + i) := by rw [w2 0 (by omega), ck_u_ne (by decide), ck_u_ne (by decide)]; exact j4
      simp (disch := omega) only [ck_gd_ok, ln_at, w1, ck_bv_some, ln_addL, e20]
      exact z2 K
def fcx (fc : Nat → Nat) (r v : Nat) : Nat → Nat := fun j => if j = r + 1 then v else fc j
theorem fcx_e {fc : Nat → Nat} {r v : Nat} : fcx fc r v (r + 1) = v := if_pos rfl
theorem fcx_n {fc : Nat → Nat} {r v j : Nat} (h : ¬ j = r + 1) : fcx fc r v j = fc j := if_neg h
/-- row: both refuse alike, or both add -/
theorem row_M {t n p r k : Nat} {st rt : ck_S} (hD : rD t n st rt) (hO : rO t st rt) (hP : rP n p st rt) (hM : rM n r k st rt) (hT : (st 5 16 = 0 ∨ st 5 16 = 1)) (x : Int32) : (∃ y, fC_row x st = some (y, st) ∧ fR_row x rt = some (y, rt)) ∨
    (∃ y s2 r2 k2, fC_row x st = some (y, s2) ∧ fR_row x rt = some (y, r2) ∧ ¬ st 4 6 = -1 ∧ rM n (r + 1) k2 s2 r2 ∧ (∀ a, ¬ a = 4 → ¬ a = 5 → (a < 21 ∨ 25 < a) → s2 a = st a) ∧ s2 4 6 = st 4 6 ∧ s2 5 16 = 0 ∧ (∀ a, 1 ≤ a → (a < 15 ∨ 21 < a) → r2 a = rt a) ∧ (∀ j, ¬ j = 19 → ¬ j = 20 → ¬ j = 28 → r2 0 j = rt 0 j) ∧ r2 0 28 = 0) := by
  have hp := hP.1
  have hD' := hD
  obtain ⟨w1, w2, w3, w4, w5, w6, w7, w8, w9⟩ := hD'
  obtain ⟨o1, o2⟩ := hO
  have hM' := hM
  obtain ⟨m1, m2, m3, m4, m5, m6, m7, ⟨fc, m8⟩, m9⟩ := hM'
  have ho : ∀ c, c < n → ¬ st 7 c = -1 ∧ (st 8 c = -1 → st 9 c = -1) := fun c hc => by
    obtain ⟨⟨o, _, o2, o3⟩, _, _, a4⟩ := w8 c hc
    exact ⟨by rw [o3]; exact ln_m1 (by omega), a4⟩
  unfold fC_row fR_row fM_typeOver fT_drop
  rcases o2 with o2 | ⟨o, oa, o2⟩
  · refine Or.inl ⟨-12, ?_, ?_⟩ <;> simp only [isBegun_ev, ck_b_some, o1, o2, ↓reduceIte, show ¬ ((0 : Int32) ≤ -1) by decide]
  · have h0 : (0 : Int32) ≤ Int32.ofNat o := ln_ge0 (by omega)
    rcases pat_cases hP x with ⟨q, hq, rfl, c1, c2⟩ | ⟨c1, c2, _⟩
    · obtain ⟨f, f1, f2, f3⟩ := pat_fits hP hq (st 4 6)
      obtain ⟨dq, kq, d1, d2, k1, k2, d3, k3, d4, k4, d5, k5, d6, k6⟩ := pat_dc hP hq
      rw [o2] at f1 f2
      rcases f3 with ⟨rfl, _⟩ | ⟨rfl, hf⟩
      · refine Or.inl ⟨-7, ?_, ?_⟩ <;> simp (disch := omega) only [isBegun_ev, ck_b_some, o1, o2, ↓reduceIte, ln_m1, ln_10, h0, c1, c2, f1, f2]
      · by_cases hr8 : r = 8
        · refine Or.inl ⟨-8, ?_, ?_⟩
          · simp (disch := omega) only [isBegun_ev, ck_b_some, o2, ↓reduceIte, ln_m1, ln_10, c1, f1, fM_addRow, k5, m3, hr8, show ((8 : Int32) ≤ Int32.ofNat 8) by decide]
          · simp (disch := omega) only [ck_b_some, o1, o2, ↓reduceIte, ln_10, h0, c2, f2, m4, hr8, show (Int32.ofNat 8 = 8) by rfl]
        · by_cases hk16 : k + kq ≤ 16
          · right
            have hJ0 : jR n k r 0 st rt st rt := ⟨fun _ _ => rfl, fun _ _ _ => rfl, fun _ _ => rfl, m6, m9, fun _ _ => ⟨rfl, rfl, rfl⟩, fun c z1 z2 => absurd z2 (by omega)⟩
            obtain ⟨s2, r2, z1, z2, z3⟩ := row_loop hP ho hq hf (by rw [k6]; exact hk16) m1 m5 m4 kq 0 4096 4096 st rt (by omega) (by omega) (by omega) hJ0
            rw [k6] at z1 z3
            obtain ⟨j1, j2, j3, j4, j5, j6, j7⟩ := z3
            have e47 : s2 4 7 = Int32.ofNat r := by rw [j1 4 (by omega)]; exact m3
            have e48 : s2 4 8 = Int32.ofNat k := by rw [j1 4 (by omega)]; exact m5
            have e19 : r2 0 19 = Int32.ofNat r := by rw [j3 19 (by omega)]; exact m4
            have hCend : fM_addRow (Int32.ofNat q) st = some (Int32.ofNat r, ck_u (ck_u (ck_u s2 4 8 (Int32.ofNat (k + kq))) 4 7 (Int32.ofNat (r + 1))) 21 (r + 1) (Int32.ofNat (k + kq))) := by
              unfold fM_addRow
              rw [k5, ck_b_some, m3, if_neg (fun z => by have := (ln_le (a := 8) (by omega) (by omega)).mp z; omega), m5, ln_add, if_pos ((ln_leL (by omega) (by omega)).mpr hk16)]
              rw [show (0 : Int32) = Int32.ofNat 0 from rfl, z1]
              show fM_addRow_b80 _ _ _ = _
              unfold fM_addRow_b80
              simp (disch := omega) only [e47, e48, ln_addL, ln_add, ck_gd_ok, ln_at]
            have hRend : fR_row_l66 (fun st => fR_row_b125 st) 4096 (Int32.ofNat q) 0 rt = some (Int32.ofNat r, ck_u (ck_u r2 0 28 0) 0 19 (Int32.ofNat (r + 1))) := by
              rw [show (0 : Int32) = Int32.ofNat 0 from rfl, z2]
              show fR_row_b125 _ = _
              unfold fR_row_b125
              simp (disch := omega) only [e19, ln_addL, ln_subL, Nat.add_sub_cancel]
              rfl
            have hm8 : ¬ Int32.ofNat r = -8 := ln_neg (by omega) (by decide)
            refine ⟨Int32.ofNat r, ck_u (ck_u (ck_u (ck_u s2 4 8 (Int32.ofNat (k + kq))) 4 7 (Int32.ofNat (r + 1))) 21 (r + 1) (Int32.ofNat (k + kq))) 5 16 0, ck_u (ck_u r2 0 28 0) 0 19 (Int32.ofNat (r + 1)), k + kq, ?_, ?_, by rw [o2]; exact ln_m1 (by omega), ?_, ?_, ?_, ?_, ?_, ?_, ?_⟩
            · simp (disch := omega) only [isBegun_ev, ck_b_some, ck_bv_some, o2, ↓reduceIte, ln_m1, ln_10, c1, f1, hCend, hm8]
            · simp (disch := omega) only [ck_b_some, o1, o2, ↓reduceIte, ln_10, h0, c2, f2, m4, ln_eqL, hr8, ck_gd_ok, ln_at, m6, k4, ln_add, ln_leL, hk16, hRend]
            · refine ⟨by omega, hk16, ?_, ck_u_eq, ?_, ?_, ?_, ⟨fcx fc r (k + kq), ?_⟩, ?_⟩
              · rw [ck_u_ne (by decide), ck_u_ne (by decide), ck_u_eq]
              · rw [ck_u_ne (by decide), ck_u_ne (by decide), ck_u_nei (by decide), ck_u_eq]
              · rw [ck_u_nei (by decide), ck_u_nei (by decide)]; exact j4
              · intro z
                rw [ck_u_ne (by decide), ck_u_ne (by decide), ck_u_nei (by decide), ck_u_nei (by decide), j1 4 (by omega), o2] at z
                exact absurd z (ln_m1 (by omega))
              · obtain ⟨a1, a2, a3, a4, a5⟩ := m8
                refine ⟨by rw [fcx_n (by omega)]; exact a1, fcx_e, fun j hj => ?_, fun j hj => ?_, fun j c hj hc1 hc2 => ?_⟩
                · by_cases e : j = r + 1
                  · subst e
                    rw [ck_u_ne (by decide), ck_u_eq, fcx_e]
                  · rw [fcx_n e, ck_u_ne (by decide), ck_u_nei e, ck_u_ne (by decide), ck_u_ne (by decide), j1 21 (by omega)]
                    exact a3 j (by omega)
                · by_cases e : j = r
                  · subst e
                    rw [fcx_n (by omega), fcx_e, a2]
                    omega
                  · rw [fcx_n (by omega), fcx_n (by omega)]
                    exact a4 j (by omega)
                · have q22 : (ck_u (ck_u (ck_u (ck_u s2 4 8 (Int32.ofNat (k + kq))) 4 7 (Int32.ofNat (r + 1))) 21 (r + 1) (Int32.ofNat (k + kq))) 5 16 0) 22 c = s2 22 c := by
                    rw [ck_u_ne (by decide), ck_u_ne (by decide), ck_u_ne (by decide), ck_u_ne (by decide)]
                  have q15 : (ck_u (ck_u r2 0 28 0) 0 19 (Int32.ofNat (r + 1))) 15 c = r2 15 c := by rw [ck_u_ne (by decide), ck_u_ne (by decide)]
                  have q16 : (ck_u (ck_u r2 0 28 0) 0 19 (Int32.ofNat (r + 1))) 16 c = r2 16 c := by rw [ck_u_ne (by decide), ck_u_ne (by decide)]
                  rw [q22, q15, q16]
                  by_cases e : j = r
                  · subst e
                    rw [fcx_n (by omega)] at hc1 ⊢
                    rw [fcx_e] at hc2
                    rw [a2] at hc1 ⊢
                    exact j7 c hc1 hc2
                  · rw [fcx_n (by omega)] at hc1 ⊢
                    rw [fcx_n (by omega)] at hc2
                    have hck : c < k := by
                      have mono : ∀ b, j + 1 ≤ b → b ≤ r → fc (j + 1) ≤ fc b := by
                        intro b hb
                        induction hb with
                        | refl => intro _; exact Nat.le_refl _
                        | step hb ihb =>
                          intro hb2
                          exact Nat.le_trans (ihb (by omega)) (Nat.le_of_lt (a4 _ hb2))
                      have := mono r (by omega) (Nat.le_refl _)
                      omega
                    obtain ⟨b1, b2, b3⟩ := j6 c hck
                    rw [b1, b2, b3]
                    exact a5 j c (by omega) hc1 hc2
              · exact cls_frame j5 (Nat.le_refl _) rfl rfl rfl (fun _ _ => ⟨rfl, rfl, rfl⟩) (by rw [ck_u_ne (by decide), ck_u_ne (by decide), ck_u_nei (by decide), ck_u_nei (by decide)]) rfl rfl
            · intro a a4 a5 ha
              rw [ck_u_ne a5, ck_u_ne (by omega), ck_u_ne a4, ck_u_ne a4]
              exact j1 a (by omega)
            · rw [ck_u_ne (by decide), ck_u_ne (by decide), ck_u_nei (by decide), ck_u_nei (by decide), j1 4 (by omega)]
            · exact ck_u_eq
            · intro a a1 a2
              rw [ck_u_ne (by omega), ck_u_ne (by omega)]
              exact j2 a a1 a2
            · intro j b1 b2 b3
              rw [ck_u_nei b1, ck_u_nei b3]
              exact j3 j b2
            · rw [ck_u_nei (by decide), ck_u_eq]
          · refine Or.inl ⟨-8, ?_, ?_⟩
            · have e1 : ¬ ((8 : Int32) ≤ Int32.ofNat r) := fun z => by have := (ln_le (a := 8) (by omega) (by omega)).mp z; omega
              simp (disch := omega) only [isBegun_ev, ck_b_some, o2, ↓reduceIte, ln_m1, ln_10, c1, f1, fM_addRow, k5, m3, e1, m5, ln_add, ln_leL, hk16]
            · simp (disch := omega) only [ck_b_some, o1, o2, ↓reduceIte, ln_10, h0, c2, f2, m4, ln_eqL, hr8, ck_gd_ok, ln_at, m6, k4, ln_add, ln_leL, hk16]
    · refine Or.inl ⟨-5, ?_, ?_⟩ <;> simp (disch := omega) only [isBegun_ev, ck_b_some, o1, o2, ↓reduceIte, ln_m1, ln_10, h0, c1, c2]
