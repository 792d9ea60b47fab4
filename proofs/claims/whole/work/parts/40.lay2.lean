/-! the class lays an alternative out -/
def isArg (p : Nat) (x : Int32) : Prop := x = -1 ∨ ∃ l, l < p ∧ x = Int32.ofNat l
theorem plain_parts {n p q : Nat} {st rt : ck_S} (h : rP n p st rt) (hq : q < p) (h10 : ¬ st 10 q = 1) (hop : ¬ st 11 q = -1) : isArg q (st 13 q) ∧ isArg q (st 14 q) ∧ pch st (Int32.ofNat q) = pch st (st 13 q) * pch st (st 14 q) ∧ pd st (st 13 q) + 1 ≤ pd st (Int32.ofNat q) ∧ pd st (st 14 q) + 1 ≤ pd st (Int32.ofNat q) ∧ 1 ≤ pd st (Int32.ofNat q) ∧
    ((rt 4 q = 1 ∧ st 11 q = 0 ∧ st 13 q = -1 ∧ st 14 q = -1) ∨ (rt 4 q = 2 ∧ ∃ c, c < n ∧ st 12 q = Int32.ofNat c ∧ st 11 q = st 7 c ∧ partOK st q (st 8 c) (st 13 q) ∧ partOK st q (st 9 c) (st 14 q))) := by
  have hp := h.1
  obtain ⟨d, k, d1, d2, k1, k2, d3, k3, d4, k4, d5, k5, d6, k6⟩ := pat_dc h hq
  obtain ⟨_, _, _, _, w⟩ := h.2.2.2 q hq
  have z0 : pd st (-1) = 0 := by unfold pd; rw [if_pos rfl]
  have z1 : pch st (-1) = 1 := by unfold pch; rw [if_pos rfl]
  rcases w with w | w | w | w
  · exact absurd w.2.2.1 hop
  · obtain ⟨a1, a2, a3, a4, a5, a6, a7⟩ := w
    rw [a6] at d3
    rw [a7] at k3
    have e1 : 1 = d := (ln_eq (a := 1) (by omega) (by omega)).mp d3
    have e2 : 1 = k := (ln_eq (a := 1) (by omega) (by omega)).mp k3
    rw [a4, a5, d6, k6, z0, z1]
    exact ⟨Or.inl rfl, Or.inl rfl, by omega, by omega, by omega, by omega, Or.inl ⟨a1, a3, rfl, rfl⟩⟩
  · obtain ⟨w1, w2, c, w3, w4, w5, w6, w7, w8, w9⟩ := w
    have c1 : isArg q (st 13 q) := w6.or
    have c2 : isArg q (st 14 q) := w7.or
    have l1 := pch_pos h (x := st 13 q) (c1.elim Or.inl (fun ⟨l, a, b⟩ => Or.inr ⟨l, by omega, b⟩))
    have l2 := pch_pos h (x := st 14 q) (c2.elim Or.inl (fun ⟨l, a, b⟩ => Or.inr ⟨l, by omega, b⟩))
    have hm : pch st (st 13 q) * pch st (st 14 q) ≤ 64 := Nat.mul_le_mul l1.2.1 l2.2.1
    rw [d3] at w8
    rw [k3] at w9
    have m1 : pd st (st 13 q) ≤ max (pd st (st 13 q)) (pd st (st 14 q)) := Nat.le_max_left _ _
    have m2 : pd st (st 14 q) ≤ max (pd st (st 13 q)) (pd st (st 14 q)) := Nat.le_max_right _ _
    have m3 : max (pd st (st 13 q)) (pd st (st 14 q)) ≤ 4 := Nat.max_le.mpr ⟨l1.2.2, l2.2.2⟩
    have e8 := (ln_eq (by omega) (by omega)).mp w8
    have e9 := (ln_eq (by omega) (by omega)).mp w9
    rw [d6, k6]
    exact ⟨c1, c2, e9, by omega, by omega, by omega, Or.inr ⟨w1, c, w3, w4, w5, w6, w7⟩⟩
  · exact absurd w.2.1 h10
theorem pow_le16 {j d : Nat} (hd : 1 ≤ d) (h : (j + 1) * 2 ^ (d - 1) ≤ 16) : j ≤ 15 := by
  have h1 : 1 ≤ 2 ^ (d - 1) := Nat.one_le_two_pow
  have h2 : (j + 1) * 1 ≤ (j + 1) * 2 ^ (d - 1) := Nat.mul_le_mul_left _ h1
  omega
theorem pow_child {j d d2 : Nat} (hd2 : 1 ≤ d2) (h2 : d2 + 1 ≤ d) (h : (j + 1) * 2 ^ (d - 1) ≤ 16) : (2 * j + 1 + 1) * 2 ^ (d2 - 1) ≤ 16 ∧ (2 * j + 1) * 2 ^ (d2 - 1) ≤ 16 := by
  have e : 2 ^ (d - 1) = 2 * 2 ^ (d - 2) := by
    rw [show d - 1 = (d - 2) + 1 by omega, Nat.pow_succ, Nat.mul_comm]
  have h1 : 2 ^ (d2 - 1) ≤ 2 ^ (d - 2) := Nat.pow_le_pow_right (by omega) (by omega)
  have a : (2 * j + 1 + 1) * 2 ^ (d2 - 1) ≤ (2 * j + 1 + 1) * 2 ^ (d - 2) := Nat.mul_le_mul_left _ h1
  have b : (2 * j + 1) * 2 ^ (d2 - 1) ≤ (2 * j + 1 + 1) * 2 ^ (d2 - 1) := Nat.mul_le_mul_right _ (by omega)
  rw [e] at h
  have c : (2 * j + 1 + 1) * 2 ^ (d - 2) = (j + 1) * (2 * 2 ^ (d - 2)) := by
    rw [← Nat.mul_assoc, show (j + 1) * 2 = 2 * j + 1 + 1 by omega]
  omega
theorem ln_divL {a b : Nat} (ha : a < 2147483648) (hb : b < 2147483648) : Int32.ofNat a / Int32.ofNat b = Int32.ofNat (a / b) := (Int32.ofNat_div ha hb).symm
theorem ln_rem {a b : Nat} (ha : a < 2147483648) (hb : b < 2147483648) : Int32.ofNat a - Int32.ofNat a / Int32.ofNat b * Int32.ofNat b = Int32.ofNat (a % b) := by
  rw [ln_divL ha hb, ln_mul, ln_sub (Nat.div_mul_le_self a b)]
  congr 1
  have := Nat.div_add_mod a b
  rw [Nat.mul_comm] at this
  omega
theorem arg_at {n p : Nat} {s rt : ck_S} (h : rP n p s rt) {q : Nat} (hq : q < p) : fP_firstOf (Int32.ofNat q) s = some (s 13 q, s) ∧ fP_secondOf (Int32.ofNat q) s = some (s 14 q, s) ∧ fP_symbolOf (Int32.ofNat q) s = some (s 12 q, s) ∧ fP_itsType (Int32.ofNat q) s = some (s 11 q, s) := by
  have hp := h.1
  have hh := (pat_has h hq).1
  unfold fP_firstOf fP_secondOf fP_symbolOf fP_itsType
  refine ⟨?_, ?_, ?_, ?_⟩ <;> simp (disch := omega) only [hh, ck_b_some, ln_10, ↓reduceIte, ck_gd_ok, ln_at]
theorem choices_arg {n p : Nat} {s rt : ck_S} (h : rP n p s rt) {x : Int32} (hx : isArg p x) : fP_choicesOf x s = some (Int32.ofNat (pch s x), s) := by
  rcases hx with rfl | ⟨l, hl, rfl⟩
  · unfold fP_choicesOf pch
    simp only [has_m1, ck_b_some, ↓reduceIte]
    rfl
  · obtain ⟨d, k, d1, d2, k1, k2, d3, k3, d4, k4, d5, k5, d6, k6⟩ := pat_dc h hl
    rw [k5, k6]
theorem isArg_le {a b : Nat} {x : Int32} (h : isArg a x) (hab : a ≤ b) : isArg b x := h.elim Or.inl (fun ⟨l, h1, h2⟩ => Or.inr ⟨l, by omega, h2⟩)
theorem lay_ev {n p c : Nat} {rt : ck_S} (hc : c < 16) : ∀ (lev : Nat) (x : Int32) (k j : Nat) (s : ck_S), rP n p s rt → isArg p x → k < pch s x → pd s x < lev → j < 32 → (1 ≤ pd s x → (j + 1) * 2 ^ (pd s x - 1) ≤ 16) → fM_layOut_r lev (Int32.ofNat c) x (Int32.ofNat k) (Int32.ofNat j) s = some (appC c (wr s lev x k j) s)
  | 0, x, k, j, s, _, _, _, hd, _, _ => absurd hd (by omega)
  | lev + 1, x, k, j, s, h, hx, hk, hd, hj, hw => by
    have hp := h.1
    show fM_layOut_s (fM_layOut_r lev) (Int32.ofNat c) x (Int32.ofNat k) (Int32.ofNat j) s = _
    unfold fM_layOut_s wr
    rcases hx with rfl | ⟨q, hq, rfl⟩
    · rw [l9_abs, res_abs]
      rw [if_pos (Or.inl rfl)]
      unfold fM_layOut_b111
      simp only [has_m1, ck_b_some, ↓reduceIte]
      split <;> rfl
    · have hcq := pch_pos h (x := Int32.ofNat q) (Or.inr ⟨q, hq, rfl⟩)
      rw [show (0 : Int32) = Int32.ofNat 0 from rfl, l9_ev h _ _ 60 q k 0 4096 (by omega) hq hk (by omega) (by omega)]
      obtain ⟨q2, k2, a1, a2, a3, a4, a5, a6⟩ := res_ok h 60 q k (by omega) hq hk
      rw [a1]
      simp only
      have hq2 : q2 < p := by omega
      rw [ln_at (by omega)]
      obtain ⟨dd, kk, e1, e2, e3, e4, e5, e6, e7, e8, e9, e10, e11, e12⟩ := pat_dc h hq
      have hj16 : j ≤ 15 := pow_le16 (by omega) (hw (by omega))
      unfold fM_layOut_b111
      rw [if_neg (fun z => by have := (ln_le (a := 16) (by omega) (by omega)).mp z; omega), (pat_has h hq2).1, ck_b_some, if_neg (by decide), pat_open h hq2, ck_b_some]
      by_cases hop : s 11 q2 = -1
      · simp only [hop, ↓reduceIte, ln_10, or_true]
        rfl
      · have hno : ¬ (Int32.ofNat q2 = -1 ∨ s 11 q2 = -1) := fun z => z.elim (ln_m1 (by omega)) hop
        rw [if_neg hno]
        simp only [hop, ↓reduceIte]
        obtain ⟨p1, p2, p3, p4, p5, p6, p7⟩ := plain_parts h hq2 a3 hop
        have hk2s : k2 ≤ 8 := by
          have := pch_pos h (x := Int32.ofNat q2) (Or.inr ⟨q2, hq2, rfl⟩)
          omega
        have hs1 : rP n p (ck_u s 23 j (s 23 j ||| ((1 : Int32) <<< (Int32.ofNat c &&& 31)))) rt := rP_frame h (Nat.le_refl _) rfl rfl rfl rfl rfl rfl rfl rfl (fun _ _ => ⟨rfl, rfl, rfl⟩) rfl (fun _ _ _ => rfl)
        have hs2 : ∀ v, rP n p (ck_u (ck_u s 23 j (s 23 j ||| ((1 : Int32) <<< (Int32.ofNat c &&& 31)))) 24 (j * 16 + c) v) rt := fun v => rP_frame h (Nat.le_refl _) rfl rfl rfl rfl rfl rfl rfl rfl (fun _ _ => ⟨rfl, rfl, rfl⟩) rfl (fun _ _ _ => rfl)
        have hs3 : rP n p (wC c (j, q2) s) rt := appC_rP h [(j, q2)]
        have g2 := (arg_at hs1 hq2).2.2.1
        have g3 := (arg_at (hs2 (s 12 q2)) hq2).2.2.2
        have g4 := (arg_at hs3 hq2).2.1
        have g5 := (arg_at hs3 hq2).1
        have hw13 : wC c (j, q2) s 13 = s 13 := wC_cell (by omega)
        have hw14 : wC c (j, q2) s 14 = s 14 := wC_cell (by omega)
        have hps : pS (wC c (j, q2) s) s := appC_pS [(j, q2)] s
        have g6 : fP_choicesOf (s 14 q2) (wC c (j, q2) s) = some (Int32.ofNat (pch s (s 14 q2)), wC c (j, q2) s) := by
          rw [choices_arg hs3 (isArg_le p2 (by omega)), pch_pS hps]
        have b14 := pch_pos h (x := s 14 q2) (isArg_le p2 (by omega))
        have b13 := pch_pos h (x := s 13 q2) (isArg_le p1 (by omega))
        simp (disch := omega) only [ck_gd_ok, ln_at, ln_mulL, ln_add, g2, ck_b_some]
        rw [show (ck_u s 23 j (s 23 j ||| ((1 : Int32) <<< (Int32.ofNat c &&& 31)))) 12 q2 = s 12 q2 from rfl, g3, ck_b_some]
        rw [show (ck_u (ck_u s 23 j (s 23 j ||| ((1 : Int32) <<< (Int32.ofNat c &&& 31)))) 24 (j * 16 + c) (s 12 q2)) 11 q2 = s 11 q2 from rfl]
        rw [show ck_u (ck_u (ck_u s 23 j (s 23 j ||| ((1 : Int32) <<< (Int32.ofNat c &&& 31)))) 24 (j * 16 + c) (s 12 q2)) 25 (j * 16 + c) (s 11 q2) = wC c (j, q2) s from rfl]
        rw [g4, ck_b_some, hw14, g6, ck_b_some, g5, ck_b_some, hw13]
        rw [ck_dz_ok (fun z => by have := (ln_eq (b := 0) (by omega) (by omega)).mp z; omega), ln_divL (by omega) (by omega)]
        rw [show (2 : Int32) * Int32.ofNat j = Int32.ofNat (2 * j) from ln_Lmul 2 j]
        have hk2a : k2 / pch s (s 14 q2) < pch s (s 13 q2) := by
          rw [Nat.div_lt_iff_lt_mul (by omega)]
          omega
        have hk2b : k2 % pch s (s 14 q2) < pch s (s 14 q2) := Nat.mod_lt _ (by omega)
        have i1 := lay_ev hc lev (s 13 q2) (k2 / pch s (s 14 q2)) (2 * j) (wC c (j, q2) s) hs3 (isArg_le p1 (by omega)) (by rw [pch_pS hps]; exact hk2a) (by rw [pd_pS hps]; omega) (by omega) (fun z => by
          rw [pd_pS hps] at z ⊢
          exact (pow_child z (by omega : pd s (s 13 q2) + 1 ≤ pd s (Int32.ofNat q)) (hw (by omega))).2)
        rw [i1, ck_bv_some]
        have hs4 := appC_rP (c := c) hs3 (wr (wC c (j, q2) s) lev (s 13 q2) (k2 / pch s (s 14 q2)) (2 * j))
        have hps4 := appC_pS (c := c) (wr (wC c (j, q2) s) lev (s 13 q2) (k2 / pch s (s 14 q2)) (2 * j)) (wC c (j, q2) s)
        generalize hgs : appC c (wr (wC c (j, q2) s) lev (s 13 q2) (k2 / pch s (s 14 q2)) (2 * j)) (wC c (j, q2) s) = s4 at hs4 hps4 ⊢
        have g7 := (arg_at hs4 hq2).2.1
        have hw14' : s4 14 = s 14 := by rw [hps4.2 14 (by omega) (by omega)]; exact hw14
        have hps5 : pS s4 s := ⟨by rw [hps4.1, hps.1], fun q z1 z2 => by rw [hps4.2 q z1 z2, hps.2 q z1 z2]⟩
        rw [g7, ck_b_some, hw14', ck_dz_ok (fun z => by have := (ln_eq (b := 0) (by omega) (by omega)).mp z; omega), ← ln_divL (by omega) (by omega), ln_rem (by omega) (by omega)]
        rw [show Int32.ofNat (2 * j) + 1 = Int32.ofNat (2 * j + 1) from ln_addL (2 * j) 1]
        have i2 := lay_ev hc lev (s 14 q2) (k2 % pch s (s 14 q2)) (2 * j + 1) s4 hs4 (isArg_le p2 (by omega)) (by rw [pch_pS hps5]; exact hk2b) (by rw [pd_pS hps5]; omega) (by omega) (fun z => by
          rw [pd_pS hps5] at z ⊢
          exact (pow_child z (by omega : pd s (s 14 q2) + 1 ≤ pd s (Int32.ofNat q)) (hw (by omega))).1)
        rw [i2, ck_bv_some]
        congr 1
        rw [← hgs, wr_pS hps]
        show _ = appC c (wr s lev (s 13 q2) (k2 / pch s (s 14 q2)) (2 * j) ++ wr s lev (s 14 q2) (k2 % pch s (s 14 q2)) (2 * j + 1)) (wC c (j, q2) s)
        rw [appC_app]
        congr 1
        rw [hgs.symm] at hps5
        rw [wr_pS hps] at hps5
        exact wr_pS hps5 _ _ _ _
