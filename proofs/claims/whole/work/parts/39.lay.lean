/-! rows: what an alternative of a pattern asks -/
def pS (s st : ck_S) : Prop := s 2 = st 2 ∧ ∀ q, 7 ≤ q → q ≤ 16 → s q = st q
def res (st : ck_S) : Nat → Int32 → Nat → Int32 × Nat
  | 0, x, k => (x, k)
  | f + 1, x, k => if x = -1 then (x, k) else if st 10 x.toNatClampNeg = 1 then (if k < pch st (st 13 x.toNatClampNeg) then res st f (st 13 x.toNatClampNeg) k else res st f (st 14 x.toNatClampNeg) (k - pch st (st 13 x.toNatClampNeg))) else (x, k)
def wr (st : ck_S) : Nat → Int32 → Nat → Nat → List (Nat × Nat)
  | 0, _, _, _ => []
  | f + 1, x, k, j => if (res st 60 x k).1 = -1 ∨ st 11 (res st 60 x k).1.toNatClampNeg = -1 then [] else
      (j, (res st 60 x k).1.toNatClampNeg) :: (wr st f (st 13 (res st 60 x k).1.toNatClampNeg) ((res st 60 x k).2 / pch st (st 14 (res st 60 x k).1.toNatClampNeg)) (2 * j) ++ wr st f (st 14 (res st 60 x k).1.toNatClampNeg) ((res st 60 x k).2 % pch st (st 14 (res st 60 x k).1.toNatClampNeg)) (2 * j + 1))
theorem pch_pS {s st : ck_S} (h : pS s st) (x : Int32) : pch s x = pch st x := by
  unfold pch
  rw [h.2 16 (by omega) (by omega)]
theorem pd_pS {s st : ck_S} (h : pS s st) (x : Int32) : pd s x = pd st x := by
  unfold pd
  rw [h.2 15 (by omega) (by omega)]
theorem res_pS {s st : ck_S} (h : pS s st) : ∀ f x k, res s f x k = res st f x k
  | 0, _, _ => rfl
  | f + 1, x, k => by
    unfold res
    rw [h.2 10 (by omega) (by omega), h.2 13 (by omega) (by omega), h.2 14 (by omega) (by omega), pch_pS h, res_pS h f, res_pS h f]
theorem wr_pS {s st : ck_S} (h : pS s st) : ∀ f x k j, wr s f x k j = wr st f x k j
  | 0, _, _, _ => rfl
  | f + 1, x, k, j => by
    unfold wr
    rw [res_pS h, h.2 11 (by omega) (by omega), h.2 13 (by omega) (by omega), h.2 14 (by omega) (by omega), pch_pS h, wr_pS h f, wr_pS h f]
/-- a pattern's number of alternatives and depth, in naturals -/
theorem pch_pos {n p : Nat} {st rt : ck_S} (h : rP n p st rt) {x : Int32} (hx : x = -1 ∨ ∃ l, l < p ∧ x = Int32.ofNat l) : 1 ≤ pch st x ∧ pch st x ≤ 8 ∧ pd st x ≤ 4 := by
  rcases hx with rfl | ⟨l, hl, rfl⟩
  · unfold pch pd
    rw [if_pos rfl, if_pos rfl]
    omega
  · obtain ⟨d, k, d1, d2, k1, k2, d3, k3, d4, k4, d5, k5, d6, k6⟩ := pat_dc h hl
    rw [d6, k6]
    omega
def fit (st : ck_S) (q : Nat) (w : Int32) : Prop := st 11 q = -1 ∨ st 11 q = w
/-- an EITHER, taken apart -/
theorem either_parts {n p q : Nat} {st rt : ck_S} (h : rP n p st rt) (hq : q < p) (he : st 10 q = 1) : ∃ l r, l < q ∧ r < q ∧ st 13 q = Int32.ofNat l ∧ st 14 q = Int32.ofNat r ∧ pch st (Int32.ofNat q) = pch st (Int32.ofNat l) + pch st (Int32.ofNat r) ∧ pd st (Int32.ofNat l) ≤ pd st (Int32.ofNat q) ∧ pd st (Int32.ofNat r) ≤ pd st (Int32.ofNat q) ∧ 1 ≤ pch st (Int32.ofNat l) ∧ 1 ≤ pch st (Int32.ofNat r) ∧ rt 4 q = 3 ∧ (∀ w, fit st q w → fit st l w ∧ fit st r w) := by
  have hp := h.1
  obtain ⟨d, k, d1, d2, k1, k2, d3, k3, d4, k4, d5, k5, d6, k6⟩ := pat_dc h hq
  obtain ⟨_, _, _, _, w⟩ := h.2.2.2 q hq
  rcases w with w | w | w | w
  · rw [w.2.1] at he; exact absurd he (by decide)
  · rw [w.2.1] at he; exact absurd he (by decide)
  · rw [w.2.1] at he; exact absurd he (by decide)
  · obtain ⟨w1, w2, l, r, w3, w4, w5, w6, w7, w8, w9, w10⟩ := w
    have cl := pch_pos h (x := Int32.ofNat l) (Or.inr ⟨l, by omega, rfl⟩)
    have cr := pch_pos h (x := Int32.ofNat r) (Or.inr ⟨r, by omega, rfl⟩)
    rw [w5, w6] at w7 w8
    rw [d3] at w7
    rw [k3] at w8
    have e7 := (ln_eq (by omega) (by omega)).mp w7
    have e8 := (ln_eq (by omega) (by omega)).mp w8
    refine ⟨l, r, w3, w4, w5, w6, by rw [k6]; exact e8, by rw [d6, e7]; exact Nat.le_max_left _ _, by rw [d6, e7]; exact Nat.le_max_right _ _, cl.1, cr.1, w1, fun w hw => ?_⟩
    unfold fit at hw ⊢
    rw [w9] at hw
    by_cases z : st 11 l = -1
    · rw [if_pos z] at hw
      exact ⟨Or.inl z, hw⟩
    · rw [if_neg z] at hw
      have hl : st 11 l = w := hw.elim (fun q => absurd q z) id
      refine ⟨Or.inr hl, ?_⟩
      rcases w10 with w10 | w10 | w10
      · exact absurd w10 z
      · exact Or.inl w10
      · exact Or.inr (by rw [← w10]; exact hl)
theorem res_ok {n p : Nat} {st rt : ck_S} (h : rP n p st rt) : ∀ (f q k : Nat), q < f → q < p → k < pch st (Int32.ofNat q) → ∃ q2 k2, res st f (Int32.ofNat q) k = (Int32.ofNat q2, k2) ∧ q2 ≤ q ∧ ¬ st 10 q2 = 1 ∧ k2 < pch st (Int32.ofNat q2) ∧ pd st (Int32.ofNat q2) ≤ pd st (Int32.ofNat q) ∧ (∀ w, fit st q w → fit st q2 w)
  | 0, q, k, hq, _, _ => absurd hq (by omega)
  | f + 1, q, k, hq, hqp, hk => by
    have hp := h.1
    unfold res
    rw [if_neg (ln_m1 (by omega)), ln_at (by omega)]
    by_cases he : st 10 q = 1
    · rw [if_pos he]
      obtain ⟨l, r, w3, w4, w5, w6, w7, w8, w9, w10, w11, w12, w13⟩ := either_parts h hqp he
      rw [w5, w6]
      by_cases z : k < pch st (Int32.ofNat l)
      · rw [if_pos z]
        obtain ⟨q2, k2, a1, a2, a3, a4, a5, a6⟩ := res_ok h f l k (by omega) (by omega) z
        exact ⟨q2, k2, a1, by omega, a3, a4, by omega, fun w hw => a6 w (w13 w hw).1⟩
      · rw [if_neg z]
        obtain ⟨q2, k2, a1, a2, a3, a4, a5, a6⟩ := res_ok h f r (k - pch st (Int32.ofNat l)) (by omega) (by omega) (by omega)
        exact ⟨q2, k2, a1, by omega, a3, a4, by omega, fun w hw => a6 w (w13 w hw).2⟩
    · rw [if_neg he]
      exact ⟨q, k, rfl, Nat.le_refl _, he, hk, Nat.le_refl _, fun _ hw => hw⟩
theorem res_abs {st : ck_S} : ∀ f k, res st f (-1) k = (-1, k)
  | 0, _ => rfl
  | f + 1, k => by unfold res; rw [if_pos rfl]
/-- enough steps are enough -/
theorem res_more {n p : Nat} {st rt : ck_S} (h : rP n p st rt) : ∀ (f g q k : Nat), q < f → q < g → q < p → res st f (Int32.ofNat q) k = res st g (Int32.ofNat q) k
  | 0, g, q, k, hq, _, _ => absurd hq (by omega)
  | f + 1, 0, q, k, _, hq, _ => absurd hq (by omega)
  | f + 1, g + 1, q, k, h1, h2, hqp => by
    have hp := h.1
    unfold res
    rw [if_neg (ln_m1 (by omega)), ln_at (by omega)]
    by_cases he : st 10 q = 1
    · obtain ⟨l, r, w3, w4, w5, w6, w7, w8, w9, w10, w11, w12, w13⟩ := either_parts h hqp he
      rw [if_pos he, if_pos he, w5, w6, res_more h f g l k (by omega) (by omega) (by omega), res_more h f g r _ (by omega) (by omega) (by omega), if_neg (ln_m1 (by omega))]
    · rw [if_neg he, if_neg he, if_neg (ln_m1 (by omega))]
theorem has_m1 (st : ck_S) : fP_has (-1) st = some (0, st) := by
  unfold fP_has
  simp only [ln_m1', ↓reduceIte]
/-- the class's loop through the EITHERs -/
theorem l9_ev {n p c j : Nat} {s rt : ck_S} (h : rP n p s rt) (fr : Int32 → Int32 → Int32 → Int32 → ck_S → Option ck_S) (K : Int32 → Int32 → Int32 → Int32 → ck_S → Option ck_S) : ∀ (f q k i m : Nat), q < f → q < p → k < pch s (Int32.ofNat q) → i + pch s (Int32.ofNat q) ≤ 8 → 8 < m + i → fM_layOut_l9 fr K m (Int32.ofNat c) (Int32.ofNat j) (Int32.ofNat q) (Int32.ofNat k) (Int32.ofNat i) s = K (Int32.ofNat c) (Int32.ofNat j) (res s f (Int32.ofNat q) k).1 (Int32.ofNat (res s f (Int32.ofNat q) k).2) s
  | 0, q, k, i, m, hq, _, _, _, _ => absurd hq (by omega)
  | f + 1, q, k, i, m, hq, hqp, hk, hi, hm => by
    have hp := h.1
    have hc := pch_pos h (x := Int32.ofNat q) (Or.inr ⟨q, hqp, rfl⟩)
    obtain ⟨m, rfl⟩ : ∃ z, m = z + 1 := ⟨m - 1, by omega⟩
    have hh := (pat_has h hqp).1
    have he1 : fP_isEither (Int32.ofNat q) s = some (if s 10 q = 0 then 0 else 1, s) := by
      unfold fP_isEither
      simp (disch := omega) only [hh, ck_b_some, ln_10, ↓reduceIte, ck_gd_ok, ln_at]
      split <;> rfl
    rw [fM_layOut_l9, if_neg (fun z => by have := (ln_le (a := 8) (by omega) (by omega)).mp z; omega), he1, ck_b_some]
    unfold res
    rw [if_neg (ln_m1 (by omega)), ln_at (by omega)]
    by_cases he : s 10 q = 1
    · obtain ⟨l, r, w3, w4, w5, w6, w7, w8, w9, w10, w11, w12, w13⟩ := either_parts h hqp he
      have hf1 : fP_firstOf (Int32.ofNat q) s = some (Int32.ofNat l, s) := by
        unfold fP_firstOf
        simp (disch := omega) only [hh, ck_b_some, ln_10, ↓reduceIte, ck_gd_ok, ln_at, w5]
      have hf2 : fP_secondOf (Int32.ofNat q) s = some (Int32.ofNat r, s) := by
        unfold fP_secondOf
        simp (disch := omega) only [hh, ck_b_some, ln_10, ↓reduceIte, ck_gd_ok, ln_at, w6]
      obtain ⟨d, kl, d1, d2, k1, k2, d3, k3, d4, k4, d5, k5, d6, k6⟩ := pat_dc h (i := l) (by omega)
      rw [k6] at w7
      simp only [he, ↓reduceIte, show ¬ ((1 : Int32) = 0) by decide, hf1, ck_b_some, k5, w5, w6, k6]
      by_cases z : k < kl
      · rw [if_neg (mt (ln_le (by omega) (by omega)).mp (by omega)), if_pos z]
        unfold fM_layOut_b58 fM_layOut_b75
        simp only [↓reduceIte, show ¬ ((1 : Int32) = 0) by decide, hf1, ck_b_some]
        rw [show Int32.ofNat i + 1 = Int32.ofNat (i + 1) from ln_addL i 1]
        exact l9_ev h fr K f l k (i + 1) m (by omega) (by omega) (by omega) (by omega) (by omega)
      · rw [if_pos ((ln_le (by omega) (by omega)).mpr (by omega)), if_neg z]
        unfold fM_layOut_b58 fM_layOut_b75
        simp (disch := omega) only [↓reduceIte, hf2, ck_b_some, ln_sub]
        rw [show Int32.ofNat i + 1 = Int32.ofNat (i + 1) from ln_addL i 1]
        exact l9_ev h fr K f r (k - kl) (i + 1) m (by omega) (by omega) (by omega) (by omega) (by omega)
    · have h0 : s 10 q = 0 := by
        obtain ⟨_, _, _, _, w⟩ := h.2.2.2 q hqp
        rcases w with w | w | w | w
        · exact w.2.1
        · exact w.2.1
        · exact w.2.1
        · exact absurd w.2.1 he
      rw [if_neg he]
      simp only [h0, ↓reduceIte]
theorem l9_abs {s : ck_S} (fr : Int32 → Int32 → Int32 → Int32 → ck_S → Option ck_S) (K : Int32 → Int32 → Int32 → Int32 → ck_S → Option ck_S) (x1 x4 x6 : Int32) : fM_layOut_l9 fr K 4096 x1 x4 (-1) x6 0 s = K x1 x4 (-1) x6 s := by
  rw [show (4096 : Nat) = 4095 + 1 from rfl, fM_layOut_l9, if_neg (by decide)]
  unfold fP_isEither
  simp only [has_m1, ck_b_some, ↓reduceIte]
def wC (c : Nat) (e : Nat × Nat) (s : ck_S) : ck_S := ck_u (ck_u (ck_u s 23 e.1 (s 23 e.1 ||| ((1 : Int32) <<< (Int32.ofNat c &&& 31)))) 24 (e.1 * 16 + c) (s 12 e.2)) 25 (e.1 * 16 + c) (s 11 e.2)
def appC (c : Nat) (L : List (Nat × Nat)) (s : ck_S) : ck_S := L.foldl (fun s e => wC c e s) s
theorem wC_cell {c : Nat} {e : Nat × Nat} {s : ck_S} {q : Nat} (h : q < 23 ∨ 25 < q) : wC c e s q = s q := by
  have a : ¬ q = 23 := by omega
  have b : ¬ q = 24 := by omega
  have d : ¬ q = 25 := by omega
  simp [wC, ck_u, a, b, d]
theorem appC_cell {c : Nat} {q : Nat} (h : q < 23 ∨ 25 < q) : ∀ (L : List (Nat × Nat)) (s : ck_S), appC c L s q = s q
  | [], _ => rfl
  | e :: L, s => by
    show appC c L (wC c e s) q = s q
    rw [appC_cell h L, wC_cell h]
theorem appC_pS {c : Nat} (L : List (Nat × Nat)) (s : ck_S) : pS (appC c L s) s := ⟨appC_cell (by omega) L s, fun q h1 h2 => appC_cell (by omega) L s⟩
theorem appC_rP {n p c : Nat} {s rt : ck_S} (h : rP n p s rt) (L : List (Nat × Nat)) : rP n p (appC c L s) rt := rP_frame h (Nat.le_refl _) (by rw [appC_cell (by omega)]) (appC_cell (by omega) L s) (appC_cell (by omega) L s) (appC_cell (by omega) L s) (appC_cell (by omega) L s) (appC_cell (by omega) L s) (appC_cell (by omega) L s) (appC_cell (by omega) L s) (fun c _ => ⟨by rw [appC_cell (by omega)], by rw [appC_cell (by omega)], by rw [appC_cell (by omega)]⟩) rfl (fun _ _ _ => rfl)
theorem appC_app {c : Nat} (L M : List (Nat × Nat)) (s : ck_S) : appC c (L ++ M) s = appC c M (appC c L s) := List.foldl_append
