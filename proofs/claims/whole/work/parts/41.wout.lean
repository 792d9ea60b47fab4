/-! the reference writes an alternative out -/
def wrR (st : ck_S) : Nat → Int32 → Nat → Nat → List (Nat × Nat)
  | 0, _, _, _ => []
  | f + 1, x, k, j => if (res st 60 x k).1 = -1 ∨ st 11 (res st 60 x k).1.toNatClampNeg = -1 then [] else
      (j, (res st 60 x k).1.toNatClampNeg) :: (wrR st f (st 14 (res st 60 x k).1.toNatClampNeg) ((res st 60 x k).2 % pch st (st 14 (res st 60 x k).1.toNatClampNeg)) (2 * j + 1) ++ wrR st f (st 13 (res st 60 x k).1.toNatClampNeg) ((res st 60 x k).2 / pch st (st 14 (res st 60 x k).1.toNatClampNeg)) (2 * j))
theorem wrR_mem {st : ck_S} {e : Nat × Nat} : ∀ (f : Nat) (x : Int32) (k j : Nat), e ∈ wrR st f x k j ↔ e ∈ wr st f x k j
  | 0, _, _, _ => Iff.rfl
  | f + 1, x, k, j => by
    unfold wrR wr
    split
    · exact Iff.rfl
    · rw [List.mem_cons, List.mem_cons, List.mem_append, List.mem_append, wrR_mem f, wrR_mem f, or_comm (a := e ∈ wr st f _ _ (2 * j + 1))]
theorem wrR_abs {st : ck_S} (f k j : Nat) : wrR st f (-1) k j = [] := by
  cases f with
  | zero => rfl
  | succ f => unfold wrR; rw [res_abs, if_pos (Or.inl rfl)]
theorem wrR_more {n p : Nat} {st rt : ck_S} (h : rP n p st rt) : ∀ (f g : Nat) (x : Int32) (k j : Nat), isArg p x → k < pch st x → pd st x < f → pd st x < g → wrR st f x k j = wrR st g x k j
  | 0, _, _, _, _, _, _, hd, _ => absurd hd (by omega)
  | f + 1, 0, _, _, _, _, _, _, hd => absurd hd (by omega)
  | f + 1, g + 1, x, k, j, hx, hk, h1, h2 => by
    have hp := h.1
    rcases hx with rfl | ⟨q, hq, rfl⟩
    · rw [wrR_abs, wrR_abs]
    · obtain ⟨q2, k2, a1, a2, a3, a4, a5, a6⟩ := res_ok h 60 q k (by omega) hq hk
      unfold wrR
      rw [a1]
      simp only
      rw [ln_at (by omega)]
      by_cases hop : st 11 q2 = -1
      · rw [if_pos (Or.inr hop), if_pos (Or.inr hop)]
      · obtain ⟨p1, p2, p3, p4, p5, p6, p7⟩ := plain_parts h (by omega) a3 hop
        have b14 := pch_pos h (x := st 14 q2) (isArg_le p2 (by omega))
        have hno : ¬ (Int32.ofNat q2 = -1 ∨ st 11 q2 = -1) := fun z => z.elim (ln_m1 (by omega)) hop
        rw [if_neg hno, if_neg hno]
        rw [wrR_more h f g (st 14 q2) _ _ (isArg_le p2 (by omega)) (Nat.mod_lt _ (by omega)) (by omega) (by omega), wrR_more h f g (st 13 q2) _ _ (isArg_le p1 (by omega)) (by rw [Nat.div_lt_iff_lt_mul (by omega)]; omega) (by omega) (by omega)]
theorem wrR_res {st : ck_S} {f k k2 j : Nat} {x y : Int32} (z : res st 60 x k = res st 60 y k2) : wrR st (f + 1) x k j = wrR st (f + 1) y k2 j := by
  simp only [wrR, z]
theorem res_plain {st : ck_S} {q k : Nat} (hq : q < 60) (h : ¬ st 10 q = 1) : res st 60 (Int32.ofNat q) k = (Int32.ofNat q, k) := by
  rw [show (60 : Nat) = 59 + 1 from rfl, res, if_neg (ln_m1 (by omega)), ln_at (by omega), if_neg h]
theorem wrR_plain {st : ck_S} {f q k j : Nat} (hq : q < 60) (h : ¬ st 10 q = 1) (h2 : ¬ st 11 q = -1) : wrR st (f + 1) (Int32.ofNat q) k j = (j, q) :: (wrR st f (st 14 q) (k % pch st (st 14 q)) (2 * j + 1) ++ wrR st f (st 13 q) (k / pch st (st 14 q)) (2 * j)) := by
  rw [wrR, res_plain hq h]
  simp only
  rw [ln_at (by omega), if_neg (fun z => z.elim (ln_m1 (by omega)) h2)]
def wR (c : Nat) (e : Nat × Nat) (r : ck_S) : ck_S := ck_u (ck_u r 17 (16 * c + e.1) (r 4 e.2)) 18 (16 * c + e.1) (r 5 e.2)
def appR (c : Nat) (L : List (Nat × Nat)) (r : ck_S) : ck_S := L.foldl (fun r e => wR c e r) r
theorem wR_cell {c : Nat} {e : Nat × Nat} {r : ck_S} {q : Nat} (h : ¬ q = 17) (h2 : ¬ q = 18) : wR c e r q = r q := by simp [wR, ck_u, h, h2]
theorem appR_cell {c : Nat} {q : Nat} (h : ¬ q = 17) (h2 : ¬ q = 18) : ∀ (L : List (Nat × Nat)) (r : ck_S), appR c L r q = r q
  | [], _ => rfl
  | e :: L, r => by
    show appR c L (wR c e r) q = r q
    rw [appR_cell h h2 L, wR_cell h h2]
/-- only the cells 4, 5, 17, 18 count -/
theorem appR_congr {c : Nat} : ∀ (L : List (Nat × Nat)) (r r2 : ck_S), r 4 = r2 4 → r 5 = r2 5 → r 17 = r2 17 → r 18 = r2 18 → appR c L r 17 = appR c L r2 17 ∧ appR c L r 18 = appR c L r2 18
  | [], _, _, _, _, h3, h4 => ⟨h3, h4⟩
  | e :: L, r, r2, h1, h2, h3, h4 => by
    refine appR_congr L (wR c e r) (wR c e r2) ?_ ?_ ?_ ?_
    · rw [wR_cell (by decide) (by decide), wR_cell (by decide) (by decide)]; exact h1
    · rw [wR_cell (by decide) (by decide), wR_cell (by decide) (by decide)]; exact h2
    · simp only [wR]
      funext z
      simp only [ck_u_ne (show ¬ (17 = 18) by decide), ck_u_at, h1, h3]
    · simp only [wR]
      funext z
      simp only [ck_u_at, ck_u_ne (show ¬ (18 = 17) by decide), h2, h4]
def stk : List (Int32 × Nat × Nat) → ck_S → Prop
  | [], _ => True
  | e :: E, r => r 19 E.length = e.1 ∧ r 20 E.length = Int32.ofNat e.2.1 ∧ r 21 E.length = Int32.ofNat e.2.2 ∧ stk E r
theorem stk_frame : ∀ (E : List (Int32 × Nat × Nat)) {r r2 : ck_S}, (∀ i, i < E.length → r2 19 i = r 19 i ∧ r2 20 i = r 20 i ∧ r2 21 i = r 21 i) → stk E r → stk E r2
  | [], _, _, _, _ => trivial
  | e :: E, r, r2, h, hs => by
    obtain ⟨a, b, d⟩ := h E.length (by simp)
    exact ⟨by rw [a]; exact hs.1, by rw [b]; exact hs.2.1, by rw [d]; exact hs.2.2.1, stk_frame E (fun i hi => h i (by simp; omega)) hs.2.2.2⟩
def cst (st : ck_S) (x : Int32) : Nat := pch st x + 8 * (2 ^ pd st x) - 16
def val : Nat → ck_S → List (Int32 × Nat × Nat) → Prop
  | _, _, [] => True
  | p, st, e :: E => (∃ q, q < p ∧ e.1 = Int32.ofNat q) ∧ e.2.1 < pch st e.1 ∧ (e.2.2 + 1) * 2 ^ (pd st e.1 - 1) ≤ 16 ∧ pd st e.1 + E.length ≤ 5 ∧ val p st E
def sumc (st : ck_S) : List (Int32 × Nat × Nat) → Nat
  | [] => 0
  | e :: E => cst st e.1 + sumc st E
def wLS (st : ck_S) : List (Int32 × Nat × Nat) → List (Nat × Nat)
  | [] => []
  | e :: E => wrR st 8 e.1 e.2.1 e.2.2 ++ wLS st E
theorem two_pow1 {d : Nat} (h : 1 ≤ d) : 2 ≤ 2 ^ d := by
  have : 2 ^ 1 ≤ 2 ^ d := Nat.pow_le_pow_right (by omega) h
  omega
theorem ln_rem2 {a b : Nat} (ha : a < 2147483648) (hb : b < 2147483648) : Int32.ofNat a - Int32.ofNat (a / b) * Int32.ofNat b = Int32.ofNat (a % b) := by
  rw [← ln_divL ha hb, ln_rem ha hb]
/-- one step of the reference -/
theorem wOne_ev {n p c q k j N : Nat} {st r : ck_S} (h : rP n p st r) (ho : ∀ c, c < n → ¬ st 7 c = -1 ∧ (st 8 c = -1 → st 9 c = -1)) (hc : c < 16) (hN : N ≤ 4) (hq : q < p) (hk : k < pch st (Int32.ofNat q)) (hj : j ≤ 15) (s1 : r 19 N = Int32.ofNat q) (s2 : r 20 N = Int32.ofNat k) (s3 : r 21 N = Int32.ofNat j) :
    (st 10 q = 0 ∧ st 11 q = -1 ∧ fR_writeOne (Int32.ofNat c) (Int32.ofNat N) r = some (Int32.ofNat N, r)) ∨
    (st 10 q = 1 ∧ ∃ l rr, l < q ∧ rr < q ∧ st 13 q = Int32.ofNat l ∧ st 14 q = Int32.ofNat rr ∧ ((k < pch st (Int32.ofNat l) ∧ fR_writeOne (Int32.ofNat c) (Int32.ofNat N) r = some (Int32.ofNat (N + 1), ck_u (ck_u r 19 N (Int32.ofNat l)) 20 N (Int32.ofNat k))) ∨ (¬ k < pch st (Int32.ofNat l) ∧ fR_writeOne (Int32.ofNat c) (Int32.ofNat N) r = some (Int32.ofNat (N + 1), ck_u (ck_u r 19 N (Int32.ofNat rr)) 20 N (Int32.ofNat (k - pch st (Int32.ofNat l))))))) ∨
    (st 10 q = 0 ∧ ¬ st 11 q = -1 ∧ st 13 q = -1 ∧ st 14 q = -1 ∧ fR_writeOne (Int32.ofNat c) (Int32.ofNat N) r = some (Int32.ofNat N, wR c (j, q) r)) ∨
    (st 10 q = 0 ∧ ¬ st 11 q = -1 ∧ st 14 q = -1 ∧ ∃ l, l < q ∧ st 13 q = Int32.ofNat l ∧ fR_writeOne (Int32.ofNat c) (Int32.ofNat N) r = some (Int32.ofNat (N + 1), ck_u (ck_u (ck_u (wR c (j, q) r) 19 N (Int32.ofNat l)) 20 N (Int32.ofNat (k / pch st (st 14 q)))) 21 N (Int32.ofNat (2 * j)))) ∨
    (st 10 q = 0 ∧ ¬ st 11 q = -1 ∧ ∃ l rr, l < q ∧ rr < q ∧ st 13 q = Int32.ofNat l ∧ st 14 q = Int32.ofNat rr ∧ fR_writeOne (Int32.ofNat c) (Int32.ofNat N) r = some (Int32.ofNat (N + 2), ck_u (ck_u (ck_u (ck_u (ck_u (ck_u (wR c (j, q) r) 19 N (Int32.ofNat l)) 20 N (Int32.ofNat (k / pch st (st 14 q)))) 21 N (Int32.ofNat (2 * j))) 19 (N + 1) (Int32.ofNat rr)) 20 (N + 1) (Int32.ofNat (k % pch st (st 14 q)))) 21 (N + 1) (Int32.ofNat (2 * j + 1)))) := by
  have hp := h.1
  have hcq := pch_pos h (x := Int32.ofNat q) (Or.inr ⟨q, hq, rfl⟩)
  obtain ⟨⟨a1, a2, a3, a4, a5, a6⟩, _, _, _, w⟩ := h.2.2.2 q hq
  have n30 : ¬ ((3 : Int32) = 0) := by decide
  have n10 : ¬ ((1 : Int32) = 0) := by decide
  have n13 : ¬ ((1 : Int32) = 3) := by decide
  have n20 : ¬ ((2 : Int32) = 0) := by decide
  have n23 : ¬ ((2 : Int32) = 3) := by decide
  have n21 : ¬ ((2 : Int32) = 1) := by decide
  have nm : ¬ ((0 : Int32) ≤ -1) := by decide
  rcases w with w | w | w | w
  · left
    refine ⟨w.2.1, w.2.2.1, ?_⟩
    unfold fR_writeOne
    simp (disch := omega) only [ck_gd_ok, ln_at, s1, w.1, ↓reduceIte]
  · right; right; left
    obtain ⟨b1, b2, b3, b4, b5, b6, b7⟩ := w
    refine ⟨b2, by rw [b3]; decide, b4, b5, ?_⟩
    unfold fR_writeOne wR
    simp (disch := omega) only [ck_gd_ok, ln_at, s1, s3, b1, n10, n13, ↓reduceIte, ln_Lmul, ln_add]
  · obtain ⟨b1, b2, co, b3, b4, b5, b6, b7, b8, b9⟩ := w
    have hop : ¬ st 11 q = -1 := by rw [b5]; exact (ho co b3).1
    have a13 := b6.or
    have a14 := b7.or
    have c14 := pch_pos h (x := st 14 q) (isArg_le a14 (by omega))
    rcases a13 with e13 | ⟨l, l1, l2⟩
    · have e8 : st 8 co = -1 := by
        rcases b6 with b6 | ⟨_, l, l1, l2, _⟩
        · exact b6.1
        · rw [e13] at l2; exact absurd l2.symm (ln_m1 (by omega))
      have e14 : st 14 q = -1 := by
        have e9 := (ho co b3).2 e8
        rcases b7 with b7 | ⟨z, _⟩
        · exact b7.2
        · exact absurd e9 z
      right; right; left
      refine ⟨b2, hop, e13, e14, ?_⟩
      have f6 : r 6 q = -1 := by rw [a2, e13]
      unfold fR_writeOne wR
      simp (disch := omega) only [ck_gd_ok, ln_at, s1, s3, b1, n20, n23, n21, nm, f6, ↓reduceIte, ln_Lmul, ln_add]
    · have f6 : r 6 q = Int32.ofNat l := by rw [a2, l2]
      have f6' : (0 : Int32) ≤ Int32.ofNat l := ln_ge0 (by omega)
      rcases a14 with e14 | ⟨rr, r1, r2⟩
      · right; right; right; left
        refine ⟨b2, hop, e14, l, l1, l2, ?_⟩
        have f7 : r 7 q = -1 := by rw [a3, e14]
        have g1 : pch st (st 14 q) = 1 := by rw [e14]; unfold pch; rw [if_pos rfl]
        rw [g1, Nat.div_one]
        unfold fR_writeOne fR_writeOne_b208 wR
        simp (disch := omega) only [ck_gd_ok, ln_at, s1, s2, s3, b1, n20, n23, n21, n10, nm, f6, f6', f7, ↓reduceIte, ln_Lmul, ln_add, ck_dz_ok, ln_addL, ck_u_ne (show ¬ (6 = 18) by decide), ck_u_ne (show ¬ (6 = 17) by decide), ck_u_ne (show ¬ (7 = 18) by decide), ck_u_ne (show ¬ (7 = 17) by decide), not_false_eq_true, Int32.div_one]
      · right; right; right; right
        refine ⟨b2, hop, l, rr, l1, r1, l2, r2, ?_⟩
        have f7 : r 7 q = Int32.ofNat rr := by rw [a3, r2]
        have f7' : (0 : Int32) ≤ Int32.ofNat rr := ln_ge0 (by omega)
        obtain ⟨d, kr, d1, d2, k1, k2, d3, k3, d4, k4, d5, k5, d6, k6⟩ := pat_dc h (i := rr) (by omega)
        have g1 : pch st (st 14 q) = kr := by rw [r2, k6]
        rw [g1]
        have gz : ¬ Int32.ofNat kr = 0 := fun z => by have := (ln_eq (b := 0) (by omega) (by omega)).mp z; omega
        unfold fR_writeOne fR_writeOne_b208 wR
        simp (disch := omega) only [ck_gd_ok, ln_at, s1, s2, s3, b1, n20, n23, n21, n10, nm, f6, f6', f7, f7', k4, ↓reduceIte, ln_Lmul, ln_add, ck_dz_ok gz, ln_addL, ck_u_ne (show ¬ (6 = 18) by decide), ck_u_ne (show ¬ (6 = 17) by decide), ck_u_ne (show ¬ (7 = 18) by decide), ck_u_ne (show ¬ (7 = 17) by decide), not_false_eq_true, ln_rem2, ln_divL]
  · right; left
    obtain ⟨b1, b2, _⟩ := id w
    refine ⟨b2, ?_⟩
    obtain ⟨l, rr, w3, w4, w5, w6, w7, w8, w9, w10, w11, w12, w13⟩ := either_parts h hq b2
    refine ⟨l, rr, w3, w4, w5, w6, ?_⟩
    obtain ⟨d, kl, d1, d2, k1, k2, d3, k3, d4, k4, d5, k5, d6, k6⟩ := pat_dc h (i := l) (by omega)
    rw [k6]
    have e6 : r 6 q = Int32.ofNat l := by rw [a2, w5]
    have e7 : r 7 q = Int32.ofNat rr := by rw [a3, w6]
    by_cases z : k < kl
    · left
      refine ⟨z, ?_⟩
      unfold fR_writeOne fR_writeOne_b65 fR_writeOne_b92
      simp (disch := omega) only [ck_gd_ok, ln_at, s1, s2, b1, n30, ↓reduceIte, e6, k4, ln_lt, z, ln_addL]
    · right
      refine ⟨z, ?_⟩
      unfold fR_writeOne fR_writeOne_b65 fR_writeOne_b92
      simp (disch := omega) only [ck_gd_ok, ln_at, s1, s2, b1, n30, n10, ↓reduceIte, e6, e7, k4, ln_lt, z, ln_addL, ln_sub]
theorem cst_pos {n p q : Nat} {st rt : ck_S} (h : rP n p st rt) (hq : q < p) : 1 ≤ cst st (Int32.ofNat q) ∧ cst st (Int32.ofNat q) = pch st (Int32.ofNat q) + 8 * 2 ^ pd st (Int32.ofNat q) - 16 ∧ 2 ≤ 2 ^ pd st (Int32.ofNat q) ∧ 1 ≤ pd st (Int32.ofNat q) ∧ pd st (Int32.ofNat q) ≤ 4 ∧ 1 ≤ pch st (Int32.ofNat q) ∧ pch st (Int32.ofNat q) ≤ 8 := by
  obtain ⟨d, k, d1, d2, k1, k2, d3, k3, d4, k4, d5, k5, d6, k6⟩ := pat_dc h hq
  have := two_pow1 d1
  unfold cst
  rw [d6, k6]
  omega
/-- the reference's loop over its stack -/
theorem wLoop_ev {n p c : Nat} {st : ck_S} (ho : ∀ c, c < n → ¬ st 7 c = -1 ∧ (st 8 c = -1 → st 9 c = -1)) (hc : c < 16) : ∀ (m : Nat) (E : List (Int32 × Nat × Nat)) (r : ck_S), rP n p st r → sumc st E < m → val p st E → stk E r →
    ∃ r2, fR_writeOut_l53 m (Int32.ofNat c) (Int32.ofNat E.length) r = some r2 ∧ (∀ q, (q < 17 ∨ 21 < q) → r2 q = r q) ∧ r2 17 = appR c (wLS st E) r 17 ∧ r2 18 = appR c (wLS st E) r 18
  | 0, _, _, _, hm, _, _ => absurd hm (by omega)
  | m + 1, [], r, h, hm, _, _ => ⟨r, by rw [fR_writeOut_l53]; exact if_pos (by decide), fun _ _ => rfl, rfl, rfl⟩
  | m + 1, (x, k, j) :: E, r, h, hm, hv, hs => by
    obtain ⟨⟨q, hq, hx⟩, hk, hj, hd, hv⟩ := hv
    simp only at hx hk hj hd
    subst hx
    obtain ⟨s1, s2, s3, hs⟩ := hs
    simp only at s1 s2 s3
    have hp := h.1
    obtain ⟨c1, c2, c3, c4, c5, c6, c7⟩ := cst_pos h hq
    have hm : cst st (Int32.ofNat q) + sumc st E < m + 1 := hm
    have hj15 := pow_le16 c4 hj
    have hlen : ((Int32.ofNat q, k, j) :: E).length = E.length + 1 := rfl
    rw [hlen]
    have step : fR_writeOut_l53 (m + 1) (Int32.ofNat c) (Int32.ofNat (E.length + 1)) r = ck_b (fR_writeOne (Int32.ofNat c) (Int32.ofNat E.length) r) fun v2 st1 => fR_writeOut_l53 m (Int32.ofNat c) v2 st1 := by
      rw [fR_writeOut_l53, if_neg (fun z => by have := (ln_le (b := 0) (by omega) (by omega)).mp z; omega), ln_subL (by omega)]
      rfl
    rw [step]
    have hLS : wLS st ((Int32.ofNat q, k, j) :: E) = wrR st 8 (Int32.ofNat q) k j ++ wLS st E := rfl
    have happ : ∀ L M (z : ck_S), appR c (L ++ M) z = appR c M (appR c L z) := fun L M z => List.foldl_append
    rcases wOne_ev h ho hc (N := E.length) (by omega) hq hk hj15 s1 s2 s3 with ⟨b1, b2, b3⟩ | ⟨b1, l, rr, l1, r1, l2, r2, b3⟩ | ⟨b1, b2, b3, b4, b5⟩ | ⟨b1, b2, b3, l, l1, l2, b5⟩ | ⟨b1, b2, l, rr, l1, r1, l2, r2, b5⟩
    · -- ANY
      rw [b3, ck_b_some]
      obtain ⟨r2, e1, e2, e3, e4⟩ := wLoop_ev ho hc m E r h (by omega) hv hs
      have hw : wrR st 8 (Int32.ofNat q) k j = [] := by
        rw [show (8 : Nat) = 7 + 1 from rfl, wrR, show res st 60 (Int32.ofNat q) k = (Int32.ofNat q, k) by
          rw [show (60 : Nat) = 59 + 1 from rfl, res, if_neg (ln_m1 (by omega)), ln_at (by omega), if_neg (by rw [b1]; decide)]]
        simp only
        rw [ln_at (by omega), if_pos (Or.inr b2)]
      rw [hLS, hw, List.nil_append]
      exact ⟨r2, e1, e2, e3, e4⟩
    · -- EITHER
      obtain ⟨lp, rp, w3, w4, w5, w6, w7, w8, w9, w10, w11, w12, w13⟩ := either_parts h hq b1
      have el : lp = l := (ln_eq (by omega) (by omega)).mp (by rw [← w5, l2])
      have er : rp = rr := (ln_eq (by omega) (by omega)).mp (by rw [← w6, r2])
      subst el; subst er
      have hres : ∀ (y : Nat) (k2 : Nat), y < q → wrR st 8 (Int32.ofNat q) k j = (if res st 60 (Int32.ofNat q) k = res st 60 (Int32.ofNat y) k2 then wrR st 8 (Int32.ofNat y) k2 j else wrR st 8 (Int32.ofNat q) k j) := by
        intro y k2 hy
        split
        · rename_i z
          exact wrR_res (f := 7) z
        · rfl
      have hr0 : res st 60 (Int32.ofNat q) k = if k < pch st (Int32.ofNat lp) then res st 60 (Int32.ofNat lp) k else res st 60 (Int32.ofNat rp) (k - pch st (Int32.ofNat lp)) := by
        rw [show res st 60 (Int32.ofNat q) k = (if Int32.ofNat q = -1 then (Int32.ofNat q, k) else if st 10 (Int32.ofNat q).toNatClampNeg = 1 then (if k < pch st (st 13 (Int32.ofNat q).toNatClampNeg) then res st 59 (st 13 (Int32.ofNat q).toNatClampNeg) k else res st 59 (st 14 (Int32.ofNat q).toNatClampNeg) (k - pch st (st 13 (Int32.ofNat q).toNatClampNeg))) else (Int32.ofNat q, k)) from rfl]
        rw [if_neg (ln_m1 (by omega)), ln_at (by omega), if_pos b1, w5, w6, res_more h 59 60 lp k (by omega) (by omega) (by omega), res_more h 59 60 rp _ (by omega) (by omega) (by omega)]
      have pw : ∀ y, pd st (Int32.ofNat y) ≤ pd st (Int32.ofNat q) → 2 ^ (pd st (Int32.ofNat y)) ≤ 2 ^ (pd st (Int32.ofNat q)) ∧ (j + 1) * 2 ^ (pd st (Int32.ofNat y) - 1) ≤ 16 := by
        intro y hy
        refine ⟨Nat.pow_le_pow_right (by omega) hy, Nat.le_trans (Nat.mul_le_mul_left _ (Nat.pow_le_pow_right (by omega) (by omega))) hj⟩
      rcases b3 with ⟨z, b3⟩ | ⟨z, b3⟩
      · rw [b3, ck_b_some]
        obtain ⟨d1, d2, d3, d4, d5, d6, d7⟩ := cst_pos h (q := lp) (by omega)
        have hpw := pw lp w8
        have hsm : sumc st ((Int32.ofNat lp, k, j) :: E) < m := by
          show cst st (Int32.ofNat lp) + sumc st E < m
          omega
        have hrP : rP n p st (ck_u (ck_u r 19 E.length (Int32.ofNat lp)) 20 E.length (Int32.ofNat k)) := rP_frame h (Nat.le_refl _) rfl rfl rfl rfl rfl rfl rfl rfl (fun _ _ => ⟨rfl, rfl, rfl⟩) rfl (fun q q1 q2 => by rw [ck_u_ne (by omega), ck_u_ne (by omega)])
        have hst : stk ((Int32.ofNat lp, k, j) :: E) (ck_u (ck_u r 19 E.length (Int32.ofNat lp)) 20 E.length (Int32.ofNat k)) := by
          refine ⟨by rw [ck_u_ne (by decide), ck_u_eq], ck_u_eq, by rw [ck_u_ne (by decide), ck_u_ne (by decide)]; exact s3, stk_frame E (fun i hi => ?_) hs⟩
          have : ¬ i = E.length := by omega
          rw [ck_u_ne (show ¬ (19 = 20) by decide), ck_u_nei this, ck_u_nei this, ck_u_ne (show ¬ (20 = 19) by decide), ck_u_ne (show ¬ (21 = 20) by decide), ck_u_ne (show ¬ (21 = 19) by decide)]
          exact ⟨rfl, rfl, rfl⟩
        obtain ⟨r2, e1, e2, e3, e4⟩ := wLoop_ev ho hc m ((Int32.ofNat lp, k, j) :: E) _ hrP hsm ⟨⟨lp, by omega, rfl⟩, z, hpw.2, by simp only; omega, hv⟩ hst
        have hco := appR_congr (c := c) (wLS st ((Int32.ofNat lp, k, j) :: E)) (ck_u (ck_u r 19 E.length (Int32.ofNat lp)) 20 E.length (Int32.ofNat k)) r (by rw [ck_u_ne (by decide), ck_u_ne (by decide)]) (by rw [ck_u_ne (by decide), ck_u_ne (by decide)]) (by rw [ck_u_ne (by decide), ck_u_ne (by decide)]) (by rw [ck_u_ne (by decide), ck_u_ne (by decide)])
        have hwe : wLS st ((Int32.ofNat q, k, j) :: E) = wLS st ((Int32.ofNat lp, k, j) :: E) := by
          rw [hLS, hres lp k w3, if_pos (by rw [hr0, if_pos z])]
          rfl
        rw [hwe]
        refine ⟨r2, e1, fun q hq => ?_, by rw [e3]; exact hco.1, by rw [e4]; exact hco.2⟩
        rw [e2 q hq, ck_u_ne (by omega), ck_u_ne (by omega)]
      · rw [b3, ck_b_some]
        obtain ⟨d1, d2, d3, d4, d5, d6, d7⟩ := cst_pos h (q := rp) (by omega)
        have hpw := pw rp w9
        have hkr : k - pch st (Int32.ofNat lp) < pch st (Int32.ofNat rp) := by omega
        have hsm : sumc st ((Int32.ofNat rp, k - pch st (Int32.ofNat lp), j) :: E) < m := by
          show cst st (Int32.ofNat rp) + sumc st E < m
          omega
        have hrP : rP n p st (ck_u (ck_u r 19 E.length (Int32.ofNat rp)) 20 E.length (Int32.ofNat (k - pch st (Int32.ofNat lp)))) := rP_frame h (Nat.le_refl _) rfl rfl rfl rfl rfl rfl rfl rfl (fun _ _ => ⟨rfl, rfl, rfl⟩) rfl (fun q q1 q2 => by rw [ck_u_ne (by omega), ck_u_ne (by omega)])
        have hst : stk ((Int32.ofNat rp, k - pch st (Int32.ofNat lp), j) :: E) (ck_u (ck_u r 19 E.length (Int32.ofNat rp)) 20 E.length (Int32.ofNat (k - pch st (Int32.ofNat lp)))) := by
          refine ⟨by rw [ck_u_ne (by decide), ck_u_eq], ck_u_eq, by rw [ck_u_ne (by decide), ck_u_ne (by decide)]; exact s3, stk_frame E (fun i hi => ?_) hs⟩
          have : ¬ i = E.length := by omega
          rw [ck_u_ne (show ¬ (19 = 20) by decide), ck_u_nei this, ck_u_nei this, ck_u_ne (show ¬ (20 = 19) by decide), ck_u_ne (show ¬ (21 = 20) by decide), ck_u_ne (show ¬ (21 = 19) by decide)]
          exact ⟨rfl, rfl, rfl⟩
        obtain ⟨r2, e1, e2, e3, e4⟩ := wLoop_ev ho hc m ((Int32.ofNat rp, k - pch st (Int32.ofNat lp), j) :: E) _ hrP hsm ⟨⟨rp, by omega, rfl⟩, hkr, hpw.2, by simp only; omega, hv⟩ hst
        have hco := appR_congr (c := c) (wLS st ((Int32.ofNat rp, k - pch st (Int32.ofNat lp), j) :: E)) (ck_u (ck_u r 19 E.length (Int32.ofNat rp)) 20 E.length (Int32.ofNat (k - pch st (Int32.ofNat lp)))) r (by rw [ck_u_ne (by decide), ck_u_ne (by decide)]) (by rw [ck_u_ne (by decide), ck_u_ne (by decide)]) (by rw [ck_u_ne (by decide), ck_u_ne (by decide)]) (by rw [ck_u_ne (by decide), ck_u_ne (by decide)])
        have hwe : wLS st ((Int32.ofNat q, k, j) :: E) = wLS st ((Int32.ofNat rp, k - pch st (Int32.ofNat lp), j) :: E) := by
          rw [hLS, hres rp (k - pch st (Int32.ofNat lp)) w4, if_pos (by rw [hr0, if_neg z])]
          rfl
        rw [hwe]
        refine ⟨r2, e1, fun q hq => ?_, by rw [e3]; exact hco.1, by rw [e4]; exact hco.2⟩
        rw [e2 q hq, ck_u_ne (by omega), ck_u_ne (by omega)]
    · -- a leaf that asks
      rw [b5, ck_b_some]
      have hrP : rP n p st (wR c (j, q) r) := rP_frame h (Nat.le_refl _) rfl rfl rfl rfl rfl rfl rfl rfl (fun _ _ => ⟨rfl, rfl, rfl⟩) rfl (fun q q1 q2 => by rw [wR_cell (by omega) (by omega)])
      have hst : stk E (wR c (j, q) r) := stk_frame E (fun i hi => by rw [wR_cell (by decide) (by decide), wR_cell (by decide) (by decide), wR_cell (by decide) (by decide)]; exact ⟨rfl, rfl, rfl⟩) hs
      obtain ⟨r2, e1, e2, e3, e4⟩ := wLoop_ev ho hc m E _ hrP (by omega) hv hst
      have hw : wrR st 8 (Int32.ofNat q) k j = [(j, q)] := by
        rw [wrR_plain (f := 7) (by omega) (by rw [b1]; decide) b2, b3, b4, wrR_abs, wrR_abs]
        rfl
      rw [hLS, hw]
      exact ⟨r2, e1, fun q hq => by rw [e2 q hq, wR_cell (by omega) (by omega)], e3, e4⟩
    · -- one argument
      rw [b5, ck_b_some]
      obtain ⟨p1, p2, p3, p4, p5, p6, p7⟩ := plain_parts h hq (by rw [b1]; decide) b2
      have b14 := pch_pos h (x := st 14 q) (Or.inl b3)
      have hkl : k / pch st (st 14 q) < pch st (st 13 q) := by
        rw [Nat.div_lt_iff_lt_mul (by omega)]
        omega
      rw [l2] at hkl p4
      obtain ⟨d1, d2, d3, d4, d5, d6, d7⟩ := cst_pos h (q := l) (by omega)
      have hpc := (pow_child d4 p4 hj).2
      have hpw : 2 * 2 ^ pd st (Int32.ofNat l) ≤ 2 ^ pd st (Int32.ofNat q) := by
        rw [← Nat.pow_succ']
        exact Nat.pow_le_pow_right (by omega) p4
      have hsm : sumc st ((Int32.ofNat l, k / pch st (st 14 q), 2 * j) :: E) < m := by
        show cst st (Int32.ofNat l) + sumc st E < m
        omega
      have hrP : rP n p st (ck_u (ck_u (ck_u (wR c (j, q) r) 19 E.length (Int32.ofNat l)) 20 E.length (Int32.ofNat (k / pch st (st 14 q)))) 21 E.length (Int32.ofNat (2 * j))) := rP_frame h (Nat.le_refl _) rfl rfl rfl rfl rfl rfl rfl rfl (fun _ _ => ⟨rfl, rfl, rfl⟩) rfl (fun q q1 q2 => by rw [ck_u_ne (by omega), ck_u_ne (by omega), ck_u_ne (by omega), wR_cell (by omega) (by omega)])
      have hst : stk ((Int32.ofNat l, k / pch st (st 14 q), 2 * j) :: E) (ck_u (ck_u (ck_u (wR c (j, q) r) 19 E.length (Int32.ofNat l)) 20 E.length (Int32.ofNat (k / pch st (st 14 q)))) 21 E.length (Int32.ofNat (2 * j))) := by
        refine ⟨by rw [ck_u_ne (by decide), ck_u_ne (by decide), ck_u_eq], by rw [ck_u_ne (by decide), ck_u_eq], ck_u_eq, stk_frame E (fun i hi => ?_) hs⟩
        have : ¬ i = E.length := by omega
        simp [ck_u, upd, wR, this]
      obtain ⟨r2, e1, e2, e3, e4⟩ := wLoop_ev ho hc m _ _ hrP hsm ⟨⟨l, by omega, rfl⟩, hkl, hpc, by simp only; omega, hv⟩ hst
      have hco := appR_congr (c := c) (wLS st ((Int32.ofNat l, k / pch st (st 14 q), 2 * j) :: E)) (ck_u (ck_u (ck_u (wR c (j, q) r) 19 E.length (Int32.ofNat l)) 20 E.length (Int32.ofNat (k / pch st (st 14 q)))) 21 E.length (Int32.ofNat (2 * j))) (wR c (j, q) r) (by rw [ck_u_ne (by decide), ck_u_ne (by decide), ck_u_ne (by decide)]) (by rw [ck_u_ne (by decide), ck_u_ne (by decide), ck_u_ne (by decide)]) (by rw [ck_u_ne (by decide), ck_u_ne (by decide), ck_u_ne (by decide)]) (by rw [ck_u_ne (by decide), ck_u_ne (by decide), ck_u_ne (by decide)])
      have hwe : wLS st ((Int32.ofNat q, k, j) :: E) = (j, q) :: wLS st ((Int32.ofNat l, k / pch st (st 14 q), 2 * j) :: E) := by
        rw [hLS, wrR_plain (f := 7) (by omega) (by rw [b1]; decide) b2, show wrR st 7 (st 14 q) (k % pch st (st 14 q)) (2 * j + 1) = [] by rw [b3]; exact wrR_abs _ _ _, l2, wrR_more h 7 8 (Int32.ofNat l) _ _ (Or.inr ⟨l, by omega, rfl⟩) hkl (by omega) (by omega)]
        rfl
      rw [hwe]
      refine ⟨r2, e1, fun q hq => ?_, by rw [e3]; exact hco.1, by rw [e4]; exact hco.2⟩
      rw [e2 q hq, ck_u_ne (by omega), ck_u_ne (by omega), ck_u_ne (by omega), wR_cell (by omega) (by omega)]
    · -- two arguments
      rw [b5, ck_b_some]
      obtain ⟨p1, p2, p3, p4, p5, p6, p7⟩ := plain_parts h hq (by rw [b1]; decide) b2
      have b14 := pch_pos h (x := st 14 q) (Or.inr ⟨rr, by omega, r2⟩)
      have hkl : k / pch st (st 14 q) < pch st (st 13 q) := by
        rw [Nat.div_lt_iff_lt_mul (by omega)]
        omega
      have hkr : k % pch st (st 14 q) < pch st (st 14 q) := Nat.mod_lt _ (by omega)
      rw [l2] at hkl p4
      have hkr' : k % pch st (st 14 q) < pch st (Int32.ofNat rr) := by rw [← r2]; exact hkr
      rw [r2] at p5
      obtain ⟨d1, d2, d3, d4, d5, d6, d7⟩ := cst_pos h (q := l) (by omega)
      obtain ⟨f1, f2, f3, f4, f5, f6, f7⟩ := cst_pos h (q := rr) (by omega)
      have hpc := (pow_child d4 p4 hj).2
      have hpr := (pow_child f4 p5 hj).1
      have hpw : 2 * 2 ^ pd st (Int32.ofNat l) ≤ 2 ^ pd st (Int32.ofNat q) := by
        rw [← Nat.pow_succ']
        exact Nat.pow_le_pow_right (by omega) p4
      have hpw2 : 2 * 2 ^ pd st (Int32.ofNat rr) ≤ 2 ^ pd st (Int32.ofNat q) := by
        rw [← Nat.pow_succ']
        exact Nat.pow_le_pow_right (by omega) p5
      generalize hZ : (ck_u (ck_u (ck_u (ck_u (ck_u (ck_u (wR c (j, q) r) 19 E.length (Int32.ofNat l)) 20 E.length (Int32.ofNat (k / pch st (st 14 q)))) 21 E.length (Int32.ofNat (2 * j))) 19 (E.length + 1) (Int32.ofNat rr)) 20 (E.length + 1) (Int32.ofNat (k % pch st (st 14 q)))) 21 (E.length + 1) (Int32.ofNat (2 * j + 1))) = Z
      have hZc : ∀ x, (x < 19 ∨ 21 < x) → Z x = wR c (j, q) r x := fun x hx => by
        rw [← hZ, ck_u_ne (by omega), ck_u_ne (by omega), ck_u_ne (by omega), ck_u_ne (by omega), ck_u_ne (by omega), ck_u_ne (by omega)]
      have hsm : sumc st ((Int32.ofNat rr, k % pch st (st 14 q), 2 * j + 1) :: (Int32.ofNat l, k / pch st (st 14 q), 2 * j) :: E) < m := by
        show cst st (Int32.ofNat rr) + (cst st (Int32.ofNat l) + sumc st E) < m
        omega
      have hrP : rP n p st Z := rP_frame h (Nat.le_refl _) rfl rfl rfl rfl rfl rfl rfl rfl (fun _ _ => ⟨rfl, rfl, rfl⟩) (by rw [hZc 0 (by omega), wR_cell (by omega) (by omega)]) (fun q q1 q2 => by rw [hZc q (by omega), wR_cell (by omega) (by omega)])
      have hst : stk ((Int32.ofNat rr, k % pch st (st 14 q), 2 * j + 1) :: (Int32.ofNat l, k / pch st (st 14 q), 2 * j) :: E) Z := by
        refine ⟨by rw [← hZ]; simp [ck_u, upd], by rw [← hZ]; simp [ck_u, upd], by rw [← hZ]; simp [ck_u, upd], by rw [← hZ]; simp [ck_u, upd], by rw [← hZ]; simp [ck_u, upd], by rw [← hZ]; simp [ck_u, upd], stk_frame E (fun i hi => ?_) hs⟩
        have z1 : ¬ i = E.length := by omega
        have z2 : ¬ i = E.length + 1 := by omega
        rw [← hZ]
        simp [ck_u, upd, wR, z1, z2]
      obtain ⟨r9, e1, e2, e3, e4⟩ := wLoop_ev ho hc m _ _ hrP hsm ⟨⟨rr, by omega, rfl⟩, hkr', hpr, by simp only [List.length_cons]; omega, ⟨l, by omega, rfl⟩, hkl, hpc, by simp only; omega, hv⟩ hst
      have hco := appR_congr (c := c) (wLS st ((Int32.ofNat rr, k % pch st (st 14 q), 2 * j + 1) :: (Int32.ofNat l, k / pch st (st 14 q), 2 * j) :: E)) Z (wR c (j, q) r) (hZc 4 (by omega)) (hZc 5 (by omega)) (hZc 17 (by omega)) (hZc 18 (by omega))
      have hwe : wLS st ((Int32.ofNat q, k, j) :: E) = (j, q) :: wLS st ((Int32.ofNat rr, k % pch st (st 14 q), 2 * j + 1) :: (Int32.ofNat l, k / pch st (st 14 q), 2 * j) :: E) := by
        rw [hLS, wrR_plain (f := 7) (by omega) (by rw [b1]; decide) b2]
        show _ = (j, q) :: (wrR st 8 (Int32.ofNat rr) (k % pch st (st 14 q)) (2 * j + 1) ++ (wrR st 8 (Int32.ofNat l) (k / pch st (st 14 q)) (2 * j) ++ wLS st E))
        rw [← wrR_more h 7 8 (Int32.ofNat l) _ _ (Or.inr ⟨l, by omega, rfl⟩) hkl (by omega) (by omega), ← wrR_more h 7 8 (Int32.ofNat rr) _ _ (Or.inr ⟨rr, by omega, rfl⟩) hkr' (by omega) (by omega), l2, r2, List.cons_append, List.append_assoc]
      rw [hwe]
      refine ⟨r9, e1, fun q hq => ?_, by rw [e3]; exact hco.1, by rw [e4]; exact hco.2⟩
      rw [e2 q hq, hZc q (by omega), wR_cell (by omega) (by omega)]
