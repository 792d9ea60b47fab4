/-! build -/
theorem ln_z : Int32.ofNat 0 = 0 := rfl
theorem ln_o : Int32.ofNat 1 = 1 := rfl
theorem ln_Ladd (a b : Nat) : (no_index (OfNat.ofNat a : Int32)) + Int32.ofNat b = Int32.ofNat ((OfNat.ofNat a : Nat) + b) := (Int32.ofNat_add a b).symm
theorem ln_mul (a b : Nat) : Int32.ofNat a * Int32.ofNat b = Int32.ofNat (a * b) := (Int32.ofNat_mul a b).symm
theorem ln_mxv {a b : Nat} (ha : a < 2147483648) (hb : b < 2147483648) : ck_mxv (Int32.ofNat a) (Int32.ofNat b) = Int32.ofNat (max a b) := by
  unfold ck_mxv
  by_cases h : a < b
  · rw [if_pos ((ln_lt ha hb).mpr h), Nat.max_eq_right (by omega)]
  · rw [if_neg (mt (ln_lt ha hb).mp h), Nat.max_eq_left (by omega)]
theorem ln_mxvL {a b : Nat} (ha : (OfNat.ofNat a : Nat) < 2147483648) (hb : b < 2147483648) : ck_mxv (no_index (OfNat.ofNat a : Int32)) (Int32.ofNat b) = Int32.ofNat (max (OfNat.ofNat a : Nat) b) := ln_mxv ha hb
theorem pat_has {n p i : Nat} {st rt : ck_S} (h : rP n p st rt) (hi : i < p) : fP_has (Int32.ofNat i) st = some (1, st) ∧ fR_isPattern (Int32.ofNat i) rt = some (1, rt) := by
  rcases pat_cases h (Int32.ofNat i) with ⟨j, h1, h2, h3, h4⟩ | ⟨h1, h2, h3⟩
  · exact ⟨h3, h4⟩
  · exact absurd rfl (h3 i hi)
/-- a pattern's type, its fit, on both sides -/
theorem pat_fits {n p i : Nat} {st rt : ck_S} (h : rP n p st rt) (hi : i < p) (w : Int32) : ∃ f : Int32, fP_fits (Int32.ofNat i) w st = some (f, st) ∧ fR_fitsType (Int32.ofNat i) w rt = some (f, rt) ∧ ((f = 0 ∧ ¬ st 11 i = -1 ∧ ¬ st 11 i = w) ∨ (f = 1 ∧ (st 11 i = -1 ∨ st 11 i = w))) := by
  have hh := pat_has h hi
  obtain ⟨h1, h2, h3, h4⟩ := h
  obtain ⟨⟨a1, a2, a3, a4, a5, a6⟩, b, c, k, _⟩ := h4 i hi
  unfold fP_fits fP_isOpen fR_fitsType
  rcases b with b | ⟨a, b1, b2⟩
  · exact ⟨1, by simp (disch := omega) only [hh.1, ck_b_some, ln_10, ↓reduceIte, ck_gd_ok, ln_at, b], by simp (disch := omega) only [ck_gd_ok, ln_at, a4, b, ln_m1', ↓reduceIte], Or.inr ⟨rfl, Or.inl b⟩⟩
  · by_cases e : Int32.ofNat a = w
    · subst e
      exact ⟨1, by simp (disch := omega) only [hh.1, ck_b_some, ln_10, ln_00, ↓reduceIte, ck_gd_ok, ln_at, b2, ln_m1], by simp (disch := omega) only [ck_gd_ok, ln_at, a4, b2, ln_lt0, ↓reduceIte], Or.inr ⟨rfl, Or.inr b2⟩⟩
    · exact ⟨0, by simp (disch := omega) only [hh.1, ck_b_some, ln_10, ln_00, ↓reduceIte, ck_gd_ok, ln_at, b2, ln_m1, e], by simp (disch := omega) only [ck_gd_ok, ln_at, a4, b2, ln_lt0, e, ↓reduceIte], Or.inl ⟨rfl, by rw [b2]; exact ln_m1 (by omega), by rw [b2]; exact e⟩⟩
theorem pat_dc {n p i : Nat} {st rt : ck_S} (h : rP n p st rt) (hi : i < p) : ∃ d k : Nat, 1 ≤ d ∧ d ≤ 4 ∧ 1 ≤ k ∧ k ≤ 8 ∧ st 15 i = Int32.ofNat d ∧ st 16 i = Int32.ofNat k ∧ rt 9 i = Int32.ofNat d ∧ rt 10 i = Int32.ofNat k ∧ fP_depthOf (Int32.ofNat i) st = some (Int32.ofNat d, st) ∧ fP_choicesOf (Int32.ofNat i) st = some (Int32.ofNat k, st) ∧ pd st (Int32.ofNat i) = d ∧ pch st (Int32.ofNat i) = k := by
  have hh := pat_has h hi
  obtain ⟨h1, h2, h3, h4⟩ := h
  obtain ⟨⟨a1, a2, a3, a4, a5, a6⟩, b, ⟨d, d1, d2, d3⟩, ⟨k, k1, k2, k3⟩, _⟩ := h4 i hi
  refine ⟨d, k, d1, d2, k1, k2, d3, k3, by rw [a5, d3], by rw [a6, k3], ?_, ?_, ?_, ?_⟩
  · unfold fP_depthOf
    simp (disch := omega) only [hh.1, ck_b_some, ln_10, ↓reduceIte, ck_gd_ok, ln_at, d3]
  · unfold fP_choicesOf
    simp (disch := omega) only [hh.1, ck_b_some, ln_10, ↓reduceIte, ck_gd_ok, ln_at, k3, ln_mxvL, Nat.max_eq_right k1]
  · unfold pd
    rw [if_neg (ln_m1 (by omega)), ln_at (by omega), d3, ln_at (by omega)]
  · unfold pch
    rw [if_neg (ln_m1 (by omega)), ln_at (by omega), k3, ln_at (by omega)]
/-- an argument that stands as it must: absent, or a pattern; on both sides -/
def argOK (p : Nat) (st rt : ck_S) (a x : Int32) (hv f : Int32) (d k : Nat) : Prop := fP_has x st = some (hv, st) ∧ fC_standsFor x hv a st = some (1, st) ∧ fP_fits x a st = some (f, st) ∧ fP_depthOf x st = some (Int32.ofNat d, st) ∧ fP_choicesOf x st = some (Int32.ofNat k, st) ∧ d ≤ 4 ∧ 1 ≤ k ∧ k ≤ 8 ∧ pd st x = d ∧ pch st x = k ∧ (f = 0 ∨ f = 1 ∧ partOK st p a x) ∧
  ((a = -1 ∧ x = -1 ∧ f = 1 ∧ d = 0 ∧ k = 1) ∨ (∃ a' i, a' ≤ 5 ∧ a = Int32.ofNat a' ∧ i < p ∧ x = Int32.ofNat i ∧ rt 9 i = Int32.ofNat d ∧ rt 10 i = Int32.ofNat k ∧ fR_isPattern x rt = some (1, rt) ∧ fR_fitsType x a rt = some (f, rt)))
theorem arg_cases {n p : Nat} {st rt : ck_S} (h : rP n p st rt) {a : Int32} (ha : a = -1 ∨ ∃ a', a' ≤ 5 ∧ a = Int32.ofNat a') (x : Int32) :
    (∃ hv, fP_has x st = some (hv, st) ∧ fC_standsFor x hv a st = some (0, st) ∧ ((a = -1 ∧ ¬ x = -1) ∨ (∃ a', a' ≤ 5 ∧ a = Int32.ofNat a' ∧ fR_isPattern x rt = some (0, rt)))) ∨ (∃ hv f d k, argOK p st rt a x hv f d k) := by
  rcases ha with rfl | ⟨a', ha1, rfl⟩
  · by_cases hx : x = -1
    · subst hx
      have e : fP_has (-1) st = some (0, st) := by
        unfold fP_has
        simp only [ln_m1', ↓reduceIte]
      refine Or.inr ⟨0, 1, 0, 1, e, ?_, ?_, ?_, ?_, by omega, by omega, by omega, ?_, ?_, Or.inr ⟨rfl, Or.inl ⟨rfl, rfl⟩⟩, Or.inl ⟨rfl, rfl, rfl, rfl, rfl⟩⟩
      · unfold fC_standsFor
        simp only [↓reduceIte]
      · unfold fP_fits
        simp only [e, ck_b_some, ↓reduceIte]
      · unfold fP_depthOf
        simp only [e, ck_b_some, ↓reduceIte]
        rfl
      · unfold fP_choicesOf
        simp only [e, ck_b_some, ↓reduceIte]
        rfl
      · unfold pd
        rw [if_pos rfl]
      · unfold pch
        rw [if_pos rfl]
    · left
      rcases pat_cases h x with ⟨j, h1, h2, h3, h4⟩ | ⟨h1, h2, h3⟩
      · refine ⟨1, h3, ?_, Or.inl ⟨rfl, hx⟩⟩
        unfold fC_standsFor
        simp only [↓reduceIte, hx]
      · refine ⟨0, h1, ?_, Or.inl ⟨rfl, hx⟩⟩
        unfold fC_standsFor
        simp only [↓reduceIte, hx]
  · rcases pat_cases h x with ⟨i, h1, h2, h3, h4⟩ | ⟨h1, h2, h3⟩
    · right
      subst h2
      obtain ⟨f, f1, f2, f3⟩ := pat_fits h h1 (Int32.ofNat a')
      obtain ⟨d, k, d1, d2, k1, k2, d3, k3, d4, k4, d5, k5, d6, k6⟩ := pat_dc h h1
      refine ⟨1, f, d, k, h3, ?_, f1, d5, k5, d2, k1, k2, d6, k6, ?_, Or.inr ⟨a', i, ha1, rfl, h1, rfl, d4, k4, h4, f2⟩⟩
      · unfold fC_standsFor
        simp (disch := omega) only [ln_m1, ↓reduceIte, ck_gz1]
      · rcases f3 with ⟨f3, _⟩ | ⟨f3, f4⟩
        · exact Or.inl f3
        · exact Or.inr ⟨f3, Or.inr ⟨ln_m1 (by omega), i, h1, rfl, f4⟩⟩
    · left
      refine ⟨0, h1, ?_, Or.inr ⟨a', ha1, rfl, h2⟩⟩
      unfold fC_standsFor
      simp (disch := omega) only [ln_m1, ↓reduceIte, ck_gz0]
def bres (s full : ck_S) (x f1 f2 : Int32) (m k p : Nat) : Option (Int32 × ck_S) := if f1 = 0 then some (-7, s) else if f2 = 0 then some (-7, s) else if 3 < m then some (-9, s) else if 8 < k then some (-10, s) else if p < 60 then some (x, full) else some (-8, s)
theorem build_C {t n p c : Nat} {st rt : ck_S} (hD : rD t n st rt) (hP : rP n p st rt) (hc : c < n) {x2 x3 h1 f1 h2 f2 : Int32} {d1 k1 d2 k2 : Nat} (A1 : argOK p st rt (st 8 c) x2 h1 f1 d1 k1) (A2 : argOK p st rt (st 9 c) x3 h2 f2 d2 k2) :
    fC_build (Int32.ofNat c) x2 x3 st = bres st (ppar p x2 x3 (Int32.ofNat (1 + max d1 d2)) (Int32.ofNat (k1 * k2)) (padd p 0 (st 7 c) (Int32.ofNat c) st)) (Int32.ofNat p) f1 f2 (max d1 d2) (k1 * k2) p := by
  obtain ⟨e1, e2, e3, e4, e5, e6, e7, e8, e9, e10, e11, -⟩ := A1
  obtain ⟨g1, g2, g3, g4, g5, g6, g7, g8, g9, g10, g11, -⟩ := A2
  obtain ⟨w1, w2, w3, w4, w5, w6, w7, w8, w9⟩ := hD
  have hk : k1 * k2 ≤ 64 := Nat.mul_le_mul e8 g8
  have hm : max d1 d2 ≤ 4 := Nat.max_le.mpr ⟨e6, g6⟩
  have hco : fD_isConstructor (Int32.ofNat c) st = some (1, st) := by
    unfold fD_isConstructor
    simp (disch := omega) only [w5, ln_lt0, ln_le, ↓reduceIte, Nat.not_le.mpr hc]
  have hf1 : fD_firstTypeOf (Int32.ofNat c) st = some (st 8 c, st) := by
    unfold fD_firstTypeOf
    simp (disch := omega) only [hco, ck_b_some, ln_10, ↓reduceIte, ck_gd_ok, ln_at]
  have hf2 : fD_secondTypeOf (Int32.ofNat c) st = some (st 9 c, st) := by
    unfold fD_secondTypeOf
    simp (disch := omega) only [hco, ck_b_some, ln_10, ↓reduceIte, ck_gd_ok, ln_at]
  have hf3 : fD_ownerOf (Int32.ofNat c) st = some (st 7 c, st) := by
    unfold fD_ownerOf
    simp (disch := omega) only [hco, ck_b_some, ln_10, ↓reduceIte, ck_gd_ok, ln_at]
  unfold fC_build fP_addBuild bres
  simp only [hco, hf1, hf2, hf3, e1, e2, e3, g1, g2, g3, ck_b_some, ln_10, ↓reduceIte, e4, g4, e5, g5]
  by_cases z1 : f1 = 0
  · simp only [z1, ↓reduceIte]
  · by_cases z2 : f2 = 0
    · simp only [z1, z2, ↓reduceIte]
    · simp (disch := omega) only [z1, z2, ↓reduceIte, ln_mxv, ln_Ladd, ln_leL, ln_mul]
      by_cases z3 : 3 < max d1 d2
      · simp (disch := omega) only [z3, ↓reduceIte, ck_b_some, show ¬ (1 + max d1 d2 ≤ 4) by omega]
      · simp (disch := omega) only [z3, ↓reduceIte, show (1 + max d1 d2 ≤ 4) by omega]
        by_cases z4 : 8 < k1 * k2
        · simp only [z4, ↓reduceIte, ck_b_some, show ¬ (k1 * k2 ≤ 8) by omega]
        · simp only [z4, ↓reduceIte, show (k1 * k2 ≤ 8) by omega]
          by_cases z5 : p < 60
          · simp only [(padd_ev hP _ _ _).1 z5, ck_b_some, ppar_ev z5 padd_27, z5, ↓reduceIte]
          · simp only [(padd_ev hP _ _ _).2 z5, ck_b_some, ppar_full hP, z5, ↓reduceIte]
theorem build_R {t n p c : Nat} {st rt : ck_S} (hD : rD t n st rt) (hP : rP n p st rt) (hc : c < n) {x2 x3 h1 f1 h2 f2 : Int32} {d1 k1 d2 k2 : Nat} (A1 : argOK p st rt (st 8 c) x2 h1 f1 d1 k1) (A2 : argOK p st rt (st 9 c) x3 h2 f2 d2 k2) :
    fR_build (Int32.ofNat c) x2 x3 rt = bres rt (radd p 2 (Int32.ofNat c) x2 x3 (st 7 c) (Int32.ofNat (1 + max d1 d2)) (Int32.ofNat (k1 * k2)) rt) (Int32.ofNat p) f1 f2 (max d1 d2) (k1 * k2) p := by
  obtain ⟨-, -, -, -, -, e6, e7, e8, -, -, e11, E⟩ := A1
  obtain ⟨-, -, -, -, -, g6, g7, g8, -, -, g11, G⟩ := A2
  obtain ⟨w1, w2, w3, w4, w5, w6, w7, w8, w9⟩ := hD
  obtain ⟨w71, w72, w73⟩ := w7 c hc
  have hk : k1 * k2 ≤ 64 := Nat.mul_le_mul e8 g8
  have hp60 := hP.1
  have hrp := hP.2.2.1
  have fin : (if 3 < max d1 d2 then some ((-9 : Int32), rt) else if 8 < k1 * k2 then some (-10, rt) else if p < 60 then some (Int32.ofNat p, radd p 2 (Int32.ofNat c) x2 x3 (st 7 c) (Int32.ofNat (1 + max d1 d2)) (Int32.ofNat (k1 * k2)) rt) else some (-8, rt)) = (if Int32.ofNat (max d1 d2) = 4 then some (-9, rt) else if Int32.ofNat (k1 * k2) ≤ 8 then (if rt 0 5 = 60 then some (-8, rt) else ck_b (fR_pattern 2 (Int32.ofNat c) x2 x3 (st 7 c) (Int32.ofNat (max d1 d2) + 1) (Int32.ofNat (k1 * k2)) rt) fun v2 st1 => some (v2, st1)) else some (-10, rt)) := by
    have hm : max d1 d2 ≤ 4 := Nat.max_le.mpr ⟨e6, g6⟩
    simp (disch := omega) only [hrp, ln_eqL, ln_leL, ck_bid]
    by_cases z3 : max d1 d2 = 4
    · simp only [z3, ↓reduceIte, show (3 < 4) by omega]
    · simp only [z3, ↓reduceIte, show ¬ (3 < max d1 d2) by omega]
      by_cases z4 : k1 * k2 ≤ 8
      · simp only [z4, ↓reduceIte, show ¬ (8 < k1 * k2) by omega]
        by_cases z5 : p < 60
        · simp only [z5, ↓reduceIte, show ¬ (p = 60) by omega, radd_ev hP z5, ln_addL, Nat.add_comm 1]
        · have z6 : p = 60 := by omega
          subst z6
          simp only [Nat.lt_irrefl, ↓reduceIte]
      · simp only [z4, ↓reduceIte, show (8 < k1 * k2) by omega]
  have f1' : f1 = 0 ∨ f1 = 1 := e11.elim Or.inl (fun h => Or.inr h.1)
  have f2' : f2 = 0 ∨ f2 = 1 := g11.elim Or.inl (fun h => Or.inr h.1)
  unfold bres
  rw [fin]
  rcases E with ⟨E1, E2, E3, E4, E5⟩ | ⟨a, i, E0, E1, E2, E3, E4, E5, E6, E7⟩
  · rcases G with ⟨G1, G2, G3, G4, G5⟩ | ⟨b, j, G0, G1, G2, G3, G4, G5, G6, G7⟩
    · subst E3 E4 E5 G3 G4 G5
      rw [E2]
      rw [G2]
      have t1 : fR_build_b137 (Int32.ofNat c) (-1) (-1) (0 : Int32) (0 : Int32) rt = (if Int32.ofNat (max 0 0) = 4 then some (-9, rt) else if Int32.ofNat (1 * 1) ≤ 8 then (if rt 0 5 = 60 then some (-8, rt) else ck_b (fR_pattern 2 (Int32.ofNat c) (-1) (-1) (st 7 c) (Int32.ofNat (max 0 0) + 1) (Int32.ofNat (1 * 1)) rt) fun v2 st1 => some (v2, st1)) else some (-10, rt)) := by
        simp (disch := omega) only [fR_build_b137, fR_build_b152, fR_build_b181, fR_build_b207, fR_build_b222, ln_10, ln_00, ↓reduceIte, ck_gd_ok, ln_at, w71, Nat.mul_one, Nat.max_self, ln_z, ln_o, Int32.mul_one]
      have t2 : fR_build_b115 (Int32.ofNat c) (-1) (-1) (0 : Int32) (0 : Int32) rt = (if Int32.ofNat (max 0 0) = 4 then some (-9, rt) else if Int32.ofNat (1 * 1) ≤ 8 then (if rt 0 5 = 60 then some (-8, rt) else ck_b (fR_pattern 2 (Int32.ofNat c) (-1) (-1) (st 7 c) (Int32.ofNat (max 0 0) + 1) (Int32.ofNat (1 * 1)) rt) fun v2 st1 => some (v2, st1)) else some (-10, rt)) := by
        unfold fR_build_b115
        simp (disch := omega) only [ln_lt0, w6, ln_lt, hc, ↓reduceIte, ck_gd_ok, ln_at, w71, w72, w73, ln_m1', ln_10, ln_00, ck_b_some, E1, G1, E2, G2, t1]
      have t3 : fR_build_b96 (Int32.ofNat c) (-1) (-1) (0 : Int32) (0 : Int32) rt = (if Int32.ofNat (max 0 0) = 4 then some (-9, rt) else if Int32.ofNat (1 * 1) ≤ 8 then (if rt 0 5 = 60 then some (-8, rt) else ck_b (fR_pattern 2 (Int32.ofNat c) (-1) (-1) (st 7 c) (Int32.ofNat (max 0 0) + 1) (Int32.ofNat (1 * 1)) rt) fun v2 st1 => some (v2, st1)) else some (-10, rt)) := by
        unfold fR_build_b96
        simp (disch := omega) only [ln_lt0, w6, ln_lt, hc, ↓reduceIte, ck_gd_ok, ln_at, w71, w72, w73, ln_m1', ln_10, ln_00, ck_b_some, E1, G1, E2, G2, t2]
      have t83 : fR_build_b83 (Int32.ofNat c) (-1) (-1) (0 : Int32) (0 : Int32) rt = (if Int32.ofNat (max 0 0) = 4 then some (-9, rt) else if Int32.ofNat (1 * 1) ≤ 8 then (if rt 0 5 = 60 then some (-8, rt) else ck_b (fR_pattern 2 (Int32.ofNat c) (-1) (-1) (st 7 c) (Int32.ofNat (max 0 0) + 1) (Int32.ofNat (1 * 1)) rt) fun v2 st1 => some (v2, st1)) else some (-10, rt)) := by
        unfold fR_build_b83
        simp (disch := omega) only [ln_lt0, w6, ln_lt, hc, ↓reduceIte, ck_gd_ok, ln_at, w71, w72, w73, ln_m1', ln_10, ln_00, ck_b_some, E1, G1, E2, G2, t3]
      have t70 : fR_build_b70 (Int32.ofNat c) (-1) (-1) (0 : Int32) (0 : Int32) rt = (if Int32.ofNat (max 0 0) = 4 then some (-9, rt) else if Int32.ofNat (1 * 1) ≤ 8 then (if rt 0 5 = 60 then some (-8, rt) else ck_b (fR_pattern 2 (Int32.ofNat c) (-1) (-1) (st 7 c) (Int32.ofNat (max 0 0) + 1) (Int32.ofNat (1 * 1)) rt) fun v2 st1 => some (v2, st1)) else some (-10, rt)) := by
        unfold fR_build_b70
        simp (disch := omega) only [ln_lt0, w6, ln_lt, hc, ↓reduceIte, ck_gd_ok, ln_at, w71, w72, w73, ln_m1', ln_10, ln_00, ck_b_some, E1, G1, E2, G2, t83]
      have t60 : fR_build_b60 (Int32.ofNat c) (-1) (-1) (0 : Int32) (0 : Int32) rt = (if Int32.ofNat (max 0 0) = 4 then some (-9, rt) else if Int32.ofNat (1 * 1) ≤ 8 then (if rt 0 5 = 60 then some (-8, rt) else ck_b (fR_pattern 2 (Int32.ofNat c) (-1) (-1) (st 7 c) (Int32.ofNat (max 0 0) + 1) (Int32.ofNat (1 * 1)) rt) fun v2 st1 => some (v2, st1)) else some (-10, rt)) := by
        unfold fR_build_b60
        simp (disch := omega) only [ln_lt0, w6, ln_lt, hc, ↓reduceIte, ck_gd_ok, ln_at, w71, w72, w73, ln_m1', ln_10, ln_00, ck_b_some, E1, G1, E2, G2, t70]
      have t45 : fR_build_b45 (0 : Int32) (Int32.ofNat c) (-1) (-1) (0 : Int32) rt = (if Int32.ofNat (max 0 0) = 4 then some (-9, rt) else if Int32.ofNat (1 * 1) ≤ 8 then (if rt 0 5 = 60 then some (-8, rt) else ck_b (fR_pattern 2 (Int32.ofNat c) (-1) (-1) (st 7 c) (Int32.ofNat (max 0 0) + 1) (Int32.ofNat (1 * 1)) rt) fun v2 st1 => some (v2, st1)) else some (-10, rt)) := by
        unfold fR_build_b45
        simp (disch := omega) only [ln_lt0, w6, ln_lt, hc, ↓reduceIte, ck_gd_ok, ln_at, w71, w72, w73, ln_m1', ln_10, ln_00, ck_b_some, E1, G1, E2, G2, t60]
      have t29 : fR_build_b29 (0 : Int32) (Int32.ofNat c) (-1) (-1) rt = (if Int32.ofNat (max 0 0) = 4 then some (-9, rt) else if Int32.ofNat (1 * 1) ≤ 8 then (if rt 0 5 = 60 then some (-8, rt) else ck_b (fR_pattern 2 (Int32.ofNat c) (-1) (-1) (st 7 c) (Int32.ofNat (max 0 0) + 1) (Int32.ofNat (1 * 1)) rt) fun v2 st1 => some (v2, st1)) else some (-10, rt)) := by
        unfold fR_build_b29
        simp (disch := omega) only [ln_lt0, w6, ln_lt, hc, ↓reduceIte, ck_gd_ok, ln_at, w71, w72, w73, ln_m1', ln_10, ln_00, ck_b_some, E1, G1, E2, G2, t45]
      unfold fR_build
      simp (disch := omega) only [ln_lt0, w6, ln_lt, hc, ↓reduceIte, ck_gd_ok, ln_at, w71, w72, w73, ln_m1', ln_10, ln_00, ck_b_some, E1, G1, E2, G2, t29]
    · subst E3 E4 E5
      rw [E2]
      rw [G1] at G7
      rw [G3] at G6 G7 ⊢
      have t1 : fR_build_b137 (Int32.ofNat c) (-1) (Int32.ofNat j) (0 : Int32) (1 : Int32) rt = (if Int32.ofNat (max 0 d2) = 4 then some (-9, rt) else if Int32.ofNat (1 * k2) ≤ 8 then (if rt 0 5 = 60 then some (-8, rt) else ck_b (fR_pattern 2 (Int32.ofNat c) (-1) (Int32.ofNat j) (st 7 c) (Int32.ofNat (max 0 d2) + 1) (Int32.ofNat (1 * k2)) rt) fun v2 st1 => some (v2, st1)) else some (-10, rt)) := by
        by_cases z : d2 ≤ 0
        · have z0 : d2 = 0 := by omega
          subst z0
          simp (disch := omega) only [fR_build_b137, fR_build_b152, fR_build_b181, fR_build_b207, fR_build_b222, ln_10, ln_00, ↓reduceIte, ck_gd_ok, ln_at, w71, G4, G5, ln_z, Int32.le_refl, Nat.max_self, Int32.one_mul, Nat.one_mul]
        · simp (disch := omega) only [fR_build_b137, fR_build_b152, fR_build_b181, fR_build_b207, fR_build_b222, ln_10, ln_00, ↓reduceIte, ck_gd_ok, ln_at, w71, G4, G5, ln_leL, z, Int32.one_mul, Nat.one_mul, Nat.max_eq_right (Nat.zero_le d2)]
      have t2 : fR_build_b115 (Int32.ofNat c) (-1) (Int32.ofNat j) (0 : Int32) (1 : Int32) rt = (if f2 = 0 then some (-7, rt) else (if Int32.ofNat (max 0 d2) = 4 then some (-9, rt) else if Int32.ofNat (1 * k2) ≤ 8 then (if rt 0 5 = 60 then some (-8, rt) else ck_b (fR_pattern 2 (Int32.ofNat c) (-1) (Int32.ofNat j) (st 7 c) (Int32.ofNat (max 0 d2) + 1) (Int32.ofNat (1 * k2)) rt) fun v2 st1 => some (v2, st1)) else some (-10, rt))) := by
        unfold fR_build_b115
        simp (disch := omega) only [ln_lt0, w6, ln_lt, hc, ↓reduceIte, ck_gd_ok, ln_at, w71, w72, w73, ln_m1', ln_10, ln_00, ck_b_some, E1, G1, E2, t1, G7]
      have t3 : fR_build_b96 (Int32.ofNat c) (-1) (Int32.ofNat j) (0 : Int32) (1 : Int32) rt = (if f2 = 0 then some (-7, rt) else (if Int32.ofNat (max 0 d2) = 4 then some (-9, rt) else if Int32.ofNat (1 * k2) ≤ 8 then (if rt 0 5 = 60 then some (-8, rt) else ck_b (fR_pattern 2 (Int32.ofNat c) (-1) (Int32.ofNat j) (st 7 c) (Int32.ofNat (max 0 d2) + 1) (Int32.ofNat (1 * k2)) rt) fun v2 st1 => some (v2, st1)) else some (-10, rt))) := by
        unfold fR_build_b96
        simp (disch := omega) only [ln_lt0, w6, ln_lt, hc, ↓reduceIte, ck_gd_ok, ln_at, w71, w72, w73, ln_m1', ln_10, ln_00, ck_b_some, E1, G1, E2, t2]
      have t83 : fR_build_b83 (Int32.ofNat c) (-1) (Int32.ofNat j) (0 : Int32) (1 : Int32) rt = (if f2 = 0 then some (-7, rt) else (if Int32.ofNat (max 0 d2) = 4 then some (-9, rt) else if Int32.ofNat (1 * k2) ≤ 8 then (if rt 0 5 = 60 then some (-8, rt) else ck_b (fR_pattern 2 (Int32.ofNat c) (-1) (Int32.ofNat j) (st 7 c) (Int32.ofNat (max 0 d2) + 1) (Int32.ofNat (1 * k2)) rt) fun v2 st1 => some (v2, st1)) else some (-10, rt))) := by
        unfold fR_build_b83
        simp (disch := omega) only [ln_lt0, w6, ln_lt, hc, ↓reduceIte, ck_gd_ok, ln_at, w71, w72, w73, ln_m1', ln_10, ln_00, ck_b_some, E1, G1, E2, t3]
      have t70 : fR_build_b70 (Int32.ofNat c) (-1) (Int32.ofNat j) (0 : Int32) (1 : Int32) rt = (if f2 = 0 then some (-7, rt) else (if Int32.ofNat (max 0 d2) = 4 then some (-9, rt) else if Int32.ofNat (1 * k2) ≤ 8 then (if rt 0 5 = 60 then some (-8, rt) else ck_b (fR_pattern 2 (Int32.ofNat c) (-1) (Int32.ofNat j) (st 7 c) (Int32.ofNat (max 0 d2) + 1) (Int32.ofNat (1 * k2)) rt) fun v2 st1 => some (v2, st1)) else some (-10, rt))) := by
        unfold fR_build_b70
        simp (disch := omega) only [ln_lt0, w6, ln_lt, hc, ↓reduceIte, ck_gd_ok, ln_at, w71, w72, w73, ln_m1', ln_10, ln_00, ck_b_some, E1, G1, E2, t83, G6]
      have t60 : fR_build_b60 (Int32.ofNat c) (-1) (Int32.ofNat j) (0 : Int32) (1 : Int32) rt = (if f2 = 0 then some (-7, rt) else (if Int32.ofNat (max 0 d2) = 4 then some (-9, rt) else if Int32.ofNat (1 * k2) ≤ 8 then (if rt 0 5 = 60 then some (-8, rt) else ck_b (fR_pattern 2 (Int32.ofNat c) (-1) (Int32.ofNat j) (st 7 c) (Int32.ofNat (max 0 d2) + 1) (Int32.ofNat (1 * k2)) rt) fun v2 st1 => some (v2, st1)) else some (-10, rt))) := by
        unfold fR_build_b60
        simp (disch := omega) only [ln_lt0, w6, ln_lt, hc, ↓reduceIte, ck_gd_ok, ln_at, w71, w72, w73, ln_m1', ln_10, ln_00, ck_b_some, E1, G1, E2, t70]
      have t45 : fR_build_b45 (1 : Int32) (Int32.ofNat c) (-1) (Int32.ofNat j) (0 : Int32) rt = (if f2 = 0 then some (-7, rt) else (if Int32.ofNat (max 0 d2) = 4 then some (-9, rt) else if Int32.ofNat (1 * k2) ≤ 8 then (if rt 0 5 = 60 then some (-8, rt) else ck_b (fR_pattern 2 (Int32.ofNat c) (-1) (Int32.ofNat j) (st 7 c) (Int32.ofNat (max 0 d2) + 1) (Int32.ofNat (1 * k2)) rt) fun v2 st1 => some (v2, st1)) else some (-10, rt))) := by
        unfold fR_build_b45
        simp (disch := omega) only [ln_lt0, w6, ln_lt, hc, ↓reduceIte, ck_gd_ok, ln_at, w71, w72, w73, ln_m1', ln_10, ln_00, ck_b_some, E1, G1, E2, t60]
      have t29 : fR_build_b29 (0 : Int32) (Int32.ofNat c) (-1) (Int32.ofNat j) rt = (if f2 = 0 then some (-7, rt) else (if Int32.ofNat (max 0 d2) = 4 then some (-9, rt) else if Int32.ofNat (1 * k2) ≤ 8 then (if rt 0 5 = 60 then some (-8, rt) else ck_b (fR_pattern 2 (Int32.ofNat c) (-1) (Int32.ofNat j) (st 7 c) (Int32.ofNat (max 0 d2) + 1) (Int32.ofNat (1 * k2)) rt) fun v2 st1 => some (v2, st1)) else some (-10, rt))) := by
        unfold fR_build_b29
        simp (disch := omega) only [ln_lt0, w6, ln_lt, hc, ↓reduceIte, ck_gd_ok, ln_at, w71, w72, w73, ln_m1', ln_10, ln_00, ck_b_some, E1, G1, E2, t45]
      unfold fR_build
      simp (disch := omega) only [ln_lt0, w6, ln_lt, hc, ↓reduceIte, ck_gd_ok, ln_at, w71, w72, w73, ln_m1', ln_10, ln_00, ck_b_some, E1, G1, E2, t29]
  · rcases G with ⟨G1, G2, G3, G4, G5⟩ | ⟨b, j, G0, G1, G2, G3, G4, G5, G6, G7⟩
    · subst G3 G4 G5
      rw [E1] at E7
      rw [E3] at E6 E7 ⊢
      rw [G2]
      have t1 : fR_build_b137 (Int32.ofNat c) (Int32.ofNat i) (-1) (1 : Int32) (0 : Int32) rt = (if Int32.ofNat (max d1 0) = 4 then some (-9, rt) else if Int32.ofNat (k1 * 1) ≤ 8 then (if rt 0 5 = 60 then some (-8, rt) else ck_b (fR_pattern 2 (Int32.ofNat c) (Int32.ofNat i) (-1) (st 7 c) (Int32.ofNat (max d1 0) + 1) (Int32.ofNat (k1 * 1)) rt) fun v2 st1 => some (v2, st1)) else some (-10, rt)) := by
        simp (disch := omega) only [fR_build_b137, fR_build_b152, fR_build_b181, fR_build_b207, fR_build_b222, ln_10, ln_00, ↓reduceIte, ck_gd_ok, ln_at, w71, E4, E5, Int32.mul_one, Nat.mul_one, Nat.max_eq_left (Nat.zero_le d1)]
      have t2 : fR_build_b115 (Int32.ofNat c) (Int32.ofNat i) (-1) (1 : Int32) (0 : Int32) rt = (if Int32.ofNat (max d1 0) = 4 then some (-9, rt) else if Int32.ofNat (k1 * 1) ≤ 8 then (if rt 0 5 = 60 then some (-8, rt) else ck_b (fR_pattern 2 (Int32.ofNat c) (Int32.ofNat i) (-1) (st 7 c) (Int32.ofNat (max d1 0) + 1) (Int32.ofNat (k1 * 1)) rt) fun v2 st1 => some (v2, st1)) else some (-10, rt)) := by
        unfold fR_build_b115
        simp (disch := omega) only [ln_lt0, w6, ln_lt, hc, ↓reduceIte, ck_gd_ok, ln_at, w71, w72, w73, ln_m1', ln_10, ln_00, ck_b_some, E1, G1, G2, t1]
      have t3 : fR_build_b96 (Int32.ofNat c) (Int32.ofNat i) (-1) (1 : Int32) (0 : Int32) rt = (if f1 = 0 then some (-7, rt) else (if Int32.ofNat (max d1 0) = 4 then some (-9, rt) else if Int32.ofNat (k1 * 1) ≤ 8 then (if rt 0 5 = 60 then some (-8, rt) else ck_b (fR_pattern 2 (Int32.ofNat c) (Int32.ofNat i) (-1) (st 7 c) (Int32.ofNat (max d1 0) + 1) (Int32.ofNat (k1 * 1)) rt) fun v2 st1 => some (v2, st1)) else some (-10, rt))) := by
        unfold fR_build_b96
        simp (disch := omega) only [ln_lt0, w6, ln_lt, hc, ↓reduceIte, ck_gd_ok, ln_at, w71, w72, w73, ln_m1', ln_10, ln_00, ck_b_some, E1, G1, G2, t2, E7]
      have t83 : fR_build_b83 (Int32.ofNat c) (Int32.ofNat i) (-1) (1 : Int32) (0 : Int32) rt = (if f1 = 0 then some (-7, rt) else (if Int32.ofNat (max d1 0) = 4 then some (-9, rt) else if Int32.ofNat (k1 * 1) ≤ 8 then (if rt 0 5 = 60 then some (-8, rt) else ck_b (fR_pattern 2 (Int32.ofNat c) (Int32.ofNat i) (-1) (st 7 c) (Int32.ofNat (max d1 0) + 1) (Int32.ofNat (k1 * 1)) rt) fun v2 st1 => some (v2, st1)) else some (-10, rt))) := by
        unfold fR_build_b83
        simp (disch := omega) only [ln_lt0, w6, ln_lt, hc, ↓reduceIte, ck_gd_ok, ln_at, w71, w72, w73, ln_m1', ln_10, ln_00, ck_b_some, E1, G1, G2, t3]
      have t70 : fR_build_b70 (Int32.ofNat c) (Int32.ofNat i) (-1) (1 : Int32) (0 : Int32) rt = (if f1 = 0 then some (-7, rt) else (if Int32.ofNat (max d1 0) = 4 then some (-9, rt) else if Int32.ofNat (k1 * 1) ≤ 8 then (if rt 0 5 = 60 then some (-8, rt) else ck_b (fR_pattern 2 (Int32.ofNat c) (Int32.ofNat i) (-1) (st 7 c) (Int32.ofNat (max d1 0) + 1) (Int32.ofNat (k1 * 1)) rt) fun v2 st1 => some (v2, st1)) else some (-10, rt))) := by
        unfold fR_build_b70
        simp (disch := omega) only [ln_lt0, w6, ln_lt, hc, ↓reduceIte, ck_gd_ok, ln_at, w71, w72, w73, ln_m1', ln_10, ln_00, ck_b_some, E1, G1, G2, t83]
      have t60 : fR_build_b60 (Int32.ofNat c) (Int32.ofNat i) (-1) (1 : Int32) (0 : Int32) rt = (if f1 = 0 then some (-7, rt) else (if Int32.ofNat (max d1 0) = 4 then some (-9, rt) else if Int32.ofNat (k1 * 1) ≤ 8 then (if rt 0 5 = 60 then some (-8, rt) else ck_b (fR_pattern 2 (Int32.ofNat c) (Int32.ofNat i) (-1) (st 7 c) (Int32.ofNat (max d1 0) + 1) (Int32.ofNat (k1 * 1)) rt) fun v2 st1 => some (v2, st1)) else some (-10, rt))) := by
        unfold fR_build_b60
        simp (disch := omega) only [ln_lt0, w6, ln_lt, hc, ↓reduceIte, ck_gd_ok, ln_at, w71, w72, w73, ln_m1', ln_10, ln_00, ck_b_some, E1, G1, G2, t70]
      have t45 : fR_build_b45 (0 : Int32) (Int32.ofNat c) (Int32.ofNat i) (-1) (1 : Int32) rt = (if f1 = 0 then some (-7, rt) else (if Int32.ofNat (max d1 0) = 4 then some (-9, rt) else if Int32.ofNat (k1 * 1) ≤ 8 then (if rt 0 5 = 60 then some (-8, rt) else ck_b (fR_pattern 2 (Int32.ofNat c) (Int32.ofNat i) (-1) (st 7 c) (Int32.ofNat (max d1 0) + 1) (Int32.ofNat (k1 * 1)) rt) fun v2 st1 => some (v2, st1)) else some (-10, rt))) := by
        unfold fR_build_b45
        simp (disch := omega) only [ln_lt0, w6, ln_lt, hc, ↓reduceIte, ck_gd_ok, ln_at, w71, w72, w73, ln_m1', ln_10, ln_00, ck_b_some, E1, G1, G2, t60, E6]
      have t29 : fR_build_b29 (1 : Int32) (Int32.ofNat c) (Int32.ofNat i) (-1) rt = (if f1 = 0 then some (-7, rt) else (if Int32.ofNat (max d1 0) = 4 then some (-9, rt) else if Int32.ofNat (k1 * 1) ≤ 8 then (if rt 0 5 = 60 then some (-8, rt) else ck_b (fR_pattern 2 (Int32.ofNat c) (Int32.ofNat i) (-1) (st 7 c) (Int32.ofNat (max d1 0) + 1) (Int32.ofNat (k1 * 1)) rt) fun v2 st1 => some (v2, st1)) else some (-10, rt))) := by
        unfold fR_build_b29
        simp (disch := omega) only [ln_lt0, w6, ln_lt, hc, ↓reduceIte, ck_gd_ok, ln_at, w71, w72, w73, ln_m1', ln_10, ln_00, ck_b_some, E1, G1, G2, t45]
      unfold fR_build
      simp (disch := omega) only [ln_lt0, w6, ln_lt, hc, ↓reduceIte, ck_gd_ok, ln_at, w71, w72, w73, ln_m1', ln_10, ln_00, ck_b_some, E1, G1, G2, t29]
    · rw [E1] at E7
      rw [E3] at E6 E7 ⊢
      rw [G1] at G7
      rw [G3] at G6 G7 ⊢
      have t1 : fR_build_b137 (Int32.ofNat c) (Int32.ofNat i) (Int32.ofNat j) (1 : Int32) (1 : Int32) rt = (if Int32.ofNat (max d1 d2) = 4 then some (-9, rt) else if Int32.ofNat (k1 * k2) ≤ 8 then (if rt 0 5 = 60 then some (-8, rt) else ck_b (fR_pattern 2 (Int32.ofNat c) (Int32.ofNat i) (Int32.ofNat j) (st 7 c) (Int32.ofNat (max d1 d2) + 1) (Int32.ofNat (k1 * k2)) rt) fun v2 st1 => some (v2, st1)) else some (-10, rt)) := by
        by_cases z : d2 ≤ d1
        · simp (disch := omega) only [fR_build_b137, fR_build_b152, fR_build_b181, fR_build_b207, fR_build_b222, ln_10, ln_00, ↓reduceIte, ck_gd_ok, ln_at, w71, E4, E5, G4, G5, ln_le, ln_mul, z, Nat.max_eq_left z]
        · simp (disch := omega) only [fR_build_b137, fR_build_b152, fR_build_b181, fR_build_b207, fR_build_b222, ln_10, ln_00, ↓reduceIte, ck_gd_ok, ln_at, w71, E4, E5, G4, G5, ln_le, ln_mul, z, Nat.max_eq_right (Nat.le_of_not_le z)]
      have t2 : fR_build_b115 (Int32.ofNat c) (Int32.ofNat i) (Int32.ofNat j) (1 : Int32) (1 : Int32) rt = (if f2 = 0 then some (-7, rt) else (if Int32.ofNat (max d1 d2) = 4 then some (-9, rt) else if Int32.ofNat (k1 * k2) ≤ 8 then (if rt 0 5 = 60 then some (-8, rt) else ck_b (fR_pattern 2 (Int32.ofNat c) (Int32.ofNat i) (Int32.ofNat j) (st 7 c) (Int32.ofNat (max d1 d2) + 1) (Int32.ofNat (k1 * k2)) rt) fun v2 st1 => some (v2, st1)) else some (-10, rt))) := by
        unfold fR_build_b115
        simp (disch := omega) only [ln_lt0, w6, ln_lt, hc, ↓reduceIte, ck_gd_ok, ln_at, w71, w72, w73, ln_m1', ln_10, ln_00, ck_b_some, E1, G1, t1, G7]
      have t3 : fR_build_b96 (Int32.ofNat c) (Int32.ofNat i) (Int32.ofNat j) (1 : Int32) (1 : Int32) rt = (if f1 = 0 then some (-7, rt) else (if f2 = 0 then some (-7, rt) else (if Int32.ofNat (max d1 d2) = 4 then some (-9, rt) else if Int32.ofNat (k1 * k2) ≤ 8 then (if rt 0 5 = 60 then some (-8, rt) else ck_b (fR_pattern 2 (Int32.ofNat c) (Int32.ofNat i) (Int32.ofNat j) (st 7 c) (Int32.ofNat (max d1 d2) + 1) (Int32.ofNat (k1 * k2)) rt) fun v2 st1 => some (v2, st1)) else some (-10, rt)))) := by
        unfold fR_build_b96
        simp (disch := omega) only [ln_lt0, w6, ln_lt, hc, ↓reduceIte, ck_gd_ok, ln_at, w71, w72, w73, ln_m1', ln_10, ln_00, ck_b_some, E1, G1, t2, E7]
      have t83 : fR_build_b83 (Int32.ofNat c) (Int32.ofNat i) (Int32.ofNat j) (1 : Int32) (1 : Int32) rt = (if f1 = 0 then some (-7, rt) else (if f2 = 0 then some (-7, rt) else (if Int32.ofNat (max d1 d2) = 4 then some (-9, rt) else if Int32.ofNat (k1 * k2) ≤ 8 then (if rt 0 5 = 60 then some (-8, rt) else ck_b (fR_pattern 2 (Int32.ofNat c) (Int32.ofNat i) (Int32.ofNat j) (st 7 c) (Int32.ofNat (max d1 d2) + 1) (Int32.ofNat (k1 * k2)) rt) fun v2 st1 => some (v2, st1)) else some (-10, rt)))) := by
        unfold fR_build_b83
        simp (disch := omega) only [ln_lt0, w6, ln_lt, hc, ↓reduceIte, ck_gd_ok, ln_at, w71, w72, w73, ln_m1', ln_10, ln_00, ck_b_some, E1, G1, t3]
      have t70 : fR_build_b70 (Int32.ofNat c) (Int32.ofNat i) (Int32.ofNat j) (1 : Int32) (1 : Int32) rt = (if f1 = 0 then some (-7, rt) else (if f2 = 0 then some (-7, rt) else (if Int32.ofNat (max d1 d2) = 4 then some (-9, rt) else if Int32.ofNat (k1 * k2) ≤ 8 then (if rt 0 5 = 60 then some (-8, rt) else ck_b (fR_pattern 2 (Int32.ofNat c) (Int32.ofNat i) (Int32.ofNat j) (st 7 c) (Int32.ofNat (max d1 d2) + 1) (Int32.ofNat (k1 * k2)) rt) fun v2 st1 => some (v2, st1)) else some (-10, rt)))) := by
        unfold fR_build_b70
        simp (disch := omega) only [ln_lt0, w6, ln_lt, hc, ↓reduceIte, ck_gd_ok, ln_at, w71, w72, w73, ln_m1', ln_10, ln_00, ck_b_some, E1, G1, t83, G6]
      have t60 : fR_build_b60 (Int32.ofNat c) (Int32.ofNat i) (Int32.ofNat j) (1 : Int32) (1 : Int32) rt = (if f1 = 0 then some (-7, rt) else (if f2 = 0 then some (-7, rt) else (if Int32.ofNat (max d1 d2) = 4 then some (-9, rt) else if Int32.ofNat (k1 * k2) ≤ 8 then (if rt 0 5 = 60 then some (-8, rt) else ck_b (fR_pattern 2 (Int32.ofNat c) (Int32.ofNat i) (Int32.ofNat j) (st 7 c) (Int32.ofNat (max d1 d2) + 1) (Int32.ofNat (k1 * k2)) rt) fun v2 st1 => some (v2, st1)) else some (-10, rt)))) := by
        unfold fR_build_b60
        simp (disch := omega) only [ln_lt0, w6, ln_lt, hc, ↓reduceIte, ck_gd_ok, ln_at, w71, w72, w73, ln_m1', ln_10, ln_00, ck_b_some, E1, G1, t70]
      have t45 : fR_build_b45 (1 : Int32) (Int32.ofNat c) (Int32.ofNat i) (Int32.ofNat j) (1 : Int32) rt = (if f1 = 0 then some (-7, rt) else (if f2 = 0 then some (-7, rt) else (if Int32.ofNat (max d1 d2) = 4 then some (-9, rt) else if Int32.ofNat (k1 * k2) ≤ 8 then (if rt 0 5 = 60 then some (-8, rt) else ck_b (fR_pattern 2 (Int32.ofNat c) (Int32.ofNat i) (Int32.ofNat j) (st 7 c) (Int32.ofNat (max d1 d2) + 1) (Int32.ofNat (k1 * k2)) rt) fun v2 st1 => some (v2, st1)) else some (-10, rt)))) := by
        unfold fR_build_b45
        simp (disch := omega) only [ln_lt0, w6, ln_lt, hc, ↓reduceIte, ck_gd_ok, ln_at, w71, w72, w73, ln_m1', ln_10, ln_00, ck_b_some, E1, G1, t60, E6]
      have t29 : fR_build_b29 (1 : Int32) (Int32.ofNat c) (Int32.ofNat i) (Int32.ofNat j) rt = (if f1 = 0 then some (-7, rt) else (if f2 = 0 then some (-7, rt) else (if Int32.ofNat (max d1 d2) = 4 then some (-9, rt) else if Int32.ofNat (k1 * k2) ≤ 8 then (if rt 0 5 = 60 then some (-8, rt) else ck_b (fR_pattern 2 (Int32.ofNat c) (Int32.ofNat i) (Int32.ofNat j) (st 7 c) (Int32.ofNat (max d1 d2) + 1) (Int32.ofNat (k1 * k2)) rt) fun v2 st1 => some (v2, st1)) else some (-10, rt)))) := by
        unfold fR_build_b29
        simp (disch := omega) only [ln_lt0, w6, ln_lt, hc, ↓reduceIte, ck_gd_ok, ln_at, w71, w72, w73, ln_m1', ln_10, ln_00, ck_b_some, E1, G1, t45]
      unfold fR_build
      simp (disch := omega) only [ln_lt0, w6, ln_lt, hc, ↓reduceIte, ck_gd_ok, ln_at, w71, w72, w73, ln_m1', ln_10, ln_00, ck_b_some, E1, G1, t29]
theorem build_P {t n p : Nat} {st rt : ck_S} (hD : rD t n st rt) (hP : rP n p st rt) (x1 x2 x3 : Int32) : simP n p st rt (fC_build x1 x2 x3 st) (fR_build x1 x2 x3 rt) := by
  have hD' := hD
  obtain ⟨w1, w2, w3, w4, w5, w6, w7, w8, w9⟩ := hD'
  rcases ln_cases x1 n (by omega) with ⟨c, hc, rfl⟩ | hx | ⟨hx, hx2⟩
  · have hw := w8 c hc
    obtain ⟨⟨o, o1, o2, o3⟩, wa, wb, wab⟩ := hw
    have ha : st 8 c = -1 ∨ ∃ a', a' ≤ 5 ∧ st 8 c = Int32.ofNat a' := by
      rcases wa with wa | ⟨a, a1, a2⟩
      · exact Or.inl wa
      · exact Or.inr ⟨a, by omega, a2⟩
    have hb : st 9 c = -1 ∨ ∃ a', a' ≤ 5 ∧ st 9 c = Int32.ofNat a' := by
      rcases wb with wb | ⟨a, a1, a2⟩
      · exact Or.inl wb
      · exact Or.inr ⟨a, by omega, a2⟩
    have hco : fD_isConstructor (Int32.ofNat c) st = some (1, st) := by
      unfold fD_isConstructor
      simp (disch := omega) only [w5, ln_lt0, ln_le, ↓reduceIte, Nat.not_le.mpr hc]
    have hf1 : fD_firstTypeOf (Int32.ofNat c) st = some (st 8 c, st) := by
      unfold fD_firstTypeOf
      simp (disch := omega) only [hco, ck_b_some, ln_10, ↓reduceIte, ck_gd_ok, ln_at]
    have hf2 : fD_secondTypeOf (Int32.ofNat c) st = some (st 9 c, st) := by
      unfold fD_secondTypeOf
      simp (disch := omega) only [hco, ck_b_some, ln_10, ↓reduceIte, ck_gd_ok, ln_at]
    obtain ⟨w71, w72, w73⟩ := w7 c hc
    rcases arg_cases hP ha x2 with ⟨hv, e1, e2, e3⟩ | ⟨h1, f1, d1, k1, A1⟩
    · refine simP_no (x := -5) hP ?_ ?_
      · unfold fC_build
        simp only [hco, ck_b_some, ln_10, ↓reduceIte, hf1, hf2, e1, e2]
      · rcases e3 with ⟨e3, e4⟩ | ⟨a', e3, e4, e5⟩
        · rcases hb with hb | ⟨b', b1, b2⟩
          · simp (disch := omega) only [fR_build, fR_build_b29, fR_build_b45, fR_build_b60, ln_lt0, w6, ln_lt, hc, ↓reduceIte, ck_gd_ok, ln_at, w72, w73, e3, hb, ln_m1', ln_00, e4]
          · simp (disch := omega) only [fR_build, fR_build_b29, fR_build_b45, fR_build_b60, ln_lt0, w6, ln_lt, hc, ↓reduceIte, ck_gd_ok, ln_at, w72, w73, e3, b2, ln_m1', ln_00, e4]
        · rcases hb with hb | ⟨b', b1, b2⟩
          · simp (disch := omega) only [fR_build, fR_build_b29, fR_build_b45, ln_lt0, w6, ln_lt, hc, ↓reduceIte, ck_gd_ok, ln_at, w72, w73, e4, hb, ln_m1', ln_10, e5, ck_b_some]
          · simp (disch := omega) only [fR_build, fR_build_b29, fR_build_b45, ln_lt0, w6, ln_lt, hc, ↓reduceIte, ck_gd_ok, ln_at, w72, w73, e4, b2, ln_10, e5, ck_b_some]
    · have A1' := A1
      obtain ⟨g1, g2, g3, g4, g5, g6, g7, g8, g9, g10, g11, E⟩ := A1'
      rcases arg_cases hP hb x3 with ⟨hv, e1, e2, e3⟩ | ⟨h2, f2, d2, k2, A2⟩
      · refine simP_no (x := -5) hP ?_ ?_
        · unfold fC_build
          simp only [hco, ck_b_some, ln_10, ↓reduceIte, hf1, hf2, e1, e2, g1, g2]
        · rcases E with ⟨E1, E2, E3, E4, E5⟩ | ⟨a, i, E0, E1, E2, E3, E4, E5, E6, E7⟩
          · rcases e3 with ⟨e3, e4⟩ | ⟨b', e3, e4, e5⟩
            · simp (disch := omega) only [fR_build, fR_build_b29, fR_build_b45, fR_build_b60, fR_build_b70, fR_build_b83, ln_lt0, w6, ln_lt, hc, ↓reduceIte, ck_gd_ok, ln_at, w72, w73, E1, E2, e3, ln_m1', ln_00, e4]
            · simp (disch := omega) only [fR_build, fR_build_b29, fR_build_b45, fR_build_b60, fR_build_b70, ln_lt0, w6, ln_lt, hc, ↓reduceIte, ck_gd_ok, ln_at, w72, w73, E1, E2, e4, ln_m1', ln_00, ln_10, e5, ck_b_some]
          · rcases e3 with ⟨e3, e4⟩ | ⟨b', e3, e4, e5⟩
            · simp (disch := omega) only [fR_build, fR_build_b29, fR_build_b45, fR_build_b60, fR_build_b70, fR_build_b83, ln_lt0, w6, ln_lt, hc, ↓reduceIte, ck_gd_ok, ln_at, w72, w73, E1, E6, e3, ln_m1', ln_00, ln_10, e4, ck_b_some]
            · simp (disch := omega) only [fR_build, fR_build_b29, fR_build_b45, fR_build_b60, fR_build_b70, ln_lt0, w6, ln_lt, hc, ↓reduceIte, ck_gd_ok, ln_at, w72, w73, E1, E6, e4, ln_00, ln_10, e5, ck_b_some]
      · have A2' := A2
        obtain ⟨i1, i2, i3, i4, i5, i6, i7, i8, i9, i10, i11, G⟩ := A2'
        rw [build_C hD hP hc A1 A2, build_R hD hP hc A1 A2]
        unfold bres
        by_cases z1 : f1 = 0
        · simp only [z1, ↓reduceIte]
          exact simP_no hP rfl rfl
        · by_cases z2 : f2 = 0
          · simp only [z1, z2, ↓reduceIte]
            exact simP_no hP rfl rfl
          · by_cases z3 : 3 < max d1 d2
            · simp only [z1, z2, z3, ↓reduceIte]
              exact simP_no hP rfl rfl
            · by_cases z4 : 8 < k1 * k2
              · simp only [z1, z2, z3, z4, ↓reduceIte]
                exact simP_no hP rfl rfl
              · by_cases z5 : p < 60
                · simp only [z1, z2, z3, z4, z5, ↓reduceIte]
                  have pa : partOK st p (st 8 c) x2 := g11.elim (fun h => absurd h z1) (fun h => h.2)
                  have pb : partOK st p (st 9 c) x3 := i11.elim (fun h => absurd h z2) (fun h => h.2)
                  have hk1 : 1 ≤ k1 * k2 := Nat.mul_pos g7 i7
                  have q7 : ∀ y z d k, (ppar p y z d k (padd p 0 (st 7 c) (Int32.ofNat c) st)) 7 c = st 7 c := fun _ _ _ _ => by simp [ppar, padd, ck_u]
                  have q8 : ∀ y z d k, (ppar p y z d k (padd p 0 (st 7 c) (Int32.ofNat c) st)) 8 c = st 8 c := fun _ _ _ _ => by simp [ppar, padd, ck_u]
                  have q9 : ∀ y z d k, (ppar p y z d k (padd p 0 (st 7 c) (Int32.ofNat c) st)) 9 c = st 9 c := fun _ _ _ _ => by simp [ppar, padd, ck_u]
                  refine ⟨_, p + 1, _, _, rfl, rfl, add_rP hP z5 ⟨?_, ?_, ?_, ?_, Or.inr (Or.inr (Or.inl ⟨?_, ?_, c, hc, ?_, ?_, ?_, ?_, ?_, ?_⟩))⟩, add_touch⟩
                  · simp [ppar, padd, radd, ck_u, upd]
                  · exact Or.inr ⟨o, by omega, by simp [ppar, padd, radd, ck_u, upd]; exact o3⟩
                  · exact ⟨1 + max d1 d2, by omega, by omega, by simp only [ppar, ck_u_ne (show ¬ (15 = 16) by decide), ck_u_eq]⟩
                  · exact ⟨k1 * k2, hk1, by omega, by simp only [ppar, ck_u_eq]⟩
                  · simp [radd, ck_u, upd]
                  · simp [ppar, padd, ck_u, upd, vp_z0]
                  · simp [ppar, padd, ck_u, upd]
                  · rw [q7]; simp [ppar, padd, ck_u, upd]
                  · rw [q8, show (ppar p x2 x3 (Int32.ofNat (1 + max d1 d2)) (Int32.ofNat (k1 * k2)) (padd p 0 (st 7 c) (Int32.ofNat c) st)) 13 p = x2 by simp [ppar, padd, ck_u, upd]]
                    exact partOK_frame pa (fun l hl => by have := Nat.ne_of_lt hl; simp [ppar, padd, ck_u, upd, this])
                  · rw [q9, show (ppar p x2 x3 (Int32.ofNat (1 + max d1 d2)) (Int32.ofNat (k1 * k2)) (padd p 0 (st 7 c) (Int32.ofNat c) st)) 14 p = x3 by simp [ppar, padd, ck_u, upd]]
                    exact partOK_frame pb (fun l hl => by have := Nat.ne_of_lt hl; simp [ppar, padd, ck_u, upd, this])
                  · rw [show (ppar p x2 x3 (Int32.ofNat (1 + max d1 d2)) (Int32.ofNat (k1 * k2)) (padd p 0 (st 7 c) (Int32.ofNat c) st)) 13 p = x2 by simp [ppar, padd, ck_u, upd], show (ppar p x2 x3 (Int32.ofNat (1 + max d1 d2)) (Int32.ofNat (k1 * k2)) (padd p 0 (st 7 c) (Int32.ofNat c) st)) 14 p = x3 by simp [ppar, padd, ck_u, upd]]
                    rw [pd_frame (st := st) pa.or (by omega) (fun l hl => by have := Nat.ne_of_lt hl; simp [ppar, padd, ck_u, upd, this]), pd_frame (st := st) pb.or (by omega) (fun l hl => by have := Nat.ne_of_lt hl; simp [ppar, padd, ck_u, upd, this]), g9, i9]
                    simp only [ppar, ck_u_ne (show ¬ (15 = 16) by decide), ck_u_eq]
                  · rw [show (ppar p x2 x3 (Int32.ofNat (1 + max d1 d2)) (Int32.ofNat (k1 * k2)) (padd p 0 (st 7 c) (Int32.ofNat c) st)) 13 p = x2 by simp [ppar, padd, ck_u, upd], show (ppar p x2 x3 (Int32.ofNat (1 + max d1 d2)) (Int32.ofNat (k1 * k2)) (padd p 0 (st 7 c) (Int32.ofNat c) st)) 14 p = x3 by simp [ppar, padd, ck_u, upd]]
                    rw [pch_frame (st := st) pa.or (by omega) (fun l hl => by have := Nat.ne_of_lt hl; simp [ppar, padd, ck_u, upd, this]), pch_frame (st := st) pb.or (by omega) (fun l hl => by have := Nat.ne_of_lt hl; simp [ppar, padd, ck_u, upd, this]), g10, i10]
                    simp only [ppar, ck_u_eq]
                · simp only [z1, z2, z3, z4, z5, ↓reduceIte]
                  exact simP_no hP rfl rfl
  · refine simP_no (x := -4) hP ?_ ?_
    · unfold fC_build fD_isConstructor
      simp only [hx, ↓reduceIte, ck_b_some]
    · unfold fR_build
      simp only [hx, ↓reduceIte]
  · refine simP_no (x := -4) hP ?_ ?_
    · unfold fC_build fD_isConstructor
      simp only [hx, ↓reduceIte, ck_b_some, w5, hx2]
    · unfold fR_build
      simp only [hx, ↓reduceIte, w6, Int32.not_lt.mpr hx2]
