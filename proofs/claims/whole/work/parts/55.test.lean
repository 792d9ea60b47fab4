/-! tests -/
def bsS (N x p : Nat) (ty : Int32) (s : ck_S) : ck_S := ck_u (ck_u (ck_u s 30 x (Int32.ofNat p)) 31 x ty) 33 x (Int32.ofNat N)
def brS (N x p f : Nat) (ty : Int32) (r : ck_S) : ck_S := ck_u (ck_u (ck_u (ck_u (ck_u r 24 x (Int32.ofNat p)) 28 x 0) 27 x (Int32.ofNat N)) 26 x (Int32.ofNat f)) 25 x ty
theorem bs_off {N x p a j : Nat} {ty : Int32} {s : ck_S} (h : ¬ ((a = 30 ∨ a = 31 ∨ a = 33) ∧ j = x)) : bsS N x p ty s a j = s a j := by
  unfold bsS
  rw [ck_u_off (by omega), ck_u_off (by omega), ck_u_off (by omega)]
theorem bs_ne {N x p a : Nat} {ty : Int32} {s : ck_S} (h : ¬ (a = 30 ∨ a = 31 ∨ a = 33)) : bsS N x p ty s a = s a := by
  unfold bsS
  rw [ck_u_ne (by omega), ck_u_ne (by omega), ck_u_ne (by omega)]
theorem br_off {N x p f a j : Nat} {ty : Int32} {r : ck_S} (h : ¬ ((24 ≤ a ∧ a ≤ 28) ∧ j = x)) : brS N x p f ty r a j = r a j := by
  unfold brS
  rw [ck_u_off (by omega), ck_u_off (by omega), ck_u_off (by omega), ck_u_off (by omega), ck_u_off (by omega)]
theorem br_ne {N x p f a : Nat} {ty : Int32} {r : ck_S} (h : ¬ (24 ≤ a ∧ a ≤ 28)) : brS N x p f ty r a = r a := by
  unfold brS
  rw [ck_u_ne (by omega), ck_u_ne (by omega), ck_u_ne (by omega), ck_u_ne (by omega), ck_u_ne (by omega)]
theorem bs_x {N x p : Nat} {ty : Int32} {s : ck_S} : bsS N x p ty s 30 x = Int32.ofNat p ∧ bsS N x p ty s 31 x = ty ∧ bsS N x p ty s 33 x = Int32.ofNat N := by
  unfold bsS
  refine ⟨?_, ?_, ck_u_eq⟩
  · rw [ck_u_off (by omega), ck_u_off (by omega), ck_u_eq]
  · rw [ck_u_off (by omega), ck_u_eq]
theorem br_x {N x p f : Nat} {ty : Int32} {r : ck_S} : brS N x p f ty r 24 x = Int32.ofNat p ∧ brS N x p f ty r 25 x = ty ∧ brS N x p f ty r 26 x = Int32.ofNat f ∧ brS N x p f ty r 27 x = Int32.ofNat N ∧ brS N x p f ty r 28 x = 0 := by
  unfold brS
  refine ⟨?_, ck_u_eq, ?_, ?_, ?_⟩
  · rw [ck_u_off (by omega), ck_u_off (by omega), ck_u_off (by omega), ck_u_off (by omega), ck_u_eq]
  · rw [ck_u_off (by omega), ck_u_eq]
  · rw [ck_u_off (by omega), ck_u_off (by omega), ck_u_eq]
  · rw [ck_u_off (by omega), ck_u_off (by omega), ck_u_off (by omega), ck_u_eq]
theorem b_TF {N x p f M : Nat} {ty : Int32} {s r : ck_S} : TF M s r (bsS N x p ty s) (brS N x p f ty r) := by
  unfold bsS brS
  exact TF_trans (TF_trans (TF_trans (TF_s (by omega)) (TF_s (by omega))) (TF_trans (TF_s (by omega)) (TF_r (by omega)))) (TF_trans (TF_trans (TF_r (by omega)) (TF_r (by omega))) (TF_trans (TF_r (by omega)) (TF_r (by omega))))
theorem b_wk {N x p f : Nat} {ty : Int32} {s r : ck_S} : wk s r (bsS N x p ty s) (brS N x p f ty r) := ⟨fun a y z => bs_ne (by omega), fun j y z => bs_off (by omega), fun a y z => br_ne (by omega), fun j y z => br_off (by omega)⟩
theorem b_mid {n k N x p f : Nat} {ty : Int32} {s r : ck_S} (h : GI n k x N s r) : mid n k x N (bsS N x p ty s) (brS N x p f ty r) (bsS N x p ty s) (brS N x p f ty r) 0 := by
  obtain ⟨a1, a2, a3, a4, a5, a6, a7, a8, a9, a10, a11, a12, a13, a14, a15⟩ := h
  exact ⟨wk_refl _ _, rfl, by rw [br_off (by omega)]; exact a7, fun _ _ _ _ _ => rfl, fun _ _ _ _ _ _ => rfl, by rw [bs_off (by omega)]; exact a5, by rw [br_off (by omega)]; exact a6, by omega, br_x.2.2.2.2, fun j y z => absurd z (by omega)⟩
theorem test_done {n k N x p f M : Nat} {s r s' r' : ck_S} (h : GI n k x N s r) (hx : x < N) (hp1 : 1 ≤ p) (hp2 : p < 16) (hf : f < k) (hl : lws (r 22 x) f) (hop : bt (r 23 x) p = true) (ha : bt (s 23 p) f = true) (hm : mid n k x N (bsS N x p (s 25 (p * 16 + f)) s) (brS N x p f (s 25 (p * 16 + f)) r) s' r' M) (hB : tsB n k x p N M (s 25 (p * 16 + f)) s' r') :
    fT_expand_b98 1 (Int32.ofNat x) s' = some (1, ck_u s' 34 x (Int32.ofNat M)) ∧ GI n k (x + 1) (N + M) (ck_u s' 34 x (Int32.ofNat M)) r' ∧ wk s r (ck_u s' 34 x (Int32.ofNat M)) r' := by
  obtain ⟨a1, a2, a3, a4, a5, a6, a7, a8, a9, a10, a11, a12, a13, a14, a15⟩ := id h
  obtain ⟨w, h15, h30, h1, h2, h3, h4, h5, h6, h7⟩ := id hm
  have hTF1 : TF N s r s' r' := TF_trans b_TF (mid_TF hm)
  have hTF2 : ∀ Q, TF Q s' r' (ck_u s' 34 x (Int32.ofNat M)) r' := fun Q => TF_s (by omega)
  have hTF : TF N s r (ck_u s' 34 x (Int32.ofNat M)) r' := TF_trans hTF1 (hTF2 N)
  have hwk : wk s r (ck_u s' 34 x (Int32.ofNat M)) r' := wk_trans (wk_trans b_wk w) ⟨fun a y z => ck_u_ne (by omega), fun j y z => ck_u_off (by omega), fun _ _ _ => rfl, fun _ _ _ => rfl⟩
  have hg' := mid_gC (gC_frame a1 (bs_ne (by omega)) (br_off (by omega)) (b_TF (M := 0))) hm
  have s33 : s' 33 x = Int32.ofNat N := by rw [h1 33 x (by omega) (by omega) hx]; exact bs_x.2.2
  refine ⟨?_, ?_, hwk⟩
  · unfold fT_expand_b98
    have hx60 : x < 60 := by omega
    simp (disch := omega) only [ck_gd_ok, ln_at, ck_gz1, h3, s33, ln_sub]
    rw [show N + M - N = M by omega]
  · obtain ⟨d1, d2, d3⟩ := a10 x (by omega) hx
    refine GI_step h hx hTF ⟨fun a i y z w => ?_, fun a i y z w => ?_, fun c y z => ?_⟩ (gC_frame hg' (ck_u_ne (by omega)) rfl (hTF2 0)) (by omega) h5 ?_ h4 h30 (fun j y z => ⟨?_, ?_, x, N, M, by omega, by omega, ?_, ck_u_eq, y, z, h5⟩) (Or.inr ⟨p, f, N, M, hp1, hp2, ?_, ?_, hf, ?_, ?_, ?_, ?_, ?_, ?_, ?_, ?_, ck_u_eq, h6, hx, Nat.le_refl _, ?_⟩) (fun i y z ⟨e1, e2, e3⟩ => ⟨?_, ?_, ?_⟩) (fun c y z => Or.inl ?_)
    · rw [ck_u_off (by omega), h1 a i (by omega) (by omega) (by omega), bs_off (by omega)]
    · rw [h2 a i (by omega) (by omega) (by omega) (by omega), br_off (by omega)]
    · rw [ck_u_off (by omega), h15, bs_off (by omega)]; exact z
    · rw [ck_u_off (by omega)]; exact h3
    · exact nd_frame (h7 j y z).1 (hTF2 (N + M)) z
    · obtain ⟨e1, e2, e3⟩ := (h7 j y z).2
      exact ⟨by rw [ck_u_off (by omega)]; exact e1, by rw [ck_u_off (by omega)]; exact e2, by rw [ck_u_off (by omega)]; exact e3⟩
    · rw [ck_u_off (by omega)]; exact s33
    · rw [ck_u_off (by omega), h1 30 x (by omega) (by omega) hx]; exact bs_x.1
    · rw [h2 24 x (by omega) (by omega) hx (by omega)]; exact br_x.1
    · rw [(hTF.2.2.2.2.2 x hx).1]; exact hl
    · rw [(hTF.2.2.2.2.2 x hx).2.1]; exact hop
    · rw [hTF.2.1 23 (by omega) (by omega)]; exact ha
    · rw [hTF.2.1 25 (by omega) (by omega), ck_u_off (by omega), h1 31 x (by omega) (by omega) hx]; exact bs_x.2.1
    · rw [ck_u_off (by omega), h1 31 x (by omega) (by omega) hx, h2 25 x (by omega) (by omega) hx (by omega), bs_x.2.1]; exact br_x.2.1
    · rw [ck_u_off (by omega), h1 32 x (by omega) (by omega) hx, bs_off (by omega)]; exact d2
    · rw [ck_u_off (by omega)]; exact s33
    · rw [h2 27 x (by omega) (by omega) hx (by omega)]; exact br_x.2.2.2.1
    · rw [ck_u_off (by omega), h1 31 x (by omega) (by omega) hx, bs_x.2.1]
      exact tsB_frame hB (hTF2 (N + M)) hx (Nat.le_refl _)
    · rw [ck_u_off (by omega), h1 31 i (by omega) (by omega) z, bs_off (by omega)]; exact e1
    · rw [ck_u_off (by omega), h1 32 i (by omega) (by omega) z, bs_off (by omega)]; exact e2
    · rw [ck_u_off (by omega), h1 34 i (by omega) (by omega) z, bs_off (by omega)]; exact e3
    · rw [ck_u_off (by omega), h15, bs_off (by omega)] at z; exact z
/-- what a test does first -/
theorem expand_ev {n k x N p f : Nat} {s r : ck_S} (h : GI n k x N s r) (hx : x < N) (hp1 : 1 ≤ p) (hp2 : p < 16) (hf : f < k) (hl : lws (r 22 x) f) (ha : bt (s 23 p) f = true) (c1 : fM_placeToTest (r 22 x) (s 27 x) s = some (Int32.ofNat p, s)) :
    fT_expand (Int32.ofNat x) s = (if s 25 (p * 16 + f) = 0 then (ck_b (fT_addNumbers (Int32.ofNat x) (bsS N x p (s 25 (p * 16 + f)) s)) fun v6 st5 => (fT_expand_b98 v6 (Int32.ofNat x) st5)) else (ck_b (fT_addConstructors (Int32.ofNat x) (bsS N x p (s 25 (p * 16 + f)) s)) fun v6 st5 => (fT_expand_b98 v6 (Int32.ofNat x) st5))) := by
  obtain ⟨a1, a2, a3, a4, a5, a6, a7, a8, a9, a10, a11, a12, a13, a14, a15⟩ := id h
  have hx60 : x < 60 := by omega
  have s26 : s 26 x = r 22 x := (a8 x hx).1
  have hg1 : gC n k (ck_u s 30 x (Int32.ofNat p)) r := gC_frame a1 (ck_u_ne (by omega)) rfl (N := 0) (TF_s (by omega))
  have ht : fM_typeAskedAt (Int32.ofNat p) (r 22 x) (ck_u s 30 x (Int32.ofNat p)) = some (s 25 (p * 16 + f), ck_u s 30 x (Int32.ofNat p)) := by
    have := typeAsked_ev hg1 hp2 hf hl (by rw [ck_u_ne (by omega)]; exact ha)
    rw [ck_u_ne (a := 25) (by omega)] at this
    exact this
  unfold fT_expand
  simp (disch := omega) only [ck_gd_ok, ln_at, s26, c1, ck_b_some, ck_u_eq, ↓reduceIte, ln_eqL, show ¬ p = 0 by omega, ck_u_ne (show ¬ (5 = 30) by decide), ht, a5]
  rfl
theorem growS_ev {n k x N p f : Nat} {s r : ck_S} (h : GI n k x N s r) (hx : x < N) (hp1 : 1 ≤ p) (hp2 : p < 16) (hf : f < k) (hl : lws (r 22 x) f) (c2 : fR_choose (r 22 x) (r 23 x) r = some (Int32.ofNat p, r)) (hco : ¬ r 17 (16 * f + p) = 1 → ∃ co, co < 12 ∧ r 18 (16 * f + p) = Int32.ofNat co) :
    fR_grow (Int32.ofNat x) r = (if r 17 (16 * f + p) = 1 then (ck_bv (fR_growNumbers (Int32.ofNat x) (Int32.ofNat p) (stl (r 23 x) p) (brS N x p f 0 r)) fun st1 => (some st1)) else fR_grow_l146 4096 (Int32.ofNat x) (Int32.ofNat p) (stl (r 23 x) p) 0 (brS N x p f (r 1 (r 18 (16 * f + p)).toNatClampNeg) r)) := by
  obtain ⟨a1, a2, a3, a4, a5, a6, a7, a8, a9, a10, a11, a12, a13, a14, a15⟩ := id h
  have hx60 : x < 60 := by omega
  have hk16 := a1.1
  unfold fR_grow
  simp (disch := omega) only [ck_gd_ok, ln_at, low_ne hl, c2, ck_b_some, ↓reduceIte, lowest_ev (show f < 16 by omega) hl]
  unfold fR_grow_b68
  simp (disch := omega) only [ck_gd_ok, ln_at, ck_u_eq, ↓reduceIte, ln_eqL, show ¬ p = 0 by omega, ck_u_ne (show ¬ (17 = 27) by decide), ck_u_ne (show ¬ (17 = 28) by decide), ck_u_ne (show ¬ (17 = 24) by decide), ck_u_ne (show ¬ (18 = 27) by decide), ck_u_ne (show ¬ (18 = 28) by decide), ck_u_ne (show ¬ (18 = 24) by decide), ck_u_ne (show ¬ (23 = 27) by decide), ck_u_ne (show ¬ (23 = 28) by decide), ck_u_ne (show ¬ (23 = 24) by decide), ck_u_ne (show ¬ (1 = 27) by decide), ck_u_ne (show ¬ (1 = 28) by decide), ck_u_ne (show ¬ (1 = 24) by decide), ln_Lmul, ln_add, a6]
  by_cases e : r 17 (16 * f + p) = 1
  · rw [if_pos e, if_pos e]
    rfl
  · rw [if_neg e, if_neg e]
    obtain ⟨co, hc1, hc2⟩ := hco e
    rw [hc2, ck_gd_ok hc1 (by omega), ln_at (by omega)]
    rfl
