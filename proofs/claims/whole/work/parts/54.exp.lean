/-! leaves -/
theorem TF_refl {N : Nat} {s r : ck_S} : TF N s r s r := ⟨fun _ _ _ => rfl, fun _ _ _ => rfl, fun _ _ _ _ _ => rfl, rfl, rfl, fun _ _ => ⟨rfl, rfl, rfl, rfl⟩⟩
theorem TF_s {N a i : Nat} {v : Int32} {s r : ck_S} (h : 30 ≤ a ∨ a ≤ 6) : TF N s r (ck_u s a i v) r := ⟨fun b _ _ => ck_u_ne (by omega), fun b _ _ => ck_u_ne (by omega), fun b j _ _ _ => ck_u_off (by omega), rfl, rfl, fun _ _ => ⟨rfl, rfl, rfl, rfl⟩⟩
theorem TF_r {N a i : Nat} {v : Int32} {s r : ck_S} (h : (24 ≤ a ∧ a ≤ 28) ∨ a ≤ 16 ∨ 31 ≤ a) : TF N s r s (ck_u r a i v) := ⟨fun _ _ _ => rfl, fun _ _ _ => rfl, fun _ _ _ _ _ => rfl, ck_u_ne (by omega), ck_u_ne (by omega), fun _ _ => ⟨ck_u_off (by omega), ck_u_off (by omega), ck_u_off (by omega), ck_u_off (by omega)⟩⟩
theorem exp_leaf0 {n k x N : Nat} {s r : ck_S} (h : GI n k x N s r) (hx : x < N) (hl : r 22 x = 0) : ∃ s2 r2, fT_expand (Int32.ofNat x) s = some (1, s2) ∧ fR_grow (Int32.ofNat x) r = some r2 ∧ GI n k (x + 1) N s2 r2 ∧ wk s r s2 r2 := by
  obtain ⟨a1, a2, a3, a4, a5, a6, a7, a8, a9, a10, a11, a12, a13, a14, a15⟩ := id h
  have hx60 : x < 60 := by omega
  have s26 : s 26 x = 0 := by rw [(a8 x hx).1]; exact hl
  obtain ⟨c1, c2⟩ := choose_0 (s := s) (r := r) (o1 := s 27 x) (o2 := r 23 x)
  have hg1 : gC n k (ck_u s 30 x 0) r := gC_frame a1 (ck_u_ne (by omega)) rfl (N := 0) (TF_s (by omega))
  have hf := (firstOf_ev hg1 0).1 (fun b _ => bt_zero b)
  have hTF : TF N s r (ck_u (ck_u s 30 x 0) 32 x (-1)) (ck_u (ck_u (ck_u (ck_u r 24 x 0) 28 x 0) 27 x (r 0 29)) 26 x (-1)) := TF_trans (TF_trans (TF_trans (TF_s (by omega)) (TF_s (by omega))) (TF_trans (TF_r (by omega)) (TF_r (by omega)))) (TF_trans (TF_r (by omega)) (TF_r (by omega)))
  obtain ⟨d1, d2, d3⟩ := a10 x (by omega) hx
  refine ⟨ck_u (ck_u s 30 x 0) 32 x (-1), ck_u (ck_u (ck_u (ck_u r 24 x 0) 28 x 0) 27 x (r 0 29)) 26 x (-1), ?_, ?_, ?_, ?_⟩
  · unfold fT_expand fT_makeLeaf
    simp (disch := omega) only [ck_gd_ok, ln_at, s26, c1, ck_b_some, ck_u_eq, ↓reduceIte, ck_u_ne (show ¬ (26 = 30) by decide), hf, ck_bv_some]
  · unfold fR_grow fR_grow_b68
    simp (disch := omega) only [ck_gd_ok, ln_at, hl, c2, ck_b_some, ↓reduceIte]
  · refine GI_step h hx hTF ⟨fun a i y z w => ?_, fun a i y z w => ?_, fun c y z => ?_⟩ (gC_frame a1 ?_ ?_ hTF) (Nat.le_refl _) a3 ?_ ?_ ?_ (fun j y z => absurd z (by omega)) (Or.inl ⟨?_, ?_, ?_, ?_, ?_, ?_, Or.inl ⟨?_, ?_⟩⟩) (fun i y z ⟨e1, e2, e3⟩ => ⟨?_, ?_, ?_⟩) (fun c y z => Or.inl ?_)
    · rw [ck_u_off (by omega), ck_u_off (by omega)]
    · rw [ck_u_off (by omega), ck_u_off (by omega), ck_u_off (by omega), ck_u_off (by omega)]
    · rw [ck_u_off (by omega), ck_u_off (by omega)]; exact z
    · rw [ck_u_ne (by omega), ck_u_ne (by omega)]
    · rw [ck_u_off (by omega), ck_u_off (by omega), ck_u_off (by omega), ck_u_off (by omega)]
    · rw [ck_u_off (by omega), ck_u_off (by omega)]; exact a5
    · rw [ck_u_off (by omega), ck_u_off (by omega), ck_u_off (by omega), ck_u_off (by omega)]; exact a6
    · rw [ck_u_off (by omega), ck_u_off (by omega), ck_u_off (by omega), ck_u_off (by omega)]; exact a7
    · rw [ck_u_off (by omega), ck_u_eq]
    · rw [ck_u_off (by omega), ck_u_off (by omega), ck_u_off (by omega), ck_u_eq]
    · rw [ck_u_off (by omega), ck_u_off (by omega)]; exact d1
    · rw [ck_u_eq, ck_u_eq]
    · rw [ck_u_off (by omega), ck_u_off (by omega)]; exact d3
    · rw [ck_u_off (by omega), ck_u_off (by omega), ck_u_eq]
    · rw [(hTF.2.2.2.2.2 x hx).1]; exact hl
    · rw [ck_u_eq]
    · rw [ck_u_off (by omega), ck_u_off (by omega)]; exact e1
    · rw [ck_u_off (by omega), ck_u_off (by omega)]; exact e2
    · rw [ck_u_off (by omega), ck_u_off (by omega)]; exact e3
    · rw [ck_u_off (by omega), ck_u_off (by omega)] at z; exact z
  · refine ⟨fun a y z => ?_, fun j y z => ?_, fun a y z => ?_, fun j y z => ?_⟩
    · rw [ck_u_ne (by omega), ck_u_ne (by omega)]
    · rw [ck_u_off (by omega), ck_u_off (by omega)]
    · rw [ck_u_ne (by omega), ck_u_ne (by omega), ck_u_ne (by omega), ck_u_ne (by omega)]
    · rw [ck_u_off (by omega), ck_u_off (by omega), ck_u_off (by omega), ck_u_off (by omega)]
theorem exp_leaf1 {n k x N f : Nat} {s r : ck_S} (h : GI n k x N s r) (hx : x < N) (hf : f < k) (hl : lws (r 22 x) f) (c1 : fM_placeToTest (r 22 x) (s 27 x) s = some (0, s)) (c2 : fR_choose (r 22 x) (r 23 x) r = some (0, r)) (hno : ∀ p, 1 ≤ p → p < 16 → ¬ (bt (r 23 x) p = true ∧ bt (s 23 p) f = true)) : ∃ s2 r2, fT_expand (Int32.ofNat x) s = some (1, s2) ∧ fR_grow (Int32.ofNat x) r = some r2 ∧ GI n k (x + 1) N s2 r2 ∧ wk s r s2 r2 := by
  obtain ⟨a1, a2, a3, a4, a5, a6, a7, a8, a9, a10, a11, a12, a13, a14, a15⟩ := id h
  have hx60 : x < 60 := by omega
  have hk16 := a1.1
  have s26 : s 26 x = r 22 x := (a8 x hx).1
  have hg1 : gC n k (ck_u s 30 x 0) r := gC_frame a1 (ck_u_ne (by omega)) rfl (N := 0) (TF_s (by omega))
  have hfe := (firstOf_ev hg1 (r 22 x)).2 f hf hl
  have hTF : TF N s r (ck_u (ck_u (ck_u s 30 x 0) 32 x (Int32.ofNat f)) 5 15 (s 5 15 ||| ((1 : Int32) <<< (Int32.ofNat f &&& 31)))) (ck_u (ck_u (ck_u (ck_u r 24 x 0) 28 x 0) 27 x (r 0 29)) 26 x (Int32.ofNat f)) := TF_trans (TF_trans (TF_trans (TF_s (by omega)) (TF_s (by omega))) (TF_trans (TF_s (by omega)) (TF_r (by omega)))) (TF_trans (TF_trans (TF_r (by omega)) (TF_r (by omega))) (TF_r (by omega)))
  obtain ⟨d1, d2, d3⟩ := a10 x (by omega) hx
  refine ⟨ck_u (ck_u (ck_u s 30 x 0) 32 x (Int32.ofNat f)) 5 15 (s 5 15 ||| ((1 : Int32) <<< (Int32.ofNat f &&& 31))), ck_u (ck_u (ck_u (ck_u r 24 x 0) 28 x 0) 27 x (r 0 29)) 26 x (Int32.ofNat f), ?_, ?_, ?_, ?_⟩
  · unfold fT_expand fT_makeLeaf
    simp (disch := omega) only [ck_gd_ok, ln_at, s26, c1, ck_b_some, ck_u_eq, ↓reduceIte, ck_u_ne (show ¬ (26 = 30) by decide), ck_u_ne (show ¬ (5 = 30) by decide), hfe, ck_bv_some, ln_m1]
  · unfold fR_grow fR_grow_b68
    simp (disch := omega) only [ck_gd_ok, ln_at, low_ne hl, c2, ck_b_some, ↓reduceIte, lowest_ev (show f < 16 by omega) hl]
  · refine GI_step h hx hTF ⟨fun a i y z w => ?_, fun a i y z w => ?_, fun c y z => ?_⟩ (gC_frame a1 ?_ ?_ hTF) (Nat.le_refl _) a3 ?_ ?_ ?_ (fun j y z => absurd z (by omega)) (Or.inl ⟨?_, ?_, ?_, ?_, ?_, ?_, Or.inr ⟨f, hf, ?_, ?_, ?_, ?_⟩⟩) (fun i y z ⟨e1, e2, e3⟩ => ⟨?_, ?_, ?_⟩) (fun c y z => ?_)
    · rw [ck_u_off (by omega), ck_u_off (by omega), ck_u_off (by omega)]
    · rw [ck_u_off (by omega), ck_u_off (by omega), ck_u_off (by omega), ck_u_off (by omega)]
    · rw [ck_u_eq, bt_or, z]; rfl
    · rw [ck_u_ne (by omega), ck_u_ne (by omega), ck_u_ne (by omega)]
    · rw [ck_u_off (by omega), ck_u_off (by omega), ck_u_off (by omega), ck_u_off (by omega)]
    · rw [ck_u_off (by omega), ck_u_off (by omega), ck_u_off (by omega)]; exact a5
    · rw [ck_u_off (by omega), ck_u_off (by omega), ck_u_off (by omega), ck_u_off (by omega)]; exact a6
    · rw [ck_u_off (by omega), ck_u_off (by omega), ck_u_off (by omega), ck_u_off (by omega)]; exact a7
    · rw [ck_u_off (by omega), ck_u_off (by omega), ck_u_eq]
    · rw [ck_u_off (by omega), ck_u_off (by omega), ck_u_off (by omega), ck_u_eq]
    · rw [ck_u_off (by omega), ck_u_off (by omega), ck_u_off (by omega)]; exact d1
    · rw [ck_u_off (by omega), ck_u_eq, ck_u_eq]
    · rw [ck_u_off (by omega), ck_u_off (by omega), ck_u_off (by omega)]; exact d3
    · rw [ck_u_off (by omega), ck_u_off (by omega), ck_u_eq]
    · rw [(hTF.2.2.2.2.2 x hx).1]; exact hl
    · rw [ck_u_eq]
    · rw [(hTF.2.2.2.2.2 x hx).2.1, hTF.2.1 23 (by omega) (by omega)]; exact hno
    · rw [ck_u_eq, bt_or, bt_1 (by omega) (by omega)]; simp
    · rw [ck_u_off (by omega), ck_u_off (by omega), ck_u_off (by omega)]; exact e1
    · rw [ck_u_off (by omega), ck_u_off (by omega), ck_u_off (by omega)]; exact e2
    · rw [ck_u_off (by omega), ck_u_off (by omega), ck_u_off (by omega)]; exact e3
    · rw [ck_u_eq, bt_or, bt_1 (by omega) (by omega)] at z
      by_cases e : c = f
      · right
        constructor
        · rw [ck_u_off (by omega), ck_u_off (by omega), ck_u_off (by omega), ck_u_eq]
        · rw [ck_u_eq, e]
      · left
        simpa [e] using z
  · refine ⟨fun a y z => ?_, fun j y z => ?_, fun a y z => ?_, fun j y z => ?_⟩
    · rw [ck_u_ne (by omega), ck_u_ne (by omega), ck_u_ne (by omega)]
    · rw [ck_u_off (by omega), ck_u_off (by omega), ck_u_off (by omega)]
    · rw [ck_u_ne (by omega), ck_u_ne (by omega), ck_u_ne (by omega), ck_u_ne (by omega)]
    · rw [ck_u_off (by omega), ck_u_off (by omega), ck_u_off (by omega), ck_u_off (by omega)]
