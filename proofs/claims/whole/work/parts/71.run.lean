/-! run -/
theorem wS_all {t n k v q N p u : Nat} {s r : ck_S} (hD : rD t n s r) (hV : rV n v s r) (hM : rM n q k s r) (hG : GI n k N N s r) : rD t n (wS p u s) r ∧ rV n v (wS p u s) r ∧ rM n q k (wS p u s) r ∧ GI n k N N (wS p u s) r := by
  have e : ∀ a, ¬ a = 37 → wS p u s a = s a := fun a h => wS_ne h
  refine ⟨rD_frame hD (by rw [e _ (by omega)]) (by rw [e _ (by omega)]) (e _ (by omega)) (e _ (by omega)) (e _ (by omega)) rfl rfl rfl rfl rfl,
    rV_frame hV (Nat.le_refl _) (by rw [e _ (by omega)]) (e _ (by omega)) (e _ (by omega)) (e _ (by omega)) (e _ (by omega)) (fun c _ => ⟨by rw [e _ (by omega)], by rw [e _ (by omega)], by rw [e _ (by omega)]⟩) rfl (fun _ _ _ => rfl),
    rM_frame hM (Nat.le_refl _) (e _ (by omega)) (e _ (by omega)) (e _ (by omega)) (e _ (by omega)) (e _ (by omega)) (e _ (by omega)) (fun c _ => ⟨by rw [e _ (by omega)], by rw [e _ (by omega)], by rw [e _ (by omega)]⟩) rfl rfl rfl rfl rfl rfl,
    GI_cells hG (fun a _ _ => e a (by omega)) (fun a _ _ => e a (by omega)) (fun _ _ _ => rfl) rfl rfl (e _ (by omega)) (by rw [e _ (by omega)]) (by rw [e _ (by omega)]) rfl rfl rfl⟩
theorem val_parts {n v u : Nat} {s r : ck_S} (hV : rV n v s r) (hu : u < v) : fV_firstOf (Int32.ofNat u) s = some (s 19 u, s) ∧ fV_secondOf (Int32.ofNat u) s = some (s 20 u, s) ∧ fV_symbolOf (Int32.ofNat u) s = some (s 18 u, s) := by
  have hv := hV.1
  have hh := (val_has hV hu).1
  unfold fV_firstOf fV_secondOf fV_symbolOf
  simp (disch := omega) only [hh, ck_b_some, show ¬ ((1 : Int32) = 0) by decide, ↓reduceIte, ck_gd_ok, ln_at, and_self]
theorem val_sec {n v u p : Nat} {s r : ck_S} (hV : rV n v s r) (hu : u < v) (y : Int32) : fV_secondOf (Int32.ofNat u) (ck_u s 37 p y) = some (s 20 u, ck_u s 37 p y) := by
  have e : ∀ a, ¬ a = 37 → ck_u s 37 p y a = s a := fun a h => ck_u_ne h
  have hV2 : rV n v (ck_u s 37 p y) r := rV_frame hV (Nat.le_refl _) (by rw [e _ (by omega)]) (e _ (by omega)) (e _ (by omega)) (e _ (by omega)) (e _ (by omega)) (fun c _ => ⟨by rw [e _ (by omega)], by rw [e _ (by omega)], by rw [e _ (by omega)]⟩) rfl (fun _ _ _ => rfl)
  rw [(val_parts hV2 hu).2.1, e _ (by omega)]
theorem walk_loop {t n k v q N : Nat} {r : ck_S} {x : Int32} (hx : okv v x) : ∀ (d m1 m2 i a : Nat) (s : ck_S), a + d = 15 → d < m1 → d < m2 → i < N → s 29 i = Int32.ofNat a → rD t n s r → rV n v s r → rM n q k s r → GI n k N N s r → WI k v i x s r →
    ∃ L s2, L < N ∧ fT_leafFor_l12 m1 (Int32.ofNat i) (Int32.ofNat a) s = some (Int32.ofNat L, s2) ∧ fR_walk_l4 m2 x (Int32.ofNat a) (Int32.ofNat i) r = some (s 29 L, r) ∧ (∀ b, ¬ b = 37 → s2 b = s b) ∧ lfN k s2 r L ∧ WI k v L x s2 r := by
  intro d
  induction d with
  | zero =>
    intro m1 m2 i a s ha hm1 hm2 hi h29 hD hV hM hG hW
    obtain ⟨m1, rfl⟩ : ∃ z, m1 = z + 1 := ⟨m1 - 1, by omega⟩
    obtain ⟨m2, rfl⟩ : ∃ z, m2 = z + 1 := ⟨m2 - 1, by omega⟩
    have hN := hG.2.2.1
    rcases GI_node hG hi with ⟨z1, z2, z3⟩ | ⟨z1, z2, z3⟩
    · refine ⟨i, s, hi, ?_, ?_, fun _ _ => rfl, z3, hW⟩
      · rw [fT_leafFor_l12, if_neg (show ¬ (16 : Int32) ≤ Int32.ofNat a from mt (ln_le (a := 16) (b := a) (by omega) (by omega)).mp (by omega)), (node_ev hN hi hG.2.2.2.2.1).1, ck_b_some, if_pos z1]
      · rw [fR_walk_l4, ck_gd_ok (by omega) (by omega), ln_at (by omega), if_pos (by rw [z2]; decide), h29]
    · obtain ⟨p, f, F, M, p1, p2, p3, p4, p5, p6, p7, _⟩ := z3
      obtain ⟨a2, a3, a4⟩ := (hG.2.2.2.2.2.2.2.1 i hi).2.2.2.1
      have := mu_pos p1 p2 p7
      rw [h29] at a3
      have := (ln_eq (by omega) (by omega)).mp a3
      omega
  | succ d ih =>
    intro m1 m2 i a s ha hm1 hm2 hi h29 hD hV hM hG hW
    obtain ⟨m1, rfl⟩ : ∃ z, m1 = z + 1 := ⟨m1 - 1, by omega⟩
    obtain ⟨m2, rfl⟩ : ∃ z, m2 = z + 1 := ⟨m2 - 1, by omega⟩
    have hN := hG.2.2.1
    have hv := hV.1
    rcases GI_node hG hi with ⟨z1, z2, z3⟩ | ⟨z1, z2, z3⟩
    · refine ⟨i, s, hi, ?_, ?_, fun _ _ => rfl, z3, hW⟩
      · rw [fT_leafFor_l12, if_neg (show ¬ (16 : Int32) ≤ Int32.ofNat a from mt (ln_le (a := 16) (b := a) (by omega) (by omega)).mp (by omega)), (node_ev hN hi hG.2.2.2.2.1).1, ck_b_some, if_pos z1]
      · rw [fR_walk_l4, ck_gd_ok (by omega) (by omega), ln_at (by omega), if_pos (by rw [z2]; decide), h29]
    · obtain ⟨p, _, _, _, p1, p2, p3, p4, _, _, p7, _⟩ := z3
      obtain ⟨u, u1, u2, u3, u4⟩ := hW.2.1 p p1 p2 p7
      obtain ⟨hW2, e1, e2⟩ := WI_put hV p1 u1 u2 hW
      obtain ⟨hD2, hV2, hM2, hG2⟩ := wS_all (p := p) (u := u) hD hV hM hG
      have es : ∀ b, ¬ b = 37 → wS p u s b = s b := fun b hb => wS_ne hb
      have hts : tsN n k N (wS p u s) r i := by
        rcases GI_node hG2 hi with ⟨_, z, _⟩ | ⟨_, _, z⟩
        · exact absurd z z2
        · exact z
      obtain ⟨p', f, F, M, p1', p2', p3', p4', f1, f2, p7', f3, f4, f5, f6, f7, f8, f9, f10, f11, f12, f13⟩ := hts
      have ep : p' = p := (ln_eq (by omega) (by omega)).mp (p4'.symm.trans p4)
      subst ep
      have hty : wS p' u s 31 i = wS p' u s 17 u := by
        rw [f4]
        obtain ⟨w, w1, w2, w3, w4⟩ := hW2.2.1 p' p1 p2 p7
        rw [u2] at w2
        rw [(ln_eq (by omega) (by omega)).mp w2]
        exact w4 f f1 f2.1 f3
      rw [hty] at f13
      obtain ⟨j, rest, con, hT⟩ := take_ev hD2 hV2 hN hi u1 f7 f9 f11 f12 (fun j j1 j2 => (hG2.2.2.2.2.2.2.2.1 j j2).2.2.2.2.2 j1) f13
      have hjM : j < M := hT.1
      have hW3 := WI_step (by have := hM.2.1; omega) hD2 hV2 hM2.2.2.2.2.2.2.2.2 p1 p2 u1 u2 (by rw [e1, es _ (by omega)]) (by rw [e2, es _ (by omega)]) hT hW2
      have h29' : wS p' u s 29 (F + j) = Int32.ofNat (a + 1) := by
        rw [hT.2.1.1, es _ (by omega), h29]
        exact ln_addL a 1
      obtain ⟨L, s2, l1, l2, l3, l4, l5, l6⟩ := ih m1 m2 (F + j) (a + 1) (wS p' u s) (by omega) (by omega) (by omega) (by omega) h29' hD2 hV2 hM2 hG2 hW3
      refine ⟨L, s2, l1, ?_, ?_, fun b hb => by rw [l4 b hb, es b hb], l5, l6⟩
      · rw [fT_leafFor_l12, if_neg (show ¬ (16 : Int32) ≤ Int32.ofNat a from mt (ln_le (a := 16) (b := a) (by omega) (by omega)).mp (by omega)), (node_ev hN hi hG.2.2.2.2.1).1, ck_b_some, if_neg z1, ck_gd_ok (by omega) (by omega), ln_at (by omega), p3, ck_gd_ok (by omega) (by omega), ln_at (by omega), u3, (val_parts hV u1).1, ck_b_some, ln_Lmul, ck_gd_ok (by omega) (by omega), ln_at (by omega), val_sec hV u1, ck_b_some, ln_addL, ck_gd_ok (by omega) (by omega), ln_at (by omega)]
        have e3 : ck_u (ck_u s 37 (2 * p') (s 19 u)) 37 (2 * p' + 1) (s 20 u) = wS p' u s := rfl
        rw [e3, (val_parts hV2 u1).2.2, ck_b_some, hT.2.2.1, ck_b_some, show Int32.ofNat a + 1 = Int32.ofNat (a + 1) from ln_addL a 1]
        exact l2
      · rw [fR_walk_l4, ck_gd_ok (by omega) (by omega), ln_at (by omega), if_neg (show ¬ r 24 i ≤ (0 : Int32) by rw [p4]; exact mt (ln_le (a := p') (b := 0) (by omega) (by omega)).mp (by omega)), if_neg (show ¬ (60 : Int32) ≤ Int32.ofNat a from mt (ln_le (a := 60) (b := a) (by omega) (by omega)).mp (by omega)), ck_gd_ok (by omega) (by omega), p4, part_ev hV hx (by omega), ck_b_some, u2, ck_gd_ok (by omega) (by omega), f8, hT.2.2.2.1]
        unfold fR_walk_b73
        rw [show Int32.ofNat a + 1 = Int32.ofNat (a + 1) from ln_addL a 1, l3, es _ (by omega)]
theorem run_T {t n v q k N : Nat} {s r : ck_S} (hD : rD t n s r) (hO : rO t s r) (hV : rV n v s r) (hM : rM n q k s r) (hG : GI n k N N s r) (h16 : s 5 16 = 1) (h28 : r 0 28 = 1) (h6 : s 0 6 = r 0 46) (x : Int32) :
    ∃ y s2 r2, fC_run x s = some (y, s2) ∧ fR_run x r = some (y, r2) ∧ (∀ a, ¬ a = 37 → ¬ a = 0 → s2 a = s a) ∧ (∀ a, ¬ a = 0 → r2 a = r a) ∧ (∀ j, ¬ j = 46 → r2 0 j = r 0 j) ∧ s2 0 6 = r2 0 46 := by
  have hv := hV.1
  have hk := hM.2.1
  have hN := hG.2.2.1
  have h10 : ¬ ((1 : Int32) = 0) := by decide
  unfold fC_run fR_run fT_isThere fM_typeOver
  rw [h16, ck_gz1, ck_b_some, if_neg h10, h28, if_neg h10]
  rcases val_cases hV x with ⟨i, i1, rfl, i3, i4⟩ | ⟨i3, i4, _⟩
  · rw [i3, ck_b_some, if_neg h10, ck_b_some, i4, ck_b_some, if_neg h10, (val_type hD hV i1).1, ck_b_some]
    unfold fV_isOf
    rw [i3, ck_b_some, if_neg h10, ck_gd_ok (by omega) (by omega), ln_at (by omega), hO.1]
    by_cases e : s 17 i = s 4 6
    · rw [if_pos e, if_pos e, ck_b_some, if_neg h10]
      unfold fT_leafFor fR_walk
      have en : ∀ b, ¬ b = 37 → ck_u s 37 1 (Int32.ofNat i) b = s b := fun b hb => ck_u_ne hb
      have hD1 : rD t n (ck_u s 37 1 (Int32.ofNat i)) r := rD_frame hD (by rw [en _ (by omega)]) (by rw [en _ (by omega)]) (en _ (by omega)) (en _ (by omega)) (en _ (by omega)) rfl rfl rfl rfl rfl
      have hV1 : rV n v (ck_u s 37 1 (Int32.ofNat i)) r := rV_frame hV (Nat.le_refl _) (by rw [en _ (by omega)]) (en _ (by omega)) (en _ (by omega)) (en _ (by omega)) (en _ (by omega)) (fun c _ => ⟨by rw [en _ (by omega)], by rw [en _ (by omega)], by rw [en _ (by omega)]⟩) rfl (fun _ _ _ => rfl)
      have hM1 : rM n q k (ck_u s 37 1 (Int32.ofNat i)) r := rM_frame hM (Nat.le_refl _) (en _ (by omega)) (en _ (by omega)) (en _ (by omega)) (en _ (by omega)) (en _ (by omega)) (en _ (by omega)) (fun c _ => ⟨by rw [en _ (by omega)], by rw [en _ (by omega)], by rw [en _ (by omega)]⟩) rfl rfl rfl rfl rfl rfl
      have hG1 : GI n k N N (ck_u s 37 1 (Int32.ofNat i)) r := GI_cells hG (fun a _ _ => en a (by omega)) (fun a _ _ => en a (by omega)) (fun _ _ _ => rfl) rfl rfl (en _ (by omega)) (by rw [en _ (by omega)]) (by rw [en _ (by omega)]) rfl rfl rfl
      have hx : okv v (Int32.ofNat i) := Or.inr ⟨i, i1, rfl⟩
      have g0 := hG1.2.2.2.2.2.2.2.2.2.2.2.2
      have hW : WI k v 0 (Int32.ofNat i) (ck_u s 37 1 (Int32.ofNat i)) r := by
        refine ⟨fun c c1 c2 p p1 p2 p3 => Or.inr ⟨1, ?_, ?_⟩, fun p p1 p2 p3 => ?_, fun c c1 _ => g0.2.2 c c1⟩
        · unfold anc; omega
        · rw [g0.2.1]; decide
        · rw [g0.2.1, bt_2 ⟨p, by omega⟩] at p3
          have ep : p = 1 := of_decide_eq_true p3
          subst ep
          refine ⟨i, i1, pw_1, ck_u_eq, fun c c1 c2 c3 => ?_⟩
          have hT := (hM1.2.2.2.2.2.2.2.2.2.2 c c1).1 ((asks_iff hM1.2.2.2.2.2.2.2.2 c1 (by omega) (by omega)).mp c3)
          rw [show 1 * 16 + c = 16 + c by omega, hT, en _ (by omega), en _ (by omega), e]
      obtain ⟨L, s2, l1, l2, l3, l4, l5, l6⟩ := walk_loop hx 15 4096 4096 0 0 (ck_u s 37 1 (Int32.ofNat i)) (by omega) (by omega) (by omega) hG.2.1 g0.1 hD1 hV1 hM1 hG1 hW
      have l4' : ∀ b, ¬ b = 37 → s2 b = s b := fun b hb => by rw [l4 b hb, en b hb]
      have eL : (ck_u s 37 ((1 : Int32)).toNatClampNeg (Int32.ofNat i)) = ck_u s 37 1 (Int32.ofNat i) := rfl
      have h14 : s2 5 14 = Int32.ofNat N := by rw [l4' _ (by omega)]; exact hG.2.2.2.2.1
      have e0 : ∀ y b, ¬ b = 0 → ck_u s2 0 6 y b = s2 b := fun y b hb => ck_u_ne hb
      rw [show ck_gd (1 : Int32) 32 (fT_leafFor_l12 4096 0 0 (ck_u s 37 ((1 : Int32)).toNatClampNeg (Int32.ofNat i))) = fT_leafFor_l12 4096 (Int32.ofNat 0) (Int32.ofNat 0) (ck_u s 37 1 (Int32.ofNat i)) from ck_gd_okL (by omega) (by omega), l2, ck_b_some, (node_ev hN l1 h14).2.2.2.1, ck_b_some, (node_ev hN l1 (show ck_u s2 0 6 (s2 29 L) 5 14 = Int32.ofNat N by rw [e0 _ _ (by omega)]; exact h14)).2.2.2.2, ck_b_some, e0 _ _ (by omega)]
      rw [show fR_walk_l4 4096 (Int32.ofNat i) 0 0 r = some (s2 29 L, r) by rw [l4 _ (by omega)]; exact l3, ck_b_some]
      have hfin : ∃ y, fM_rowOf (s2 32 L) (ck_u s2 0 6 (s2 29 L)) = some (y, ck_u s2 0 6 (s2 29 L)) ∧ fR_run_l47 4096 (Int32.ofNat i) 0 (ck_u r 0 46 (s2 29 L)) = some (y, ck_u r 0 46 (s2 29 L)) := by
        generalize hrr : ck_u r 0 46 (s2 29 L) = rr
        have er : ∀ b, ¬ b = 0 → rr b = r b := fun b hb => by rw [← hrr]; exact ck_u_ne hb
        have er0 : ∀ j, ¬ j = 46 → rr 0 j = r 0 j := fun j hj => by rw [← hrr]; exact ck_u_nei hj
        have hVr : rV n v s rr := rV_frame hV (Nat.le_refl _) rfl rfl rfl rfl rfl (fun _ _ => ⟨rfl, rfl, rfl⟩) (er0 _ (by omega)) (fun b _ _ => er b (by omega))
        have hMr : rM n q k s rr := rM_frame hM (Nat.le_refl _) rfl rfl rfl rfl rfl rfl (fun _ _ => ⟨rfl, rfl, rfl⟩) (er0 _ (by omega)) (er0 _ (by omega)) (er _ (by omega)) (er _ (by omega)) (er _ (by omega)) (er _ (by omega))
        have hfit : ∀ c, cfit rr (Int32.ofNat i) c ↔ cfit r (Int32.ofNat i) c := fun c => by
          have e1 : ∀ d p, pv rr (Int32.ofNat i) d p = pv r (Int32.ofNat i) d p := by
            intro d
            induction d with
            | zero => intro p; rfl
            | succ d ih =>
              intro p
              rw [pv, pv, ih]
              unfold ch
              rw [er 13 (by omega), er 14 (by omega)]
          unfold cfit mtc pw
          simp only [e1, er 11 (by omega), er 12 (by omega), er 17 (by omega), er 18 (by omega)]
        -- the reference seeks the first clause that fits
        have seek : ∀ (d m c : Nat), c + d = k → d < m → (∀ b, b < c → ¬ cfit r (Int32.ofNat i) b) → ((∀ b, b < k → ¬ cfit r (Int32.ofNat i) b) ∧ fR_run_l47 m (Int32.ofNat i) (Int32.ofNat c) rr = some (-1, rr)) ∨ ∃ f, f < k ∧ cfit r (Int32.ofNat i) f ∧ (∀ b, b < f → ¬ cfit r (Int32.ofNat i) b) ∧ fR_run_l47 m (Int32.ofNat i) (Int32.ofNat c) rr = some (r 15 f, rr) := by
          intro d
          induction d with
          | zero =>
            intro m c hc hm hb
            obtain ⟨m, rfl⟩ : ∃ z, m = z + 1 := ⟨m - 1, by omega⟩
            left
            refine ⟨fun b hbk => hb b (by omega), ?_⟩
            rw [fR_run_l47, hMr.2.2.2.2.2.1, if_pos ((ln_le (by omega) (by omega)).mpr (by omega))]
          | succ d ih =>
            intro m c hc hm hb
            obtain ⟨m, rfl⟩ : ∃ z, m = z + 1 := ⟨m - 1, by omega⟩
            obtain ⟨w, w1, w2, w3⟩ := fits_ev (c := c) hk hMr.2.2.2.2.2.2.2.2 hVr hx (by omega)
            rw [hfit] at w2
            rw [fR_run_l47, hMr.2.2.2.2.2.1, if_neg (mt (ln_le (by omega) (by omega)).mp (by omega)), w3, ck_b_some]
            by_cases ew : w = 0
            · rw [if_pos ew, show Int32.ofNat c + 1 = Int32.ofNat (c + 1) from ln_addL c 1]
              have nf : ¬ cfit r (Int32.ofNat i) c := fun z => by
                have := w2.mpr z
                rw [ew] at this
                exact absurd this (by decide)
              exact ih m (c + 1) (by omega) (by omega) (fun b hbc => by
                by_cases z : b = c
                · rw [z]; exact nf
                · exact hb b (by omega))
            · rw [if_neg ew, ck_gd_ok (by omega) (by omega), ln_at (by omega), er _ (by omega)]
              exact Or.inr ⟨c, by omega, w2.mp (w1.resolve_left ew), hb, rfl⟩
        have sk := seek k 4096 0 (by omega) (by omega) (fun b hb => absurd hb (by omega))
        unfold fM_rowOf
        rcases l5.2.2.2.2.2.2 with ⟨z1, z2⟩ | ⟨f, f1, f2, f3, f4, f5⟩
        · rw [l5.2.2.2.1, z2, if_pos ln_m1']
          refine ⟨-1, rfl, ?_⟩
          rcases sk with ⟨_, y⟩ | ⟨f, f1, f2, _⟩
          · exact y
          · have := l6.2.2 f f1 f2
            rw [z1, bt_zero] at this
            exact absurd this (by decide)
        · have hff : cfit r (Int32.ofNat i) f := fun p p1 p2 p3 => by
            rcases l6.1 f f1 f2.1 p p1 p2 p3 with z | ⟨w, w1, w2⟩
            · exact z
            · have ha := asks_anc hM.2.2.2.2.2.2.2.2 f1 p1 p2 p3 w1
              have hw : w < 16 := by unfold anc at w1; omega
              refine absurd ⟨w2, ?_⟩ (f4 w w1.1 hw)
              rw [l4' _ (by omega)]
              exact (asks_iff hM.2.2.2.2.2.2.2.2 f1 w1.1 hw).mpr ha
          have hlow : ∀ b, b < f → ¬ cfit r (Int32.ofNat i) b := fun b hb z => by
            have := l6.2.2 b (by omega) z
            rw [f2.2 b hb] at this
            exact absurd this (by decide)
          rw [l5.2.2.2.1, f3, if_neg (ln_lt0 (by omega)), e0 _ _ (by omega), l4' _ (by omega), hM.2.2.2.2.1, if_neg (mt (ln_le (by omega) (by omega)).mp (by omega)), ck_gd_ok (by omega) (by omega), ln_at (by omega), e0 _ _ (by omega), l4' _ (by omega)]
          refine ⟨s 22 f, rfl, ?_⟩
          obtain ⟨fc, c1, c2, c3, c4, c5⟩ := hM.2.2.2.2.2.2.2.1
          obtain ⟨j, j1, j2, j3⟩ := fc_row c1 q f (by rw [c2]; exact f1)
          have h22 : s 22 f = r 15 f := by rw [(c5 j f j1 j2 j3).1, (c5 j f j1 j2 j3).2.1]
          rcases sk with ⟨y, _⟩ | ⟨g, g1, g2, g3, g4⟩
          · exact absurd hff (y f f1)
          · have eg : g = f := by
              rcases Nat.lt_trichotomy g f with z | z | z
              · exact absurd g2 (hlow g z)
              · exact z
              · exact absurd hff (g3 f z)
            rw [h22, ← eg]
            exact g4
      obtain ⟨y, y1, y2⟩ := hfin
      refine ⟨y, _, _, by rw [y1, ck_b_some], y2, fun a a1 a2 => ?_, fun a a1 => ck_u_ne a1, fun j hj => ck_u_nei hj, by rw [ck_u_eq, ck_u_eq]⟩
      rw [ck_u_ne a2, l4' a a1]
    · rw [if_neg e, if_neg e, ck_b_some, if_pos rfl]
      exact ⟨_, _, _, rfl, rfl, fun _ _ _ => rfl, fun _ _ => rfl, fun _ _ => rfl, h6⟩
  · rw [i3, ck_b_some, if_pos rfl, i4, ck_b_some, if_pos rfl]
    exact ⟨_, _, _, rfl, rfl, fun _ _ _ => rfl, fun _ _ => rfl, fun _ _ => rfl, h6⟩
