/-! both expand alike -/
theorem b98_0 {x : Nat} {s : ck_S} (hx : x < 60) : ∃ v, fT_expand_b98 0 (Int32.ofNat x) s = some (0, ck_u s 34 x v) := by
  unfold fT_expand_b98
  simp (disch := omega) only [ck_gd_ok, ln_at, ck_gz0]
  exact ⟨_, rfl⟩
theorem wk_34 {x : Nat} {v : Int32} {s r s2 r2 : ck_S} (h : wk s r s2 r2) : wk s r (ck_u s2 34 x v) r2 := wk_trans h ⟨fun a y z => ck_u_ne (by omega), fun j y z => ck_u_off (by omega), fun _ _ _ => rfl, fun _ _ _ => rfl⟩
theorem wk_30 {s r s2 r2 : ck_S} (h : wk s r s2 r2) : wk s r s2 (ck_u r2 0 30 1) := wk_trans h ⟨fun a y z => rfl, fun j y z => rfl, fun a y z => ck_u_ne (by omega), fun j y z => ck_u_off (by omega)⟩
def res2 (n k x N : Nat) (s r : ck_S) : Prop :=
  (∃ s2 r2 N2, fT_expand (Int32.ofNat x) s = some (1, s2) ∧ fR_grow (Int32.ofNat x) r = some r2 ∧ GI n k (x + 1) N2 s2 r2 ∧ wk s r s2 r2) ∨
  (∃ s2 r2, fT_expand (Int32.ofNat x) s = some (0, s2) ∧ fR_grow (Int32.ofNat x) r = some r2 ∧ r2 0 30 = 1 ∧ wk s r s2 r2)
theorem exp_con {t n k x N p f co : Nat} {s r : ck_S} (hD : rD t n s r) (h : GI n k x N s r) (hx : x < N) (hp1 : 1 ≤ p) (hp2 : p < 16) (hf : f < k) (hl : lws (r 22 x) f) (hop : bt (r 23 x) p = true) (ha : bt (s 23 p) f = true) (c1 : fM_placeToTest (r 22 x) (s 27 x) s = some (Int32.ofNat p, s)) (c2 : fR_choose (r 22 x) (r 23 x) r = some (Int32.ofNat p, r))
    (hco : co < n) (e18 : r 18 (16 * f + p) = Int32.ofNat co) (e17 : r 17 (16 * f + p) = 2) (ety : s 25 (p * 16 + f) = s 7 co) (hall : ∀ c, c < k → bt (r 22 x) c = true → bt (s 23 p) c = true → r 17 (16 * c + p) = 2) : res2 n k x N s r := by
  obtain ⟨a1, a2, a3, a4, a5, a6, a7, a8, a9, a10, a11, a12, a13, a14, a15⟩ := id h
  have hx60 : x < 60 := by omega
  have d2 := hD.2.1
  obtain ⟨⟨o, o1, o2, o3⟩, _⟩ := hD.2.2.2.2.2.2.2.1 co hco
  have ho5 : o ≤ 5 := by have := hD.1; omega
  have hty0 : ¬ s 25 (p * 16 + f) = 0 := by rw [ety, o3]; exact mt (ln_eq (b := 0) (by omega) (by omega)).mp (by omega)
  have er1 : r 1 co = s 7 co := (hD.2.2.2.2.2.2.1 co hco).1
  have h1n : ¬ r 17 (16 * f + p) = 1 := by rw [e17]; decide
  unfold res2
  rw [expand_ev h hx hp1 hp2 hf hl ha c1, if_neg hty0, growS_ev h hx hp1 hp2 hf hl c2 (fun _ => ⟨co, by omega, e18⟩), if_neg h1n, e18, ln_at (by omega), er1, ← ety]
  have hgb : gC n k (bsS N x p (s 25 (p * 16 + f)) s) (brS N x p f (s 25 (p * 16 + f)) r) := gC_frame a1 (bs_ne (by omega)) (br_off (by omega)) (b_TF (M := 0))
  have hDb : rD t n (bsS N x p (s 25 (p * 16 + f)) s) (brS N x p f (s 25 (p * 16 + f)) r) := rD_frame hD (bs_off (by omega)) (bs_off (by omega)) (bs_ne (by omega)) (bs_ne (by omega)) (bs_ne (by omega)) (br_off (by omega)) (br_off (by omega)) (br_ne (by omega)) (br_ne (by omega)) (br_ne (by omega))
  have hloop := con_loop hDb hgb (nd_frame (a8 x hx) (b_TF (M := N)) hx) hx hp1 hp2 (by rw [br_ne (by omega)]; exact hop) bs_x.1 br_x.1 (br_x.2.1.trans bs_x.2.1.symm) n 0 4096 4096 0 _ _ (by omega) (by omega) (by omega) (b_mid h) ⟨fun j hj => absurd hj (by omega), fun co hco => absurd hco (by omega)⟩
  have hadd : fT_addConstructors (Int32.ofNat x) (bsS N x p (s 25 (p * 16 + f)) s) = fT_addConstructors_l23 4096 (Int32.ofNat x) 1 (stl ((bsS N x p (s 25 (p * 16 + f)) s) 27 x) p) (Int32.ofNat 0) (bsS N x p (s 25 (p * 16 + f)) s) := by
    unfold fT_addConstructors
    simp (disch := omega) only [ck_gd_ok, ln_at, bs_x.1]
    rfl
  rw [hadd]
  rw [br_ne (a := 23) (by omega)] at hloop
  rcases hloop with ⟨s2, r2, M2, b1, b2, b3, b4⟩ | ⟨s2, r2, b1, b2, b3, b4⟩
  · rw [b1, ck_b_some, show (0 : Int32) = Int32.ofNat 0 from rfl, b2]
    rw [bs_x.2.1] at b4
    have hTFm : TF N s r s2 r2 := TF_trans b_TF (mid_TF b3)
    have hM2 : 1 ≤ M2 := by
      obtain ⟨j, j1, _⟩ := b4.2 co hco (by rw [hTFm.1 7 (by omega) (by omega)]; exact ety.symm)
      omega
    have hd := test_done h hx hp1 hp2 hf hl hop ha b3 (Or.inr ⟨⟨o, o1, ho5, ety.trans o3⟩, fun c y1 y2 y3 => by
      rw [hTFm.2.2.2.1]
      rw [(hTFm.2.2.2.2.2 x hx).1] at y2
      rw [hTFm.2.1 23 (by omega) (by omega)] at y3
      exact hall c y1 y2 y3, hM2, b4⟩)
    exact Or.inl ⟨_, _, N + M2, hd.1, rfl, hd.2.1, hd.2.2⟩
  · rw [b1, ck_b_some, show (0 : Int32) = Int32.ofNat 0 from rfl, b2]
    obtain ⟨v, hv⟩ := b98_0 (s := s2) hx60
    exact Or.inr ⟨_, _, hv, rfl, b3, wk_34 (wk_trans b_wk b4)⟩
theorem exp_num {t n k x N p f : Nat} {s r : ck_S} (hD : rD t n s r) (h : GI n k x N s r) (hx : x < N) (hp1 : 1 ≤ p) (hp2 : p < 16) (hf : f < k) (hl : lws (r 22 x) f) (hop : bt (r 23 x) p = true) (ha : bt (s 23 p) f = true) (c1 : fM_placeToTest (r 22 x) (s 27 x) s = some (Int32.ofNat p, s)) (c2 : fR_choose (r 22 x) (r 23 x) r = some (Int32.ofNat p, r))
    (e17 : r 17 (16 * f + p) = 1) (ety : s 25 (p * 16 + f) = 0) (hall : ∀ c, c < k → bt (r 22 x) c = true → bt (s 23 p) c = true → r 17 (16 * c + p) = 1) : res2 n k x N s r := by
  obtain ⟨a1, a2, a3, a4, a5, a6, a7, a8, a9, a10, a11, a12, a13, a14, a15⟩ := id h
  have hx60 : x < 60 := by omega
  have d2 := hD.2.1
  have hk16 := a1.1
  unfold res2
  rw [expand_ev h hx hp1 hp2 hf hl ha c1, if_pos ety, growS_ev h hx hp1 hp2 hf hl c2 (fun z => absurd e17 z), if_pos e17]
  have hgb : gC n k (bsS N x p (s 25 (p * 16 + f)) s) (brS N x p f (s 25 (p * 16 + f)) r) := gC_frame a1 (bs_ne (by omega)) (br_off (by omega)) (b_TF (M := 0))
  have hndb := nd_frame (a8 x hx) (b_TF (N := N) (x := x) (p := p) (f := f) (ty := s 25 (p * 16 + f)) (M := N)) hx
  have hallb : ∀ (s2 r2 : ck_S), TF N s r s2 r2 → ∀ c, c < k → bt (r2 22 x) c = true → bt (s2 23 p) c = true → r2 17 (16 * c + p) = 1 := fun s2 r2 hT c y1 y2 y3 => by
    rw [hT.2.2.2.1]
    rw [(hT.2.2.2.2.2 x hx).1] at y2
    rw [hT.2.1 23 (by omega) (by omega)] at y3
    exact hall c y1 y2 y3
  have hloop := num_loop d2 hgb hndb hx hp1 hp2 (by rw [br_ne (by omega)]; exact hop) bs_x.1 br_x.1 (hallb _ _ b_TF) (fun x1 x2 x3 st => fT_addNumbers_b139 x1 x2 x3 st) (fun x1 x3 st => fR_growNumbers_b163 x1 x3 st) 16 4096 4096 0 none _ _ (by omega) (by omega) (by omega) (b_mid h) ⟨fun j hj => absurd hj (by omega), fun _ j2 _ hj => absurd hj (by omega), fun j hj => absurd hj (by omega), fun c _ _ hb => by cases hb⟩ (by have := ctb_le (fun c => akb ((brS N x p f (s 25 (p * 16 + f)) r) 22 x) (bsS N x p (s 25 (p * 16 + f)) s) p c && abv none (nmb (brS N x p f (s 25 (p * 16 + f)) r) p c)) k; omega)
  have hadd : fT_addNumbers (Int32.ofNat x) (bsS N x p (s 25 (p * 16 + f)) s) = fT_addNumbers_l47 (fun x1 x2 x3 st => fT_addNumbers_b139 x1 x2 x3 st) 4096 (Int32.ofNat x) 1 (stl ((bsS N x p (s 25 (p * 16 + f)) s) 27 x) p) (eC (lst none (akb ((brS N x p f (s 25 (p * 16 + f)) r) 22 x) (bsS N x p (s 25 (p * 16 + f)) s) p) (nmb (brS N x p f (s 25 (p * 16 + f)) r) p) k)) (Int32.ofNat 0) (bsS N x p (s 25 (p * 16 + f)) s) := by
    have hla := leastAbove_ev (L := (brS N x p f (s 25 (p * 16 + f)) r) 22 x) hgb hp1 hp2 none
    rw [show eCF none = (-4294967296 : Int64) from rfl] at hla
    unfold fT_addNumbers
    simp (disch := omega) only [ck_gd_ok, ln_at, bs_x.1, hndb.1, hla, ck_b_some]
    rfl
  rw [hadd]
  rw [br_ne (a := 23) (by omega)] at hloop
  have hgn : fR_growNumbers (Int32.ofNat x) (Int32.ofNat p) (stl (r 23 x) p) (brS N x p f 0 r) = fR_growNumbers_l8 (fun x1 x3 st => fR_growNumbers_b163 x1 x3 st) 4096 (Int32.ofNat x) (Int32.ofNat p) (stl (r 23 x) p) (eRF none) (Int32.ofNat 0) (brS N x p f (s 25 (p * 16 + f)) r) := by
    rw [ety]; rfl
  rw [hgn]
  have hstep : ∀ (s2 r2 : ck_S) M2, mid n k x N (bsS N x p (s 25 (p * 16 + f)) s) (brS N x p f (s 25 (p * 16 + f)) r) s2 r2 M2 → ∃ K, lowb k K ∧ fM_notAsking (s2 26 x) (s2 30 x) s2 = some (K, s2) ∧ fR_keep (r2 22 x) (r2 24 x) 0 1 r2 = some (K, r2) ∧ ∀ b, b < 32 → bt K b = kpb (r2 22 x) s2 r2 p 0 true b := by
    intro s2 r2 M2 hm
    have hg2 := mid_gC hgb hm
    obtain ⟨w, h15, h30, h1, h2, h3, h4, h5, h6, h7⟩ := id hm
    have s30 : s2 30 x = Int32.ofNat p := by rw [h1 30 x (by omega) (by omega) hx]; exact bs_x.1
    have r24 : r2 24 x = Int32.ofNat p := by rw [h2 24 x (by omega) (by omega) hx (by omega)]; exact br_x.1
    have hnx := nd_frame hndb (mid_TF hm) hx
    obtain ⟨K, k1, k2, k3, k4⟩ := (keep_same hg2 hnx.2.1 hp1 hp2 0).2
    exact ⟨K, k3, by rw [hnx.1, s30]; exact k1, by rw [r24]; exact k2, k4⟩
  rcases hloop with ⟨s2, r2, M2, fl2, b0, b1, b2, b3, b4, b5⟩ | ⟨s2, r2, M2, b1, b2, b3, b4⟩
  · rw [b1, b2]
    obtain ⟨K, k3, k1, k2, k4⟩ := hstep s2 r2 M2 b3
    obtain ⟨w, h15, h30, h1, h2, h3, h4, h5, h6, h7⟩ := id b3
    have hO : ∀ b, b < 16 → bt (stl ((bsS N x p (s 25 (p * 16 + f)) s) 27 x) p) b = bt (stl (r 23 x) p) b := fun b hb => by
      rw [stl_bt (by omega) (by omega), stl_bt (by omega) (by omega), hndb.2.2.1 b hb, br_ne (by omega)]
    have hOw : obw s2 r2 x p 0 false (stl (r 23 x) p) := by
      intro b hb
      rw [stl_bt (by omega) (by omega), h2 23 x (by omega) (by omega) hx (by omega), br_ne (by omega)]
      simp
    unfold fT_addNumbers_b139 fR_growNumbers_b163
    simp (disch := omega) only [ck_gd_ok, ln_at, k1, ck_b_some, ↓reduceIte, show ¬ ((1 : Int32) = 0) by decide]
    by_cases hfull : N + M2 < 60
    · obtain ⟨s3, r3, q1, q2, q3, q4, q5, q6⟩ := mid_step (lab := 0) true false d2 hgb b3 hndb hx hp1 hp2 (by rw [br_ne (by omega)]; exact hop) hfull k2 k3 k4 hO hOw (fun z => by cases z)
      rw [show (if true = true then (1 : Int32) else 0) = 1 from rfl] at q2
      simp only [q1, ck_b_some, q2, ck_bv_some, show ¬ ((1 : Int32) = 0) by decide, ↓reduceIte]
      obtain ⟨n1, n2, n3, n4⟩ := NI_frame b4 q6 hx
      have hTF3 : TF N s r s3 r3 := TF_trans b_TF (mid_TF q3)
      have hd := test_done h hx hp1 hp2 hf hl hop ha q3 (Or.inl ⟨ety, hallb _ _ hTF3, M2, rfl, b0, n1, q4, q5, n2, fun c y1 y2 => by
        rw [akb_frame q6 (by omega)] at y2
        obtain ⟨j, z1, z2⟩ := b5 c y1 y2
        exact ⟨j, z1, by rw [(q6.2.2.2.2.2 (N + j) (by omega)).2.2.1, nmb_frame q6]; exact z2⟩⟩)
      exact Or.inl ⟨_, _, N + (M2 + 1), hd.1, rfl, hd.2.1, hd.2.2⟩
    · have hf60 : N + M2 = 60 := by omega
      rw [hf60] at h3 h4
      simp only [addNode_full h3, ck_b_some, branch_full h4, ck_bv_some, ↓reduceIte]
      obtain ⟨v, hv⟩ := b98_0 (s := s2) hx60
      exact Or.inr ⟨_, _, hv, rfl, ck_u_eq, wk_34 (wk_30 (wk_trans b_wk w))⟩
  · rw [b1, b2]
    obtain ⟨K, k3, k1, k2, k4⟩ := hstep s2 r2 M2 b3
    obtain ⟨w, h15, h30, h1, h2, h3, h4, h5, h6, h7⟩ := id b3
    rw [b4] at h4
    unfold fT_addNumbers_b139 fR_growNumbers_b163
    have hr29 : (ck_u r2 0 30 1) 0 29 = Int32.ofNat 60 := by rw [ck_u_off (by omega)]; exact h4
    simp (disch := omega) only [ck_gd_ok, ln_at, k1, ck_b_some, ↓reduceIte, branch_full2 hr29 ck_u_eq, ck_bv_some]
    obtain ⟨v, hv⟩ := b98_0 (s := s2) hx60
    exact Or.inr ⟨_, _, hv, rfl, ck_u_eq, wk_34 (wk_30 (wk_trans b_wk w))⟩
theorem exp_step {t n k x N : Nat} {s r : ck_S} (hD : rD t n s r) (h : GI n k x N s r) (hx : x < N) : res2 n k x N s r := by
  obtain ⟨a1, a2, a3, a4, a5, a6, a7, a8, a9, a10, a11, a12, a13, a14, a15⟩ := id h
  obtain ⟨b1, b2, b3, b4, b5, b6⟩ := id (a8 x hx)
  rcases low_ex (r 22 x) k with h0 | ⟨f, hf, hl⟩
  · obtain ⟨s2, r2, c1, c2, c3, c4⟩ := exp_leaf0 h hx (low_zero b2 h0)
    exact Or.inl ⟨s2, r2, N, c1, c2, c3, c4⟩
  · obtain ⟨p, p1, p2, p3, p4, p5⟩ := choose_ev a1 b2 hf hl b3
    by_cases e : p = 0
    · subst e
      obtain ⟨s2, r2, c1, c2, c3, c4⟩ := exp_leaf1 h hx hf hl p2 p3 (p4 rfl)
      exact Or.inl ⟨s2, r2, N, c1, c2, c3, c4⟩
    · obtain ⟨q1, q2⟩ := p5 e
      obtain ⟨ty, hty⟩ := b5 p (by omega) p1 q1
      have hown : ∀ co, co < n → ¬ s 7 co = 0 := fun co hco => by
        obtain ⟨⟨o, o1, o2, o3⟩, _⟩ := hD.2.2.2.2.2.2.2.1 co hco
        have := hD.1
        rw [o3]; exact mt (ln_eq (b := 0) (by omega) (by omega)).mp (by omega)
      rcases a1.2.2.2.2.1 f p hf (by omega) p1 with ⟨_, z⟩ | ⟨z1, z2, z3, z4⟩ | ⟨z1, z2, z3, co, z4, z5, z6⟩
      · rw [z] at q2; cases q2
      · refine exp_num hD h hx (by omega) p1 hf hl q1 q2 p2 p3 z1 z4 (fun c y1 y2 y3 => ?_)
        have t0 : ty = 0 := (hty f hf hl.1 q2).symm.trans z4
        rcases a1.2.2.2.2.1 c p y1 (by omega) p1 with ⟨_, z⟩ | ⟨w1, _⟩ | ⟨_, _, _, co, w4, _, w6⟩
        · rw [z] at y3; cases y3
        · exact w1
        · exact absurd ((w6.symm.trans (hty c y1 y2 y3)).trans t0) (hown co w4)
      · refine exp_con hD h hx (by omega) p1 hf hl q1 q2 p2 p3 z4 z5 z1 z6 (fun c y1 y2 y3 => ?_)
        have t0 : ty = s 7 co := (hty f hf hl.1 q2).symm.trans z6
        rcases a1.2.2.2.2.1 c p y1 (by omega) p1 with ⟨_, z⟩ | ⟨_, _, _, w4⟩ | ⟨w1, _⟩
        · rw [z] at y3; cases y3
        · exact absurd ((t0.symm.trans (hty c y1 y2 y3).symm).trans w4) (hown co z4)
        · exact w1
theorem wk_rD {t n : Nat} {s r s2 r2 : ck_S} (hD : rD t n s r) (h : wk s r s2 r2) : rD t n s2 r2 := by
  obtain ⟨w1, w2, w3, w4⟩ := h
  exact rD_frame hD (by rw [w1 1 (by omega) (by omega)]) (by rw [w1 1 (by omega) (by omega)]) (w1 7 (by omega) (by omega)) (w1 8 (by omega) (by omega)) (w1 9 (by omega) (by omega)) (w4 0 (by omega) (by omega)) (w4 1 (by omega) (by omega)) (w3 1 (by omega) (by omega)) (w3 2 (by omega) (by omega)) (w3 3 (by omega) (by omega))
theorem grow_loop {t n k : Nat} (K1 : Int32 → ck_S → Option (Int32 × ck_S)) (K2 : ck_S → Option (Int32 × ck_S)) : ∀ (d m1 m2 x N : Nat) (s r : ck_S), x + d = 60 → d < m1 → d + 1 < m2 → rD t n s r → GI n k x N s r →
    (∃ s2 r2 N2, fT_grow_l32 K1 m1 1 (Int32.ofNat x) s = K1 1 s2 ∧ fR_compile_l43 K2 m2 (Int32.ofNat x) r = K2 r2 ∧ GI n k N2 N2 s2 r2 ∧ wk s r s2 r2) ∨
    (∃ s2 r2, fT_grow_l32 K1 m1 1 (Int32.ofNat x) s = K1 0 s2 ∧ fR_compile_l43 K2 m2 (Int32.ofNat x) r = K2 r2 ∧ r2 0 30 = 1 ∧ wk s r s2 r2) := by
  intro d
  induction d with
  | zero =>
    intro m1 m2 x N s r hd hm1 hm2 hD h
    obtain ⟨m1, rfl⟩ : ∃ z, m1 = z + 1 := ⟨m1 - 1, by omega⟩
    obtain ⟨m2, rfl⟩ : ∃ z, m2 = z + 1 := ⟨m2 - 1, by omega⟩
    obtain ⟨a1, a2, a3, a4, a5, a6, _⟩ := id h
    have e : x = 60 := by omega
    subst e
    have eN : N = 60 := by omega
    subst eN
    refine Or.inl ⟨s, r, 60, ?_, ?_, h, wk_refl _ _⟩
    · rw [fT_grow_l32, if_pos (by decide)]
    · rw [fR_compile_l43, a6, if_pos (by decide)]
  | succ d ih =>
    intro m1 m2 x N s r hd hm1 hm2 hD h
    obtain ⟨m1, rfl⟩ : ∃ z, m1 = z + 1 := ⟨m1 - 1, by omega⟩
    obtain ⟨m2, rfl⟩ : ∃ z, m2 = z + 1 := ⟨m2 - 1, by omega⟩
    obtain ⟨a1, a2, a3, a4, a5, a6, a7, _⟩ := id h
    have hn60 : ¬ ((60 : Int32) ≤ Int32.ofNat x) := fun z => by have := (ln_le (a := 60) (by omega) (by omega)).mp z; omega
    rw [fT_grow_l32, if_neg hn60, a5, fR_compile_l43, a6, a7]
    by_cases e : x = N
    · subst e
      refine Or.inl ⟨s, r, x, ?_, ?_, h, wk_refl _ _⟩
      · rw [if_pos ((ln_le (by omega) (by omega)).mpr (by omega))]
      · rw [if_pos ((ln_le (by omega) (by omega)).mpr (by omega))]
    · rw [if_neg (mt (ln_le (by omega) (by omega)).mp (by omega)), if_neg (mt (ln_le (by omega) (by omega)).mp (by omega)), if_neg (show ¬ ((1 : Int32) = 0) by decide), if_pos rfl]
      rw [show Int32.ofNat x + 1 = Int32.ofNat (x + 1) from ln_addL x 1]
      rcases exp_step hD h (by omega) with ⟨s2, r2, N2, b1, b2, b3, b4⟩ | ⟨s2, r2, b1, b2, b3, b4⟩
      · rw [b1, ck_b_some, b2, ck_bv_some]
        rcases ih m1 m2 (x + 1) N2 s2 r2 (by omega) (by omega) (by omega) (wk_rD hD b4) b3 with ⟨s3, r3, N3, c1, c2, c3, c4⟩ | ⟨s3, r3, c1, c2, c3, c4⟩
        · exact Or.inl ⟨s3, r3, N3, c1, c2, c3, wk_trans b4 c4⟩
        · exact Or.inr ⟨s3, r3, c1, c2, c3, wk_trans b4 c4⟩
      · rw [b1, ck_b_some, b2, ck_bv_some]
        obtain ⟨m2, rfl⟩ : ∃ z, m2 = z + 1 := ⟨m2 - 1, by omega⟩
        refine Or.inr ⟨s2, r2, ?_, ?_, b3, b4⟩
        · cases m1 with
          | zero => omega
          | succ m1 =>
            rw [fT_grow_l32, if_pos (show (0 : Int32) = 0 from rfl)]
            simp only [ite_self]
        · rw [fR_compile_l43, b3, if_neg (show ¬ ((1 : Int32) = 0) by decide)]
          simp only [ite_self]
