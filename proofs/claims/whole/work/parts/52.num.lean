/-! the branches of a test of INT -/
theorem l8_round {n k p x m : Nat} {s r : ck_S} (hg : gC n k s r) (hp : 1 ≤ p) (hp2 : p < 16) (hx : x < 60) (hI : ∀ c, c < k → bt (r 22 x) c = true → bt (s 23 p) c = true → r 17 (16 * c + p) = 1) (S : Int32) (K : Int32 → Int32 → ck_S → Option ck_S) (fl : Option Int32) {i : Nat} (hi : i < 16) :
    fR_growNumbers_l8 K (m + 1) (Int32.ofNat x) (Int32.ofNat p) S (eRF fl) (Int32.ofNat i) r = (match lst fl (akb (r 22 x) s p) (nmb r p) k with
      | none => fR_growNumbers_l8 K m (Int32.ofNat x) (Int32.ofNat p) S (eRF fl) (Int32.ofNat (i + 1)) r
      | some w => ck_bv (fR_branch (Int32.ofNat x) w 0 S r) fun st1 => fR_growNumbers_l8 K m (Int32.ofNat x) (Int32.ofNat p) S (eRF (some w)) (Int32.ofNat (i + 1)) st1) := by
  rw [fR_growNumbers_l8, if_neg (fun z => by have := (ln_le (a := 16) (by omega) (by omega)).mp z; omega), growl23_ev hg hp hp2 hx hI]
  unfold fR_growNumbers_b134
  cases h : lst fl (akb (r 22 x) s p) (nmb r p) k with
  | none =>
    simp only
    rw [if_pos ((eR_none none).mpr rfl), show Int32.ofNat i + 1 = Int32.ofNat (i + 1) from ln_addL i 1]
  | some w =>
    simp only
    rw [if_neg (fun z => by have := (eR_none (some w)).mp z; cases this), show Int32.ofNat i + 1 = Int32.ofNat (i + 1) from ln_addL i 1, show (eR (some w)).toInt32 = w from Int32.toInt32_toInt64 w]
    rfl
theorem l8_none {n k p x : Nat} {s r : ck_S} (hg : gC n k s r) (hp : 1 ≤ p) (hp2 : p < 16) (hx : x < 60) (hI : ∀ c, c < k → bt (r 22 x) c = true → bt (s 23 p) c = true → r 17 (16 * c + p) = 1) (S : Int32) (K : Int32 → Int32 → ck_S → Option ck_S) (fl : Option Int32) (hl : lst fl (akb (r 22 x) s p) (nmb r p) k = none) :
    ∀ (d m i : Nat), i + d = 16 → d < m → fR_growNumbers_l8 K m (Int32.ofNat x) (Int32.ofNat p) S (eRF fl) (Int32.ofNat i) r = K (Int32.ofNat x) S r := by
  intro d
  induction d with
  | zero =>
    intro m i hi hm
    obtain ⟨m, rfl⟩ : ∃ z, m = z + 1 := ⟨m - 1, by omega⟩
    rw [fR_growNumbers_l8, if_pos (by rw [show i = 16 by omega]; decide)]
  | succ d ih =>
    intro m i hi hm
    obtain ⟨m, rfl⟩ : ∃ z, m = z + 1 := ⟨m - 1, by omega⟩
    rw [l8_round hg hp hp2 hx hI S K fl (by omega), hl]
    exact ih m (i + 1) (by omega) (by omega)
theorem l8_full {n k p x : Nat} {s r : ck_S} (hg : gC n k s r) (hp : 1 ≤ p) (hp2 : p < 16) (hx : x < 60) (hI : ∀ c, c < k → bt (r 22 x) c = true → bt (s 23 p) c = true → r 17 (16 * c + p) = 1) (S : Int32) (K : Int32 → Int32 → ck_S → Option ck_S) (h29 : r 0 29 = Int32.ofNat 60) (h30 : r 0 30 = 1) :
    ∀ (d m i : Nat) (fl : Option Int32), i + d = 16 → d < m → fR_growNumbers_l8 K m (Int32.ofNat x) (Int32.ofNat p) S (eRF fl) (Int32.ofNat i) r = K (Int32.ofNat x) S r := by
  intro d
  induction d with
  | zero =>
    intro m i fl hi hm
    obtain ⟨m, rfl⟩ : ∃ z, m = z + 1 := ⟨m - 1, by omega⟩
    rw [fR_growNumbers_l8, if_pos (by rw [show i = 16 by omega]; decide)]
  | succ d ih =>
    intro m i fl hi hm
    obtain ⟨m, rfl⟩ : ∃ z, m = z + 1 := ⟨m - 1, by omega⟩
    rw [l8_round hg hp hp2 hx hI S K fl (by omega)]
    cases h : lst fl (akb (r 22 x) s p) (nmb r p) k with
    | none => exact ih m (i + 1) fl (by omega) (by omega)
    | some w =>
      simp only
      rw [branch_full2 h29 h30, ck_bv_some]
      exact ih m (i + 1) (some w) (by omega) (by omega)
def NI (k x p N0 : Nat) (s r : ck_S) (fl : Option Int32) (M : Nat) : Prop := (∀ j, j < M → brn s r x p (N0 + j) false false) ∧ (∀ j1 j2, j1 < j2 → j2 < M → (r 29 (N0 + j1)).toInt < (r 29 (N0 + j2)).toInt) ∧ (∀ j, j < M → ∃ f, fl = some f ∧ (r 29 (N0 + j)).toInt ≤ f.toInt) ∧ (∀ c, c < k → akb (r 22 x) s p c = true → abv fl (nmb r p c) = false → ∃ j, j < M ∧ r 29 (N0 + j) = nmb r p c)
theorem akb_frame {N x p c : Nat} {s r s2 r2 : ck_S} (f : TF N s r s2 r2) (hx : x < N) : akb (r2 22 x) s2 p c = akb (r 22 x) s p c := by
  unfold akb
  rw [f.2.1 23 (by omega) (by omega), (f.2.2.2.2.2 x hx).1]
theorem nmb_frame {N p c : Nat} {s r s2 r2 : ck_S} (f : TF N s r s2 r2) : nmb r2 p c = nmb r p c := by
  unfold nmb
  rw [f.2.2.2.2.1]
theorem NI_frame {k x p N0 M : Nat} {fl : Option Int32} {s r s2 r2 : ck_S} (h : NI k x p N0 s r fl M) (f : TF (N0 + M) s r s2 r2) (hx : x < N0) : NI k x p N0 s2 r2 fl M := by
  obtain ⟨h1, h2, h3, h4⟩ := h
  have e : ∀ j, j < M → r2 29 (N0 + j) = r 29 (N0 + j) := fun j hj => (f.2.2.2.2.2 (N0 + j) (by omega)).2.2.1
  refine ⟨fun j hj => brn_frame (h1 j hj) f (by omega) (by omega), fun j1 j2 a b => by rw [e j1 (by omega), e j2 b]; exact h2 j1 j2 a b, fun j hj => by rw [e j hj]; exact h3 j hj, fun c hc ha hb => ?_⟩
  rw [akb_frame f (by omega)] at ha
  rw [nmb_frame f] at hb ⊢
  obtain ⟨j, a1, a2⟩ := h4 c hc ha hb
  exact ⟨j, a1, by rw [e j a1]; exact a2⟩
theorem lst_congr {fl : Option Int32} {ask ask2 : Nat → Bool} {num num2 : Nat → Int32} : ∀ k, (∀ c, c < k → ask c = ask2 c ∧ num c = num2 c) → lst fl ask num k = lst fl ask2 num2 k
  | 0, _ => rfl
  | k + 1, h => by
    rw [lst_s, lst_s, lst_congr k (fun c hc => h c (by omega)), (h k (by omega)).1, (h k (by omega)).2]
theorem num_loop {n k x p N0 : Nat} {st rt : ck_S} (hn : n ≤ 12) (hg : gC n k st rt) (hx : nd k st rt x) (hxN : x < N0) (hp1 : 1 ≤ p) (hp2 : p < 16) (hop : bt (rt 23 x) p = true) (e30 : st 30 x = Int32.ofNat p) (e24 : rt 24 x = Int32.ofNat p) (hI : ∀ c, c < k → bt (rt 22 x) c = true → bt (st 23 p) c = true → rt 17 (16 * c + p) = 1)
    (K1 : Int32 → Int32 → Int32 → ck_S → Option (Int32 × ck_S)) (K2 : Int32 → Int32 → ck_S → Option ck_S) :
    ∀ (d m1 m2 M : Nat) (fl : Option Int32) (s r : ck_S), M + d = 16 → d < m1 → d < m2 → mid n k x N0 st rt s r M → NI k x p N0 s r fl M → ctb (fun c => akb (rt 22 x) st p c && abv fl (nmb rt p c)) k + M ≤ 16 →
    (∃ s2 r2 M2 fl2, M2 ≤ 16 ∧ fT_addNumbers_l47 K1 m1 (Int32.ofNat x) 1 (stl (st 27 x) p) (eC (lst fl (akb (rt 22 x) st p) (nmb rt p) k)) (Int32.ofNat M) s = K1 (Int32.ofNat x) 1 (stl (st 27 x) p) s2 ∧ fR_growNumbers_l8 K2 m2 (Int32.ofNat x) (Int32.ofNat p) (stl (rt 23 x) p) (eRF fl) (Int32.ofNat M) r = K2 (Int32.ofNat x) (stl (rt 23 x) p) r2 ∧ mid n k x N0 st rt s2 r2 M2 ∧ NI k x p N0 s2 r2 fl2 M2 ∧ (∀ c, c < k → akb (r2 22 x) s2 p c = true → ∃ j, j < M2 ∧ r2 29 (N0 + j) = nmb r2 p c)) ∨
    (∃ s2 r2 M2, fT_addNumbers_l47 K1 m1 (Int32.ofNat x) 1 (stl (st 27 x) p) (eC (lst fl (akb (rt 22 x) st p) (nmb rt p) k)) (Int32.ofNat M) s = K1 (Int32.ofNat x) 0 (stl (st 27 x) p) s2 ∧ fR_growNumbers_l8 K2 m2 (Int32.ofNat x) (Int32.ofNat p) (stl (rt 23 x) p) (eRF fl) (Int32.ofNat M) r = K2 (Int32.ofNat x) (stl (rt 23 x) p) (ck_u r2 0 30 1) ∧ mid n k x N0 st rt s2 r2 M2 ∧ N0 + M2 = 60) := by
  intro d
  induction d with
  | zero =>
    intro m1 m2 M fl s r hd hm1 hm2 hm hN hc
    obtain ⟨m1, rfl⟩ : ∃ z, m1 = z + 1 := ⟨m1 - 1, by omega⟩
    obtain ⟨m2, rfl⟩ : ∃ z, m2 = z + 1 := ⟨m2 - 1, by omega⟩
    have hTF := mid_TF hm
    refine Or.inl ⟨s, r, M, fl, by omega, ?_, ?_, hm, hN, fun c hck ha => ?_⟩
    · rw [fT_addNumbers_l47, if_pos (by rw [show M = 16 by omega]; decide)]
    · rw [fR_growNumbers_l8, if_pos (by rw [show M = 16 by omega]; decide)]
    · refine hN.2.2.2 c hck ha ?_
      cases e : abv fl (nmb r p c) with
      | false => rfl
      | true =>
        rw [akb_frame hTF hxN] at ha
        rw [nmb_frame hTF] at e
        have := ctb_pos (f := fun c => akb (rt 22 x) st p c && abv fl (nmb rt p c)) k hck (by rw [ha, e]; rfl)
        omega
  | succ d ih =>
    intro m1 m2 M fl s r hd hm1 hm2 hm hN hc
    obtain ⟨m1, rfl⟩ : ∃ z, m1 = z + 1 := ⟨m1 - 1, by omega⟩
    obtain ⟨m2, rfl⟩ : ∃ z, m2 = z + 1 := ⟨m2 - 1, by omega⟩
    have hTF := mid_TF hm
    have hg2 := mid_gC hg hm
    obtain ⟨w, h15, h30, h1, h2, h3, h4, h5, h6, h7⟩ := id hm
    have hx60 : x < 60 := by omega
    have s30 : s 30 x = Int32.ofNat p := by rw [h1 30 x (by omega) (by omega) hxN]; exact e30
    have r24 : r 24 x = Int32.ofNat p := by rw [h2 24 x (by omega) (by omega) hxN (by omega)]; exact e24
    have s26 : s 26 x = r 22 x := (nd_frame hx hTF hxN).1
    have r22l : lowb k (r 22 x) := (nd_frame hx hTF hxN).2.1
    have hlc : ∀ fl, lst fl (akb (r 22 x) s p) (nmb r p) k = lst fl (akb (rt 22 x) st p) (nmb rt p) k := fun fl => lst_congr k (fun c _ => ⟨akb_frame hTF hxN, nmb_frame hTF⟩)
    have hI2 : ∀ c, c < k → bt (r 22 x) c = true → bt (s 23 p) c = true → r 17 (16 * c + p) = 1 := by
      intro c h1 h2 h3
      rw [hTF.2.2.2.1]
      rw [(hTF.2.2.2.2.2 x hxN).1] at h2
      rw [hTF.2.1 23 (by omega) (by omega)] at h3
      exact hI c h1 h2 h3
    have h16 : ¬ ((16 : Int32) ≤ Int32.ofNat M) := fun z => by have := (ln_le (a := 16) (by omega) (by omega)).mp z; omega
    cases hl : lst fl (akb (rt 22 x) st p) (nmb rt p) k with
    | none =>
      refine Or.inl ⟨s, r, M, fl, by omega, ?_, ?_, hm, hN, fun c hck ha => ?_⟩
      · rw [fT_addNumbers_l47, if_neg h16, if_pos ((eC_none none).mpr rfl)]
      · exact l8_none hg2 hp1 hp2 hx60 hI2 _ K2 fl (by rw [hlc]; exact hl) (d + 1) (m2 + 1) M (by omega) (by omega)
      · refine hN.2.2.2 c hck ha ?_
        rw [akb_frame hTF hxN] at ha
        rw [nmb_frame hTF]
        exact lst_none k hl c hck ha
    | some w =>
      obtain ⟨⟨c0, q1, q2, q3⟩, q4, q5⟩ := lst_some k w hl
      obtain ⟨K, k1, k2, k3, k4⟩ := (keep_same hg2 r22l hp1 hp2 w).1
      have hO : ∀ b, b < 16 → bt (stl (st 27 x) p) b = bt (stl (rt 23 x) p) b := fun b hb => by
        rw [stl_bt (by omega) (by omega), stl_bt (by omega) (by omega), hx.2.2.1 b hb]
      have hOw : obw s r x p w false (stl (rt 23 x) p) := by
        intro b hb
        rw [stl_bt (by omega) (by omega), h2 23 x (by omega) (by omega) hxN (by omega)]
        simp
      have ew : (eC (some w)).toInt32 = w := Int32.toInt32_toInt64 w
      rw [fT_addNumbers_l47, if_neg h16, if_neg (fun z => by have := (eC_none (some w)).mp z; cases this), if_neg (show ¬ ((1 : Int32) = 0) by decide)]
      rw [l8_round hg2 hp1 hp2 hx60 hI2 _ K2 fl (by omega), hlc, hl]
      simp (disch := omega) only [ck_gd_ok, ln_at, s26, s30, ew, k1, ck_b_some]
      by_cases hfull : N0 + M < 60
      · obtain ⟨s2, r2, a1, a2, a3, a4, a5, a6⟩ := mid_step (lab := w) false false hn hg hm hx hxN hp1 hp2 hop hfull (by rw [r24]; exact k2) k3 k4 hO hOw (fun z => by cases z)
        rw [show (if false = true then (1 : Int32) else 0) = 0 from rfl] at a2
        have hTF2 := mid_TF a3
        have hg3 := mid_gC hg a3
        have t26 : s2 26 x = r2 22 x := (nd_frame hx hTF2 hxN).1
        have t30 : s2 30 x = Int32.ofNat p := by rw [a3.2.2.2.1 30 x (by omega) (by omega) hxN]; exact e30
        have hla : fM_leastAbove (eC (some w)) (r2 22 x) (Int32.ofNat p) s2 = some (eC (lst (some w) (akb (rt 22 x) st p) (nmb rt p) k), s2) := by
          have := leastAbove_ev (L := r2 22 x) hg3 hp1 hp2 (some w)
          rw [lst_congr (ask2 := akb (rt 22 x) st p) (num2 := nmb rt p) k (fun c _ => ⟨akb_frame hTF2 hxN, nmb_frame hTF2⟩)] at this
          exact this
        rw [a1, ck_b_some, a2, ck_bv_some]
        simp (disch := omega) only [t26, t30, hla, ck_b_some]
        rw [show Int32.ofNat M + 1 = Int32.ofNat (M + 1) from ln_addL M 1]
        refine ih m1 m2 (M + 1) (some w) s2 r2 (by omega) (by omega) (by omega) a3 ?_ ?_
        · obtain ⟨n1, n2, n3, n4⟩ := NI_frame hN a6 hxN
          have hlt : ∀ j, j < M → (r2 29 (N0 + j)).toInt < w.toInt := fun j hj => by
            obtain ⟨f, f1, f2⟩ := n3 j hj
            rw [f1] at q4
            have : f.toInt < w.toInt := of_decide_eq_true q4
            omega
          refine ⟨fun j hj => ?_, fun j1 j2 y z => ?_, fun j hj => ⟨w, rfl, ?_⟩, fun c hck ha hb => ?_⟩
          · by_cases e : j = M
            · subst e; exact a4
            · exact n1 j (by omega)
          · by_cases e : j2 = M
            · rw [e, a5]; exact hlt j1 (by omega)
            · exact n2 j1 j2 y (by omega)
          · by_cases e : j = M
            · rw [e, a5]; omega
            · have := hlt j (by omega); omega
          · cases e : abv fl (nmb r2 p c) with
            | false =>
              obtain ⟨j, z1, z2⟩ := n4 c hck ha e
              exact ⟨j, by omega, z2⟩
            | true =>
              have ha2 := ha
              rw [akb_frame hTF2 hxN] at ha2
              have e2 := e
              rw [nmb_frame hTF2] at e2
              have h5 := q5 c hck ha2 e2
              have h6 : ¬ (w.toInt < (nmb r2 p c).toInt) := of_decide_eq_false hb
              rw [nmb_frame hTF2] at h6
              refine ⟨M, by omega, ?_⟩
              rw [a5, nmb_frame hTF2]
              exact Int32.toInt_inj.mp (by omega)
        · have := ctb_strict (f := fun c => akb (rt 22 x) st p c && abv (some w) (nmb rt p c)) (g := fun c => akb (rt 22 x) st p c && abv fl (nmb rt p c)) (c0 := c0) k q1 (fun c _ hcc => by
            simp only [Bool.and_eq_true] at hcc ⊢
            refine ⟨hcc.1, ?_⟩
            have h8 : w.toInt < (nmb rt p c).toInt := of_decide_eq_true hcc.2
            cases fl with
            | none => rfl
            | some f =>
              have h9 : f.toInt < w.toInt := of_decide_eq_true q4
              exact decide_eq_true (by omega)) (by rw [q3, q2]; simp [abv]) (by rw [q3, q2, q4]; rfl)
          omega
      · have hf : N0 + M = 60 := by omega
        rw [hf] at h3 h4
        have hr2 : (ck_u r 0 30 1) 0 29 = Int32.ofNat 60 := by rw [ck_u_nei (by omega)]; exact h4
        have hTFu : TF N0 s r s (ck_u r 0 30 1) := ⟨fun _ _ _ => rfl, fun _ _ _ => rfl, fun _ _ _ _ _ => rfl, ck_u_ne (by omega), ck_u_ne (by omega), fun j _ => ⟨by rw [ck_u_ne (by omega)], by rw [ck_u_ne (by omega)], by rw [ck_u_ne (by omega)], by rw [ck_u_ne (by omega)]⟩⟩
        have hg3 : gC n k s (ck_u r 0 30 1) := gC_frame hg2 rfl (ck_u_nei (by omega)) hTFu
        refine Or.inr ⟨s, r, M, ?_, ?_, hm, hf⟩
        · rw [addNode_full h3, ck_b_some]
          have hla : fM_leastAbove (eC (some w)) (r 22 x) (Int32.ofNat p) s = some (eC (lst (some w) (akb (r 22 x) s p) (nmb r p) k), s) := leastAbove_ev (L := r 22 x) hg2 hp1 hp2 (some w)
          simp (disch := omega) only [s26, s30, hla, ck_b_some]
          obtain ⟨m1, rfl⟩ : ∃ z, m1 = z + 1 := ⟨m1 - 1, by omega⟩
          rw [fT_addNumbers_l47, if_pos (show (0 : Int32) = 0 from rfl)]
          simp only [ite_self]
        · rw [branch_full h4, ck_bv_some]
          refine l8_full hg3 hp1 hp2 hx60 ?_ _ K2 hr2 ck_u_eq d m2 (M + 1) (some w) (by omega) (by omega)
          intro c y1 y2 y3
          rw [ck_u_ne (by omega)] at y2 ⊢
          exact hI2 c y1 y2 y3
