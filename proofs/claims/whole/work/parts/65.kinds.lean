/-! kinds -/
def QK (s : ck_S) (x o : Nat) : Prop := s 35 o = Int32.ofNat o ∧ AK s x o
/-- the greatest node of x's kind that is the first of its kind, among those below b -/
def GK (s : ck_S) (x b g : Nat) : Prop := (g = x ∧ ∀ o, x < o → o < b → ¬ QK s x o) ∨ (x < g ∧ g < b ∧ QK s x g ∧ ∀ o, g < o → o < b → ¬ QK s x o)
theorem GK_uniq {s : ck_S} {x b g1 g2 : Nat} (h1 : GK s x b g1) (h2 : GK s x b g2) : g1 = g2 := by
  rcases h1 with ⟨a1, a2⟩ | ⟨a1, a2, a3, a4⟩ <;> rcases h2 with ⟨b1, b2⟩ | ⟨b1, b2, b3, b4⟩
  · rw [a1, b1]
  · exact absurd b3 (a2 g2 b1 b2)
  · exact absurd a3 (b2 g1 a1 a2)
  · rcases Nat.lt_trichotomy g1 g2 with z | z | z
    · exact absurd b3 (a4 g2 z b2)
    · exact z
    · exact absurd a3 (b4 g1 z a2)
theorem GI_s35 {n k N x : Nat} {v : Int32} {s r : ck_S} (h : GI n k N N s r) : GI n k N N (ck_u s 35 x v) r := GI_cells h (fun a _ _ => ck_u_ne (by omega)) (fun a _ _ => ck_u_ne (by omega)) (fun a _ _ => rfl) rfl rfl (ck_u_ne (by omega)) (by rw [ck_u_ne (by omega)]) (by rw [ck_u_ne (by omega)]) rfl rfl rfl
theorem GI_r31 {n k N x : Nat} {v : Int32} {s r : ck_S} (h : GI n k N N s r) : GI n k N N s (ck_u r 31 x v) := GI_cells h (fun _ _ _ => rfl) (fun _ _ _ => rfl) (fun a _ _ => ck_u_ne (by omega)) (ck_u_ne (by omega)) (ck_u_ne (by omega)) rfl rfl rfl (by rw [ck_u_ne (by omega)]) (by rw [ck_u_ne (by omega)]) (by rw [ck_u_ne (by omega)])
theorem kC_loop {n k N x : Nat} {s r : ck_S} (h : GI n k N N s r) (hx : x < N) (hkd : ∀ i, x < i → i < N → s 35 i = r 31 i) (h35 : s 35 x = Int32.ofNat x) (K : Int32 → Int32 → ck_S → Option (Int32 × ck_S)) (c : Int32) :
    ∀ (d m : Nat), x + d < N → d < m → (∀ o, x + d < o → o < N → ¬ QK s x o) → ∃ g, GK s x N g ∧ g < N ∧ fT_countKinds_l27 K m c (Int32.ofNat x) (Int32.ofNat (x + d)) s = K c (Int32.ofNat x) (ck_u s 35 x (Int32.ofNat g)) := by
  have hN := h.2.2.1
  intro d
  induction d with
  | zero =>
    intro m hd hm hq
    obtain ⟨m, rfl⟩ : ∃ z, m = z + 1 := ⟨m - 1, by omega⟩
    refine ⟨x, Or.inl ⟨rfl, hq⟩, hx, ?_⟩
    rw [fT_countKinds_l27, if_pos ((ln_le (by omega) (by omega)).mpr (by omega)), ck_u_same h35]
  | succ d ih =>
    intro m hd hm hq
    obtain ⟨m, rfl⟩ : ∃ z, m = z + 1 := ⟨m - 1, by omega⟩
    have hdec : Int32.ofNat (x + (d + 1)) + (-1) = Int32.ofNat (x + d) := ln_dec
    have goon : ¬ QK s x (x + (d + 1)) → ∃ g, GK s x N g ∧ g < N ∧ fT_countKinds_l27 K m c (Int32.ofNat x) (Int32.ofNat (x + d)) s = K c (Int32.ofNat x) (ck_u s 35 x (Int32.ofNat g)) := fun hno => ih m (by omega) (by omega) (fun o h1 h2 => by
      by_cases e : o = x + (d + 1)
      · rw [e]; exact hno
      · exact hq o (by omega) h2)
    rw [fT_countKinds_l27, if_neg (mt (ln_le (by omega) (by omega)).mp (by omega)), ck_gd_ok (by omega) (by omega), ln_at (a := x) (by omega), if_pos h35, ck_gd_ok (by omega) (by omega), ln_at (by omega), hdec]
    by_cases e : s 35 (x + (d + 1)) = Int32.ofNat (x + (d + 1))
    · rw [if_pos e]
      obtain ⟨v, v1, v2, v3, v4⟩ := alike_ev h hx hd (by omega) hkd
      rw [v3, ck_b_some]
      by_cases e2 : v = 0
      · rw [if_pos e2]
        refine goon (fun z => ?_)
        have := v2.mpr z.2
        rw [e2] at this
        exact absurd this (by decide)
      · rw [if_neg e2, ck_gd_ok (by omega) (by omega)]
        have hv : v = 1 := v1.resolve_left e2
        refine ⟨x + (d + 1), Or.inr ⟨by omega, hd, ⟨e, v2.mp hv⟩, fun o h1 h2 => hq o h1 h2⟩, hd, ?_⟩
        cases m with
        | zero => omega
        | succ m =>
          rw [fT_countKinds_l27]
          by_cases e3 : d = 0
          · rw [if_pos ((ln_le (by omega) (by omega)).mpr (by omega))]
          · rw [if_neg (mt (ln_le (by omega) (by omega)).mp (by omega)), ck_gd_ok (by omega) (by omega), ln_at (by omega), ck_u_eq, if_neg (mt (ln_eq (by omega) (by omega)).mp (by omega))]
    · rw [if_neg e]
      exact goon (fun z => e z.1)
theorem kR_loop {n k N x : Nat} {s r : ck_S} (h : GI n k N N s r) (hx : x < N) (hkd : ∀ i, x < i → i < N → s 35 i = r 31 i) (K : Int32 → Int32 → ck_S → Option (Int32 × ck_S)) (c : Int32) :
    ∀ (d m o w : Nat), o + d = N → d < m → x < o → GK s x o w → w < N → ∃ g, GK s x N g ∧ fR_kinds_l34 K m c (Int32.ofNat x) (Int32.ofNat o) (ck_u r 31 x (Int32.ofNat w)) = K c (Int32.ofNat x) (ck_u r 31 x (Int32.ofNat g)) := by
  have hN := h.2.2.1
  have h29 := h.2.2.2.2.2.1
  have hu : ∀ v w, ck_u (ck_u r 31 x v) 31 x w = ck_u r 31 x w := fun v w => by
    funext a
    by_cases e : a = 31
    · subst e
      funext j
      rw [ck_u_at, ck_u_at, ck_u_at]
      split <;> rfl
    · rw [ck_u_ne e, ck_u_ne e, ck_u_ne e]
  intro d
  induction d with
  | zero =>
    intro m o w ho hm hxo hw hwN
    obtain ⟨m, rfl⟩ : ∃ z, m = z + 1 := ⟨m - 1, by omega⟩
    have e : o = N := by omega
    subst e
    refine ⟨w, hw, ?_⟩
    rw [fR_kinds_l34, ck_u_ne (show ¬ (0 = 31) by decide), h29, if_pos ((ln_le (by omega) (by omega)).mpr (by omega))]
  | succ d ih =>
    intro m o w ho hm hxo hw hwN
    obtain ⟨m, rfl⟩ : ∃ z, m = z + 1 := ⟨m - 1, by omega⟩
    have hoN : o < N := by omega
    have stay : ¬ QK s x o → GK s x (o + 1) w := fun hno => by
      rcases hw with ⟨a1, a2⟩ | ⟨a1, a2, a3, a4⟩
      · exact Or.inl ⟨a1, fun q h1 h2 => by
          by_cases e : q = o
          · rw [e]; exact hno
          · exact a2 q h1 (by omega)⟩
      · exact Or.inr ⟨a1, by omega, a3, fun q h1 h2 => by
          by_cases e : q = o
          · rw [e]; exact hno
          · exact a4 q h1 (by omega)⟩
    rw [fR_kinds_l34, ck_u_ne (show ¬ (0 = 31) by decide), h29, if_neg (mt (ln_le (by omega) (by omega)).mp (by omega)), ck_gd_ok (by omega) (by omega), ln_at (by omega), ck_u_nei (show ¬ o = x by omega), show Int32.ofNat o + 1 = Int32.ofNat (o + 1) from ln_addL o 1, ← hkd o hxo hoN]
    by_cases e : s 35 o = Int32.ofNat o
    · rw [if_pos e]
      obtain ⟨v, v1, v2, v3, v4⟩ := alike_ev (r := ck_u r 31 x (Int32.ofNat w)) (GI_r31 h) hx hoN hxo (fun i h1 h2 => by rw [ck_u_nei (by omega)]; exact hkd i h1 h2)
      rw [v4, ck_b_some, ck_gd_ok (by omega) (by omega), ck_gd_ok (by omega) (by omega), ck_gd_ok (by omega) (by omega), ln_at (a := x) (by omega), hu, hu, ck_u_eq]
      by_cases e2 : v = 0
      · rw [if_pos e2]
        refine ih m (o + 1) w (by omega) (by omega) (by omega) (stay (fun z => ?_)) hwN
        have := v2.mpr z.2
        rw [e2] at this
        exact absurd this (by decide)
      · rw [if_neg e2]
        exact ih m (o + 1) o (by omega) (by omega) (by omega) (Or.inr ⟨hxo, by omega, ⟨e, v2.mp (v1.resolve_left e2)⟩, fun q h1 h2 => absurd h2 (by omega)⟩) hoN
    · rw [if_neg e, ck_gd_ok (by omega) (by omega), ck_gd_ok (by omega) (by omega), ln_at (a := x) (by omega), hu, ck_u_eq]
      exact ih m (o + 1) w (by omega) (by omega) (by omega) (stay (fun z => e z.1)) hwN
theorem AK_35 {n k N x o : Nat} {v : Int32} {s r : ck_S} (h : GI n k N N s r) (hx : x < N) (ho : o < N) (hxo : x < o) : AK (ck_u s 35 x v) x o ↔ AK s x o := by
  unfold AK
  rw [ck_u_ne (show ¬ (30 = 35) by decide), ck_u_ne (show ¬ (31 = 35) by decide), ck_u_ne (show ¬ (32 = 35) by decide), ck_u_ne (show ¬ (33 = 35) by decide), ck_u_ne (show ¬ (34 = 35) by decide), ck_u_ne (show ¬ (28 = 35) by decide)]
  have hN := h.2.2.1
  have nx : ∀ i, i < N → x ≤ i → ∀ j, j < (s 34 i).toNatClampNeg → ¬ (s 33 i).toNatClampNeg + j = x := fun i hi hxi j hj => by
    rcases GI_node h hi with ⟨_, _, q⟩ | ⟨_, _, q⟩
    · rw [q.2.2.2.2.1] at hj
      exact absurd hj (by simp)
    · obtain ⟨p, f, F, M, t1, t2, t3, t4, t5, t6, t7, t8, t9, t10, t11, t12, t13, t14, t15, t16, t17, t18⟩ := q
      rw [t12, ln_at (by omega)]
      omega
  constructor
  · rintro ⟨a1, a2, a3, a4, a5⟩
    refine ⟨a1, a2, a3, a4, fun j hj => ?_⟩
    have := a5 j hj
    rw [ck_u_nei (nx x hx (Nat.le_refl _) j hj), ck_u_nei (nx o ho (by omega) j (by rw [← a4]; exact hj))] at this
    exact this
  · rintro ⟨a1, a2, a3, a4, a5⟩
    refine ⟨a1, a2, a3, a4, fun j hj => ?_⟩
    rw [ck_u_nei (nx x hx (Nat.le_refl _) j hj), ck_u_nei (nx o ho (by omega) j (by rw [← a4]; exact hj))]
    exact a5 j hj
theorem kinds_loop {n k N : Nat} : ∀ (d m1 m2 : Nat) (c : Int32) (s r : ck_S), d ≤ N → d < m1 → d < m2 → GI n k N N s r → (∀ i, d ≤ i → i < N → s 35 i = r 31 i) →
    ∃ v s2 r2, fT_countKinds_l9 m1 c (idx d) s = some (v, s2) ∧ fR_kinds_l19 m2 c (idx d) r = some (v, r2) ∧ (∀ a, ¬ a = 35 → s2 a = s a) ∧ (∀ a, ¬ a = 31 → r2 a = r a) := by
  intro d
  induction d with
  | zero =>
    intro m1 m2 c s r hd hm1 hm2 h hk
    obtain ⟨m1, rfl⟩ : ∃ z, m1 = z + 1 := ⟨m1 - 1, by omega⟩
    obtain ⟨m2, rfl⟩ : ∃ z, m2 = z + 1 := ⟨m2 - 1, by omega⟩
    refine ⟨c, s, r, ?_, ?_, fun _ _ => rfl, fun _ _ => rfl⟩
    · rw [fT_countKinds_l9, if_pos idx_neg]
    · rw [fR_kinds_l19, if_pos idx_neg]
  | succ x ih =>
    intro m1 m2 c s r hd hm1 hm2 h hk
    obtain ⟨m1, rfl⟩ : ∃ z, m1 = z + 1 := ⟨m1 - 1, by omega⟩
    obtain ⟨m2, rfl⟩ : ∃ z, m2 = z + 1 := ⟨m2 - 1, by omega⟩
    have hN := h.2.2.1
    have h14 := h.2.2.2.2.1
    have hx : x < N := by omega
    have hid : idx (x + 1) = Int32.ofNat x := rfl
    have hdec : Int32.ofNat x + (-1) = idx x := idx_dec x
    have hG1 := GI_s35 (x := x) (v := Int32.ofNat x) h
    have hkd : ∀ i, x < i → i < N → (ck_u s 35 x (Int32.ofNat x)) 35 i = r 31 i := fun i h1 h2 => by rw [ck_u_nei (by omega)]; exact hk i (by omega) h2
    obtain ⟨g, g1, g2, g3⟩ := kC_loop hG1 hx hkd ck_u_eq (fun x1 x2 st => fT_countKinds_b74 (fT_countKinds_l9 m1) x1 x2 st) c (N - 1 - x) 4096 (by omega) (by omega) (fun o h1 h2 => absurd h2 (by omega))
    obtain ⟨g', g1', g3'⟩ := kR_loop hG1 hx hkd (fun x1 x2 st => fR_kinds_b83 (fR_kinds_l19 m2) x1 x2 st) c (N - (x + 1)) 4096 (x + 1) x (by omega) (by omega) (by omega) (Or.inl ⟨rfl, fun o h1 h2 => absurd h2 (by omega)⟩) hx
    have eg := GK_uniq g1 g1'
    subst eg
    have hu : ck_u (ck_u s 35 x (Int32.ofNat x)) 35 x (Int32.ofNat g) = ck_u s 35 x (Int32.ofNat g) := by
      funext a
      by_cases e : a = 35
      · subst e
        funext j
        rw [ck_u_at, ck_u_at, ck_u_at]
        split <;> rfl
      · rw [ck_u_ne e, ck_u_ne e, ck_u_ne e]
    rw [hu] at g3
    have hs14 : s 5 14 - 1 = Int32.ofNat (x + (N - 1 - x)) := by
      rw [h14, show x + (N - 1 - x) = N - 1 by omega]
      exact ln_subL (by omega)
    rw [hid, fT_countKinds_l9, if_neg (ln_lt0 (by omega)), ck_gd_ok (by omega) (by omega), ln_at (by omega), hs14, g3, fR_kinds_l19, if_neg (ln_lt0 (by omega)), ck_gd_ok (by omega) (by omega), ln_at (by omega), show Int32.ofNat x + 1 = Int32.ofNat (x + 1) from ln_addL x 1, g3']
    unfold fT_countKinds_b74 fR_kinds_b83
    rw [ck_gd_ok (by omega) (by omega), ck_gd_ok (by omega) (by omega), ln_at (by omega), ck_u_eq, ck_u_eq, hdec]
    have hstep : ∀ c, ∃ v s2 r2, fT_countKinds_l9 m1 c (idx x) (ck_u s 35 x (Int32.ofNat g)) = some (v, s2) ∧ fR_kinds_l19 m2 c (idx x) (ck_u r 31 x (Int32.ofNat g)) = some (v, r2) ∧ (∀ a, ¬ a = 35 → s2 a = s a) ∧ (∀ a, ¬ a = 31 → r2 a = r a) := fun c => by
      obtain ⟨v, s2, r2, b1, b2, b3, b4⟩ := ih m1 m2 c (ck_u s 35 x (Int32.ofNat g)) (ck_u r 31 x (Int32.ofNat g)) (by omega) (by omega) (by omega) (GI_s35 (GI_r31 h)) (fun i h1 h2 => by
        by_cases e : i = x
        · subst e; rw [ck_u_eq, ck_u_eq]
        · rw [ck_u_nei e, ck_u_nei e]; exact hk i (by omega) h2)
      exact ⟨v, s2, r2, b1, b2, fun a ha => by rw [b3 a ha, ck_u_ne ha], fun a ha => by rw [b4 a ha, ck_u_ne ha]⟩
    by_cases e : Int32.ofNat g = Int32.ofNat x
    · rw [if_pos e, if_pos e]
      exact hstep (c + 1)
    · rw [if_neg e, if_neg e]
      exact hstep c
theorem kinds_T {n k N : Nat} {s r : ck_S} (h : GI n k N N s r) (h16 : s 5 16 = 1) (h28 : r 0 28 = 1) : ∃ v s2 r2, fC_kinds s = some (v, s2) ∧ fR_kinds r = some (v, r2) ∧ (∀ a, ¬ a = 35 → s2 a = s a) ∧ (∀ a, ¬ a = 31 → r2 a = r a) := by
  obtain ⟨v, s2, r2, b1, b2, b3, b4⟩ := kinds_loop N 4096 4096 0 s r (Nat.le_refl _) (by have := h.2.2.1; omega) (by have := h.2.2.1; omega) h (fun i h1 h2 => absurd h2 (by omega))
  refine ⟨v, s2, r2, ?_, ?_, b3, b4⟩
  · unfold fC_kinds fT_isThere fT_countKinds
    rw [h16, ck_gz1, ck_b_some, if_neg (show ¬ ((1 : Int32) = 0) by decide), h.2.2.2.2.1, idx_sub h.2.1, b1, ck_b_some]
  · unfold fR_kinds
    rw [h28, if_neg (show ¬ ((1 : Int32) = 0) by decide), h.2.2.2.2.2.1, idx_sub h.2.1, b2]
