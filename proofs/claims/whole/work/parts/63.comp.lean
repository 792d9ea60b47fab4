/-! compile -/
theorem idx_sub {N : Nat} (h : 1 ≤ N) : Int32.ofNat N - 1 = idx N := by
  cases N with
  | zero => omega
  | succ N => exact ln_subL (by omega)
theorem wit_T {t n k N : Nat} {s r : ck_S} (hD : rD t n s r) (h : GI n k N N s r) (hf : ∀ i, i < N → FV s r i) (h41 : r 0 41 = 0) :
    ∃ s2 r2 l, fG_readFromTree s = some s2 ∧ fR_findWitness_b95 r = some r2 ∧ OUT s2 r2 l ∧ l ≤ 31 ∧ (∀ a, ¬ a = 6 → (a < 38 ∨ 41 < a) → s2 a = s a) ∧ (∀ a, 1 ≤ a → ¬ a = 21 → (a < 32 ∨ 35 < a) → r2 a = r a) ∧ (∀ j, ¬ j = 41 → r2 0 j = r 0 j) := by
  have hN := h.2.2.1
  have hN1 := h.2.1
  have h14 := h.2.2.2.2.1
  have d2 := hD.2.1
  have h14' : (ck_u s 6 6 0) 5 14 = Int32.ofNat N := by rw [ck_u_ne (by omega)]; exact h14
  obtain ⟨f1, f2, _, _⟩ := hf 0 (by omega)
  unfold fG_readFromTree fT_hasFailing fR_findWitness_b95
  rw [h14', if_neg (fun z => by have := (ln_le (b := 0) (by omega) (by omega)).mp z; omega), ck_gd_okL (by omega) (by omega), ck_gd_okL (by omega) (by omega), ln_atL (by omega), ck_u_ne (show ¬ (36 = 6) by decide), f1]
  by_cases e : s 36 0 = 0
  · rw [if_pos e, if_pos e, ck_b_some, if_pos rfl]
    exact ⟨_, _, 0, rfl, rfl, ⟨ck_u_eq, h41, fun j hj => absurd hj (by omega)⟩, by omega, fun a h1 _ => ck_u_ne h1, fun _ _ _ _ => rfl, fun _ _ => rfl⟩
  · have e1 : s 36 0 = 1 := f2.resolve_left e
    rw [if_neg e, if_neg e, ck_b_some, if_neg (show ¬ ((1 : Int32) = 0) by decide)]
    obtain ⟨s3, a1, a2, a3⟩ := fill38 (s := ck_u s 6 6 0)
    obtain ⟨s4, b1, b2, b3⟩ := fill39 (s := s3)
    obtain ⟨r3, c1, c2, c3⟩ := l107_ev (fun st => fR_findWitness_b126 st) r
    rw [a1, ck_bv_some, b1, ck_bv_some, c1]
    have hs4 : ∀ a, ¬ a = 6 → ¬ a = 38 → ¬ a = 39 → s4 a = s a := fun a h1 h2 h3 => by rw [b2 a h3, a2 a h2, ck_u_ne h1]
    have hw0 : WR n s4 r3 := ⟨fun p hp => by
        rw [c3 p hp, b2 38 (by omega), a3 p (by omega), b3 p (by omega)]
        exact ⟨rfl, Or.inl rfl, fun _ => rfl, fun z => absurd rfl z, fun z => absurd z (by decide)⟩, fun p h1 h2 => ⟨by rw [b2 38 (by omega)]; exact a3 p h2, b3 p h2⟩⟩
    have hG4 : GI n k N N s4 r3 := GI_cells h (fun a _ _ => hs4 a (by omega) (by omega) (by omega)) (fun a _ _ => hs4 a (by omega) (by omega) (by omega)) (fun a _ _ => c2 a (by omega)) (c2 17 (by omega)) (c2 18 (by omega)) (hs4 4 (by omega) (by omega) (by omega)) (by rw [hs4 5 (by omega) (by omega) (by omega)]) (by rw [hs4 5 (by omega) (by omega) (by omega)]) (by rw [c2 0 (by omega)]) (by rw [c2 0 (by omega)]) (by rw [c2 0 (by omega)])
    have hF4 : ∀ j, j < N → FV s4 r3 j := fun j hj => by
      unfold FV
      rw [hs4 36 (by omega) (by omega) (by omega), hs4 30 (by omega) (by omega) (by omega), hs4 33 (by omega) (by omega) (by omega), hs4 34 (by omega) (by omega) (by omega), c2 31 (by omega), c2 26 (by omega)]
      exact hf j hj
    obtain ⟨s5, r5, g1, g2, g3, g4, g5⟩ := follow_ev d2 (fun st => fR_findWitness_b234 st) 16 4096 4096 0 0 s4 r3 (by omega) (by omega) (by omega) (by omega) hG4 hF4 hw0 (by rw [hs4 36 (by omega) (by omega) (by omega)]; exact e1) (by rw [hs4 29 (by omega) (by omega) (by omega)]; exact h.2.2.2.2.2.2.2.2.2.2.2.2.1)
    have hfw : fG_followWayToFail s4 = some s5 := g1
    have hfr : fR_findWitness_b126 r3 = fR_findWitness_b234 r5 := g2
    rw [hfw, ck_bv_some]
    simp only [hfr]
    have hs5 : ∀ a, ¬ a = 6 → (a < 38 ∨ 39 < a) → s5 a = s a := fun a h1 h2 => by rw [g4 a (by omega) (by omega), hs4 a h1 (by omega) (by omega)]
    have hr5 : ∀ a, (a < 34 ∨ 35 < a) → r5 a = r a := fun a h1 => by rw [g5 a (by omega) (by omega), c2 a (by omega)]
    have hD5 : rD t n s5 (ck_u r5 21 0 1) := rD_frame hD (by rw [hs5 1 (by omega) (by omega)]) (by rw [hs5 1 (by omega) (by omega)]) (hs5 7 (by omega) (by omega)) (hs5 8 (by omega) (by omega)) (hs5 9 (by omega) (by omega)) (by rw [ck_u_ne (by omega), hr5 0 (by omega)]) (by rw [ck_u_ne (by omega), hr5 0 (by omega)]) (by rw [ck_u_ne (by omega), hr5 1 (by omega)]) (by rw [ck_u_ne (by omega), hr5 2 (by omega)]) (by rw [ck_u_ne (by omega), hr5 3 (by omega)])
    have hs56 : s5 6 6 = Int32.ofNat 0 := by
      rw [g4 6 (by omega) (by omega), b2 6 (by omega), a2 6 (by omega), ck_u_eq]; rfl
    obtain ⟨s6, r6, l, c, u1, u2, u3, u4, u5, u6, u7⟩ := write_ev 5 8 1 1 0 0 s5 (ck_u r5 21 0 1) (by decide) (by omega) (by omega) (by omega) (by omega) hD5 (WR_frame g3 ⟨fun _ _ _ _ => rfl, fun _ _ => rfl⟩ (WFr_21 (h := 0) (by omega))) ⟨hs56, by rw [ck_u_ne (by omega), hr5 0 (by omega)]; exact h41, fun j hj => absurd hj (by omega)⟩ (by decide) (by omega) ck_u_eq
    have hl9 : fR_writeWitness r5 = some r6 := by
      unfold fR_writeWitness
      rw [ck_gd_okL (by omega) (by omega), ln_atL (by omega)]
      have hc : c ≤ 31 := u7
      have := u2 (4096 - c)
      rw [show 4096 - c + c = 4096 by omega] at this
      refine this.trans ?_
      obtain ⟨q, hq⟩ : ∃ z, 4096 - c = z + 1 := ⟨4095 - c, by omega⟩
      rw [hq, fR_writeWitness_l9, if_pos (show Int32.ofNat 0 ≤ 0 by decide)]
    have hwr : fG_write 1 s5 = some s6 := u1
    rw [hwr, ck_bv_some]
    unfold fR_findWitness_b234
    rw [hl9, ck_bv_some]
    exact ⟨s6, r6, l, rfl, rfl, u3, by simpa using u4, fun a h1 h2 => by rw [u5.1 a (by omega) (by omega) h1, hs5 a h1 (by omega)], fun a h1 h2 h3 => by rw [u6.1 a h1 h2 (by omega) (by omega), ck_u_ne h2, hr5 a (by omega)], fun j hj => by rw [u6.2.1 j hj, ck_u_ne (by omega), hr5 0 (by omega)]⟩
def rT (n k : Nat) (s r : ck_S) : Prop := ∃ N l, GI n k N N s r ∧ l ≤ 31 ∧ OUT s r l
theorem rM_gC {n r k : Nat} {st rt : ck_S} (h : rM n r k st rt) : gC n k st rt := ⟨h.2.1, h.2.2.2.2.1, h.2.2.2.2.2.1, h.2.2.2.2.2.2.2.2⟩
theorem compile_T {t n q k : Nat} {st rt : ck_S} (hD : rD t n st rt) (hO : rO t st rt) (hM : rM n q k st rt) :
    (st 4 6 = -1 ∧ fC_compile st = some (-12, st) ∧ fR_compile rt = some (-12, rt)) ∨
    (¬ st 4 6 = -1 ∧ ∃ y s2 r2, fC_compile st = some (y, s2) ∧ fR_compile rt = some (y, r2) ∧ (∀ a, a < 26 → ¬ a = 5 → ¬ a = 6 → s2 a = st a) ∧ (∀ a, 1 ≤ a → a < 21 → r2 a = rt a) ∧ (∀ j, ¬ j = 28 → ¬ j = 29 → ¬ j = 30 → ¬ j = 41 → r2 0 j = rt 0 j) ∧ ((s2 5 16 = 0 ∧ r2 0 28 = 0) ∨ (s2 5 16 = 1 ∧ r2 0 28 = 1 ∧ rT n k s2 r2))) := by
  have ht := hD.1
  have hg := rM_gC hM
  have hk := hg.1
  unfold fC_compile fR_compile
  rw [isBegun_ev, ck_b_some, hO.1]
  by_cases e : st 4 6 = -1
  · rw [if_pos e, if_pos rfl, e, if_neg (by decide)]
    exact Or.inl ⟨rfl, rfl, rfl⟩
  · refine Or.inr ⟨e, ?_⟩
    obtain ⟨o, o1, o2⟩ := hO.2.resolve_left e
    rw [if_neg e, if_neg (show ¬ ((1 : Int32) = 0) by decide), o2, if_pos (ln_ge0 (by omega)), ck_gd_okL (by omega) (by omega), ck_gd_okL (by omega) (by omega), ln_atL (by omega), hg.2.2.1]
    have hgrow : fT_grow st = fT_grow_l32 (fun x1 st => fT_grow_b62 x1 st) 4096 1 (Int32.ofNat 0) (s0S k st) := by
      unfold fT_grow fM_allClauses
      have h48 : (ck_u (ck_u (ck_u st 5 16 0) 5 14 0) 5 15 0) 4 8 = Int32.ofNat k := by
        rw [ck_u_ne (by omega), ck_u_ne (by omega), ck_u_ne (by omega)]; exact hg.2.1
      rw [ck_b_some, addNode_ev (N := 0) (by omega) (by rw [ck_u_nei (by omega), ck_u_eq]; rfl), ck_b_some, h48]
      rfl
    have hw0 : wk (ck_u st 5 16 0) rt (s0S k st) (r0S k rt) := ⟨fun a y z => by
        unfold s0S
        rw [addS_cell y z, ck_u_ne z, ck_u_ne z], fun j y z => by
        unfold s0S
        rw [addS_5 y, ck_u_nei z, ck_u_nei y], fun a y z => by
        unfold r0S
        rw [ck_u_ne (by omega), ck_u_ne (by omega), ck_u_ne (by omega), ck_u_ne (by omega)], fun j y z => by
        unfold r0S
        rw [ck_u_ne (by omega), ck_u_ne (by omega), ck_u_nei z, ck_u_nei y]⟩
    have hD0 : rD t n (s0S k st) (r0S k rt) := wk_rD (rD_frame hD (by rw [ck_u_ne (by omega)]) (by rw [ck_u_ne (by omega)]) (ck_u_ne (by omega)) (ck_u_ne (by omega)) (ck_u_ne (by omega)) rfl rfl rfl rfl rfl) hw0
    rw [hgrow]
    have href : ∀ (K : ck_S → Option (Int32 × ck_S)), fR_compile_l43 K 4096 0 (ck_u (ck_u (ck_u (ck_u rt 0 29 1) 0 30 0) 22 0 (((1 : Int32) <<< (Int32.ofNat k &&& 31)) - 1)) 23 0 2) = fR_compile_l43 K 4096 (Int32.ofNat 0) (r0S k rt) := fun _ => rfl
    rw [href]
    rcases grow_loop (fun x1 st => fT_grow_b62 x1 st) (fun st => fR_compile_b69 st) 60 4096 4096 0 1 (s0S k st) (r0S k rt) (by omega) (by omega) (by omega) hD0 (GI_0 hg) with ⟨s2, r2, N, b1, b2, b3, b4⟩ | ⟨s2, r2, b1, b2, b3, b4⟩
    · rw [b1, b2]
      have hw2 := wk_trans hw0 b4
      have hD2 := wk_rD hD0 b4
      have hN1 := b3.2.1
      have h29 := b3.2.2.2.2.2.1
      have h14 := b3.2.2.2.2.1
      have h30 := b3.2.2.2.2.2.2.1
      have hG2 : GI n k N N s2 (ck_u (ck_u r2 0 28 1) 0 41 0) := GI_cells b3 (fun _ _ _ => rfl) (fun _ _ _ => rfl) (fun a _ _ => by rw [ck_u_ne (by omega), ck_u_ne (by omega)]) (by rw [ck_u_ne (by omega), ck_u_ne (by omega)]) (by rw [ck_u_ne (by omega), ck_u_ne (by omega)]) rfl rfl rfl (by rw [ck_u_nei (by omega), ck_u_nei (by omega)]) (by rw [ck_u_nei (by omega), ck_u_nei (by omega)]) (by rw [ck_u_nei (by omega), ck_u_nei (by omega)])
      obtain ⟨s3, r3, c1, c2, c3, c4, c5, c6⟩ := fail_loop (fun st => fR_findWitness_b95 st) N 4096 4096 s2 (ck_u (ck_u r2 0 28 1) 0 41 0) (Nat.le_refl _) (by have := b3.2.2.1; omega) (by have := b3.2.2.1; omega) hG2 (fun i h1 h2 => absurd h2 (by omega))
      have hmark : fT_markFailing s2 = some s3 := by
        unfold fT_markFailing
        rw [h14, idx_sub hN1]
        exact c1
      have hfind : fR_findWitness (ck_u r2 0 28 1) = fR_findWitness_b95 r3 := by
        unfold fR_findWitness
        rw [ck_u_nei (show ¬ (29 = 28) by decide), h29, idx_sub hN1]
        exact c2
      have hG4 : GI n k N N (ck_u s3 5 16 1) r3 := GI_cells c5 (fun a _ _ => ck_u_ne (by omega)) (fun a _ _ => ck_u_ne (by omega)) (fun a _ _ => rfl) rfl rfl (ck_u_ne (by omega)) (ck_u_nei (by omega)) (ck_u_nei (by omega)) rfl rfl rfl
      have hF4 : ∀ i, i < N → FV (ck_u s3 5 16 1) r3 i := fun i hi => by
        unfold FV
        rw [ck_u_ne (show ¬ (36 = 5) by decide), ck_u_ne (show ¬ (30 = 5) by decide), ck_u_ne (show ¬ (33 = 5) by decide), ck_u_ne (show ¬ (34 = 5) by decide)]
        exact c6 i hi
      have hD4 : rD t n (ck_u s3 5 16 1) r3 := rD_frame hD2 (by rw [ck_u_ne (by omega), c3 1 (by omega)]) (by rw [ck_u_ne (by omega), c3 1 (by omega)]) (by rw [ck_u_ne (by omega), c3 7 (by omega)]) (by rw [ck_u_ne (by omega), c3 8 (by omega)]) (by rw [ck_u_ne (by omega), c3 9 (by omega)]) (by rw [c4 0 (by omega), ck_u_nei (by omega), ck_u_nei (by omega)]) (by rw [c4 0 (by omega), ck_u_nei (by omega), ck_u_nei (by omega)]) (by rw [c4 1 (by omega), ck_u_ne (by omega), ck_u_ne (by omega)]) (by rw [c4 2 (by omega), ck_u_ne (by omega), ck_u_ne (by omega)]) (by rw [c4 3 (by omega), ck_u_ne (by omega), ck_u_ne (by omega)])
      obtain ⟨s5, r5, l, d1, d2, d3, d4, d5, d6, d7⟩ := wit_T hD4 hG4 hF4 (by rw [c4 0 (by omega), ck_u_eq])
      refine ⟨Int32.ofNat N, s5, r5, ?_, ?_, fun a h1 h2 h3 => ?_, fun a h1 h2 => ?_, fun j h1 h2 h3 h4 => ?_, Or.inr ⟨?_, ?_, N, l, ?_, d4, d3⟩⟩
      · unfold fT_grow_b62 fT_size
        rw [if_neg (show ¬ ((1 : Int32) = 0) by decide), hmark, ck_bv_some, ck_gz1, ck_b_some, if_neg (show ¬ ((1 : Int32) = 0) by decide), d1, ck_bv_some, ck_b_some, d5 5 (by omega) (by omega), ck_u_nei (by omega), c3 5 (by omega), h14]
      · unfold fR_compile_b69 fR_compile_b82
        rw [h30, if_pos rfl, ck_gz1, if_neg (show ¬ ((1 : Int32) = 0) by decide), hfind, d2, ck_bv_some, d7 29 (by omega), c4 0 (by omega), ck_u_nei (by omega), ck_u_nei (by omega), h29]
      · rw [d5 a h3 (by omega), ck_u_ne h2, c3 a (by omega), hw2.1 a (by omega) h2, ck_u_ne h2]
      · rw [d6 a h1 (by omega) (by omega), c4 a (by omega), ck_u_ne (by omega), ck_u_ne (by omega), hw2.2.2.1 a h1 (by omega)]
      · rw [d7 j h4, c4 0 (by omega), ck_u_nei h4, ck_u_nei h1, hw2.2.2.2 j h2 h3]
      · rw [d5 5 (by omega) (by omega), ck_u_eq]
      · rw [d7 28 (by omega), c4 0 (by omega), ck_u_nei (by omega), ck_u_eq]
      · exact GI_cells hG4 (fun a _ _ => d5 a (by omega) (by omega)) (fun a _ _ => d5 a (by omega) (by omega)) (fun a _ _ => d6 a (by omega) (by omega) (by omega)) (d6 17 (by omega) (by omega) (by omega)) (d6 18 (by omega) (by omega) (by omega)) (d5 4 (by omega) (by omega)) (by rw [d5 5 (by omega) (by omega)]) (by rw [d5 5 (by omega) (by omega)]) (d7 20 (by omega)) (d7 29 (by omega)) (d7 30 (by omega))
    · rw [b1, b2]
      have hw2 := wk_trans hw0 b4
      refine ⟨-14, s2, ck_u r2 0 28 0, ?_, ?_, fun a h1 h2 h3 => ?_, fun a h1 h2 => ?_, fun j h1 h2 h3 h4 => ?_, Or.inl ⟨?_, ck_u_eq⟩⟩
      · unfold fT_grow_b62
        rw [if_pos rfl, ck_gz0, ck_b_some, if_pos rfl]
      · unfold fR_compile_b69 fR_compile_b82
        rw [b3, if_neg (show ¬ ((1 : Int32) = 0) by decide), ck_gz0, if_pos rfl]
      · rw [hw2.1 a (by omega) h2, ck_u_ne h2]
      · rw [ck_u_ne (by omega), hw2.2.2.1 a h1 (by omega)]
      · rw [ck_u_nei h1, hw2.2.2.2 j h2 h3]
      · rw [hw2.2.1 16 (by omega) (by omega), ck_u_eq]
