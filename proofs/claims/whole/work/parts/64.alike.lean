/-! nodes of one kind -/
def AK (s : ck_S) (x y : Nat) : Prop := s 30 x = s 30 y ∧ s 31 x = s 31 y ∧ s 32 x = s 32 y ∧ s 34 x = s 34 y ∧ ∀ j, j < (s 34 x).toNatClampNeg → s 28 ((s 33 x).toNatClampNeg + j) = s 28 ((s 33 y).toNatClampNeg + j) ∧ s 35 ((s 33 x).toNatClampNeg + j) = s 35 ((s 33 y).toNatClampNeg + j)
theorem al69_0 {x y : Nat} {s : ck_S} (hx : x < 60) : fT_alike_l69 4096 (Int32.ofNat x) (Int32.ofNat y) 0 0 s = some (0, s) := by
  rw [show (4096 : Nat) = 4095 + 1 from rfl, fT_alike_l69, ck_gd_ok hx (by omega), if_pos rfl, ck_gz0]
  simp only [ite_self]
theorem al69_1 {x y F1 F2 M : Nat} {s : ck_S} (hx : x < 60) (hy : y < 60) (h33 : s 33 x = Int32.ofNat F1) (h33y : s 33 y = Int32.ofNat F2) (h34 : s 34 x = Int32.ofNat M) (hF1 : F1 + M ≤ 60) (hF2 : F2 + M ≤ 60) :
    ∃ v, (v = 0 ∨ v = 1) ∧ (v = 1 ↔ ∀ j, j < M → s 28 (F1 + j) = s 28 (F2 + j) ∧ s 35 (F1 + j) = s 35 (F2 + j)) ∧ fT_alike_l69 4096 (Int32.ofNat x) (Int32.ofNat y) 1 0 s = some (v, s) := by
  have key : ∀ (d m i : Nat), i + d = M → d < m → (∀ j, j < i → s 28 (F1 + j) = s 28 (F2 + j) ∧ s 35 (F1 + j) = s 35 (F2 + j)) → ∃ v, (v = 0 ∨ v = 1) ∧ (v = 1 ↔ ∀ j, j < M → s 28 (F1 + j) = s 28 (F2 + j) ∧ s 35 (F1 + j) = s 35 (F2 + j)) ∧ fT_alike_l69 m (Int32.ofNat x) (Int32.ofNat y) 1 (Int32.ofNat i) s = some (v, s) := by
    intro d
    induction d with
    | zero =>
      intro m i hi hm h0
      obtain ⟨m, rfl⟩ : ∃ z, m = z + 1 := ⟨m - 1, by omega⟩
      refine ⟨1, Or.inr rfl, ⟨fun _ j hj => h0 j (by omega), fun _ => rfl⟩, ?_⟩
      rw [fT_alike_l69]
      simp (disch := omega) only [ck_gd_ok, ln_at, h34, ln_le, show M ≤ i by omega, ↓reduceIte, ck_gz1]
    | succ d ih =>
      intro m i hi hm h0
      obtain ⟨m, rfl⟩ : ∃ z, m = z + 1 := ⟨m - 1, by omega⟩
      have hz : ∀ i, ∃ v : Int32, v = 0 ∧ fT_alike_l69 m (Int32.ofNat x) (Int32.ofNat y) 0 (Int32.ofNat i) s = some (v, s) := fun i => by
        cases m with
        | zero => omega
        | succ m =>
          refine ⟨0, rfl, ?_⟩
          rw [fT_alike_l69, ck_gd_ok hx (by omega), if_pos (show (0 : Int32) = 0 from rfl), ck_gz0]
          simp only [ite_self]
      rw [fT_alike_l69]
      simp (disch := omega) only [ck_gd_ok, ln_at, h34, h33, h33y, ln_le, show ¬ M ≤ i by omega, ↓reduceIte, show ¬ ((1 : Int32) = 0) by decide, ln_add]
      rw [show Int32.ofNat i + 1 = Int32.ofNat (i + 1) from ln_addL i 1]
      by_cases e1 : s 28 (F1 + i) = s 28 (F2 + i)
      · rw [if_pos e1]
        by_cases e2 : s 35 (F1 + i) = s 35 (F2 + i)
        · rw [if_pos e2]
          exact ih m (i + 1) (by omega) (by omega) (fun j hj => by
            by_cases e : j = i
            · rw [e]; exact ⟨e1, e2⟩
            · exact h0 j (by omega))
        · rw [if_neg e2]
          obtain ⟨v, rfl, hv⟩ := hz (i + 1)
          exact ⟨0, Or.inl rfl, ⟨fun z => absurd z (by decide), fun z => absurd (z i (by omega)).2 e2⟩, hv⟩
      · rw [if_neg e1]
        obtain ⟨v, rfl, hv⟩ := hz (i + 1)
        exact ⟨0, Or.inl rfl, ⟨fun z => absurd z (by decide), fun z => absurd (z i (by omega)).1 e1⟩, hv⟩
  exact key M 4096 0 (by omega) (by omega) (fun j hj => absurd hj (by omega))
theorem al81_1 {x y F1 F2 M : Nat} {r : ck_S} (hx : x < 60) (hy : y < 60) (h27 : r 27 x = Int32.ofNat F1) (h27y : r 27 y = Int32.ofNat F2) (h28 : r 28 x = Int32.ofNat M) (hF1 : F1 + M ≤ 60) (hF2 : F2 + M ≤ 60) (hoth : ∀ j, j < M → r 30 (F1 + j) = r 30 (F2 + j) ∧ (¬ r 30 (F1 + j) = 0 → r 29 (F1 + j) = r 29 (F2 + j))) :
    ∃ v, (v = 0 ∨ v = 1) ∧ (v = 1 ↔ ∀ j, j < M → r 29 (F1 + j) = r 29 (F2 + j) ∧ r 31 (F1 + j) = r 31 (F2 + j)) ∧ fR_alike_l81 4096 (Int32.ofNat x) (Int32.ofNat y) 0 r = some (v, r) := by
  have key : ∀ (d m i : Nat), i + d = M → d < m → (∀ j, j < i → r 29 (F1 + j) = r 29 (F2 + j) ∧ r 31 (F1 + j) = r 31 (F2 + j)) → ∃ v, (v = 0 ∨ v = 1) ∧ (v = 1 ↔ ∀ j, j < M → r 29 (F1 + j) = r 29 (F2 + j) ∧ r 31 (F1 + j) = r 31 (F2 + j)) ∧ fR_alike_l81 m (Int32.ofNat x) (Int32.ofNat y) (Int32.ofNat i) r = some (v, r) := by
    intro d
    induction d with
    | zero =>
      intro m i hi hm h0
      obtain ⟨m, rfl⟩ : ∃ z, m = z + 1 := ⟨m - 1, by omega⟩
      refine ⟨1, Or.inr rfl, ⟨fun _ j hj => h0 j (by omega), fun _ => rfl⟩, ?_⟩
      rw [fR_alike_l81]
      simp (disch := omega) only [ck_gd_ok, ln_at, h28, ln_le, show M ≤ i by omega, ↓reduceIte]
    | succ d ih =>
      intro m i hi hm h0
      obtain ⟨m, rfl⟩ : ∃ z, m = z + 1 := ⟨m - 1, by omega⟩
      obtain ⟨o1, o2⟩ := hoth i (by omega)
      rw [fR_alike_l81]
      simp (disch := omega) only [ck_gd_ok, ln_at, h28, h27, h27y, ln_le, show ¬ M ≤ i by omega, ↓reduceIte, ln_add, o1]
      rw [show Int32.ofNat i + 1 = Int32.ofNat (i + 1) from ln_addL i 1]
      by_cases e2 : r 31 (F1 + i) = r 31 (F2 + i)
      · rw [if_pos e2]
        by_cases e3 : r 30 (F2 + i) = 0
        · rw [if_pos e3]
          by_cases e1 : r 29 (F1 + i) = r 29 (F2 + i)
          · rw [if_pos e1]
            exact ih m (i + 1) (by omega) (by omega) (fun j hj => by
              by_cases e : j = i
              · rw [e]; exact ⟨e1, e2⟩
              · exact h0 j (by omega))
          · rw [if_neg e1]
            exact ⟨0, Or.inl rfl, ⟨fun z => absurd z (by decide), fun z => absurd (z i (by omega)).1 e1⟩, rfl⟩
        · rw [if_neg e3]
          exact ih m (i + 1) (by omega) (by omega) (fun j hj => by
            by_cases e : j = i
            · rw [e]; exact ⟨o2 (by rw [o1]; exact e3), e2⟩
            · exact h0 j (by omega))
      · rw [if_neg e2]
        exact ⟨0, Or.inl rfl, ⟨fun z => absurd z (by decide), fun z => absurd (z i (by omega)).2 e2⟩, rfl⟩
  exact key M 4096 0 (by omega) (by omega) (fun j hj => absurd hj (by omega))
theorem alike_ev {n k N x y : Nat} {s r : ck_S} (h : GI n k N N s r) (hx : x < N) (hy : y < N) (hxy : x < y) (hkd : ∀ i, x < i → i < N → s 35 i = r 31 i) :
    ∃ v, (v = 0 ∨ v = 1) ∧ (v = 1 ↔ AK s x y) ∧ fT_alike (Int32.ofNat x) (Int32.ofNat y) s = some (v, s) ∧ fR_alike (Int32.ofNat x) (Int32.ofNat y) r = some (v, r) := by
  have hN := h.2.2.1
  have hx60 : x < 60 := by omega
  have hy60 : y < 60 := by omega
  unfold fT_alike fR_alike
  simp (disch := omega) only [ck_gd_ok, ln_at, al69_0]
  rcases GI_node h hx with ⟨p1, p2, p3⟩ | ⟨p1, p2, p3⟩ <;> rcases GI_node h hy with ⟨q1, q2, q3⟩ | ⟨q1, q2, q3⟩
  · obtain ⟨a1, a2, a3, a4, a5, a6, _⟩ := p3
    obtain ⟨b1, b2, b3, b4, b5, b6, _⟩ := q3
    have hl : fT_alike_l69 4096 (Int32.ofNat x) (Int32.ofNat y) 1 0 s = some (1, s) := by
      rw [show (4096 : Nat) = 4095 + 1 from rfl, fT_alike_l69, ck_gd_ok hx60 (by omega), ln_at (by omega), a5, if_pos (by decide), ck_gz1]
    simp only [p1, p2, q1, q2, a3, b3, a4, b4, a5, b5, a6, b6, ↓reduceIte, hl]
    by_cases e : r 26 x = r 26 y
    · rw [if_pos e, if_pos e]
      refine ⟨1, Or.inr rfl, ⟨fun _ => ⟨by rw [p1, q1], by rw [a3, b3], by rw [a4, b4, e], by rw [a5, b5], fun j hj => ?_⟩, fun _ => rfl⟩, rfl, rfl⟩
      rw [a5] at hj
      exact absurd hj (by simp)
    · rw [if_neg e, if_neg e]
      refine ⟨0, Or.inl rfl, ⟨fun z => absurd z (by decide), fun z => absurd ?_ e⟩, rfl, rfl⟩
      have := z.2.2.1
      rw [a4, b4] at this
      exact this
  · have e1 : ¬ s 30 x = s 30 y := by rw [p1]; exact fun z => q1 z.symm
    have e2 : ¬ r 24 x = r 24 y := by rw [p2]; exact fun z => q2 z.symm
    rw [if_neg e1, if_neg e2]
    exact ⟨0, Or.inl rfl, ⟨fun z => absurd z (by decide), fun z => absurd z.1 e1⟩, rfl, rfl⟩
  · have e1 : ¬ s 30 x = s 30 y := by rw [q1]; exact p1
    have e2 : ¬ r 24 x = r 24 y := by rw [q2]; exact p2
    rw [if_neg e1, if_neg e2]
    exact ⟨0, Or.inl rfl, ⟨fun z => absurd z (by decide), fun z => absurd z.1 e1⟩, rfl, rfl⟩
  · obtain ⟨p, f, F, M, t1, t2, t3, t4, t5, t6, t7, t8, t9, t10, t11, t12, t13, t14, t15, t16, t17, t18⟩ := p3
    obtain ⟨pp, ff, FF, MM, v1, v2, v3, v4, v5, v6, v7, v8, v9, v10, v11, v12, v13, v14, v15, v16, v17, v18⟩ := q3
    simp only [t3, v3, t4, v4, t10, v10, t11, v11, t14, v14, t15, v15, ↓reduceIte]
    by_cases ep : Int32.ofNat p = Int32.ofNat pp
    · rw [if_pos ep, if_pos ep]
      by_cases em : Int32.ofNat M = Int32.ofNat MM
      · simp only [em, ↓reduceIte]
        have em' : M = MM := (ln_eq (by omega) (by omega)).mp em
        subst em'
        rw [if_neg (show ¬ Int32.ofNat p = 0 from mt (ln_eq (b := 0) (by omega) (by omega)).mp (by omega))]
        by_cases et : s 31 x = s 31 y
        · rw [if_pos et, if_pos et]
          have hlab : ∀ i, 1 ≤ i → i < N → s 28 i = r 29 i := fun i h1 h2 => (h.2.2.2.2.2.2.2.1 i h2).2.2.2.2.2 h1
          have hoth : ∀ j, j < M → r 30 (F + j) = r 30 (FF + j) ∧ (¬ r 30 (F + j) = 0 → r 29 (F + j) = r 29 (FF + j)) := by
            intro j hj
            rcases t18 with ⟨u1, u2, m, rfl, u3, u4, u5, u6, _⟩ | ⟨⟨o, o1, o2, o3⟩, u2, u3, u4⟩
            · rcases v18 with ⟨w1, w2, m2, em2, w3, w4, w5, w6, _⟩ | ⟨⟨o, o1, o2, o3⟩, w2, w3, w4⟩
              · have : m2 = m := by omega
                subst this
                by_cases e : j = m2
                · subst e
                  exact ⟨u5.2.1.trans w5.2.1.symm, fun _ => u6.trans w6.symm⟩
                · have z1 := (u4 j (by omega)).2.1
                  have z2 := (w4 j (by omega)).2.1
                  exact ⟨z1.trans z2.symm, fun z => absurd z1 z⟩
              · rw [← et, u1] at o3
                exact absurd ((ln_eq (a := 0) (by omega) (by omega)).mp o3) (by omega)
            · rcases v18 with ⟨w1, _⟩ | ⟨_, w2, w3, w4⟩
              · rw [et, w1] at o3
                exact absurd ((ln_eq (a := 0) (by omega) (by omega)).mp o3) (by omega)
              · have z1 := (u4.1 j hj).1.2.1
                have z2 := (w4.1 j hj).1.2.1
                exact ⟨z1.trans z2.symm, fun z => absurd z1 z⟩
          obtain ⟨a, a1, a2, a3⟩ := al69_1 hx60 hy60 t12 v12 t14 (by omega) (by omega)
          obtain ⟨b, b1, b2, b3⟩ := al81_1 hx60 hy60 t13 v13 t15 (by omega) (by omega) hoth
          have hiff : (a = 1 ↔ b = 1) := by
            rw [a2, b2]
            constructor
            · intro z j hj
              have := z j hj
              rw [hlab _ (by omega) (by omega), hlab _ (by omega) (by omega), hkd _ (by omega) (by omega), hkd _ (by omega) (by omega)] at this
              exact this
            · intro z j hj
              rw [hlab _ (by omega) (by omega), hlab _ (by omega) (by omega), hkd _ (by omega) (by omega), hkd _ (by omega) (by omega)]
              exact z j hj
          have hab : a = b := by
            rcases a1 with rfl | rfl <;> rcases b1 with rfl | rfl
            · rfl
            · exact absurd (hiff.mpr rfl) (by decide)
            · exact absurd (hiff.mp rfl) (by decide)
            · rfl
          subst hab
          refine ⟨a, a1, ?_, a3, b3⟩
          rw [a2]
          unfold AK
          rw [t12, v12, t14, v14, ln_at (by omega), ln_at (by omega), ln_at (by omega), t3, v3, t11, v11, ep, et]
          exact ⟨fun z => ⟨rfl, rfl, rfl, rfl, z⟩, fun z => z.2.2.2.2⟩
        · rw [if_neg et, if_neg et]
          exact ⟨0, Or.inl rfl, ⟨fun z => absurd z (by decide), fun z => absurd z.2.1 et⟩, rfl, rfl⟩
      · simp only [em, ↓reduceIte]
        refine ⟨0, Or.inl rfl, ⟨fun z => absurd z (by decide), fun z => absurd ?_ em⟩, ?_, rfl⟩
        · have := z.2.2.2.1
          rw [t14, v14] at this
          exact this
        · simp only [ite_self]
    · rw [if_neg ep, if_neg ep]
      refine ⟨0, Or.inl rfl, ⟨fun z => absurd z (by decide), fun z => absurd ?_ ep⟩, rfl, rfl⟩
      have := z.1
      rw [t3, v3] at this
      exact this
