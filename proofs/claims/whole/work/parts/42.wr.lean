/-! what an alternative asks: its places, its types -/
def desc (j i : Nat) : Prop := ∃ d, i / 2 ^ d = j
theorem desc_rf (j : Nat) : desc j j := ⟨0, by simp⟩
theorem desc_up {j i a : Nat} (h : desc a i) (ha : a = 2 * j ∨ a = 2 * j + 1) : desc j i := by
  obtain ⟨d, hd⟩ := h
  refine ⟨d + 1, ?_⟩
  rw [Nat.pow_succ, ← Nat.div_div_eq_div_mul, hd]
  omega
theorem desc_le {j i : Nat} (h : desc j i) : j ≤ i := by
  obtain ⟨d, hd⟩ := h
  rw [← hd]
  exact Nat.div_le_self _ _
theorem desc_apart {j i : Nat} (hj : 1 ≤ j) (h1 : desc (2 * j) i) (h2 : desc (2 * j + 1) i) : False := by
  obtain ⟨a, ha⟩ := h1
  obtain ⟨b, hb⟩ := h2
  rcases Nat.lt_or_ge b a with h | h
  · have e : i / 2 ^ a = (2 * j + 1) / 2 ^ (a - b) := by
      rw [← hb, Nat.div_div_eq_div_mul, ← Nat.pow_add, show b + (a - b) = a by omega]
    have h3 : 2 ≤ 2 ^ (a - b) := two_pow1 (by omega)
    have h4 : (2 * j + 1) / 2 ^ (a - b) ≤ (2 * j + 1) / 2 := Nat.div_le_div_left h3 (by omega)
    omega
  · have e : i / 2 ^ b = (2 * j) / 2 ^ (b - a) := by
      rw [← ha, Nat.div_div_eq_div_mul, ← Nat.pow_add, show a + (b - a) = b by omega]
    have h4 : (2 * j) / 2 ^ (b - a) ≤ 2 * j := Nat.div_le_self _ _
    omega
def fitX (st : ck_S) (x w : Int32) : Prop := x = -1 ∨ ∃ q, x = Int32.ofNat q ∧ q < 60 ∧ fit st q w
theorem wr_plain {st : ck_S} {f k j : Nat} {x : Int32} {q2 k2 : Nat} (hr : res st 60 x k = (Int32.ofNat q2, k2)) (hq : q2 < 60) (h2 : ¬ st 11 q2 = -1) : wr st (f + 1) x k j = (j, q2) :: (wr st f (st 13 q2) (k2 / pch st (st 14 q2)) (2 * j) ++ wr st f (st 14 q2) (k2 % pch st (st 14 q2)) (2 * j + 1)) := by
  rw [wr, hr]
  simp only
  rw [ln_at (by omega), if_neg (fun z => z.elim (ln_m1 (by omega)) h2)]
theorem wr_open {st : ck_S} {f k j : Nat} {x : Int32} {q2 k2 : Nat} (hr : res st 60 x k = (Int32.ofNat q2, k2)) (hq : q2 < 60) (h2 : st 11 q2 = -1) : wr st (f + 1) x k j = [] := by
  rw [wr, hr]
  simp only
  rw [ln_at (by omega), if_pos (Or.inr h2)]
theorem wr_abs {st : ck_S} (f k j : Nat) : wr st f (-1) k j = [] := by
  cases f with
  | zero => rfl
  | succ f => unfold wr; rw [res_abs, if_pos (Or.inl rfl)]
theorem wr_spec {n p : Nat} {st rt : ck_S} (h : rP n p st rt) : ∀ (f : Nat) (x : Int32) (k j : Nat) (w : Int32), isArg p x → k < pch st x → pd st x < f → 1 ≤ j → (1 ≤ pd st x → (j + 1) * 2 ^ (pd st x - 1) ≤ 16) → fitX st x w →
    ∀ i q, (i, q) ∈ wr st f x k j → (q < p ∧ ¬ st 10 q = 1 ∧ ¬ st 11 q = -1 ∧ i ≤ 15 ∧ desc j i) ∧ (i = j → st 11 q = w) ∧
      (¬ i = j → ∃ i0 q0 co, (i0, q0) ∈ wr st f x k j ∧ rt 4 q0 = 2 ∧ co < n ∧ st 12 q0 = Int32.ofNat co ∧ ((i = 2 * i0 ∧ st 11 q = st 8 co ∧ ¬ st 8 co = -1) ∨ (i = 2 * i0 + 1 ∧ st 11 q = st 9 co ∧ ¬ st 9 co = -1)))
  | 0, _, _, _, _, _, _, hd, _, _, _ => absurd hd (by omega)
  | f + 1, x, k, j, w, hx, hk, hd, hj, hw, hf => by
    have hp := h.1
    intro i q hm
    rcases hx with rfl | ⟨q1, hq1, rfl⟩
    · rw [wr_abs] at hm
      exact absurd hm List.not_mem_nil
    · obtain ⟨q2, k2, a1, a2, a3, a4, a5, a6⟩ := res_ok h 60 q1 k (by omega) hq1 hk
      obtain ⟨c1, c2, c3, c4, c5, c6, c7⟩ := cst_pos h hq1
      have hj15 := pow_le16 c4 (hw c4)
      by_cases hop : st 11 q2 = -1
      · rw [wr_open a1 (by omega) hop] at hm
        exact absurd hm List.not_mem_nil
      · rw [wr_plain a1 (by omega) hop] at hm ⊢
        obtain ⟨p1, p2, p3, p4, p5, p6, p7⟩ := plain_parts h (q := q2) (by omega) a3 hop
        have b14 := pch_pos h (x := st 14 q2) (isArg_le p2 (by omega))
        have hk1 : k2 / pch st (st 14 q2) < pch st (st 13 q2) := by
          rw [Nat.div_lt_iff_lt_mul (by omega)]
          omega
        have hk2 : k2 % pch st (st 14 q2) < pch st (st 14 q2) := Nat.mod_lt _ (by omega)
        -- the children's types
        have hch : (st 13 q2 = -1 ∧ st 14 q2 = -1) ∨ (rt 4 q2 = 2 ∧ ∃ co, co < n ∧ st 12 q2 = Int32.ofNat co ∧ partOK st q2 (st 8 co) (st 13 q2) ∧ partOK st q2 (st 9 co) (st 14 q2)) := by
          rcases p7 with p7 | ⟨b1, co, b2, b3, b4, b5, b6⟩
          · exact Or.inl ⟨p7.2.2.1, p7.2.2.2⟩
          · exact Or.inr ⟨b1, co, b2, b3, b5, b6⟩
        have hfp : ∀ a x, partOK st q2 a x → (x = -1 ∨ ¬ a = -1) ∧ fitX st x a := by
          intro a x hpo
          rcases hpo with ⟨_, e⟩ | ⟨e, l, l1, l2, l3⟩
          · exact ⟨Or.inl e, Or.inl e⟩
          · exact ⟨Or.inr e, Or.inr ⟨l, l2, by omega, l3⟩⟩
        rw [List.mem_cons, List.mem_append] at hm
        rcases hm with hm | hm | hm
        · obtain ⟨rfl, rfl⟩ := Prod.mk.inj hm
          refine ⟨⟨by omega, a3, hop, hj15, desc_rf _⟩, fun _ => ?_, fun z => absurd rfl z⟩
          rcases hf with hf | ⟨q3, hf1, _, hf2⟩
          · exact absurd hf (ln_m1 (by omega))
          · have e : q1 = q3 := (ln_eq (by omega) (by omega)).mp hf1
            subst e
            exact (a6 w hf2).elim (fun z => absurd z hop) id
        · rcases hch with ⟨e13, e14⟩ | ⟨b1, co, b2, b3, b5, b6⟩
          · rw [e13, wr_abs] at hm
            exact absurd hm List.not_mem_nil
          · obtain ⟨g1, g2⟩ := hfp _ _ b5
            have hne : ¬ st 13 q2 = -1 := fun z => by rw [z, wr_abs] at hm; exact absurd hm List.not_mem_nil
            have ih := wr_spec h f (st 13 q2) _ (2 * j) (st 8 co) (isArg_le p1 (by omega)) hk1 (by omega) (by omega) (fun z => (pow_child z (by omega : pd st (st 13 q2) + 1 ≤ pd st (Int32.ofNat q1)) (hw (by omega))).2) g2 i q hm
            obtain ⟨⟨i1, i2, i3, i4, i5⟩, i6, i7⟩ := ih
            refine ⟨⟨i1, i2, i3, i4, desc_up i5 (Or.inl rfl)⟩, fun z => ?_, fun _ => ?_⟩
            · have := desc_le i5
              omega
            · by_cases z : i = 2 * j
              · exact ⟨j, q2, co, List.mem_cons_self, b1, b2, b3, Or.inl ⟨z, i6 z, g1.elim (fun y => absurd y hne) id⟩⟩
              · obtain ⟨i0, q0, co2, m1, m2, m3, m4, m5⟩ := i7 z
                exact ⟨i0, q0, co2, List.mem_cons_of_mem _ (List.mem_append_left _ m1), m2, m3, m4, m5⟩
        · rcases hch with ⟨e13, e14⟩ | ⟨b1, co, b2, b3, b5, b6⟩
          · rw [e14, wr_abs] at hm
            exact absurd hm List.not_mem_nil
          · obtain ⟨g1, g2⟩ := hfp _ _ b6
            have hne : ¬ st 14 q2 = -1 := fun z => by rw [z, wr_abs] at hm; exact absurd hm List.not_mem_nil
            have ih := wr_spec h f (st 14 q2) _ (2 * j + 1) (st 9 co) (isArg_le p2 (by omega)) hk2 (by omega) (by omega) (fun z => (pow_child z (by omega : pd st (st 14 q2) + 1 ≤ pd st (Int32.ofNat q1)) (hw (by omega))).1) g2 i q hm
            obtain ⟨⟨i1, i2, i3, i4, i5⟩, i6, i7⟩ := ih
            refine ⟨⟨i1, i2, i3, i4, desc_up i5 (Or.inr rfl)⟩, fun z => ?_, fun _ => ?_⟩
            · have := desc_le i5
              omega
            · by_cases z : i = 2 * j + 1
              · exact ⟨j, q2, co, List.mem_cons_self, b1, b2, b3, Or.inr ⟨z, i6 z, g1.elim (fun y => absurd y hne) id⟩⟩
              · obtain ⟨i0, q0, co2, m1, m2, m3, m4, m5⟩ := i7 z
                exact ⟨i0, q0, co2, List.mem_cons_of_mem _ (List.mem_append_right _ m1), m2, m3, m4, m5⟩
/-- a place of the tree is written once -/
theorem wr_desc {st : ck_S} : ∀ (f : Nat) (x : Int32) (k j : Nat) (i q : Nat), (i, q) ∈ wr st f x k j → desc j i
  | 0, _, _, _, _, _, hm => absurd hm List.not_mem_nil
  | f + 1, x, k, j, i, q, hm => by
    unfold wr at hm
    split at hm
    · exact absurd hm List.not_mem_nil
    · rw [List.mem_cons, List.mem_append] at hm
      rcases hm with hm | hm | hm
      · obtain ⟨rfl, _⟩ := Prod.mk.inj hm
        exact desc_rf _
      · exact desc_up (wr_desc f _ _ _ i q hm) (Or.inl rfl)
      · exact desc_up (wr_desc f _ _ _ i q hm) (Or.inr rfl)
theorem wr_fun {st : ck_S} : ∀ (f : Nat) (x : Int32) (k j : Nat) (i q q2 : Nat), 1 ≤ j → (i, q) ∈ wr st f x k j → (i, q2) ∈ wr st f x k j → q = q2
  | 0, _, _, _, _, _, _, _, hm, _ => absurd hm List.not_mem_nil
  | f + 1, x, k, j, i, q, q2, hj, hm, hm2 => by
    unfold wr at hm hm2
    split at hm
    · exact absurd hm List.not_mem_nil
    · rename_i hno
      rw [if_neg hno] at hm2
      rw [List.mem_cons, List.mem_append] at hm hm2
      have lo : ∀ z g y v, (i, z) ∈ wr st f g y v → v ≤ i := fun z g y v hz => desc_le (wr_desc f _ _ _ i z hz)
      rcases hm with hm | hm | hm <;> rcases hm2 with hm2 | hm2 | hm2
      · exact (Prod.mk.inj hm).2.trans (Prod.mk.inj hm2).2.symm
      · have := lo _ _ _ _ hm2; have := (Prod.mk.inj hm).1; omega
      · have := lo _ _ _ _ hm2; have := (Prod.mk.inj hm).1; omega
      · have := lo _ _ _ _ hm; have := (Prod.mk.inj hm2).1; omega
      · exact wr_fun f _ _ _ i q q2 (by omega) hm hm2
      · exact absurd (desc_apart hj (wr_desc f _ _ _ i q hm) (wr_desc f _ _ _ i q2 hm2)) id
      · have := lo _ _ _ _ hm; have := (Prod.mk.inj hm2).1; omega
      · exact absurd (desc_apart hj (wr_desc f _ _ _ i q2 hm2) (wr_desc f _ _ _ i q hm)) id
      · exact wr_fun f _ _ _ i q q2 (by omega) hm hm2
/-! reading what was written -/
theorem appR_keep {c : Nat} : ∀ (L : List (Nat × Nat)) (r : ck_S) (z : Nat), (∀ e ∈ L, ¬ z = 16 * c + e.1) → appR c L r 17 z = r 17 z ∧ appR c L r 18 z = r 18 z
  | [], _, _, _ => ⟨rfl, rfl⟩
  | e :: L, r, z, h => by
    have h1 := appR_keep L (wR c e r) z (fun a ha => h a (List.mem_cons_of_mem _ ha))
    have hne := h e List.mem_cons_self
    have e1 : wR c e r 17 z = r 17 z := by simp [wR, ck_u, upd, hne]
    have e2 : wR c e r 18 z = r 18 z := by simp [wR, ck_u, upd, hne]
    rw [e1, e2] at h1
    exact h1
theorem appR_get {c : Nat} : ∀ (L : List (Nat × Nat)) (r : ck_S) (i q : Nat), (∀ a, (i, a) ∈ L → a = q) → (i, q) ∈ L → appR c L r 17 (16 * c + i) = r 4 q ∧ appR c L r 18 (16 * c + i) = r 5 q
  | [], _, _, _, _, hm => absurd hm List.not_mem_nil
  | e :: L, r, i, q, hf, hm => by
    show appR c L (wR c e r) 17 _ = _ ∧ appR c L (wR c e r) 18 _ = _
    by_cases hin : (i, q) ∈ L
    · have := appR_get (c := c) L (wR c e r) i q (fun a ha => hf a (List.mem_cons_of_mem _ ha)) hin
      rw [wR_cell (q := 4) (by decide) (by decide), wR_cell (q := 5) (by decide) (by decide)] at this
      exact this
    · have he : e = (i, q) := (List.mem_cons.mp hm).elim (fun z => z.symm) (fun z => absurd z hin)
      have hno : ∀ e2 ∈ L, ¬ 16 * c + i = 16 * c + e2.1 := fun e2 he2 z => by
        have e3 : e2 = (i, e2.2) := by rw [show i = e2.1 by omega]
        rw [e3] at he2
        have := hf e2.2 (List.mem_cons_of_mem _ he2)
        rw [this] at he2
        exact hin he2
      have hk := appR_keep L (wR c e r) (16 * c + i) hno
      rw [he] at hk ⊢
      rw [hk.1, hk.2]
      constructor <;> simp [wR, ck_u, upd]
theorem appC_keep {c : Nat} : ∀ (L : List (Nat × Nat)) (s : ck_S) (z : Nat), (∀ e ∈ L, ¬ z = e.1 * 16 + c) → appC c L s 24 z = s 24 z ∧ appC c L s 25 z = s 25 z
  | [], _, _, _ => ⟨rfl, rfl⟩
  | e :: L, s, z, h => by
    have h1 := appC_keep L (wC c e s) z (fun a ha => h a (List.mem_cons_of_mem _ ha))
    have hne := h e List.mem_cons_self
    have e1 : wC c e s 24 z = s 24 z := by simp [wC, ck_u, upd, hne]
    have e2 : wC c e s 25 z = s 25 z := by simp [wC, ck_u, upd, hne]
    rw [e1, e2] at h1
    exact h1
theorem appC_get {c : Nat} : ∀ (L : List (Nat × Nat)) (s : ck_S) (i q : Nat), (∀ a, (i, a) ∈ L → a = q) → (i, q) ∈ L → appC c L s 24 (i * 16 + c) = s 12 q ∧ appC c L s 25 (i * 16 + c) = s 11 q
  | [], _, _, _, _, hm => absurd hm List.not_mem_nil
  | e :: L, s, i, q, hf, hm => by
    show appC c L (wC c e s) 24 _ = _ ∧ appC c L (wC c e s) 25 _ = _
    by_cases hin : (i, q) ∈ L
    · have := appC_get (c := c) L (wC c e s) i q (fun a ha => hf a (List.mem_cons_of_mem _ ha)) hin
      rw [wC_cell (q := 12) (by omega), wC_cell (q := 11) (by omega)] at this
      exact this
    · have he : e = (i, q) := (List.mem_cons.mp hm).elim (fun z => z.symm) (fun z => absurd z hin)
      have hno : ∀ e2 ∈ L, ¬ i * 16 + c = e2.1 * 16 + c := fun e2 he2 z => by
        have e3 : e2 = (i, e2.2) := by rw [show i = e2.1 by omega]
        rw [e3] at he2
        have := hf e2.2 (List.mem_cons_of_mem _ he2)
        rw [this] at he2
        exact hin he2
      have hk := appC_keep L (wC c e s) (i * 16 + c) hno
      rw [he] at hk ⊢
      rw [hk.1, hk.2]
      constructor <;> simp [wC, ck_u, upd]
theorem appC_bit {c : Nat} (hc : c < 32) : ∀ (L : List (Nat × Nat)) (s : ck_S) (i b : Nat), b < 32 → bt (appC c L s 23 i) b = (bt (s 23 i) b || (decide (b = c) && L.any (fun e => decide (e.1 = i))))
  | [], s, i, b, _ => by
    show bt (s 23 i) b = _
    simp
  | e :: L, s, i, b, hb => by
    show bt (appC c L (wC c e s) 23 i) b = _
    rw [appC_bit hc L _ i b hb]
    have e1 : wC c e s 23 i = if i = e.1 then s 23 i ||| ((1 : Int32) <<< (Int32.ofNat c &&& 31)) else s 23 i := by
      by_cases z : i = e.1
      · subst z; simp [wC, ck_u, upd]
      · simp [wC, ck_u, upd, z]
    rw [e1, List.any_cons]
    by_cases z : i = e.1
    · rw [if_pos z, bt_or, bt_1 hc hb]
      subst z
      cases bt (s 23 e.1) b <;> cases decide (b = c) <;> simp
    · have z2 : ¬ e.1 = i := fun y => z y.symm
      rw [if_neg z]
      simp [z2]
