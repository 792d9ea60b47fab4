/-! clauses on both sides -/
def clOK (n : Nat) (st rt : ck_S) (c i : Nat) : Prop :=
  (rt 17 (16 * c + i) = 0 ∧ bt (st 23 i) c = false) ∨
  (rt 17 (16 * c + i) = 1 ∧ bt (st 23 i) c = true ∧ st 24 (i * 16 + c) = rt 18 (16 * c + i) ∧ st 25 (i * 16 + c) = 0) ∨
  (rt 17 (16 * c + i) = 2 ∧ bt (st 23 i) c = true ∧ st 24 (i * 16 + c) = rt 18 (16 * c + i) ∧ ∃ co, co < n ∧ rt 18 (16 * c + i) = Int32.ofNat co ∧ st 25 (i * 16 + c) = st 7 co)
def clTy (n : Nat) (st rt : ck_S) (c : Nat) : Prop := (¬ rt 17 (16 * c + 1) = 0 → st 25 (16 + c) = st 4 6) ∧ ∀ i, 1 ≤ i → i < 8 →
  (¬ rt 17 (16 * c + 2 * i) = 0 → rt 17 (16 * c + i) = 2 ∧ ∃ co, co < n ∧ rt 18 (16 * c + i) = Int32.ofNat co ∧ st 25 (2 * i * 16 + c) = st 8 co ∧ ¬ st 8 co = -1) ∧
  (¬ rt 17 (16 * c + (2 * i + 1)) = 0 → rt 17 (16 * c + i) = 2 ∧ ∃ co, co < n ∧ rt 18 (16 * c + i) = Int32.ofNat co ∧ st 25 ((2 * i + 1) * 16 + c) = st 9 co ∧ ¬ st 9 co = -1)
def cls (n k : Nat) (st rt : ck_S) : Prop := (∀ i b, i < 16 → k ≤ b → b < 32 → bt (st 23 i) b = false) ∧ (∀ c i, c < k → 1 ≤ i → i < 16 → clOK n st rt c i) ∧ (∀ c, c < k → clTy n st rt c)
def zi (c i : Nat) (r : ck_S) : ck_S := fun a => if a = 17 then (fun z => if 16 * c ≤ z ∧ z < 16 * c + i then 0 else r 17 z) else r a
theorem zi_cell {c i a : Nat} {r : ck_S} (h : ¬ a = 17) : zi c i r a = r a := by simp [zi, h]
theorem wOut_ev {n p c q k : Nat} {st r : ck_S} (h : rP n p st r) (ho : ∀ c, c < n → ¬ st 7 c = -1 ∧ (st 8 c = -1 → st 9 c = -1)) (hc : c < 16) (hq : q < p) (hk : k < pch st (Int32.ofNat q)) :
    ∃ r2, fR_writeOut (Int32.ofNat c) (Int32.ofNat q) (Int32.ofNat k) r = some r2 ∧ (∀ x, (x < 17 ∨ 21 < x) → r2 x = r x) ∧ r2 17 = appR c (wrR st 8 (Int32.ofNat q) k 1) (zi c 16 r) 17 ∧ r2 18 = appR c (wrR st 8 (Int32.ofNat q) k 1) (zi c 16 r) 18 := by
  have hp := h.1
  obtain ⟨c1, c2, c3, c4, c5, c6, c7⟩ := cst_pos h hq
  have key : ∀ (K : Int32 → Int32 → Int32 → ck_S → Option ck_S) (d m i : Nat), i + d = 16 → d < m → fR_writeOut_l3 K m (Int32.ofNat c) (Int32.ofNat q) (Int32.ofNat k) (Int32.ofNat i) (zi c i r) = K (Int32.ofNat c) (Int32.ofNat q) (Int32.ofNat k) (zi c 16 r) := by
    intro K d
    induction d with
    | zero =>
      intro m i hi hm
      obtain ⟨m, rfl⟩ : ∃ z, m = z + 1 := ⟨m - 1, by omega⟩
      rw [show i = 16 by omega, fR_writeOut_l3, if_pos (by decide)]
    | succ d ih =>
      intro m i hi hm
      obtain ⟨m, rfl⟩ : ∃ z, m = z + 1 := ⟨m - 1, by omega⟩
      rw [fR_writeOut_l3, if_neg (fun z => by have := (ln_le (a := 16) (by omega) (by omega)).mp z; omega)]
      have e : ck_u (zi c i r) 17 (16 * c + i) 0 = zi c (i + 1) r := by
        funext a z
        by_cases ha : a = 17
        · subst ha
          rw [ck_u_at]
          simp only [zi, ↓reduceIte]
          by_cases hz : z = 16 * c + i
          · rw [if_pos hz, if_pos (by omega)]
          · rw [if_neg hz]
            by_cases hr : 16 * c ≤ z ∧ z < 16 * c + i
            · rw [if_pos hr, if_pos (by omega)]
            · rw [if_neg hr, if_neg (by omega)]
        · rw [ck_u_ne ha, zi_cell ha, zi_cell ha]
      simp (disch := omega) only [ln_Lmul, ln_add, ck_gd_ok, ln_at, ln_addL, e]
      exact ih m (i + 1) (by omega) (by omega)
  unfold fR_writeOut
  have e0 : zi c 0 r = r := by
    funext a z
    by_cases ha : a = 17
    · subst ha
      simp only [zi, ↓reduceIte]
      rw [if_neg (by omega)]
    · rw [zi_cell ha]
  have hk0 := key (fun x1 x2 x3 st => fR_writeOut_b29 x1 x2 x3 st) 16 4096 0 (by omega) (by omega)
  rw [e0] at hk0
  rw [show (0 : Int32) = Int32.ofNat 0 from rfl, hk0]
  show ∃ r2, fR_writeOut_b29 (Int32.ofNat c) (Int32.ofNat q) (Int32.ofNat k) (zi c 16 r) = some r2 ∧ _
  unfold fR_writeOut_b29
  simp (disch := omega) only [ck_gd_okL, ln_atL]
  generalize hZ : ck_u (ck_u (ck_u (zi c 16 r) 19 0 (Int32.ofNat q)) 20 0 (Int32.ofNat k)) 21 0 1 = Z
  have hZc : ∀ x, (x < 19 ∨ 21 < x) → Z x = zi c 16 r x := fun x hx => by
    rw [← hZ, ck_u_ne (by omega), ck_u_ne (by omega), ck_u_ne (by omega)]
  have hrP : rP n p st Z := rP_frame h (Nat.le_refl _) rfl rfl rfl rfl rfl rfl rfl rfl (fun _ _ => ⟨rfl, rfl, rfl⟩) (by rw [hZc 0 (by omega), zi_cell (by omega)]) (fun q q1 q2 => by rw [hZc q (by omega), zi_cell (by omega)])
  have hst : stk [(Int32.ofNat q, k, 1)] Z := ⟨by rw [← hZ]; simp [ck_u, upd], by rw [← hZ]; simp [ck_u, upd], by rw [← hZ]; simp [ck_u, upd], trivial⟩
  have h2 : 2 ^ (pd st (Int32.ofNat q) - 1) ≤ 8 := by
    have : 2 ^ (pd st (Int32.ofNat q) - 1) ≤ 2 ^ 3 := Nat.pow_le_pow_right (by omega) (by omega)
    exact this
  have h16 : 2 ^ pd st (Int32.ofNat q) ≤ 16 := by
    have : 2 ^ pd st (Int32.ofNat q) ≤ 2 ^ 4 := Nat.pow_le_pow_right (by omega) (by omega)
    exact this
  obtain ⟨r2, e1, e2, e3, e4⟩ := wLoop_ev ho hc 4096 [(Int32.ofNat q, k, 1)] Z hrP (by show cst st (Int32.ofNat q) + 0 < 4096; omega) ⟨⟨q, hq, rfl⟩, hk, by simp only; omega, by simp only [List.length_nil]; omega, trivial⟩ hst
  have hw : wLS st [(Int32.ofNat q, k, 1)] = wrR st 8 (Int32.ofNat q) k 1 := by
    show wrR st 8 (Int32.ofNat q) k 1 ++ [] = _
    rw [List.append_nil]
  rw [hw] at e3 e4
  have hco := appR_congr (c := c) (wrR st 8 (Int32.ofNat q) k 1) Z (zi c 16 r) (hZc 4 (by omega)) (hZc 5 (by omega)) (hZc 17 (by omega)) (hZc 18 (by omega))
  refine ⟨r2, e1, fun x hx => ?_, by rw [e3]; exact hco.1, by rw [e4]; exact hco.2⟩
  rw [e2 x hx, hZc x (by omega), zi_cell (by omega)]
/-- one clause more, on both sides -/
theorem cls_step {n p c q k : Nat} {s r r2 : ck_S} {v : Int32} (h : rP n p s r) (hc : c < 16) (hq : q < p) (hk : k < pch s (Int32.ofNat q)) (hf : fit s q (s 4 6)) (hcl : cls n c s r)
    (g17 : r2 17 = appR c (wrR s 8 (Int32.ofNat q) k 1) (zi c 16 r) 17) (g18 : r2 18 = appR c (wrR s 8 (Int32.ofNat q) k 1) (zi c 16 r) 18) :
    cls n (c + 1) (appC c (wr s 8 (Int32.ofNat q) k 1) (ck_u s 22 c v)) r2 := by
  have hp := h.1
  obtain ⟨c1, c2, c3, c4, c5, c6, c7⟩ := cst_pos h hq
  have h2 : 2 ^ (pd s (Int32.ofNat q) - 1) ≤ 8 := by
    have : 2 ^ (pd s (Int32.ofNat q) - 1) ≤ 2 ^ 3 := Nat.pow_le_pow_right (by omega) (by omega)
    exact this
  have spec := wr_spec h 8 (Int32.ofNat q) k 1 (s 4 6) (Or.inr ⟨q, hq, rfl⟩) hk (by omega) (by omega) (fun _ => by omega) (Or.inr ⟨q, rfl, by omega, hf⟩)
  have func := fun i a b h1 h2 => wr_fun (st := s) 8 (Int32.ofNat q) k 1 i a b (by omega) h1 h2
  obtain ⟨hb, hok, hty⟩ := hcl
  generalize hW : wr s 8 (Int32.ofNat q) k 1 = W at spec func ⊢
  have memR : ∀ e, e ∈ wrR s 8 (Int32.ofNat q) k 1 ↔ e ∈ W := fun e => by rw [wrR_mem, hW]
  generalize wrR s 8 (Int32.ofNat q) k 1 = V at g17 g18 memR
  have u23 : (ck_u s 22 c v) 23 = s 23 := ck_u_ne (by decide)
  have u24 : (ck_u s 22 c v) 24 = s 24 := ck_u_ne (by decide)
  have u25 : (ck_u s 22 c v) 25 = s 25 := ck_u_ne (by decide)
  have u12 : (ck_u s 22 c v) 12 = s 12 := ck_u_ne (by decide)
  have u11 : (ck_u s 22 c v) 11 = s 11 := ck_u_ne (by decide)
  have u7 : ∀ co, appC c W (ck_u s 22 c v) 7 co = s 7 co := fun co => by rw [appC_cell (by omega), ck_u_ne (by decide)]
  have u8 : ∀ co, appC c W (ck_u s 22 c v) 8 co = s 8 co := fun co => by rw [appC_cell (by omega), ck_u_ne (by decide)]
  have u9 : ∀ co, appC c W (ck_u s 22 c v) 9 co = s 9 co := fun co => by rw [appC_cell (by omega), ck_u_ne (by decide)]
  have u46 : appC c W (ck_u s 22 c v) 4 6 = s 4 6 := by rw [appC_cell (by omega), ck_u_ne (by decide)]
  have bitE : ∀ i b, b < 32 → bt (appC c W (ck_u s 22 c v) 23 i) b = (bt (s 23 i) b || (decide (b = c) && W.any (fun e => decide (e.1 = i)))) := fun i b hb => by
    rw [appC_bit (by omega) W _ i b hb, u23]
  -- other clauses
  have old : ∀ c', c' < c → (∀ i, i < 16 → r2 17 (16 * c' + i) = r 17 (16 * c' + i) ∧ r2 18 (16 * c' + i) = r 18 (16 * c' + i)) ∧ (∀ i, appC c W (ck_u s 22 c v) 24 (i * 16 + c') = s 24 (i * 16 + c') ∧ appC c W (ck_u s 22 c v) 25 (i * 16 + c') = s 25 (i * 16 + c')) ∧ (∀ i, bt (appC c W (ck_u s 22 c v) 23 i) c' = bt (s 23 i) c') := by
    intro c' hc'
    refine ⟨fun i hi => ?_, fun i => ?_, fun i => ?_⟩
    · have hk := appR_keep (c := c) V (zi c 16 r) (16 * c' + i) (fun e he => by omega)
      rw [g17, g18, hk.1, hk.2]
      refine ⟨?_, by rw [zi_cell (by decide)]⟩
      simp only [zi, ↓reduceIte]
      rw [if_neg (by omega)]
    · have hk := appC_keep (c := c) W (ck_u s 22 c v) (i * 16 + c') (fun e he => by omega)
      rw [hk.1, hk.2, u24, u25]
      exact ⟨rfl, rfl⟩
    · rw [bitE i c' (by omega)]
      have : ¬ c' = c := by omega
      simp [this]
  -- this clause
  have mine : ∀ i, 1 ≤ i → i < 16 → (∃ a, (i, a) ∈ W ∧ bt (appC c W (ck_u s 22 c v) 23 i) c = true ∧ appC c W (ck_u s 22 c v) 24 (i * 16 + c) = s 12 a ∧ appC c W (ck_u s 22 c v) 25 (i * 16 + c) = s 11 a ∧ r2 17 (16 * c + i) = r 4 a ∧ r2 18 (16 * c + i) = s 12 a) ∨ ((∀ a, (i, a) ∉ W) ∧ bt (appC c W (ck_u s 22 c v) 23 i) c = false ∧ r2 17 (16 * c + i) = 0) := by
    intro i hi1 hi2
    by_cases hex : ∃ a, (i, a) ∈ W
    · obtain ⟨a, ha⟩ := hex
      left
      have gC := appC_get (c := c) W (ck_u s 22 c v) i a (fun b hb => func i b a hb ha) ha
      have gR := appR_get (c := c) V (zi c 16 r) i a (fun b hb => func i b a ((memR _).mp hb) ha) ((memR _).mpr ha)
      rw [u12, u11] at gC
      rw [zi_cell (by decide), zi_cell (by decide)] at gR
      refine ⟨a, ha, ?_, gC.1, gC.2, by rw [g17]; exact gR.1, ?_⟩
      · rw [bitE i c (by omega)]
        have : W.any (fun e => decide (e.1 = i)) = true := List.any_eq_true.mpr ⟨(i, a), ha, by simp⟩
        rw [this]
        simp
      · rw [g18, gR.2]
        exact (h.2.2.2 a (spec i a ha).1.1).1.1
    · right
      have hno : ∀ a, (i, a) ∉ W := fun a ha => hex ⟨a, ha⟩
      refine ⟨hno, ?_, ?_⟩
      · rw [bitE i c (by omega), hb i c hi2 (Nat.le_refl _) (by omega)]
        have : W.any (fun e => decide (e.1 = i)) = false := by
          rw [List.any_eq_false]
          intro e he hd
          have e1 : e.1 = i := of_decide_eq_true hd
          exact hno e.2 (by rw [← e1]; exact he)
        rw [this]
        simp
      · have hk := appR_keep (c := c) V (zi c 16 r) (16 * c + i) (fun e he z => by
          have e1 : e.1 = i := by omega
          exact hno e.2 (by rw [← e1]; exact (memR _).mp he))
        rw [g17, hk.1]
        simp only [zi, ↓reduceIte]
        rw [if_pos (by omega)]
  have kindOf : ∀ i a, (i, a) ∈ W → (r 4 a = 1 ∧ s 11 a = 0) ∨ (r 4 a = 2 ∧ ∃ co, co < n ∧ s 12 a = Int32.ofNat co ∧ s 11 a = s 7 co) := by
    intro i a ha
    obtain ⟨⟨a1, a2, a3, _⟩, _⟩ := spec i a ha
    obtain ⟨_, _, _, _, _, _, p7⟩ := plain_parts h a1 a2 a3
    rcases p7 with p7 | ⟨b1, co, b2, b3, b4, _⟩
    · exact Or.inl ⟨p7.1, p7.2.1⟩
    · exact Or.inr ⟨b1, co, b2, b3, b4⟩
  refine ⟨fun i b hi hb1 hb2 => ?_, fun c' i hc' hi1 hi2 => ?_, fun c' hc' => ?_⟩
  · rw [bitE i b hb2, hb i b hi (by omega) hb2]
    have : ¬ b = c := by omega
    simp [this]
  · by_cases e : c' = c
    · subst e
      rcases mine i hi1 hi2 with ⟨a, m1, m2, m3, m4, m5, m6⟩ | ⟨m1, m2, m3⟩
      · unfold clOK
        rw [m3, m4, m5, m6]
        rcases kindOf i a m1 with ⟨k1, k2⟩ | ⟨k1, co, k2, k3, k4⟩
        · exact Or.inr (Or.inl ⟨k1, m2, rfl, k2⟩)
        · exact Or.inr (Or.inr ⟨k1, m2, rfl, co, k2, k3, by rw [u7]; exact k4⟩)
      · exact Or.inl ⟨m3, m2⟩
    · obtain ⟨o1, o2, o3⟩ := old c' (by omega)
      have := hok c' i (by omega) hi1 hi2
      unfold clOK at this ⊢
      rw [(o1 i hi2).1, (o1 i hi2).2, (o2 i).1, (o2 i).2, o3 i]
      rcases this with t | t | ⟨t1, t2, t3, co, t4, t5, t6⟩
      · exact Or.inl t
      · exact Or.inr (Or.inl t)
      · exact Or.inr (Or.inr ⟨t1, t2, t3, co, t4, t5, by rw [u7]; exact t6⟩)
  · by_cases e : c' = c
    · subst e
      have root : ∀ i, 1 ≤ i → i < 16 → ¬ r2 17 (16 * c' + i) = 0 → ∃ a, (i, a) ∈ W ∧ appC c' W (ck_u s 22 c' v) 25 (i * 16 + c') = s 11 a := by
        intro i hi1 hi2 hne
        rcases mine i hi1 hi2 with ⟨a, m1, m2, m3, m4, m5, m6⟩ | ⟨m1, m2, m3⟩
        · exact ⟨a, m1, m4⟩
        · exact absurd m3 hne
      refine ⟨fun hne => ?_, fun i hi1 hi2 => ⟨fun hne => ?_, fun hne => ?_⟩⟩
      · obtain ⟨a, m1, m2⟩ := root 1 (by omega) (by omega) hne
        rw [show 16 + c' = 1 * 16 + c' by omega, m2, u46]
        exact (spec 1 a m1).2.1 rfl
      · obtain ⟨a, m1, m2⟩ := root (2 * i) (by omega) (by omega) hne
        obtain ⟨i0, q0, co, n1, n2, n3, n4, n5⟩ := (spec (2 * i) a m1).2.2 (by omega)
        rcases n5 with ⟨n5, n6, n7⟩ | ⟨n5, n6, n7⟩
        · have ei : i0 = i := by omega
          subst ei
          rcases mine i0 hi1 (by omega) with ⟨b, b1, b2, b3, b4, b5, b6⟩ | ⟨b1, _, _⟩
          · have eb := func i0 b q0 b1 n1
            subst eb
            exact ⟨by rw [b5]; exact n2, co, n3, by rw [b6]; exact n4, by rw [m2, u8]; exact n6, by rw [u8]; exact n7⟩
          · exact absurd n1 (b1 q0)
        · omega
      · obtain ⟨a, m1, m2⟩ := root (2 * i + 1) (by omega) (by omega) hne
        obtain ⟨i0, q0, co, n1, n2, n3, n4, n5⟩ := (spec (2 * i + 1) a m1).2.2 (by omega)
        rcases n5 with ⟨n5, n6, n7⟩ | ⟨n5, n6, n7⟩
        · omega
        · have ei : i0 = i := by omega
          subst ei
          rcases mine i0 hi1 (by omega) with ⟨b, b1, b2, b3, b4, b5, b6⟩ | ⟨b1, _, _⟩
          · have eb := func i0 b q0 b1 n1
            subst eb
            exact ⟨by rw [b5]; exact n2, co, n3, by rw [b6]; exact n4, by rw [m2, u9]; exact n6, by rw [u9]; exact n7⟩
          · exact absurd n1 (b1 q0)
    · obtain ⟨o1, o2, o3⟩ := old c' (by omega)
      have := hty c' (by omega)
      unfold clTy at this ⊢
      rw [u46, (o1 1 (by omega)).1, show 16 + c' = 1 * 16 + c' by omega, (o2 1).2]
      refine ⟨by rw [show 1 * 16 + c' = 16 + c' by omega]; exact this.1, fun i hi1 hi2 => ?_⟩
      obtain ⟨t1, t2⟩ := this.2 i hi1 hi2
      rw [(o1 (2 * i) (by omega)).1, (o1 i (by omega)).1, (o1 (2 * i + 1) (by omega)).1, (o1 i (by omega)).2, (o2 (2 * i)).2, (o2 (2 * i + 1)).2]
      simp only [u8, u9]
      exact ⟨t1, t2⟩
