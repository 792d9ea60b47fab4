/-! patterns -/
theorem ln_m1lt {a : Nat} (ha : a < 2147483648) : ¬ (Int32.ofNat a < -1) := fun h => ln_lt0 ha (Int32.lt_trans h (by decide))
theorem ln_00 : ((0 : Int32) = 0) = True := by simp
theorem ln_11 : ((1 : Int32) = 1) = True := by simp
theorem ck_bid (o : Option (Int32 × ck_S)) : (ck_b o fun v st => some (v, st)) = o := by cases o <;> rfl
theorem pat_cases {n p : Nat} {st rt : ck_S} (h : rP n p st rt) (x : Int32) : (∃ i, i < p ∧ x = Int32.ofNat i ∧ fP_has x st = some (1, st) ∧ fR_isPattern x rt = some (1, rt)) ∨ (fP_has x st = some (0, st) ∧ fR_isPattern x rt = some (0, rt) ∧ ∀ i, i < p → ¬ x = Int32.ofNat i) := by
  obtain ⟨h1, h2, h3, h4⟩ := h
  unfold fP_has fR_isPattern
  rcases ln_cases x p (by omega) with ⟨i, hi, rfl⟩ | hx | ⟨hx, hx2⟩
  · left
    refine ⟨i, hi, rfl, ?_, ?_⟩ <;> simp (disch := omega) only [h2, h3, ln_lt0, ln_le, Nat.not_le.mpr hi, ↓reduceIte]
  · right
    refine ⟨?_, ?_, fun i hi e => ln_lt0 (a := i) (by omega) (by rw [← e]; exact hx)⟩ <;> simp only [hx, ↓reduceIte]
  · right
    refine ⟨?_, ?_, fun i hi e => ?_⟩
    · simp only [h2, hx, hx2, ↓reduceIte]
    · simp only [h3, hx, hx2, ↓reduceIte]
    · rw [e] at hx2
      have := (ln_le (by omega) (by omega)).mp hx2
      omega
def padd (p : Nat) (b ty sy : Int32) (st : ck_S) : ck_S := ck_u (ck_u (ck_u (ck_u (ck_u (ck_u (ck_u (ck_u st 2 7 (Int32.ofNat (p + 1))) 10 p (vp_nar .boolean b)) 11 p ty) 12 p sy) 13 p (-1)) 14 p (-1)) 15 p 1) 16 p 1
def ppar (p : Nat) (l r d k : Int32) (st : ck_S) : ck_S := ck_u (ck_u (ck_u (ck_u st 13 p l) 14 p r) 15 p d) 16 p k
def radd (p : Nat) (x1 x2 x3 x4 x5 x6 x7 : Int32) (st : ck_S) : ck_S := ck_u (ck_u (ck_u (ck_u (ck_u (ck_u (ck_u (ck_u st 4 p x1) 5 p x2) 6 p x3) 7 p x4) 8 p x5) 9 p x6) 10 p x7) 0 5 (Int32.ofNat (p + 1))
theorem padd_ev {n p : Nat} {st rt : ck_S} (h : rP n p st rt) (b ty sy : Int32) : (p < 60 → fP_add b ty sy st = some (Int32.ofNat p, padd p b ty sy st)) ∧ (¬ p < 60 → fP_add b ty sy st = some (-8, st)) := by
  obtain ⟨h1, h2, h3, h4⟩ := h
  unfold fP_add fP_withParts fP_has
  constructor
  · intro hp
    simp (disch := omega) only [h2, ln_ltL, hp, ↓reduceIte, ck_gd_ok, ln_at, ln_addL, ck_u_ne, ck_u_eq, ln_lt0, ln_le, ck_b_some, ln_10, padd, Nat.not_succ_le_self, Nat.not_lt_zero]
  · intro hp
    simp (disch := omega) only [h2, ln_ltL, hp, ↓reduceIte]
theorem ppar_ev {p : Nat} {s : ck_S} (hp : p < 60) (h : s 2 7 = Int32.ofNat (p + 1)) (l r d k : Int32) : fP_withParts (Int32.ofNat p) l r d k s = some (Int32.ofNat p, ppar p l r d k s) := by
  unfold fP_withParts fP_has
  simp (disch := omega) only [h, ↓reduceIte, ck_gd_ok, ln_at, ln_lt0, ln_le, ck_b_some, ln_10, ppar, Nat.not_succ_le_self, Nat.not_lt_zero]
theorem ppar_full {n p : Nat} {st rt : ck_S} (h : rP n p st rt) (l r d k : Int32) : fP_withParts (-8) l r d k st = some (-8, st) := by
  unfold fP_withParts fP_has
  simp only [show ((-8 : Int32) < 0) by decide, ↓reduceIte, ck_b_some]
theorem padd_27 {p : Nat} {b ty sy : Int32} {st : ck_S} : padd p b ty sy st 2 7 = Int32.ofNat (p + 1) := by simp [padd, ck_u, upd]
theorem radd_ev {n p : Nat} {st rt : ck_S} (h : rP n p st rt) (hp : p < 60) (x1 x2 x3 x4 x5 x6 x7 : Int32) : fR_pattern x1 x2 x3 x4 x5 x6 x7 rt = some (Int32.ofNat p, radd p x1 x2 x3 x4 x5 x6 x7 rt) := by
  obtain ⟨h1, h2, h3, h4⟩ := h
  unfold fR_pattern
  simp (disch := omega) only [h3, ck_gd_ok, ln_at, ln_addL, ln_subL, radd, Nat.add_sub_cancel]
/-- a pattern more -/
theorem add_rP {n p : Nat} {st rt : ck_S} {b ty sy l r d k x1 : Int32} (h : rP n p st rt) (hp : p < 60) (w : pOK n (ppar p l r d k (padd p b ty sy st)) (radd p x1 sy l r ty d k rt) p) : rP n (p + 1) (ppar p l r d k (padd p b ty sy st)) (radd p x1 sy l r ty d k rt) := by
  obtain ⟨h1, h2, h3, h4⟩ := h
  refine ⟨by omega, by simp [ppar, padd, ck_u, upd], by simp [radd, ck_u, upd], fun i hi => ?_⟩
  by_cases e : i = p
  · subst e
    exact w
  · have hlt : ∀ z, z ≤ i → ¬ z = p := fun z hz => by omega
    refine pOK_frame (by omega) (h4 i (by omega)) (Nat.le_refl _) ?_ ?_ ?_ ?_ ?_ ?_ ?_ (fun c _ => ⟨?_, ?_, ?_⟩) (fun q q1 q2 z hz => ?_)
    · intro z hz; simp [ppar, padd, ck_u, upd, hlt z hz]
    · intro z hz; simp [ppar, padd, ck_u, upd, hlt z hz]
    · intro z hz; simp [ppar, padd, ck_u, upd, hlt z hz]
    · intro z hz; simp [ppar, padd, ck_u, upd, hlt z hz]
    · intro z hz; simp [ppar, padd, ck_u, upd, hlt z hz]
    · intro z hz; simp [ppar, padd, ck_u, upd, hlt z hz]
    · intro z hz; simp [ppar, padd, ck_u, upd, hlt z hz]
    · simp [ppar, padd, ck_u, upd]
    · simp [ppar, padd, ck_u, upd]
    · simp [ppar, padd, ck_u, upd]
    · have hz := hlt z hz
      match q, q1, q2 with
      | 4, _, _ => simp [radd, ck_u, upd, hz]
      | 5, _, _ => simp [radd, ck_u, upd, hz]
      | 6, _, _ => simp [radd, ck_u, upd, hz]
      | 7, _, _ => simp [radd, ck_u, upd, hz]
      | 8, _, _ => simp [radd, ck_u, upd, hz]
      | 9, _, _ => simp [radd, ck_u, upd, hz]
      | 10, _, _ => simp [radd, ck_u, upd, hz]
/-- what a new pattern changes: these cells alone -/
def touchP (st s2 rt r2 : ck_S) : Prop := (∀ q, q ≠ 2 → (q < 10 ∨ 16 < q) → s2 q = st q) ∧ (∀ q, 10 < q → r2 q = rt q) ∧ (∀ q, 1 ≤ q → q < 4 → r2 q = rt q) ∧ (∀ j, j ≠ 5 → r2 0 j = rt 0 j)
theorem touchP_rf {st rt : ck_S} : touchP st st rt rt := ⟨fun _ _ _ => rfl, fun _ _ => rfl, fun _ _ _ => rfl, fun _ _ => rfl⟩
theorem add_touch {p : Nat} {st rt : ck_S} {b ty sy l r d k x1 x2 x3 x4 x5 x6 x7 : Int32} : touchP st (ppar p l r d k (padd p b ty sy st)) rt (radd p x1 x2 x3 x4 x5 x6 x7 rt) := by
  refine ⟨fun q h2 h => ?_, fun q h => ?_, fun q h1 h2 => ?_, fun j hj => ?_⟩
  · have a10 : ¬ q = 10 := by omega
    have a11 : ¬ q = 11 := by omega
    have a12 : ¬ q = 12 := by omega
    have a13 : ¬ q = 13 := by omega
    have a14 : ¬ q = 14 := by omega
    have a15 : ¬ q = 15 := by omega
    have a16 : ¬ q = 16 := by omega
    simp [ppar, padd, ck_u, h2, a10, a11, a12, a13, a14, a15, a16]
  · have a0 : ¬ q = 0 := by omega
    have a4 : ¬ q = 4 := by omega
    have a5 : ¬ q = 5 := by omega
    have a6 : ¬ q = 6 := by omega
    have a7 : ¬ q = 7 := by omega
    have a8 : ¬ q = 8 := by omega
    have a9 : ¬ q = 9 := by omega
    have a10 : ¬ q = 10 := by omega
    simp [radd, ck_u, a0, a4, a5, a6, a7, a8, a9, a10]
  · have a0 : ¬ q = 0 := by omega
    have a4 : ¬ q = 4 := by omega
    have a5 : ¬ q = 5 := by omega
    have a6 : ¬ q = 6 := by omega
    have a7 : ¬ q = 7 := by omega
    have a8 : ¬ q = 8 := by omega
    have a9 : ¬ q = 9 := by omega
    have a10 : ¬ q = 10 := by omega
    simp [radd, ck_u, a0, a4, a5, a6, a7, a8, a9, a10]
  · simp [radd, ck_u, upd, hj]
/-- both sides answer alike, and the patterns are related behind it -/
def simP (n p : Nat) (st rt : ck_S) (fc fr : Option (Int32 × ck_S)) : Prop := ∃ (x : Int32) (p2 : Nat) (s2 r2 : ck_S), fc = some (x, s2) ∧ fr = some (x, r2) ∧ rP n p2 s2 r2 ∧ touchP st s2 rt r2
theorem simP_no {n p : Nat} {st rt : ck_S} {fc fr : Option (Int32 × ck_S)} {x : Int32} (h : rP n p st rt) (h1 : fc = some (x, st)) (h2 : fr = some (x, rt)) : simP n p st rt fc fr := ⟨x, p, st, rt, h1, h2, h, touchP_rf⟩
theorem padd_ppar {p : Nat} {b ty sy : Int32} {st : ck_S} : ppar p (-1) (-1) 1 1 (padd p b ty sy st) = padd p b ty sy st := by
  funext q j
  simp only [ppar, padd, ck_u, upd]
  by_cases h16 : q = 16
  · subst h16; by_cases hj : j = p <;> simp [upd, hj]
  · by_cases h15 : q = 15
    · subst h15; by_cases hj : j = p <;> simp [upd, hj]
    · by_cases h14 : q = 14
      · subst h14; by_cases hj : j = p <;> simp [upd, hj]
      · by_cases h13 : q = 13
        · subst h13; by_cases hj : j = p <;> simp [upd, hj]
        · simp [h13, h14, h15, h16]
theorem any_P {n p : Nat} {st rt : ck_S} (h : rP n p st rt) : simP n p st rt (fC_any st) (fR_any rt) := by
  have h' := h
  obtain ⟨h1, h2, h3, h4⟩ := h'
  unfold fC_any fP_addAny fR_any
  rw [ck_bid, ck_bid]
  by_cases hp : p < 60
  · have hp2 : ¬ p = 60 := by omega
    refine ⟨_, p + 1, _, radd p 0 0 (-1) (-1) (-1) 1 1 rt, (padd_ev h _ _ _).1 hp, ?_, ?_, ?_⟩
    · simp (disch := omega) only [h3, ln_eqL, hp2, ↓reduceIte, radd_ev h hp, ck_b_some]
    · rw [← padd_ppar]
      refine add_rP h hp ⟨?_, ?_, ?_, ?_, Or.inl ?_⟩
      · simp [ppar, padd, radd, ck_u, upd]
      · simp [ppar, padd, radd, ck_u, upd]
      · exact ⟨1, by omega, by omega, by simp [ppar, padd, radd, ck_u, upd]⟩
      · exact ⟨1, by omega, by omega, by simp [ppar, padd, radd, ck_u, upd]⟩
      · simp [pAny, ppar, padd, radd, ck_u, upd, vp_z0]
    · rw [← padd_ppar]
      exact add_touch
  · have hp2 : p = 60 := by omega
    refine simP_no h ((padd_ev h _ _ _).2 hp) ?_
    simp (disch := omega) only [h3, ln_eqL, hp2, ↓reduceIte]
theorem number_P {n p : Nat} {st rt : ck_S} (h : rP n p st rt) (x : Int32) : simP n p st rt (fC_number x st) (fR_number x rt) := by
  have h' := h
  obtain ⟨h1, h2, h3, h4⟩ := h'
  unfold fC_number fP_addNumber fR_number
  rw [ck_bid, ck_bid]
  by_cases hp : p < 60
  · have hp2 : ¬ p = 60 := by omega
    refine ⟨_, p + 1, _, radd p 1 x (-1) (-1) 0 1 1 rt, (padd_ev h _ _ _).1 hp, ?_, ?_, ?_⟩
    · simp (disch := omega) only [h3, ln_eqL, hp2, ↓reduceIte, radd_ev h hp, ck_b_some]
    · rw [← padd_ppar]
      refine add_rP h hp ⟨?_, ?_, ?_, ?_, Or.inr (Or.inl ?_)⟩
      · simp [ppar, padd, radd, ck_u, upd]
      · exact Or.inr ⟨0, by omega, by simp [ppar, padd, radd, ck_u, upd]⟩
      · exact ⟨1, by omega, by omega, by simp [ppar, padd, radd, ck_u, upd]⟩
      · exact ⟨1, by omega, by omega, by simp [ppar, padd, radd, ck_u, upd]⟩
      · simp [pNum, ppar, padd, radd, ck_u, upd, vp_z0]
    · rw [← padd_ppar]
      exact add_touch
  · have hp2 : p = 60 := by omega
    refine simP_no h ((padd_ev h _ _ _).2 hp) ?_
    simp (disch := omega) only [h3, ln_eqL, hp2, ↓reduceIte]
