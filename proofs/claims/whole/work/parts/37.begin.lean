/-! begin: which types have values -/
theorem hb_or : ∀ X : Fin 64, ∀ o : Fin 6, Int32.ofNat X.val ||| ((1 : Int32) <<< (Int32.ofNat o.val &&& 31)) = Int32.ofNat (X.val ||| (1 <<< o.val)) := by decide +kernel
theorem hb_bit : ∀ X : Fin 64, ∀ a : Fin 6, (((Int32.ofNat X.val >>> (Int32.ofNat a.val &&& 31)) &&& (1 : Int32)) = 1) ↔ X.val.testBit a.val = true := by decide +kernel
theorem hb_full : ∀ t : Fin 6, (((1 : Int32) <<< ((Int32.ofNat t.val + 1) &&& 31)) - 1) = Int32.ofNat (2 ^ (t.val + 1) - 1) := by decide +kernel
def pop6 (x : Nat) : Nat := (x.testBit 0).toNat + (x.testBit 1).toNat + (x.testBit 2).toNat + (x.testBit 3).toNat + (x.testBit 4).toNat + (x.testBit 5).toNat
theorem pop6_lt : ∀ a b : Fin 64, a.val ||| b.val = b.val → a ≠ b → pop6 a.val < pop6 b.val := by decide +kernel
theorem pop6_le : ∀ t : Fin 6, ∀ b : Fin 64, b.val < 2 ^ (t.val + 1) → pop6 b.val ≤ t.val + 1 := by decide +kernel
theorem or_lt6 : ∀ t : Fin 6, ∀ X : Fin 64, ∀ o : Fin 6, X.val < 2 ^ (t.val + 1) → o.val ≤ t.val → X.val ||| (1 <<< o.val) < 2 ^ (t.val + 1) := by decide +kernel
theorem or_inf : ∀ X : Fin 64, ∀ o : Fin 6, X.val ||| (X.val ||| (1 <<< o.val)) = X.val ||| (1 <<< o.val) := by decide +kernel
theorem full_or : ∀ t : Fin 6, ∀ X : Fin 64, X.val < 2 ^ (t.val + 1) → (2 ^ (t.val + 1) - 1) ||| X.val = X.val → X.val = 2 ^ (t.val + 1) - 1 := by decide +kernel
def argin (x : Int32) (X : Nat) : Bool := decide (x = -1) || X.testBit x.toNatClampNeg
def gD (st : ck_S) (c X : Nat) : Nat := if (argin (st 8 c) X && argin (st 9 c) X) = true then X ||| (1 <<< (st 7 c).toNatClampNeg) else X
def FD (st : ck_S) : Nat → Nat → Nat
  | 0, X => X
  | n + 1, X => gD st n (FD st n X)
def itD (st : ck_S) (n : Nat) : Nat → Nat
  | 0 => 1
  | k + 1 => FD st n (itD st n k)
section HB
variable {t n : Nat} {st rt : ck_S}
theorem own_le (h : rD t n st rt) {c : Nat} (hc : c < n) : (st 7 c).toNatClampNeg ≤ t ∧ st 7 c = Int32.ofNat (st 7 c).toNatClampNeg := by
  obtain ⟨h1, h2, h3, h4, h5, h6, h7, h8, h9⟩ := h
  obtain ⟨⟨o, o1, o2, o3⟩, _⟩ := h8 c hc
  rw [o3, ln_at (by omega)]
  exact ⟨o2, rfl⟩
theorem pow64 (ht : t ≤ 5) : 2 ^ (t + 1) ≤ 64 := by
  have : 2 ^ (t + 1) ≤ 2 ^ 6 := Nat.pow_le_pow_right (by omega) (by omega)
  exact this
theorem gD_lt (h : rD t n st rt) {c X : Nat} (hc : c < n) (hX : X < 2 ^ (t + 1)) : gD st c X < 2 ^ (t + 1) := by
  have ht := h.1
  have := pow64 ht
  have ho := own_le h hc
  unfold gD
  split
  · exact or_lt6 ⟨t, by omega⟩ ⟨X, by omega⟩ ⟨(st 7 c).toNatClampNeg, by omega⟩ hX ho.1
  · exact hX
theorem gD_inf (h : rD t n st rt) {c X : Nat} (hc : c < n) (hX : X < 2 ^ (t + 1)) : X ||| gD st c X = gD st c X := by
  have ht := h.1
  have := pow64 ht
  have ho := own_le h hc
  unfold gD
  split
  · exact or_inf ⟨X, by omega⟩ ⟨(st 7 c).toNatClampNeg, by omega⟩
  · exact Nat.or_self X
theorem FD_lt (h : rD t n st rt) {X : Nat} (hX : X < 2 ^ (t + 1)) : ∀ k, k ≤ n → FD st k X < 2 ^ (t + 1)
  | 0, _ => hX
  | k + 1, hk => gD_lt h (by omega) (FD_lt h hX k (by omega))
theorem FD_inf (h : rD t n st rt) {X : Nat} (hX : X < 2 ^ (t + 1)) : ∀ k, k ≤ n → X ||| FD st k X = FD st k X
  | 0, _ => Nat.or_self X
  | k + 1, hk => by
    have h1 := FD_inf h hX k (by omega)
    have h2 := gD_inf (c := k) h (by omega) (FD_lt h hX k (by omega))
    show X ||| gD st k (FD st k X) = gD st k (FD st k X)
    rw [← h2, ← Nat.or_assoc, h1]
theorem itD_lt (h : rD t n st rt) : ∀ k, itD st n k < 2 ^ (t + 1)
  | 0 => Nat.one_lt_two_pow (by omega)
  | k + 1 => FD_lt h (itD_lt h k) n (Nat.le_refl _)
theorem itD_stop (h : rD t n st rt) {k : Nat} (he : itD st n (k + 1) = itD st n k) : ∀ j, itD st n (k + j) = itD st n k
  | 0 => rfl
  | j + 1 => by
    show FD st n (itD st n (k + j)) = itD st n k
    rw [itD_stop h he j]
    exact he
theorem itD_t (h : rD t n st rt) : itD st n (t + 1) = itD st n t := by
  have ht := h.1
  have hp := pow64 ht
  by_cases he : itD st n (t + 1) = itD st n t
  · exact he
  · exfalso
    have key : ∀ k, k ≤ t + 1 → k + 1 ≤ pop6 (itD st n k) := by
      intro k
      induction k with
      | zero => intro _; show 1 ≤ pop6 1; decide
      | succ k ih =>
        intro hk
        have h1 := ih (by omega)
        have hne : itD st n k ≠ itD st n (k + 1) := fun e => he (by
          have s1 := itD_stop h e.symm (t - k)
          have s2 := itD_stop h e.symm (t + 1 - k)
          rw [show k + (t - k) = t by omega] at s1
          rw [show k + (t + 1 - k) = t + 1 by omega] at s2
          rw [s1, s2])
        have l1 := itD_lt h k
        have l2 := itD_lt h (k + 1)
        have := pop6_lt ⟨itD st n k, by omega⟩ ⟨itD st n (k + 1), by omega⟩ (FD_inf h l1 n (Nat.le_refl _)) (fun e => hne (Fin.mk.inj e))
        simp only at this
        omega
    have h1 := key (t + 1) (Nat.le_refl _)
    have l1 := itD_lt h (t + 1)
    have := pop6_le ⟨t, by omega⟩ ⟨itD st n (t + 1), by omega⟩ l1
    simp only at this
    omega
theorem itD_5 (h : rD t n st rt) : itD st n 5 = itD st n t := by
  have := itD_stop h (itD_t h) (5 - t)
  rwa [show t + (5 - t) = 5 by have := h.1; omega] at this
/-- a test of an argument's type, on both sides -/
theorem arg_C (h : rD t n st rt) {X : Nat} (hX : X < 64) {x : Int32} (hx : x = -1 ∨ ∃ a, a ≤ t ∧ x = Int32.ofNat a) (s : ck_S) : fD_canBeGiven x (Int32.ofNat X) s = some (if argin x X = true then 1 else 0, s) := by
  have ht := h.1
  unfold fD_canBeGiven argin
  rcases hx with rfl | ⟨a, a1, rfl⟩
  · simp
  · have e := hb_bit ⟨X, hX⟩ ⟨a, by omega⟩
    simp only at e
    rw [if_neg (ln_m1 (by omega)), ln_at (by omega)]
    by_cases z : X.testBit a = true
    · rw [if_pos (e.mpr z)]
      simp [z]
    · rw [if_neg (mt e.mp z)]
      have z2 : X.testBit a = false := by simpa using z
      have z3 : decide (Int32.ofNat a = -1) = false := decide_eq_false (ln_m1 (by omega))
      rw [z2, z3]
      rfl
theorem with_ev (h : rD t n st rt) {X : Nat} (hX : X < 2 ^ (t + 1)) : fD_withTypesBuiltFrom (Int32.ofNat X) st = some (Int32.ofNat (FD st n X), st) := by
  have h' := h
  obtain ⟨h1, h2, h3, h4, h5, h6, h7, h8, h9⟩ := h'
  have hp := pow64 h1
  have key : ∀ (d m k : Nat), k + d = n → d < m → fD_withTypesBuiltFrom_l4 m (Int32.ofNat (FD st k X)) (Int32.ofNat k) st = some (Int32.ofNat (FD st n X), st) := by
    intro d
    induction d with
    | zero =>
      intro m k hk hm
      obtain ⟨m, rfl⟩ : ∃ q, m = q + 1 := ⟨m - 1, by omega⟩
      rw [fD_withTypesBuiltFrom_l4, h5, if_pos ((ln_le (by omega) (by omega)).mpr (by omega))]
      rw [show k = n by omega]
    | succ d ih =>
      intro m k hk hm
      obtain ⟨m, rfl⟩ : ∃ q, m = q + 1 := ⟨m - 1, by omega⟩
      have hkn : k < n := by omega
      obtain ⟨_, wa, wb, _⟩ := h8 k hkn
      have hl := FD_lt h hX k (by omega)
      have ho := own_le h hkn
      have hi := ih m (k + 1) (by omega) (by omega)
      have hg : FD st (k + 1) X = gD st k (FD st k X) := rfl
      rw [hg] at hi
      unfold gD at hi
      rw [fD_withTypesBuiltFrom_l4, h5, if_neg (mt (ln_le (by omega) (by omega)).mp (by omega))]
      simp (disch := omega) only [ck_gd_ok, ln_at, arg_C h (X := FD st k X) (by omega) wa, arg_C h (X := FD st k X) (by omega) wb, ck_b_some, ln_addL]
      cases b1 : argin (st 8 k) (FD st k X) with
      | false =>
        simp only [b1, Bool.false_and] at hi
        simpa [b1] using hi
      | true =>
        cases b2 : argin (st 9 k) (FD st k X) with
        | false =>
          simp only [b1, b2, Bool.true_and] at hi
          simpa [b1, b2] using hi
        | true =>
          simp only [b1, b2, Bool.true_and, ↓reduceIte] at hi
          have e := hb_or ⟨FD st k X, by omega⟩ ⟨(st 7 k).toNatClampNeg, by omega⟩
          simp only at e
          rw [← ho.2] at e
          rw [← e] at hi
          simpa [b1, b2] using hi
  exact key n 4096 0 (by omega) (by omega)
theorem every_ev (h : rD t n st rt) : fD_everyTypeHasValues st = some (if itD st n t = 2 ^ (t + 1) - 1 then 1 else 0, st) := by
  have h' := h
  obtain ⟨h1, h2, h3, h4, h5, h6, h7, h8, h9⟩ := h'
  have hp := pow64 h1
  have key : ∀ (K : Int32 → ck_S → Option (Int32 × ck_S)) (d m k : Nat), k + d = t → d < m → fD_everyTypeHasValues_l4 K m (Int32.ofNat (itD st n k)) (Int32.ofNat k) st = K (Int32.ofNat (itD st n t)) st := by
    intro K d
    induction d with
    | zero =>
      intro m k hk hm
      obtain ⟨m, rfl⟩ : ∃ q, m = q + 1 := ⟨m - 1, by omega⟩
      rw [fD_everyTypeHasValues_l4, h3, if_pos ((ln_le (by omega) (by omega)).mpr (by omega))]
      rw [show k = t by omega]
    | succ d ih =>
      intro m k hk hm
      obtain ⟨m, rfl⟩ : ∃ q, m = q + 1 := ⟨m - 1, by omega⟩
      rw [fD_everyTypeHasValues_l4, h3, if_neg (mt (ln_le (by omega) (by omega)).mp (by omega)), with_ev h (itD_lt h k), ck_b_some]
      have hi := ih m (k + 1) (by omega) (by omega)
      rw [show Int32.ofNat k + 1 = Int32.ofNat (k + 1) from ln_addL k 1]
      exact hi
  unfold fD_everyTypeHasValues
  have hk := key (fun x1 st => fD_everyTypeHasValues_b24 x1 st) t 4096 0 (by omega) (by omega)
  rw [show ((0 : Int32)) = Int32.ofNat 0 from rfl, show ((1 : Int32)) = Int32.ofNat (itD st n 0) from rfl, hk]
  unfold fD_everyTypeHasValues_b24
  have e := hb_full ⟨t, by omega⟩
  simp only at e
  have hl := itD_lt h t
  rw [h3]
  show (if Int32.ofNat (itD st n t) = ((1 : Int32) <<< ((Int32.ofNat t + 1) &&& 31)) - 1 then _ else _) = _
  rw [e]
  by_cases z : itD st n t = 2 ^ (t + 1) - 1
  · rw [if_pos ((ln_eq (by omega) (by omega)).mpr z), if_pos z]; rfl
  · rw [if_neg (mt (ln_eq (by omega) (by omega)).mp z), if_neg z]; rfl
theorem inh_step (h : rD t n st rt) {X k : Nat} (hX : X < 2 ^ (t + 1)) (hk : k < n) (K1 : Int32 → Int32 → Int32 → ck_S → Option (Int32 × ck_S)) (K2 : Int32 → Int32 → ck_S → Option (Int32 × ck_S)) (x2 : Int32) :
    (ck_gd (Int32.ofNat k) 12 (if rt 2 (Int32.ofNat k).toNatClampNeg < 0 then fR_inhabited_b47 K1 K2 1 (Int32.ofNat X) x2 (Int32.ofNat k) rt else ck_gd (Int32.ofNat k) 12 (if ((Int32.ofNat X >>> (rt 2 (Int32.ofNat k).toNatClampNeg &&& 31)) &&& 1) = 1 then fR_inhabited_b47 K1 K2 1 (Int32.ofNat X) x2 (Int32.ofNat k) rt else fR_inhabited_b47 K1 K2 0 (Int32.ofNat X) x2 (Int32.ofNat k) rt))) = K1 (Int32.ofNat (gD st k X)) x2 (Int32.ofNat (k + 1)) rt := by
  have h' := h
  obtain ⟨h1, h2, h3, h4, h5, h6, h7, h8, h9⟩ := h'
  have hp := pow64 h1
  obtain ⟨r1, r2, r3⟩ := h7 k hk
  obtain ⟨_, wa, wb, _⟩ := h8 k hk
  have ho := own_le h hk
  have hor := hb_or ⟨X, by omega⟩ ⟨(st 7 k).toNatClampNeg, by omega⟩
  simp only at hor
  rw [← ho.2] at hor
  have h77 : ∀ y0 x4 : Bool, fR_inhabited_b77 K1 K2 (if y0 then 1 else 0) (Int32.ofNat X) x2 (Int32.ofNat k) (if x4 then 1 else 0) rt = K1 (Int32.ofNat (if (x4 && y0) = true then X ||| (1 <<< (st 7 k).toNatClampNeg) else X)) x2 (Int32.ofNat (k + 1)) rt := by
    intro y0 x4
    unfold fR_inhabited_b77
    rw [show Int32.ofNat k + 1 = Int32.ofNat (k + 1) from ln_addL k 1]
    cases x4 <;> cases y0 <;> simp (disch := omega) only [ln_10, ↓reduceIte, ck_gd_ok, ln_at, r1, Bool.false_and, Bool.true_and, Bool.and_false, Bool.false_eq_true, hor, Bool.and_self]
  have bitE : ∀ a, a ≤ t → ((((Int32.ofNat X >>> (Int32.ofNat a &&& 31)) &&& (1 : Int32)) = 1) ↔ X.testBit a = true) := fun a ha => hb_bit ⟨X, by omega⟩ ⟨a, by omega⟩
  have h47 : ∀ y0 : Bool, fR_inhabited_b47 K1 K2 (if y0 then 1 else 0) (Int32.ofNat X) x2 (Int32.ofNat k) rt = K1 (Int32.ofNat (if (y0 && argin (st 9 k) X) = true then X ||| (1 <<< (st 7 k).toNatClampNeg) else X)) x2 (Int32.ofNat (k + 1)) rt := by
    intro y0
    unfold fR_inhabited_b47
    simp (disch := omega) only [ck_gd_ok, ln_at, r3]
    rcases wb with wb | ⟨a, a1, a2⟩
    · rw [wb, if_pos ln_m1', show argin (-1) X = true by simp [argin]]
      exact h77 true y0
    · rw [a2, if_neg (ln_lt0 (by omega))]
      have ea : argin (Int32.ofNat a) X = X.testBit a := by
        unfold argin
        rw [ln_at (by omega), decide_eq_false (ln_m1 (by omega)), Bool.false_or]
      rw [ea]
      cases z : X.testBit a with
      | true => rw [if_pos ((bitE a a1).mpr z)]; exact h77 true y0
      | false => rw [if_neg (fun q => by rw [(bitE a a1).mp q] at z; cases z)]; exact h77 false y0
  simp (disch := omega) only [ck_gd_ok, ln_at, r2]
  unfold gD
  rcases wa with wa | ⟨a, a1, a2⟩
  · rw [wa, if_pos ln_m1', show argin (-1) X = true by simp [argin]]
    exact h47 true
  · rw [a2, if_neg (ln_lt0 (by omega))]
    have ea : argin (Int32.ofNat a) X = X.testBit a := by
      unfold argin
      rw [ln_at (by omega), decide_eq_false (ln_m1 (by omega)), Bool.false_or]
    rw [ea]
    cases z : X.testBit a with
    | true => rw [if_pos ((bitE a a1).mpr z)]; exact h47 true
    | false => rw [if_neg (fun q => by rw [(bitE a a1).mp q] at z; cases z)]; exact h47 false
theorem inh_round (h : rD t n st rt) {X : Nat} (hX : X < 2 ^ (t + 1)) (K : Int32 → Int32 → ck_S → Option (Int32 × ck_S)) (x2 : Int32) : fR_inhabited_l11 K 4096 (Int32.ofNat X) x2 0 rt = K (Int32.ofNat (FD st n X)) x2 rt := by
  have h' := h
  obtain ⟨h1, h2, h3, h4, h5, h6, h7, h8, h9⟩ := h'
  have key : ∀ (d m k : Nat), k + d = n → d < m → fR_inhabited_l11 K m (Int32.ofNat (FD st k X)) x2 (Int32.ofNat k) rt = K (Int32.ofNat (FD st n X)) x2 rt := by
    intro d
    induction d with
    | zero =>
      intro m k hk hm
      obtain ⟨m, rfl⟩ : ∃ q, m = q + 1 := ⟨m - 1, by omega⟩
      rw [fR_inhabited_l11, h6, if_pos ((ln_le (by omega) (by omega)).mpr (by omega))]
      rw [show k = n by omega]
    | succ d ih =>
      intro m k hk hm
      obtain ⟨m, rfl⟩ : ∃ q, m = q + 1 := ⟨m - 1, by omega⟩
      have hi := ih m (k + 1) (by omega) (by omega)
      rw [fR_inhabited_l11, h6, if_neg (mt (ln_le (by omega) (by omega)).mp (by omega)), inh_step h (FD_lt h hX k (by omega)) (by omega)]
      exact hi
  exact key n 4096 0 (by omega) (by omega)
theorem inh_ev (h : rD t n st rt) : fR_inhabited rt = some (if itD st n t = 2 ^ (t + 1) - 1 then 1 else 0, rt) := by
  have h' := h
  obtain ⟨h1, h2, h3, h4, h5, h6, h7, h8, h9⟩ := h'
  have hp := pow64 h1
  have key : ∀ (K : Int32 → ck_S → Option (Int32 × ck_S)) (d m k : Nat), k + d = 5 → d < m → fR_inhabited_l4 K m (Int32.ofNat (itD st n k)) (Int32.ofNat k) rt = K (Int32.ofNat (itD st n 5)) rt := by
    intro K d
    induction d with
    | zero =>
      intro m k hk hm
      obtain ⟨m, rfl⟩ : ∃ q, m = q + 1 := ⟨m - 1, by omega⟩
      rw [show k = 5 by omega, fR_inhabited_l4, if_pos (by decide)]
    | succ d ih =>
      intro m k hk hm
      obtain ⟨m, rfl⟩ : ∃ q, m = q + 1 := ⟨m - 1, by omega⟩
      rw [fR_inhabited_l4, if_neg (fun z => by have := (ln_le (a := 5) (by omega) (by omega)).mp z; omega), inh_round h (itD_lt h k)]
      have hi := ih m (k + 1) (by omega) (by omega)
      unfold fR_inhabited_b110
      rw [show Int32.ofNat k + 1 = Int32.ofNat (k + 1) from ln_addL k 1]
      exact hi
  unfold fR_inhabited
  have hk := key (fun x1 st => fR_inhabited_b116 x1 st) 5 4096 0 (by omega) (by omega)
  rw [show ((0 : Int32)) = Int32.ofNat 0 from rfl, show ((1 : Int32)) = Int32.ofNat (itD st n 0) from rfl, hk, itD_5 h]
  unfold fR_inhabited_b116
  have e := hb_full ⟨t, by omega⟩
  simp only at e
  have hl := itD_lt h t
  rw [h4]
  show (if Int32.ofNat (itD st n t) = ((1 : Int32) <<< ((Int32.ofNat t + 1) &&& 31)) - 1 then _ else _) = _
  rw [e]
  by_cases z : itD st n t = 2 ^ (t + 1) - 1
  · rw [if_pos ((ln_eq (by omega) (by omega)).mpr z), if_pos z]; rfl
  · rw [if_neg (mt (ln_eq (by omega) (by omega)).mp z), if_neg z]; rfl
/-- begin: both refuse alike, or both begin -/
theorem begin_D (h : rD t n st rt) (hO : rO t st rt) (x : Int32) : (∃ y, fC_begin x st = some (y, st) ∧ fR_begin x rt = some (y, rt)) ∨ (st 4 6 = -1 ∧ (∃ a, a ≤ t ∧ x = Int32.ofNat a) ∧ fC_begin x st = some (0, ck_u st 4 6 x) ∧ fR_begin x rt = some (0, ck_u rt 0 18 x)) := by
  obtain ⟨o1, o2⟩ := hO
  unfold fC_begin fR_begin fM_beginOver
  rcases o2 with o2 | ⟨o, ho, o2⟩
  · rcases isType_ev h x with ⟨a, a1, a2, a3, a4⟩ | ⟨a3, a4⟩
    · by_cases z : itD st n t = 2 ^ (t + 1) - 1
      · refine Or.inr ⟨o2, ⟨a, a1, a2⟩, ?_, ?_⟩ <;> simp only [isBegun_ev, ck_b_some, ck_bv_some, o1, o2, ↓reduceIte, a3, a4, ln_10, ln_m1', every_ev h, inh_ev h, z]
      · refine Or.inl ⟨-11, ?_, ?_⟩ <;> simp only [isBegun_ev, ck_b_some, ck_bv_some, o1, o2, ↓reduceIte, a3, a4, ln_10, ln_m1', every_ev h, inh_ev h, z]
    · refine Or.inl ⟨-3, ?_, ?_⟩ <;> simp only [isBegun_ev, ck_b_some, o1, o2, ↓reduceIte, a3, a4, ln_m1']
  · have := h.1
    refine Or.inl ⟨-2, ?_, ?_⟩ <;> simp (disch := omega) only [isBegun_ev, ck_b_some, o1, o2, ↓reduceIte, ln_m1, ln_lt0, ln_10]
end HB
