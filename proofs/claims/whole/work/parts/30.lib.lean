/-! numbers: ints that are small naturals -/
theorem ln_lt {a b : Nat} (ha : a < 2147483648) (hb : b < 2147483648) : (Int32.ofNat a < Int32.ofNat b) ↔ a < b := Int32.ofNat_lt_iff_lt ha hb
theorem ln_le {a b : Nat} (ha : a < 2147483648) (hb : b < 2147483648) : (Int32.ofNat a ≤ Int32.ofNat b) ↔ a ≤ b := Int32.ofNat_le_iff_le ha hb
theorem ln_eq {a b : Nat} (ha : a < 2147483648) (hb : b < 2147483648) : (Int32.ofNat a = Int32.ofNat b) ↔ a = b := by
  refine ⟨fun h => ?_, fun h => by rw [h]⟩
  have h2 := congrArg Int32.toNatClampNeg h
  rwa [Int32.toNatClampNeg_ofNat_of_lt ha, Int32.toNatClampNeg_ofNat_of_lt hb] at h2
theorem ln_ltL {a b : Nat} (ha : a < 2147483648) (hb : (OfNat.ofNat b : Nat) < 2147483648) : (Int32.ofNat a < (no_index (OfNat.ofNat b : Int32))) ↔ a < (OfNat.ofNat b : Nat) := ln_lt ha hb
theorem ln_leL {a b : Nat} (ha : a < 2147483648) (hb : (OfNat.ofNat b : Nat) < 2147483648) : (Int32.ofNat a ≤ (no_index (OfNat.ofNat b : Int32))) ↔ a ≤ (OfNat.ofNat b : Nat) := ln_le ha hb
theorem ln_eqL {a b : Nat} (ha : a < 2147483648) (hb : (OfNat.ofNat b : Nat) < 2147483648) : (Int32.ofNat a = (no_index (OfNat.ofNat b : Int32))) ↔ a = (OfNat.ofNat b : Nat) := ln_eq ha hb
theorem ln_Llt {a b : Nat} (ha : (OfNat.ofNat a : Nat) < 2147483648) (hb : b < 2147483648) : ((no_index (OfNat.ofNat a : Int32)) < Int32.ofNat b) ↔ (OfNat.ofNat a : Nat) < b := ln_lt ha hb
theorem ln_Lle {a b : Nat} (ha : (OfNat.ofNat a : Nat) < 2147483648) (hb : b < 2147483648) : ((no_index (OfNat.ofNat a : Int32)) ≤ Int32.ofNat b) ↔ (OfNat.ofNat a : Nat) ≤ b := ln_le ha hb
theorem ln_Leq {a b : Nat} (ha : (OfNat.ofNat a : Nat) < 2147483648) (hb : b < 2147483648) : ((no_index (OfNat.ofNat a : Int32)) = Int32.ofNat b) ↔ (OfNat.ofNat a : Nat) = b := ln_eq ha hb
theorem ln_at {a : Nat} (ha : a < 2147483648) : (Int32.ofNat a).toNatClampNeg = a := Int32.toNatClampNeg_ofNat_of_lt ha
theorem ln_atL {a : Nat} (ha : (OfNat.ofNat a : Nat) < 2147483648) : (no_index (OfNat.ofNat a : Int32)).toNatClampNeg = (OfNat.ofNat a : Nat) := Int32.toNatClampNeg_ofNat_of_lt ha
theorem ln_add (a b : Nat) : Int32.ofNat a + Int32.ofNat b = Int32.ofNat (a + b) := (Int32.ofNat_add a b).symm
theorem ln_addL (a b : Nat) : Int32.ofNat a + (no_index (OfNat.ofNat b : Int32)) = Int32.ofNat (a + (OfNat.ofNat b : Nat)) := (Int32.ofNat_add a b).symm
theorem ln_mulL (a b : Nat) : Int32.ofNat a * (no_index (OfNat.ofNat b : Int32)) = Int32.ofNat (a * (OfNat.ofNat b : Nat)) := (Int32.ofNat_mul a b).symm
theorem ln_Lmul (a b : Nat) : (no_index (OfNat.ofNat a : Int32)) * Int32.ofNat b = Int32.ofNat ((OfNat.ofNat a : Nat) * b) := (Int32.ofNat_mul a b).symm
theorem ln_subL {a b : Nat} (h : (OfNat.ofNat b : Nat) ≤ a) : Int32.ofNat a - (no_index (OfNat.ofNat b : Int32)) = Int32.ofNat (a - (OfNat.ofNat b : Nat)) := (Int32.ofNat_sub a b h).symm
theorem ln_sub {a b : Nat} (h : b ≤ a) : Int32.ofNat a - Int32.ofNat b = Int32.ofNat (a - b) := (Int32.ofNat_sub a b h).symm
theorem ln_dec {a : Nat} : Int32.ofNat (a + 1) + (-1) = Int32.ofNat a := by
  rw [Int32.ofNat_add, Int32.add_assoc]
  show Int32.ofNat a + (Int32.ofNat 1 + -1) = _
  rw [show (Int32.ofNat 1 + -1 : Int32) = 0 by decide, Int32.add_zero]
theorem ln_lt0 {a : Nat} (ha : a < 2147483648) : ¬ (Int32.ofNat a < 0) := fun h => by
  have := (ln_lt (b := 0) ha (by omega)).mp h
  omega
theorem ln_ge0 {a : Nat} (ha : a < 2147483648) : (0 : Int32) ≤ Int32.ofNat a := Int32.zero_le_ofNat_of_lt ha
theorem ln_neg {a : Nat} (ha : a < 2147483648) {x : Int32} (hx : x < 0) : ¬ (Int32.ofNat a = x) := fun h => ln_lt0 ha (by rw [h]; exact hx)
theorem ln_m1 {a : Nat} (ha : a < 2147483648) : ¬ (Int32.ofNat a = -1) := ln_neg ha (by decide)
theorem ln_m1' : ((-1 : Int32) < 0) := by decide
/-- an int between 0 and a small natural -/
theorem ln_of {x : Int32} {n : Nat} (h0 : ¬ x < 0) (hn : n < 2147483648) (h : x < Int32.ofNat n) : ∃ k : Nat, k < n ∧ x = Int32.ofNat k := by
  have h0 : 0 ≤ x := Int32.not_lt.mp h0
  have e := Int32.ofNat_toNatClampNeg x h0
  refine ⟨x.toNatClampNeg, ?_, e.symm⟩
  rw [← e] at h
  exact (ln_lt (Int32.toNatClampNeg_lt x) hn).mp h
theorem ln_ofle {x : Int32} {n : Nat} (h0 : ¬ x < 0) (hn : n < 2147483648) (h : ¬ Int32.ofNat n < x) : ∃ k : Nat, k ≤ n ∧ x = Int32.ofNat k := by
  have h0 : 0 ≤ x := Int32.not_lt.mp h0
  have e := Int32.ofNat_toNatClampNeg x h0
  refine ⟨x.toNatClampNeg, ?_, e.symm⟩
  rw [← e] at h
  have := mt (ln_lt hn (Int32.toNatClampNeg_lt x)).mpr h
  omega
theorem ln_not_le {x y : Int32} : ¬ x ≤ y ↔ y < x := Int32.not_le
theorem ln_not_lt {x y : Int32} : ¬ x < y ↔ y ≤ x := Int32.not_lt
/-! guards and binds -/
theorem ck_gd_ok {γ : Type} {k n : Nat} {o : Option γ} (h : k < n) (hn : n < 2147483648) : ck_gd (Int32.ofNat k) n o = o := by
  unfold ck_gd
  rw [if_neg]
  intro hc
  rcases hc with hc | hc
  · exact ln_lt0 (by omega) hc
  · rw [ln_at (by omega)] at hc
    omega
theorem ck_gd_okL {γ : Type} {k n : Nat} {o : Option γ} (h : (OfNat.ofNat k : Nat) < n) (hn : n < 2147483648) : ck_gd (no_index (OfNat.ofNat k : Int32)) n o = o := ck_gd_ok h hn
theorem ck_dz_ok {γ : Type} {y : Int32} {o : Option γ} (h : ¬ y = 0) : ck_dz y o = o := by
  unfold ck_dz
  rw [if_neg h]
theorem ck_gz0 {γ : Type} {o : Option γ} : ck_gz 0 o = o := rfl
theorem ck_gz1 {γ : Type} {o : Option γ} : ck_gz 1 o = o := rfl
theorem ck_b_some {α γ : Type} {a : α} {st : ck_S} {f : α → ck_S → Option γ} : ck_b (some (a, st)) f = f a st := rfl
theorem ck_bv_some {γ : Type} {st : ck_S} {f : ck_S → Option γ} : ck_bv (some st) f = f st := rfl
theorem ck_u_eq {st : ck_S} {q i : Nat} {x : Int32} : ck_u st q i x q i = x := by simp [ck_u, upd]
theorem ck_u_ne {st : ck_S} {q i a : Nat} {x : Int32} (h : ¬ a = q) : ck_u st q i x a = st a := by simp [ck_u, h]
theorem ck_u_nei {st : ck_S} {q i j : Nat} {x : Int32} (h : ¬ j = i) : ck_u st q i x q j = st q j := by simp [ck_u, upd, h]
theorem ck_u_at {st : ck_S} {q i j : Nat} {x : Int32} : ck_u st q i x q j = if j = i then x else st q j := by simp [ck_u, upd]
theorem vp_z0 : vp_nar .boolean 0 = 0 := by decide
theorem vp_z1 : vp_nar .boolean 1 = 1 := by decide
/-! declarations: t types, n constructors -/
def cnt (f : Nat → Int32) (x : Int32) : Nat → Nat
  | 0 => 0
  | n + 1 => cnt f x n + (if f n = x then 1 else 0)
def rD (t n : Nat) (st rt : ck_S) : Prop := t ≤ 5 ∧ n ≤ 12 ∧ st 1 3 = Int32.ofNat t ∧ rt 0 0 = Int32.ofNat t ∧ st 1 4 = Int32.ofNat n ∧ rt 0 1 = Int32.ofNat n ∧
  (∀ c, c < n → rt 1 c = st 7 c ∧ rt 2 c = st 8 c ∧ rt 3 c = st 9 c) ∧
  (∀ c, c < n → (∃ o, 1 ≤ o ∧ o ≤ t ∧ st 7 c = Int32.ofNat o) ∧ (st 8 c = -1 ∨ ∃ a, a ≤ t ∧ st 8 c = Int32.ofNat a) ∧ (st 9 c = -1 ∨ ∃ b, b ≤ t ∧ st 9 c = Int32.ofNat b) ∧ (st 8 c = -1 → st 9 c = -1)) ∧
  (∀ o, cnt (st 7) o n ≤ 4)
theorem cnt_le {f : Nat → Int32} {x : Int32} : ∀ n, cnt f x n ≤ n
  | 0 => Nat.le_refl _
  | n + 1 => by
    have := cnt_le (f := f) (x := x) n
    unfold cnt
    split <;> omega
theorem cnt_congr {f g : Nat → Int32} {x : Int32} : ∀ n, (∀ c, c < n → f c = g c) → cnt f x n = cnt g x n
  | 0, _ => rfl
  | n + 1, h => by
    unfold cnt
    rw [cnt_congr n (fun c hc => h c (by omega)), h n (by omega)]
theorem cnt_mono {f : Nat → Int32} {x : Int32} {a b : Nat} (h : a ≤ b) : cnt f x a ≤ cnt f x b := by
  induction h with
  | refl => exact Nat.le_refl _
  | step _ ih => exact Nat.le_trans ih (Nat.le_add_right _ _)
/-- the loop that counts constructors of a type -/
theorem fD_countOfType_ev {t n : Nat} {st rt : ck_S} (h : rD t n st rt) (x : Int32) : fD_countOfType x st = some (Int32.ofNat (cnt (st 7) x n), st) := by
  obtain ⟨h1, h2, h3, h4, h5, h6, h7, h8, h9⟩ := h
  have key : ∀ (d m k : Nat), k + d = n → d < m → fD_countOfType_l4 m x (Int32.ofNat (cnt (st 7) x k)) (Int32.ofNat k) st = some (Int32.ofNat (cnt (st 7) x n), st) := by
    intro d
    induction d with
    | zero =>
      intro m k hk hm
      obtain ⟨m, rfl⟩ : ∃ q, m = q + 1 := ⟨m - 1, by omega⟩
      rw [fD_countOfType_l4, h5, if_pos ((ln_le (by omega) (by omega)).mpr (by omega))]
      rw [show k = n by omega]
    | succ d ih =>
      intro m k hk hm
      obtain ⟨m, rfl⟩ : ∃ q, m = q + 1 := ⟨m - 1, by omega⟩
      rw [fD_countOfType_l4, h5, if_neg (mt (ln_le (by omega) (by omega)).mp (by omega)), ck_gd_ok (by omega) (by omega), ln_at (by omega)]
      have hi := ih m (k + 1) (by omega) (by omega)
      rw [ln_addL, show Int32.ofNat k + 1 = Int32.ofNat (k + 1) from ln_addL k 1]
      by_cases hc : st 7 k = x
      · rw [if_pos hc]
        rw [show cnt (st 7) x (k + 1) = cnt (st 7) x k + 1 by simp [cnt, hc]] at hi
        exact hi
      · rw [if_neg hc]
        rw [show cnt (st 7) x (k + 1) = cnt (st 7) x k by simp [cnt, hc]] at hi
        exact hi
  exact key n 4096 0 (by omega) (by omega)
theorem fR_constructorsOf_ev {t n : Nat} {st rt : ck_S} (h : rD t n st rt) (x : Int32) : fR_constructorsOf x rt = some (Int32.ofNat (cnt (st 7) x n), rt) := by
  obtain ⟨h1, h2, h3, h4, h5, h6, h7, h8, h9⟩ := h
  have key : ∀ (d m k : Nat), k + d = n → d < m → fR_constructorsOf_l4 m x (Int32.ofNat (cnt (st 7) x k)) (Int32.ofNat k) rt = some (Int32.ofNat (cnt (st 7) x n), rt) := by
    intro d
    induction d with
    | zero =>
      intro m k hk hm
      obtain ⟨m, rfl⟩ : ∃ q, m = q + 1 := ⟨m - 1, by omega⟩
      rw [fR_constructorsOf_l4, h6, if_pos ((ln_le (by omega) (by omega)).mpr (by omega))]
      rw [show k = n by omega]
    | succ d ih =>
      intro m k hk hm
      obtain ⟨m, rfl⟩ : ∃ q, m = q + 1 := ⟨m - 1, by omega⟩
      rw [fR_constructorsOf_l4, h6, if_neg (mt (ln_le (by omega) (by omega)).mp (by omega)), ck_gd_ok (by omega) (by omega), ln_at (by omega), (h7 k (by omega)).1]
      have hi := ih m (k + 1) (by omega) (by omega)
      rw [ln_addL, show Int32.ofNat k + 1 = Int32.ofNat (k + 1) from ln_addL k 1]
      by_cases hc : st 7 k = x
      · rw [if_pos hc]
        rw [show cnt (st 7) x (k + 1) = cnt (st 7) x k + 1 by simp [cnt, hc]] at hi
        exact hi
      · rw [if_neg hc]
        rw [show cnt (st 7) x (k + 1) = cnt (st 7) x k by simp [cnt, hc]] at hi
        exact hi
  exact key n 4096 0 (by omega) (by omega)
