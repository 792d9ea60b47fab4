/-! the value at a place -/
def ch (r : ck_S) (x : Int32) (b : Bool) : Int32 := if x < 0 then x else if b = true then r 14 x.toNatClampNeg else r 13 x.toNatClampNeg
def pv (r : ck_S) (x : Int32) : Nat → Nat → Int32
  | 0, _ => x
  | d + 1, p => ch r (pv r x d (p / 2)) (p.testBit 0)
def dp (p : Nat) : Nat := if p ≤ 7 then (if p ≤ 3 then (if p ≤ 1 then 0 else 1) else 2) else 3
def pw (r : ck_S) (x : Int32) (p : Nat) : Int32 := pv r x (dp p) p
def okv (v : Nat) (x : Int32) : Prop := x = -1 ∨ ∃ u, u < v ∧ x = Int32.ofNat u
theorem ch_ok {n v : Nat} {s r : ck_S} (h : rV n v s r) {x : Int32} (hx : okv v x) (b : Bool) : okv v (ch r x b) := by
  obtain ⟨h1, h2, h3, h4⟩ := h
  unfold ch
  rcases hx with rfl | ⟨u, hu, rfl⟩
  · rw [if_pos ln_m1']
    exact Or.inl rfl
  · rw [if_neg (ln_lt0 (by omega)), ln_at (by omega)]
    obtain ⟨⟨a1, a2, a3⟩, q | ⟨_, c, _, _, _, q1, q2⟩⟩ := h4 u hu
    · rw [a2, a3, q.2.2.1, q.2.2.2]
      left
      cases b <;> rfl
    · rw [a2, a3]
      have key : ∀ (a y : Int32), vpart s u a y → okv v y := fun a y z => by
        rcases z with ⟨_, z⟩ | ⟨_, l, l1, l2, _⟩
        · exact Or.inl z
        · exact Or.inr ⟨l, by omega, l2⟩
      cases b
      · exact key _ _ q1
      · exact key _ _ q2
theorem pv_ok {n v : Nat} {s r : ck_S} (h : rV n v s r) {x : Int32} (hx : okv v x) : ∀ d p, okv v (pv r x d p) := by
  intro d
  induction d with
  | zero => exact fun _ => hx
  | succ d ih => exact fun p => ch_ok h (ih (p / 2)) _
theorem pw_ok {n v : Nat} {s r : ck_S} (h : rV n v s r) {x : Int32} (hx : okv v x) (p : Nat) : okv v (pw r x p) := pv_ok h hx _ _
theorem dp_2 {q b : Nat} (h1 : 1 ≤ q) (h2 : q < 8) (hb : b < 2) : dp (2 * q + b) = dp q + 1 := by
  unfold dp
  by_cases a : q ≤ 1
  · rw [if_pos (by omega), if_pos (by omega), if_neg (by omega), if_pos (by omega), if_pos (by omega), if_pos a]
  · by_cases c : q ≤ 3
    · rw [if_pos (by omega), if_neg (by omega), if_pos (by omega), if_pos c, if_neg a]
    · rw [if_neg (by omega), if_pos (by omega), if_neg c]
theorem pw_1 {r : ck_S} {x : Int32} : pw r x 1 = x := rfl
theorem pw_l {r : ck_S} {x : Int32} {q : Nat} (h1 : 1 ≤ q) (h2 : q < 8) : pw r x (2 * q) = ch r (pw r x q) false := by
  have := dp_2 (b := 0) h1 h2 (by omega)
  unfold pw
  rw [show 2 * q = 2 * q + 0 from rfl, this, pv, show (2 * q + 0) / 2 = q by omega, Nat.testBit_zero, decide_eq_false (by omega)]
theorem pw_r {r : ck_S} {x : Int32} {q : Nat} (h1 : 1 ≤ q) (h2 : q < 8) : pw r x (2 * q + 1) = ch r (pw r x q) true := by
  have := dp_2 (b := 1) h1 h2 (by omega)
  unfold pw
  rw [this, pv, show (2 * q + 1) / 2 = q by omega, Nat.testBit_zero, decide_eq_true (by omega)]
theorem part_neg {r : ck_S} {m : Nat} {y x : Int32} (p : Int32) (h : x < 0) : fR_part_l39 (m + 1) p x y r = some (x, r) := by
  rw [fR_part_l39]
  by_cases e : y < 0
  · rw [if_pos e]
  · rw [if_neg e, if_pos h]
theorem part_step {v m b p : Nat} {r : ck_S} {x : Int32} (hv : v ≤ 60) (hx : okv v x) (hb : b < 32) : fR_part_l39 (m + 2) (Int32.ofNat p) x (Int32.ofNat b) r = fR_part_l39 (m + 1) (Int32.ofNat p) (ch r x (p.testBit b)) (Int32.ofNat b + (-1)) r := by
  rcases hx with rfl | ⟨u, hu, rfl⟩
  · unfold ch
    rw [if_pos ln_m1', part_neg _ ln_m1', part_neg _ ln_m1']
  · conv => lhs; rw [fR_part_l39]
    unfold ch
    rw [if_neg (ln_lt0 (by omega)), if_neg (ln_lt0 (by omega)), if_neg (ln_lt0 (by omega)), ck_gd_ok (by omega) (by omega), ck_gd_ok (by omega) (by omega), ln_at (by omega)]
    have e := bt_f (Int32.ofNat p) hb
    rw [bt_nat p hb] at e
    cases hz : p.testBit b with
    | false => rw [if_pos (e.mpr hz), if_neg (by decide)]
    | true => rw [if_neg (fun z => by rw [e.mp z] at hz; exact absurd hz (by decide)), if_pos rfl]
theorem part_ev {n v p : Nat} {s r : ck_S} {x : Int32} (h : rV n v s r) (hx : okv v x) (hp : p < 16) : fR_part x (Int32.ofNat p) r = some (pw r x p, r) := by
  have hv := h.1
  unfold fR_part pw dp
  have e7 : (Int32.ofNat p ≤ 7) ↔ p ≤ 7 := ln_leL (by omega) (by omega)
  have e3 : (Int32.ofNat p ≤ 3) ↔ p ≤ 3 := ln_leL (by omega) (by omega)
  have e1 : (Int32.ofNat p ≤ 1) ↔ p ≤ 1 := ln_leL (by omega) (by omega)
  have z : ((0 : Int32) - 1) < 0 := by decide
  by_cases a : p ≤ 7
  · rw [if_pos (e7.mpr a), if_pos a]
    by_cases b : p ≤ 3
    · rw [if_pos (e3.mpr b), if_pos b]
      by_cases c : p ≤ 1
      · rw [if_pos (e1.mpr c), if_pos c, fR_part_l39, if_pos z]
        rfl
      · rw [if_neg (mt e1.mp c), if_neg c, show ((1 : Int32) - 1) = Int32.ofNat 0 from rfl, part_step hv hx (by omega), show (Int32.ofNat 0 + (-1)) = (0 : Int32) - 1 from rfl, fR_part_l39, if_pos z]
        rfl
    · rw [if_neg (mt e3.mp b), if_neg b, show ((2 : Int32) - 1) = Int32.ofNat 1 from rfl, part_step hv hx (by omega), show (Int32.ofNat 1 + (-1)) = Int32.ofNat 0 from rfl, part_step hv (ch_ok h hx _) (by omega), show (Int32.ofNat 0 + (-1)) = (0 : Int32) - 1 from rfl, fR_part_l39, if_pos z, pv, pv, pv, Nat.testBit_succ]
  · rw [if_neg (mt e7.mp a), if_neg a, show ((3 : Int32) - 1) = Int32.ofNat 2 from rfl, part_step hv hx (by omega), show (Int32.ofNat 2 + (-1)) = Int32.ofNat 1 from rfl, part_step hv (ch_ok h hx _) (by omega), show (Int32.ofNat 1 + (-1)) = Int32.ofNat 0 from rfl, part_step hv (ch_ok h (ch_ok h hx _) _) (by omega), show (Int32.ofNat 0 + (-1)) = (0 : Int32) - 1 from rfl, fR_part_l39, if_pos z, pv, pv, pv, pv, Nat.testBit_succ, Nat.testBit_succ, Nat.testBit_succ]
/-! which clauses cfit -/
def mtc (r : ck_S) (x : Int32) (c p : Nat) : Prop := ∃ u, u < 60 ∧ pw r x p = Int32.ofNat u ∧ r 11 u = r 17 (16 * c + p) ∧ r 12 u = r 18 (16 * c + p)
def cfit (r : ck_S) (x : Int32) (c : Nat) : Prop := ∀ p, 1 ≤ p → p < 16 → ¬ r 17 (16 * c + p) = 0 → mtc r x c p
theorem r17_cases {n k c p : Nat} {s r : ck_S} (h : cls n k s r) (hc : c < k) (hp : 1 ≤ p) (hp2 : p < 16) : (r 17 (16 * c + p) = 0 ∧ bt (s 23 p) c = false) ∨ ((r 17 (16 * c + p) = 1 ∨ r 17 (16 * c + p) = 2) ∧ bt (s 23 p) c = true) := by
  rcases h.2.1 c p hc hp hp2 with q | q | q
  · exact Or.inl ⟨q.1, q.2⟩
  · exact Or.inr ⟨Or.inl q.1, q.2.1⟩
  · exact Or.inr ⟨Or.inr q.1, q.2.1⟩
theorem asks_iff {n k c p : Nat} {s r : ck_S} (h : cls n k s r) (hc : c < k) (hp : 1 ≤ p) (hp2 : p < 16) : bt (s 23 p) c = true ↔ ¬ r 17 (16 * c + p) = 0 := by
  rcases r17_cases h hc hp hp2 with ⟨a, b⟩ | ⟨a | a, b⟩ <;> rw [a, b] <;> decide
theorem fits_ev {n k v c : Nat} {s r : ck_S} {x : Int32} (hk : k ≤ 16) (hC : cls n k s r) (h : rV n v s r) (hx : okv v x) (hc : c < k) : ∃ w, (w = 0 ∨ w = 1) ∧ (w = 1 ↔ cfit r x c) ∧ fR_fits (Int32.ofNat c) x r = some (w, r) := by
  have hv := h.1
  have key : ∀ (d m p : Nat), p + d = 16 → 1 ≤ p → d < m → ∃ w, (w = 0 ∨ w = 1) ∧ (w = 1 ↔ ∀ q, p ≤ q → q < 16 → ¬ r 17 (16 * c + q) = 0 → mtc r x c q) ∧ fR_fits_l2 m (Int32.ofNat c) x (Int32.ofNat p) r = some (w, r) := by
    intro d
    induction d with
    | zero =>
      intro m p hp _ hm
      obtain ⟨m, rfl⟩ : ∃ z, m = z + 1 := ⟨m - 1, by omega⟩
      refine ⟨1, Or.inr rfl, ⟨fun _ q a b => absurd b (by omega), fun _ => rfl⟩, ?_⟩
      rw [fR_fits_l2, if_pos (show (16 : Int32) ≤ Int32.ofNat p from (ln_le (a := 16) (b := p) (by omega) (by omega)).mpr (by omega))]
    | succ d ih =>
      intro m p hp hp1 hm
      obtain ⟨m, rfl⟩ : ∃ z, m = z + 1 := ⟨m - 1, by omega⟩
      rw [fR_fits_l2, if_neg (show ¬ (16 : Int32) ≤ Int32.ofNat p from mt (ln_le (a := 16) (b := p) (by omega) (by omega)).mp (by omega))]
      simp (disch := omega) only [ln_Lmul, ln_add, ck_gd_ok, ln_at]
      rw [show Int32.ofNat p + 1 = Int32.ofNat (p + 1) from ln_addL p 1, part_ev h hx (by omega), ck_b_some]
      obtain ⟨w, w1, w2, w3⟩ := ih m (p + 1) (by omega) (by omega) (by omega)
      have go : (¬ r 17 (16 * c + p) = 0 → mtc r x c p) → ∃ w, (w = 0 ∨ w = 1) ∧ (w = 1 ↔ ∀ q, p ≤ q → q < 16 → ¬ r 17 (16 * c + q) = 0 → mtc r x c q) ∧ fR_fits_l2 m (Int32.ofNat c) x (Int32.ofNat (p + 1)) r = some (w, r) := fun hh => by
        refine ⟨w, w1, ?_, w3⟩
        rw [w2]
        constructor
        · intro z q a b e
          by_cases y : q = p
          · rw [y] at e ⊢; exact hh e
          · exact z q (by omega) b e
        · exact fun z q a b e => z q (by omega) b e
      have stop : ¬ r 17 (16 * c + p) = 0 → ¬ mtc r x c p → ∃ w, (w = 0 ∨ w = 1) ∧ (w = 1 ↔ ∀ q, p ≤ q → q < 16 → ¬ r 17 (16 * c + q) = 0 → mtc r x c q) ∧ some ((0 : Int32), r) = some (w, r) := fun e hh =>
        ⟨0, Or.inl rfl, ⟨fun z => absurd z (by decide), fun z => absurd (z p (by omega) (by omega) e) hh⟩, rfl⟩
      rcases r17_cases hC hc hp1 (by omega) with ⟨a, b⟩ | ⟨a, b⟩
      · rw [if_pos (by rw [a]; decide)]
        exact go (fun z => absurd a z)
      · have na : ¬ r 17 (16 * c + p) = 0 := by rcases a with a | a <;> rw [a] <;> decide
        rw [if_neg (by rcases a with a | a <;> rw [a] <;> decide)]
        rcases pw_ok h hx p with e | ⟨u, u1, u2⟩
        · rw [if_pos (by rw [e]; exact ln_m1')]
          refine stop na ?_
          rintro ⟨u, u1, u2, _⟩
          rw [e] at u2
          exact ln_m1 (by omega) u2.symm
        · rw [u2, if_neg (ln_lt0 (by omega))]
          simp (disch := omega) only [ck_gd_ok, ln_at]
          by_cases e1 : r 11 u = r 17 (16 * c + p)
          · rw [if_pos e1]
            by_cases e2 : r 12 u = r 18 (16 * c + p)
            · rw [if_pos e2]
              exact go (fun _ => ⟨u, by omega, u2, e1, e2⟩)
            · rw [if_neg e2]
              refine stop na ?_
              rintro ⟨w, w1, w2, w3, w4⟩
              rw [u2] at w2
              rw [(ln_eq (by omega) (by omega)).mp w2] at e2
              exact e2 w4
          · rw [if_neg e1]
            refine stop na ?_
            rintro ⟨w, w1, w2, w3, w4⟩
            rw [u2] at w2
            rw [(ln_eq (by omega) (by omega)).mp w2] at e1
            exact e1 w3
  exact key 15 4096 1 (by omega) (by omega) (by omega)
