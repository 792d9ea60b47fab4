/-! counting bits, the lowest bit -/
def kA (x : Nat) : Nat := (x >>> 1) &&& 1431655765
def kB (a : Nat) : Nat := (a &&& 858993459) + ((a >>> 2) &&& 858993459)
def kC (b : Nat) : Nat := (b + (b >>> 4)) &&& 252645135
def pop8 (x : Nat) : Nat := (x.testBit 0).toNat + (x.testBit 1).toNat + (x.testBit 2).toNat + (x.testBit 3).toNat + (x.testBit 4).toNat + (x.testBit 5).toNat + (x.testBit 6).toNat + (x.testBit 7).toNat
theorem k8_ok : ∀ n : Fin 256, kA n.val ≤ n.val ∧ kA n.val < 128 ∧ kA n.val = (n.val / 2) &&& 85 ∧ n.val - kA n.val < 256 ∧ kB (n.val - kA n.val) ≤ 68 ∧ kC (kB (n.val - kA n.val)) = pop8 n.val ∧ pop8 n.val ≤ 8 ∧ kB (n.val - kA n.val) % 16 ≤ 4 := by decide +kernel
theorem k8_m : ∀ n : Fin 128, ∀ e : Fin 2, (n.val + 128 * e.val) &&& 85 = n.val &&& 85 := by decide +kernel
theorem k8_m2 : ∀ n : Fin 64, ∀ e : Fin 4, (n.val + 64 * e.val) &&& 51 = n.val &&& 51 := by decide +kernel
theorem k8_m3 : ∀ n : Fin 73, ∀ e : Fin 5, (n.val + 16 * e.val) &&& 15 = n.val &&& 15 := by decide +kernel
theorem k8_c : ∀ n : Fin 256, (n.val &&& 858993459) = (n.val &&& 51) ∧ ((n.val >>> 2) &&& 858993459) = ((n.val / 4) &&& 51) ∧ ((n.val >>> 1) &&& 1431655765) = ((n.val / 2) &&& 85) ∧ (n.val &&& 252645135) = (n.val &&& 15) ∧ (n.val &&& 3355443) = (n.val &&& 51) ∧ ((n.val / 4) &&& 3355443) = ((n.val / 4) &&& 51) ∧ ((n.val / 2) &&& 5592405) = ((n.val / 2) &&& 85) ∧ (n.val &&& 986895) = (n.val &&& 15) := by decide +kernel
theorem and_split {u v m M : Nat} (hu : u < 256) (hm : m < 256) : (u + 256 * v) &&& (m + 256 * M) = (u &&& m) + 256 * (v &&& M) := by
  apply Nat.eq_of_testBit_eq
  intro j
  have hum : u &&& m < 2 ^ 8 := Nat.and_lt_two_pow u hm
  rw [Nat.testBit_and, Nat.add_comm u, Nat.add_comm m, Nat.add_comm (u &&& m), show 256 = 2 ^ 8 from rfl, Nat.testBit_two_pow_mul_add v hu, Nat.testBit_two_pow_mul_add M hm, Nat.testBit_two_pow_mul_add (v &&& M) hum]
  split
  · rw [Nat.testBit_and]
  · rw [Nat.testBit_and]
theorem kA_add {n y : Nat} (hn : n < 256) (hy : y < 256) : kA (n + 256 * y) = kA n + 256 * kA y := by
  unfold kA
  have e : (n + 256 * y) >>> 1 = (n / 2 + 128 * (y % 2)) + 256 * (y / 2) := by
    rw [Nat.shiftRight_eq_div_pow]
    omega
  rw [e, show (1431655765 : Nat) = 85 + 256 * 5592405 from rfl, and_split (by omega) (by omega)]
  have h1 := k8_m ⟨n / 2, by omega⟩ ⟨y % 2, by omega⟩
  simp only at h1
  have h2 := (k8_c ⟨n, hn⟩).2.2.1
  have h3 := (k8_c ⟨y, hy⟩).2.2.1
  have h4 := (k8_c ⟨y, hy⟩).2.2.2.2.2.2.1
  simp only at h2 h3 h4
  rw [show 85 + 256 * 5592405 = 1431655765 from rfl, h1, h2, h3, h4]
theorem kB_add {n y : Nat} (hn : n < 256) (hy : y < 256) : kB (n + 256 * y) = kB n + 256 * kB y := by
  unfold kB
  have e : (n + 256 * y) >>> 2 = (n / 4 + 64 * (y % 4)) + 256 * (y / 4) := by
    rw [Nat.shiftRight_eq_div_pow]
    omega
  obtain ⟨a1, a2, _, _, _, _, _, _⟩ := k8_c ⟨n, hn⟩
  obtain ⟨b1, b2, _, _, b5, b6, _, _⟩ := k8_c ⟨y, hy⟩
  have h1 := k8_m2 ⟨n / 4, by omega⟩ ⟨y % 4, by omega⟩
  simp only at a1 a2 b1 b2 b5 b6 h1
  rw [e, show (858993459 : Nat) = 51 + 256 * 3355443 from rfl, and_split (by omega) (by omega), and_split (by omega) (by omega), show 51 + 256 * 3355443 = 858993459 from rfl, h1, a1, a2, b1, b2, b5, b6]
  omega
theorem kC_add {n y : Nat} (hn : n ≤ 68) (hy : y ≤ 68) (hy2 : y % 16 ≤ 4) : kC (n + 256 * y) = kC n + 256 * kC y := by
  unfold kC
  have e : n + 256 * y + (n + 256 * y) >>> 4 = (n + n / 16 + 16 * (y % 16)) + 256 * (y + y / 16) := by
    rw [Nat.shiftRight_eq_div_pow]
    omega
  have en : n + n >>> 4 = n + n / 16 := by rw [Nat.shiftRight_eq_div_pow]
  have ey : y + y >>> 4 = y + y / 16 := by rw [Nat.shiftRight_eq_div_pow]
  have h1 := k8_m3 ⟨n + n / 16, by omega⟩ ⟨y % 16, by omega⟩
  obtain ⟨_, _, _, a4, _, _, _, _⟩ := k8_c ⟨n + n / 16, by omega⟩
  obtain ⟨_, _, _, b4, _, _, _, b8⟩ := k8_c ⟨y + y / 16, by omega⟩
  simp only at h1 a4 b4 b8
  rw [e, en, ey, a4, b4, show (252645135 : Nat) = 15 + 256 * 986895 from rfl, and_split (by omega) (by omega), h1, b8]
theorem and63 : ∀ a : Fin 17, ∀ b : Fin 9, (a.val + 256 * b.val) &&& 63 = a.val := by decide +kernel
/-- the count of an int of sixteen bits, step by step -/
theorem pop_nat {n y : Nat} (hn : n < 256) (hy : y < 256) : kC (kB (n + 256 * y - kA (n + 256 * y))) = pop8 n + 256 * pop8 y ∧ kA (n + 256 * y) ≤ n + 256 * y ∧ kB (n + 256 * y - kA (n + 256 * y)) ≤ 68 + 256 * 68 ∧ pop8 n ≤ 8 ∧ pop8 y ≤ 8 := by
  obtain ⟨a1, a2, a3, a4, a5, a6, a7, a8⟩ := k8_ok ⟨n, hn⟩
  obtain ⟨b1, b2, b3, b4, b5, b6, b7, b8⟩ := k8_ok ⟨y, hy⟩
  simp only at a1 a2 a3 a4 a5 a6 a7 a8 b1 b2 b3 b4 b5 b6 b7 b8
  rw [kA_add hn hy, show n + 256 * y - (kA n + 256 * kA y) = (n - kA n) + 256 * (y - kA y) by omega, kB_add a4 b4, kC_add a5 b5 b8, a6, b6]
  exact ⟨rfl, by omega, by omega, a7, b7⟩
theorem bt_nat (a : Nat) {k : Nat} (hk : k < 32) : bt (Int32.ofNat a) k = a.testBit k := by
  show (BitVec.ofNat 32 a).getLsbD k = _
  rw [BitVec.getLsbD_ofNat]
  simp [hk]
theorem and_ev (a b : Nat) : Int32.ofNat a &&& Int32.ofNat b = Int32.ofNat (a &&& b) := by
  apply bt_ext
  intro k hk
  rw [bt_and, bt_nat a hk, bt_nat b hk, bt_nat _ hk, Nat.testBit_and]
theorem us_ev {a c : Nat} (ha : a < 4294967296) (hc : c < 32) : ck_us (Int32.ofNat a) (Int32.ofNat c) = Int32.ofNat (a >>> c) := by
  unfold ck_us
  show ((UInt32.ofNat a >>> (UInt32.ofNat c &&& UInt32.ofNat 31)).toInt32) = (UInt32.ofNat (a >>> c)).toInt32
  congr 1
  apply UInt32.toNat.inj
  have h1 : a >>> c ≤ a := Nat.shiftRight_le a c
  rw [UInt32.toNat_shiftRight, UInt32.toNat_and, UInt32.toNat_ofNat_of_lt' (n := a) (show a < 4294967296 by omega), UInt32.toNat_ofNat_of_lt' (n := c) (show c < 4294967296 by omega), UInt32.toNat_ofNat_of_lt' (n := 31) (show 31 < 4294967296 by omega), UInt32.toNat_ofNat_of_lt' (n := a >>> c) (show a >>> c < 4294967296 by omega)]
  have h2 : c &&& 31 = c := by
    rw [show (31 : Nat) = 2 ^ 5 - 1 from rfl, Nat.and_two_pow_sub_one_eq_mod]
    omega
  rw [h2, Nat.mod_eq_of_lt hc]
def cb (x : Int32) : Nat → Nat
  | 0 => 0
  | c + 1 => cb x c + (if bt x c = true then 1 else 0)
theorem cb_le (x : Int32) : ∀ c, cb x c ≤ c
  | 0 => Nat.le_refl _
  | c + 1 => by
    have := cb_le x c
    unfold cb
    split <;> omega
theorem pop8_lo {n y : Nat} (hn : n < 256) (j : Nat) : (n + 256 * y).testBit j = if j < 8 then n.testBit j else y.testBit (j - 8) := by
  rw [Nat.add_comm, show 256 = 2 ^ 8 from rfl, Nat.testBit_two_pow_mul_add y hn]
/-- an int of sixteen bits as a natural -/
theorem low16 {x : Int32} (h : ∀ b, 16 ≤ b → b < 32 → bt x b = false) : ∃ n y, n < 256 ∧ y < 256 ∧ x = Int32.ofNat (n + 256 * y) := by
  have hx : x = Int32.ofNat x.toBitVec.toNat := by
    apply bt_ext
    intro k hk
    rw [bt_nat _ hk]
    rfl
  have hlt : x.toBitVec.toNat < 2 ^ 16 := by
    apply Nat.lt_pow_two_of_testBit
    intro i hi
    by_cases h32 : i < 32
    · exact h i hi h32
    · exact Nat.testBit_lt_two_pow (Nat.lt_of_lt_of_le x.toBitVec.isLt (Nat.pow_le_pow_right (by omega) (by omega)))
  refine ⟨x.toBitVec.toNat % 256, x.toBitVec.toNat / 256, by omega, by omega, ?_⟩
  rw [show x.toBitVec.toNat % 256 + 256 * (x.toBitVec.toNat / 256) = x.toBitVec.toNat by omega]
  exact hx
theorem cb_16 {n y : Nat} (hn : n < 256) : cb (Int32.ofNat (n + 256 * y)) 16 = pop8 n + pop8 y := by
  have e : ∀ c, c < 32 → (if bt (Int32.ofNat (n + 256 * y)) c = true then 1 else 0) = ((n + 256 * y).testBit c).toNat := by
    intro c hc
    rw [bt_nat _ hc]
    cases (n + 256 * y).testBit c <;> rfl
  simp only [cb, e, show (0 : Nat) < 32 by omega, show (1 : Nat) < 32 by omega, show (2 : Nat) < 32 by omega, show (3 : Nat) < 32 by omega, show (4 : Nat) < 32 by omega, show (5 : Nat) < 32 by omega, show (6 : Nat) < 32 by omega, show (7 : Nat) < 32 by omega, show (8 : Nat) < 32 by omega, show (9 : Nat) < 32 by omega, show (10 : Nat) < 32 by omega, show (11 : Nat) < 32 by omega, show (12 : Nat) < 32 by omega, show (13 : Nat) < 32 by omega, show (14 : Nat) < 32 by omega, show (15 : Nat) < 32 by omega]
  simp only [pop8_lo hn]
  unfold pop8
  simp only [show (0 : Nat) < 8 by omega, show (1 : Nat) < 8 by omega, show (2 : Nat) < 8 by omega, show (3 : Nat) < 8 by omega, show (4 : Nat) < 8 by omega, show (5 : Nat) < 8 by omega, show (6 : Nat) < 8 by omega, show (7 : Nat) < 8 by omega, show ¬ ((8 : Nat) < 8) by omega, show ¬ ((9 : Nat) < 8) by omega, show ¬ ((10 : Nat) < 8) by omega, show ¬ ((11 : Nat) < 8) by omega, show ¬ ((12 : Nat) < 8) by omega, show ¬ ((13 : Nat) < 8) by omega, show ¬ ((14 : Nat) < 8) by omega, show ¬ ((15 : Nat) < 8) by omega, ↓reduceIte, show (8 - 8 : Nat) = 0 from rfl, show (9 - 8 : Nat) = 1 from rfl, show (10 - 8 : Nat) = 2 from rfl, show (11 - 8 : Nat) = 3 from rfl, show (12 - 8 : Nat) = 4 from rfl, show (13 - 8 : Nat) = 5 from rfl, show (14 - 8 : Nat) = 6 from rfl, show (15 - 8 : Nat) = 7 from rfl]
  omega
theorem bitCount_ev {x : Int32} {s : ck_S} (h : ∀ b, 16 ≤ b → b < 32 → bt x b = false) : fI_bitCount_C x s = some (Int32.ofNat (cb x 16), s) := by
  obtain ⟨n, y, hn, hy, rfl⟩ := low16 h
  rw [cb_16 hn]
  obtain ⟨p1, p2, p3, p4, p5⟩ := pop_nat hn hy
  unfold fI_bitCount_C
  have c1 : ck_us (Int32.ofNat (n + 256 * y)) 1 &&& 1431655765 = Int32.ofNat (kA (n + 256 * y)) := by
    rw [show (1 : Int32) = Int32.ofNat 1 from rfl, us_ev (by omega) (by omega), show (1431655765 : Int32) = Int32.ofNat 1431655765 from rfl, and_ev]
    rfl
  rw [c1, ln_sub p2]
  generalize hA : n + 256 * y - kA (n + 256 * y) = A at p1 p3
  have hAl : A < 65536 := by omega
  have c2 : (Int32.ofNat A &&& 858993459) + (ck_us (Int32.ofNat A) 2 &&& 858993459) = Int32.ofNat (kB A) := by
    rw [show (2 : Int32) = Int32.ofNat 2 from rfl, us_ev (by omega) (by omega), show (858993459 : Int32) = Int32.ofNat 858993459 from rfl, and_ev, and_ev, ln_add]
    rfl
  rw [c2]
  generalize hB : kB A = B at p1 p3
  have c3 : (Int32.ofNat B + ck_us (Int32.ofNat B) 4) &&& 252645135 = Int32.ofNat (kC B) := by
    rw [show (4 : Int32) = Int32.ofNat 4 from rfl, us_ev (by omega) (by omega), show (252645135 : Int32) = Int32.ofNat 252645135 from rfl, ln_add, and_ev]
    rfl
  rw [c3, p1]
  have c4 : Int32.ofNat (pop8 n + 256 * pop8 y) + ck_us (Int32.ofNat (pop8 n + 256 * pop8 y)) 8 = Int32.ofNat (pop8 n + pop8 y + 256 * pop8 y) := by
    rw [show (8 : Int32) = Int32.ofNat 8 from rfl, us_ev (by omega) (by omega), ln_add, Nat.shiftRight_eq_div_pow]
    congr 1
    omega
  rw [c4]
  have c5 : Int32.ofNat (pop8 n + pop8 y + 256 * pop8 y) + ck_us (Int32.ofNat (pop8 n + pop8 y + 256 * pop8 y)) 16 = Int32.ofNat (pop8 n + pop8 y + 256 * pop8 y) := by
    rw [show (16 : Int32) = Int32.ofNat 16 from rfl, us_ev (by omega) (by omega), ln_add, Nat.shiftRight_eq_div_pow]
    congr 1
    omega
  rw [c5]
  have c6 : Int32.ofNat (pop8 n + pop8 y + 256 * pop8 y) &&& 63 = Int32.ofNat (pop8 n + pop8 y) := by
    rw [show (63 : Int32) = Int32.ofNat 63 from rfl, and_ev]
    congr 1
    exact and63 ⟨pop8 n + pop8 y, by omega⟩ ⟨pop8 y, by omega⟩
  rw [c6]
/-- the lowest bit -/
theorem bt_lowbit {x : Int32} {f : Nat} (hf : f < 32) (h1 : bt x f = true) (h0 : ∀ b, b < f → bt x b = false) {b : Nat} (hb : b < 32) : bt (x &&& (-x)) b = decide (b = f) := by
  rw [bt_and]
  have e : bt (-x) b = (bt x b ^^ (decide (b < 32) && decide (∃ j < b, bt x j = true))) := by
    show (-x.toBitVec).getLsbD b = _
    rw [BitVec.getLsbD_neg]
    rfl
  rw [e]
  rcases Nat.lt_trichotomy b f with h | h | h
  · rw [h0 b h]
    simp
    omega
  · subst h
    have : ¬ ∃ j < b, bt x j = true := fun ⟨j, hj, z⟩ => by rw [h0 j hj] at z; cases z
    rw [h1]
    simp [this]
  · have : ∃ j < b, bt x j = true := ⟨f, h, h1⟩
    have hne : ¬ b = f := by omega
    rw [decide_eq_true this, decide_eq_true hb, decide_eq_false hne]
    cases bt x b <;> rfl
