/-! the least number above a floor -/
def ctb (f : Nat → Bool) : Nat → Nat
  | 0 => 0
  | c + 1 => ctb f c + (if f c = true then 1 else 0)
theorem ctb_le (f : Nat → Bool) : ∀ c, ctb f c ≤ c
  | 0 => Nat.le_refl _
  | c + 1 => by
    have := ctb_le f c
    unfold ctb
    split <;> omega
theorem ctb_mono {f g : Nat → Bool} : ∀ k, (∀ c, c < k → f c = true → g c = true) → ctb f k ≤ ctb g k
  | 0, _ => Nat.le_refl _
  | k + 1, h => by
    have := ctb_mono k (fun c hc => h c (by omega))
    unfold ctb
    by_cases e : f k = true
    · rw [if_pos e, if_pos (h k (by omega) e)]; omega
    · rw [if_neg e]; omega
theorem ctb_strict {f g : Nat → Bool} {c0 : Nat} : ∀ k, c0 < k → (∀ c, c < k → f c = true → g c = true) → f c0 = false → g c0 = true → ctb f k < ctb g k
  | 0, h, _, _, _ => absurd h (by omega)
  | k + 1, hc, h, h1, h2 => by
    by_cases e : c0 = k
    · have := ctb_mono k (fun c hc => h c (by omega))
      unfold ctb
      rw [← e, h1, h2]
      rw [← e] at this
      simp
      omega
    · have := ctb_strict k (by omega) (fun c hc => h c (by omega)) h1 h2
      unfold ctb
      by_cases e2 : f k = true
      · rw [if_pos e2, if_pos (h k (by omega) e2)]; omega
      · rw [if_neg e2]; omega
theorem ctb_pos {f : Nat → Bool} {c0 : Nat} : ∀ k, c0 < k → f c0 = true → 1 ≤ ctb f k
  | 0, h, _ => absurd h (by omega)
  | k + 1, hc, h => by
    unfold ctb
    by_cases e : c0 = k
    · rw [← e, if_pos h]; omega
    · have := ctb_pos k (by omega) h
      omega
def abv : Option Int32 → Int32 → Bool
  | none, _ => true
  | some f, w => decide (f.toInt < w.toInt)
def blw : Int32 → Option Int32 → Bool
  | _, none => true
  | w, some b => decide (w.toInt < b.toInt)
def lst (fl : Option Int32) (ask : Nat → Bool) (num : Nat → Int32) : Nat → Option Int32
  | 0 => none
  | c + 1 => if (ask c && abv fl (num c) && blw (num c) (lst fl ask num c)) = true then some (num c) else lst fl ask num c
theorem lst_s (fl : Option Int32) (ask : Nat → Bool) (num : Nat → Int32) (c : Nat) : lst fl ask num (c + 1) = if (ask c && abv fl (num c) && blw (num c) (lst fl ask num c)) = true then some (num c) else lst fl ask num c := rfl
theorem lst_none {fl : Option Int32} {ask : Nat → Bool} {num : Nat → Int32} : ∀ k, lst fl ask num k = none → ∀ c, c < k → ask c = true → abv fl (num c) = false
  | 0, _, c, hc, _ => absurd hc (by omega)
  | k + 1, h, c, hc, ha => by
    unfold lst at h
    split at h
    · cases h
    · rename_i hn
      by_cases e : c = k
      · subst e
        rw [h, ha] at hn
        simpa [blw] using hn
      · exact lst_none k h c (by omega) ha
theorem lst_some {fl : Option Int32} {ask : Nat → Bool} {num : Nat → Int32} : ∀ k w, lst fl ask num k = some w → (∃ c, c < k ∧ ask c = true ∧ num c = w) ∧ abv fl w = true ∧ ∀ c, c < k → ask c = true → abv fl (num c) = true → w.toInt ≤ (num c).toInt
  | 0, _, h => absurd h (by simp [lst])
  | k + 1, w, h => by
    unfold lst at h
    split at h
    · rename_i hn
      have e := Option.some.inj h
      simp only [Bool.and_eq_true] at hn
      obtain ⟨⟨h1, h2⟩, h3⟩ := hn
      subst e
      refine ⟨⟨k, by omega, h1, rfl⟩, h2, fun c hc ha hb => ?_⟩
      by_cases e : c = k
      · subst e; omega
      · cases hl : lst fl ask num k with
        | none => have := lst_none k hl c (by omega) ha; rw [this] at hb; cases hb
        | some b =>
          rw [hl] at h3
          have h4 : (num k).toInt < b.toInt := of_decide_eq_true h3
          have := (lst_some k b hl).2.2 c (by omega) ha hb
          omega
    · rename_i hn
      obtain ⟨⟨c0, a1, a2, a3⟩, b1, b2⟩ := lst_some k w h
      refine ⟨⟨c0, by omega, a2, a3⟩, b1, fun c hc ha hb => ?_⟩
      by_cases e : c = k
      · subst e
        rw [h, ha, hb] at hn
        have : ¬ ((num c).toInt < w.toInt) := by simpa [blw] using hn
        omega
      · exact b2 c (by omega) ha hb
def eC : Option Int32 → Int64
  | none => 4294967296
  | some w => w.toInt64
def eCF : Option Int32 → Int64
  | none => -4294967296
  | some w => w.toInt64
def eR : Option Int32 → Int64
  | none => 2147483648
  | some w => w.toInt64
def eRF : Option Int32 → Int64
  | none => -2147483649
  | some w => w.toInt64
theorem i64_b (w : Int32) : -2147483648 ≤ (w.toInt64).toInt ∧ (w.toInt64).toInt ≤ 2147483647 := by
  rw [Int32.toInt_toInt64]
  have h1 := Int32.toInt_lt w
  have h2 := Int32.le_toInt w
  constructor
  · exact h2
  · omega
theorem eCF_ok (fl : Option Int32) (w : Int32) : (lg_cmp w.toInt64 (eCF fl) ≤ 0) ↔ abv fl w = false := by
  rw [lg_cmp_le, Int64.le_iff_toInt_le]
  have := i64_b w
  cases fl with
  | none =>
    simp only [eCF, abv]
    rw [show (-4294967296 : Int64).toInt = -4294967296 from by decide]
    constructor
    · intro h; omega
    · intro h; cases h
  | some f =>
    simp only [eCF, abv, Int32.toInt_toInt64, decide_eq_false_iff_not]
    omega
theorem eRF_ok (fl : Option Int32) (w : Int32) : (lg_cmp w.toInt64 (eRF fl) ≤ 0) ↔ abv fl w = false := by
  rw [lg_cmp_le, Int64.le_iff_toInt_le]
  have := i64_b w
  cases fl with
  | none =>
    simp only [eRF, abv]
    rw [show (-2147483649 : Int64).toInt = -2147483649 from by decide]
    constructor
    · intro h; omega
    · intro h; cases h
  | some f =>
    simp only [eRF, abv, Int32.toInt_toInt64, decide_eq_false_iff_not]
    omega
theorem eC_ok (fl : Option Int32) (w : Int32) : (0 ≤ lg_cmp w.toInt64 (eC fl)) ↔ blw w fl = false := by
  rw [lg_cmp_ge, Int64.le_iff_toInt_le]
  have := i64_b w
  cases fl with
  | none =>
    simp only [eC, blw]
    rw [show (4294967296 : Int64).toInt = 4294967296 from by decide]
    constructor
    · intro h; omega
    · intro h; cases h
  | some f =>
    simp only [eC, blw, Int32.toInt_toInt64, decide_eq_false_iff_not]
    omega
theorem eR_ok (fl : Option Int32) (w : Int32) : (0 ≤ lg_cmp w.toInt64 (eR fl)) ↔ blw w fl = false := by
  rw [lg_cmp_ge, Int64.le_iff_toInt_le]
  have := i64_b w
  cases fl with
  | none =>
    simp only [eR, blw]
    rw [show (2147483648 : Int64).toInt = 2147483648 from by decide]
    constructor
    · intro h; omega
    · intro h; cases h
  | some f =>
    simp only [eR, blw, Int32.toInt_toInt64, decide_eq_false_iff_not]
    omega
theorem eC_none (o : Option Int32) : (lg_cmp (eC o) 4294967296 = 0) ↔ o = none := by
  cases o with
  | none => exact ⟨fun _ => rfl, fun _ => by decide⟩
  | some w =>
    refine ⟨fun h => ?_, fun h => by cases h⟩
    have := i64_b w
    have h2 := (lg_cmp_ge _ _).mp (show (0 : Int32) ≤ lg_cmp (eC (some w)) 4294967296 by rw [h]; decide)
    rw [Int64.le_iff_toInt_le, show (4294967296 : Int64).toInt = 4294967296 from by decide] at h2
    simp only [eC] at h2
    omega
theorem eR_none (o : Option Int32) : (0 ≤ lg_cmp (eR o) 2147483648) ↔ o = none := by
  cases o with
  | none => exact ⟨fun _ => rfl, fun _ => by decide⟩
  | some w =>
    refine ⟨fun h => ?_, fun h => by cases h⟩
    have := i64_b w
    have h2 := (lg_cmp_ge _ _).mp h
    rw [Int64.le_iff_toInt_le, show (2147483648 : Int64).toInt = 2147483648 from by decide] at h2
    simp only [eR] at h2
    omega
def akb (L : Int32) (s : ck_S) (p c : Nat) : Bool := bt L c && bt (s 23 p) c
def nmb (r : ck_S) (p c : Nat) : Int32 := r 18 (16 * c + p)
theorem ask_num {n k c p : Nat} {s r : ck_S} (hg : gC n k s r) (hc : c < k) (hp : 1 ≤ p) (hp2 : p < 16) (hb : bt (s 23 p) c = true) : s 24 (p * 16 + c) = r 18 (16 * c + p) := by
  rcases hg.2.2.2.2.1 c p hc hp hp2 with ⟨a, b⟩ | ⟨a, b, e, _⟩ | ⟨a, b, e, _⟩
  · rw [b] at hb; cases hb
  · exact e
  · exact e
theorem leastAbove_ev {n k p : Nat} {s r : ck_S} {L : Int32} (hg : gC n k s r) (hp : 1 ≤ p) (hp2 : p < 16) (fl : Option Int32) : fM_leastAbove (eCF fl) L (Int32.ofNat p) s = some (eC (lst fl (akb L s p) (nmb r p) k), s) := by
  have hg' := hg
  obtain ⟨g1, g2, g3, g4⟩ := hg'
  have key : ∀ (d m c : Nat), c + d = k → d < m → fM_leastAbove_l19 m (eCF fl) (Int32.ofNat p) (L &&& s 23 p) (eC (lst fl (akb L s p) (nmb r p) c)) (Int32.ofNat c) s = some (eC (lst fl (akb L s p) (nmb r p) k), s) := by
    intro d
    induction d with
    | zero =>
      intro m c hc hm
      obtain ⟨m, rfl⟩ : ∃ z, m = z + 1 := ⟨m - 1, by omega⟩
      rw [fM_leastAbove_l19, g2, if_pos ((ln_le (by omega) (by omega)).mpr (by omega)), show c = k by omega]
    | succ d ih =>
      intro m c hc hm
      obtain ⟨m, rfl⟩ : ∃ z, m = z + 1 := ⟨m - 1, by omega⟩
      have hi1 := ih m (c + 1) (by omega) (by omega)
      rw [fM_leastAbove_l19, g2, if_neg (mt (ln_le (by omega) (by omega)).mp (by omega))]
      simp (disch := omega) only [ln_mulL, ln_add, ck_gd_ok, ln_at, ln_addL]
      rw [lst_s] at hi1
      cases b1 : (bt L c && bt (s 23 p) c) with
      | false =>
        rw [if_neg (fun z => by have := (bt_t _ (by omega)).mp z; rw [bt_and, b1] at this; cases this)]
        rw [show akb L s p c = false from b1] at hi1
        simpa using hi1
      | true =>
        rw [if_pos ((bt_t _ (by omega)).mpr (by rw [bt_and]; exact b1))]
        rw [show akb L s p c = true from b1] at hi1
        have hb := (Bool.and_eq_true _ _ ▸ b1 : _ ∧ _).2
        rw [ask_num hg (by omega) hp hp2 hb]
        rw [show nmb r p c = r 18 (16 * c + p) from rfl] at hi1
        cases a1 : abv fl (r 18 (16 * c + p)) with
        | false =>
          rw [if_pos ((eCF_ok _ _).mpr a1)]
          rw [a1] at hi1
          simpa using hi1
        | true =>
          rw [if_neg (fun z => by have := (eCF_ok _ _).mp z; rw [a1] at this; cases this)]
          rw [a1] at hi1
          cases a2 : blw (r 18 (16 * c + p)) (lst fl (akb L s p) (nmb r p) c) with
          | false =>
            rw [if_pos ((eC_ok _ _).mpr a2)]
            rw [a2] at hi1
            simpa using hi1
          | true =>
            rw [if_neg (fun z => by have := (eC_ok _ _).mp z; rw [a2] at this; cases this)]
            rw [a2] at hi1
            simpa [eC] using hi1
  unfold fM_leastAbove
  rw [ck_gd_ok hp2 (by omega), ln_at (by omega)]
  exact key k 4096 0 (by omega) (by omega)
/-- the reference's inner loop -/
theorem growl23_ev {n k p x : Nat} {s r : ck_S} (hg : gC n k s r) (hp : 1 ≤ p) (hp2 : p < 16) (hx : x < 60) (hI : ∀ c, c < k → bt (r 22 x) c = true → bt (s 23 p) c = true → r 17 (16 * c + p) = 1) (x3 x6 : Int32) (K : Int32 → Int32 → Int32 → Int64 → Int32 → Int64 → ck_S → Option ck_S) (fl : Option Int32) :
    fR_growNumbers_l23 K 4096 (Int32.ofNat x) (Int32.ofNat p) x3 (eRF fl) x6 2147483648 0 r = K (Int32.ofNat x) (Int32.ofNat p) x3 (eRF fl) x6 (eR (lst fl (akb (r 22 x) s p) (nmb r p) k)) r := by
  have hg' := hg
  obtain ⟨g1, g2, g3, g4⟩ := hg'
  have key : ∀ (d m c : Nat), c + d = k → d < m → fR_growNumbers_l23 K m (Int32.ofNat x) (Int32.ofNat p) x3 (eRF fl) x6 (eR (lst fl (akb (r 22 x) s p) (nmb r p) c)) (Int32.ofNat c) r = K (Int32.ofNat x) (Int32.ofNat p) x3 (eRF fl) x6 (eR (lst fl (akb (r 22 x) s p) (nmb r p) k)) r := by
    intro d
    induction d with
    | zero =>
      intro m c hc hm
      obtain ⟨m, rfl⟩ : ∃ z, m = z + 1 := ⟨m - 1, by omega⟩
      rw [fR_growNumbers_l23, g3, if_pos ((ln_le (by omega) (by omega)).mpr (by omega)), show c = k by omega]
    | succ d ih =>
      intro m c hc hm
      obtain ⟨m, rfl⟩ : ∃ z, m = z + 1 := ⟨m - 1, by omega⟩
      have hi1 := ih m (c + 1) (by omega) (by omega)
      rw [fR_growNumbers_l23, g3, if_neg (mt (ln_le (by omega) (by omega)).mp (by omega))]
      unfold fR_growNumbers_b68
      simp (disch := omega) only [ln_Lmul, ln_add, ck_gd_ok, ln_at, ln_addL, ↓reduceIte, show ¬ ((1 : Int32) = 0) by decide]
      rw [lst_s] at hi1
      have hb := (ask_bt hg (c := c) (by omega) hp hp2).2
      cases b1 : bt (r 22 x) c with
      | false =>
        rw [if_neg (fun z => by have := (bt_t _ (by omega)).mp z; rw [b1] at this; cases this)]
        rw [show akb (r 22 x) s p c = false by unfold akb; rw [b1]; rfl] at hi1
        simpa using hi1
      | true =>
        rw [if_pos ((bt_t _ (by omega)).mpr b1)]
        cases b2 : bt (s 23 p) c with
        | false =>
          rw [if_neg (fun z => by rw [hb.mpr b2] at z; exact absurd z (by decide))]
          rw [show akb (r 22 x) s p c = false by unfold akb; rw [b2]; simp] at hi1
          simpa using hi1
        | true =>
          rw [if_pos (hI c (by omega) b1 b2)]
          rw [show akb (r 22 x) s p c = true by unfold akb; rw [b1, b2]; rfl] at hi1
          rw [show nmb r p c = r 18 (16 * c + p) from rfl] at hi1
          cases a1 : abv fl (r 18 (16 * c + p)) with
          | false =>
            rw [if_pos ((eRF_ok _ _).mpr a1)]
            rw [a1] at hi1
            simpa using hi1
          | true =>
            rw [if_neg (fun z => by have := (eRF_ok _ _).mp z; rw [a1] at this; cases this)]
            rw [a1] at hi1
            cases a2 : blw (r 18 (16 * c + p)) (lst fl (akb (r 22 x) s p) (nmb r p) c) with
            | false =>
              rw [if_pos ((eR_ok _ _).mpr a2)]
              rw [a2] at hi1
              simpa using hi1
            | true =>
              rw [if_neg (fun z => by have := (eR_ok _ _).mp z; rw [a2] at this; cases this)]
              rw [a2] at hi1
              simpa [eR] using hi1
  exact key k 4096 0 (by omega) (by omega)
theorem typeAsked_ev {n k p f : Nat} {s r : ck_S} {L : Int32} (hg : gC n k s r) (hp2 : p < 16) (hf : f < k) (hl : lws L f) (ha : bt (s 23 p) f = true) : fM_typeAskedAt (Int32.ofNat p) L s = some (s 25 (p * 16 + f), s) := by
  have hg' := hg
  obtain ⟨g1, g2, g3, g4⟩ := hg'
  unfold fM_typeAskedAt
  have e := (firstOf_ev hg (L &&& s 23 p)).2 f hf ⟨by rw [bt_and, hl.1, ha]; rfl, fun b hb => by rw [bt_and, hl.2 b hb]; rfl⟩
  simp (disch := omega) only [ck_gd_ok, ln_at, e, ck_b_some, ln_m1, ↓reduceIte, ln_mulL, ln_add]
