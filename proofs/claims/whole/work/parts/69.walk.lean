/-! a value's way through the tree -/
def anc (q p : Nat) : Prop := 1 ≤ q ∧ (q = p ∨ q = p / 2 ∨ q = p / 4 ∨ q = p / 8)
theorem asks_up {n k c p : Nat} {s r : ck_S} (h : cls n k s r) (hc : c < k) (hp : 2 ≤ p) (hp2 : p < 16) (ha : ¬ r 17 (16 * c + p) = 0) : r 17 (16 * c + p / 2) = 2 := by
  have hT := (h.2.2 c hc).2 (p / 2) (by omega) (by omega)
  by_cases e : p % 2 = 0
  · exact (hT.1 (by rw [show 2 * (p / 2) = p by omega]; exact ha)).1
  · exact (hT.2 (by rw [show 2 * (p / 2) + 1 = p by omega]; exact ha)).1
theorem asks_anc {n k c q p : Nat} {s r : ck_S} (h : cls n k s r) (hc : c < k) (hp : 1 ≤ p) (hp2 : p < 16) (ha : ¬ r 17 (16 * c + p) = 0) (hq : anc q p) : ¬ r 17 (16 * c + q) = 0 := by
  have n2 : ∀ {y : Int32}, y = 2 → ¬ y = 0 := fun e => by rw [e]; decide
  obtain ⟨q1, e | e | e | e⟩ := hq
  · rw [e]; exact ha
  · rw [e]; exact n2 (asks_up h hc (by omega) hp2 ha)
  · have h1 := n2 (asks_up h hc (by omega) hp2 ha)
    have h2 := n2 (asks_up h hc (p := p / 2) (by omega) (by omega) h1)
    rw [e, show p / 4 = p / 2 / 2 by omega]
    exact h2
  · have h1 := n2 (asks_up h hc (by omega) hp2 ha)
    have h2 := n2 (asks_up h hc (p := p / 2) (by omega) (by omega) h1)
    have h3 := n2 (asks_up h hc (p := p / 2 / 2) (by omega) (by omega) h2)
    rw [e, show p / 8 = p / 2 / 2 / 2 by omega]
    exact h3
/-- below a place that is asked, one of its two parts is on the way -/
theorem anc_down {q p : Nat} (hq : anc q p) (hp : p < 16) (hne : ¬ q = p) : anc (2 * q) p ∨ anc (2 * q + 1) p := by
  unfold anc at *
  omega
def WI (k v i : Nat) (x : Int32) (s r : ck_S) : Prop :=
  (∀ c, c < k → bt (r 22 i) c = true → ∀ p, 1 ≤ p → p < 16 → ¬ r 17 (16 * c + p) = 0 → mtc r x c p ∨ ∃ q, anc q p ∧ bt (r 23 i) q = true) ∧
  (∀ p, 1 ≤ p → p < 16 → bt (r 23 i) p = true → ∃ u, u < v ∧ pw r x p = Int32.ofNat u ∧ s 37 p = Int32.ofNat u ∧ ∀ c, c < k → bt (r 22 i) c = true → bt (s 23 p) c = true → s 25 (p * 16 + c) = s 17 u) ∧
  (∀ c, c < k → cfit r x c → bt (r 22 i) c = true)
def TK (n k i p F M u : Nat) (s r : ck_S) (j : Nat) (rest con : Bool) : Prop := j < M ∧ brn s r i p (F + j) rest con ∧ fT_branchFor (Int32.ofNat i) (s 18 u) s = some (Int32.ofNat (F + j), s) ∧
      (∀ (K : Int32 → Int32 → Int32 → ck_S → Option (Int32 × ck_S)) (x1 x2 : Int32), fR_walk_l40 K 4096 x1 x2 (Int32.ofNat u) (Int32.ofNat F) r = K x1 x2 (Int32.ofNat (F + j)) r) ∧
      (rest = false → r 29 (F + j) = s 18 u) ∧ (rest = true → ∀ c, c < k → akb (r 22 i) s p c = true → ¬ nmb r p c = s 18 u) ∧
      (∀ c, c < k → bt (r 22 i) c = true → bt (s 23 p) c = true → r 11 u = r 17 (16 * c + p)) ∧
      (con = true → rest = false ∧ ∃ co, co < n ∧ s 18 u = Int32.ofNat co ∧ vpart s u (s 8 co) (s 19 u) ∧ vpart s u (s 9 co) (s 20 u)) ∧ (con = false → r 11 u = 1)
/-- the branch that is taken -/
theorem take_ev {t n k v N i p F M u : Nat} {s r : ck_S} (hD : rD t n s r) (hV : rV n v s r) (hN : N ≤ 60) (hi : i < N) (hu : u < v) (h33 : s 33 i = Int32.ofNat F) (h34 : s 34 i = Int32.ofNat M) (hiF : i < F) (hFM : F + M ≤ N) (hlab : ∀ j, 1 ≤ j → j < N → s 28 j = r 29 j) (hB : tsB n k i p F M (s 17 u) s r) :
    ∃ j rest con, TK n k i p F M u s r j rest con := by
  obtain ⟨v1, v2, v3, v4⟩ := hV
  obtain ⟨⟨a1, a2, a3⟩, hk⟩ := v4 u hu
  -- the reference's search
  have seek : ∀ (K : Int32 → Int32 → Int32 → ck_S → Option (Int32 × ck_S)) (x1 x2 : Int32) (j : Nat), j < M → (∀ l, l < j → r 30 (F + l) = 0 ∧ ¬ r 29 (F + l) = s 18 u) → (r 30 (F + j) = 0 → r 29 (F + j) = s 18 u) → fR_walk_l40 K 4096 x1 x2 (Int32.ofNat u) (Int32.ofNat F) r = K x1 x2 (Int32.ofNat (F + j)) r := by
    intro K x1 x2 j hj hb hs
    have key : ∀ (d m l : Nat), l + d = j → d < m → fR_walk_l40 K m x1 x2 (Int32.ofNat u) (Int32.ofNat (F + l)) r = K x1 x2 (Int32.ofNat (F + j)) r := by
      intro d
      induction d with
      | zero =>
        intro m l hl hm
        obtain ⟨m, rfl⟩ : ∃ z, m = z + 1 := ⟨m - 1, by omega⟩
        rw [fR_walk_l40, show l = j by omega]
        simp (disch := omega) only [ck_gd_ok, ln_at, a1]
        by_cases e : r 30 (F + j) = 0
        · rw [if_pos e, if_pos (hs e)]
        · rw [if_neg e]
      | succ d ih =>
        intro m l hl hm
        obtain ⟨m, rfl⟩ : ∃ z, m = z + 1 := ⟨m - 1, by omega⟩
        obtain ⟨b1, b2⟩ := hb l (by omega)
        rw [fR_walk_l40]
        simp (disch := omega) only [ck_gd_ok, ln_at, a1]
        rw [if_pos b1, if_neg b2, show Int32.ofNat (F + l) + 1 = Int32.ofNat (F + (l + 1)) from ln_addL (F + l) 1]
        exact ih m (l + 1) (by omega) (by omega)
    exact key j 4096 0 (by omega) (by omega)
  have hM1 : 1 ≤ M := by
    rcases hB with ⟨_, _, m, m1, _⟩ | ⟨_, _, m1, _⟩ <;> omega
  have lab : ∀ j, j < M → s 28 (F + j) = r 29 (F + j) := fun j hj => hlab (F + j) (by omega) (by omega)
  rcases hB with ⟨ty, hask, m, hm, hm16, hbr, hbm, hl0, hasc, hcov⟩ | ⟨⟨o, o1, o2, ty⟩, hask, _, hcon, hcov⟩
  · -- numbers
    have h11 : r 11 u = 1 := by
      rcases hk with hk | ⟨_, c, c1, c2, c3, _⟩
      · exact hk.1
      · obtain ⟨⟨o, o1, o2, o3⟩, _⟩ := hD.2.2.2.2.2.2.2.1 c c1
        rw [ty, o3] at c3
        exact absurd ((ln_eq (a := 0) (b := o) (by omega) (by have := hD.1; omega)).mp c3) (by omega)
    rcases branchFor_ev (by omega) h33 h34 hM1 (by omega) (s 18 u) with ⟨j, j1, j2, j3, j4⟩ | ⟨j3, j4⟩
    · refine ⟨j, false, false, by omega, hbr j (by omega), j4, fun K x1 x2 => seek K x1 x2 j (by omega) (fun l hl => ⟨by have := (hbr l (by omega)).2.1; exact this, by rw [← lab l (by omega)]; exact j3 l hl⟩) (fun _ => by rw [← lab j (by omega)]; exact j2), fun _ => by rw [← lab j (by omega)]; exact j2, fun z => absurd z (by decide), fun c c1 c2 c3 => by rw [h11, hask c c1 c2 c3], fun z => absurd z (by decide), fun _ => h11⟩
    · rw [show M - 1 = m by omega] at j4
      refine ⟨m, true, false, by omega, hbm, j4, fun K x1 x2 => seek K x1 x2 m (by omega) (fun l hl => ⟨by have := (hbr l hl).2.1; exact this, by rw [← lab l (by omega)]; exact j3 l (by omega)⟩) (fun z => by have := hbm.2.1; rw [z] at this; exact absurd this (by decide)), fun z => absurd z (by decide), fun _ c c1 c2 c3 => ?_, fun c c1 c2 c3 => by rw [h11, hask c c1 c2 c3], fun z => absurd z (by decide), fun _ => h11⟩
      obtain ⟨l, l1, l2⟩ := hcov c c1 c2
      exact j3 l (by omega) (by rw [lab l (by omega), l2]; exact c3)
  · -- constructors
    rcases hk with hk | ⟨k1, co, c1, c2, c3, c4, c5⟩
    · have := hk.2.1
      rw [ty] at this
      exact absurd ((ln_eq (a := o) (b := 0) (by omega) (by omega)).mp this) (by omega)
    · obtain ⟨l, l1, l2⟩ := hcov co c1 c3.symm
      have fin : ∀ j, j < M → s 28 (F + j) = s 18 u → (∀ i, i < j → ¬ s 28 (F + i) = s 18 u) → fT_branchFor (Int32.ofNat i) (s 18 u) s = some (Int32.ofNat (F + j), s) → TK n k i p F M u s r j false true := fun j j1 j2 j3 j4 =>
        ⟨j1, (hcon j j1).1, j4, fun K x1 x2 => seek K x1 x2 j j1 (fun l hl => ⟨by have := (hcon l (by omega)).1.2.1; exact this, by rw [← lab l (by omega)]; exact j3 l hl⟩) (fun _ => by rw [← lab j j1]; exact j2), fun _ => by rw [← lab j j1]; exact j2, fun z => absurd z (by decide), fun c c1 c2 c3 => by rw [k1, hask c c1 c2 c3], fun _ => ⟨rfl, co, c1, c2, c4, c5⟩, fun z => absurd z (by decide)⟩
      rcases branchFor_ev (by omega) h33 h34 hM1 (by omega) (s 18 u) with ⟨j, j1, j2, j3, j4⟩ | ⟨j3, j4⟩
      · exact ⟨j, false, true, fin j (by omega) j2 j3 j4⟩
      · have el : l = M - 1 := by
          by_cases z : l + 1 < M
          · exact absurd (by rw [lab l l1, l2, c2]) (j3 l z)
          · omega
        exact ⟨M - 1, false, true, fin (M - 1) (by omega) (by rw [← el, lab l l1, l2, c2]) (fun i hi => j3 i (by omega)) j4⟩
