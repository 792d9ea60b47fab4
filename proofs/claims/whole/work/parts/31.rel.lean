/-! the relation of the two states, part by part -/
theorem ln_cases (x : Int32) (p : Nat) (hp : p < 2147483648) : (∃ i, i < p ∧ x = Int32.ofNat i) ∨ x < 0 ∨ (¬ x < 0 ∧ Int32.ofNat p ≤ x) := by
  by_cases h : x < 0
  · exact Or.inr (Or.inl h)
  · by_cases h2 : Int32.ofNat p ≤ x
    · exact Or.inr (Or.inr ⟨h, h2⟩)
    · exact Or.inl (ln_of h hp (Int32.not_le.mp h2))
def rO (t : Nat) (st rt : ck_S) : Prop := rt 0 18 = st 4 6 ∧ (st 4 6 = -1 ∨ ∃ o, o ≤ t ∧ st 4 6 = Int32.ofNat o)
def pd (st : ck_S) (x : Int32) : Nat := if x = -1 then 0 else (st 15 x.toNatClampNeg).toNatClampNeg
def pch (st : ck_S) (x : Int32) : Nat := if x = -1 then 1 else (st 16 x.toNatClampNeg).toNatClampNeg
def partOK (st : ck_S) (i : Nat) (a x : Int32) : Prop := (a = -1 ∧ x = -1) ∨ (a ≠ -1 ∧ ∃ l, l < i ∧ x = Int32.ofNat l ∧ (st 11 l = -1 ∨ st 11 l = a))
def pAny (st rt : ck_S) (i : Nat) : Prop := rt 4 i = 0 ∧ st 10 i = 0 ∧ st 11 i = -1 ∧ st 13 i = -1 ∧ st 14 i = -1 ∧ st 15 i = 1 ∧ st 16 i = 1
def pNum (st rt : ck_S) (i : Nat) : Prop := rt 4 i = 1 ∧ st 10 i = 0 ∧ st 11 i = 0 ∧ st 13 i = -1 ∧ st 14 i = -1 ∧ st 15 i = 1 ∧ st 16 i = 1
def pBuild (n : Nat) (st rt : ck_S) (i : Nat) : Prop := rt 4 i = 2 ∧ st 10 i = 0 ∧ ∃ c, c < n ∧ st 12 i = Int32.ofNat c ∧ st 11 i = st 7 c ∧ partOK st i (st 8 c) (st 13 i) ∧ partOK st i (st 9 c) (st 14 i) ∧
  st 15 i = Int32.ofNat (1 + max (pd st (st 13 i)) (pd st (st 14 i))) ∧ st 16 i = Int32.ofNat (pch st (st 13 i) * pch st (st 14 i))
def pEither (st rt : ck_S) (i : Nat) : Prop := rt 4 i = 3 ∧ st 10 i = 1 ∧ ∃ l r, l < i ∧ r < i ∧ st 13 i = Int32.ofNat l ∧ st 14 i = Int32.ofNat r ∧ st 15 i = Int32.ofNat (max (pd st (st 13 i)) (pd st (st 14 i))) ∧ st 16 i = Int32.ofNat (pch st (st 13 i) + pch st (st 14 i)) ∧
  st 11 i = (if st 11 l = -1 then st 11 r else st 11 l) ∧ (st 11 l = -1 ∨ st 11 r = -1 ∨ st 11 l = st 11 r)
def pOK (n : Nat) (st rt : ck_S) (i : Nat) : Prop :=
  (rt 5 i = st 12 i ∧ rt 6 i = st 13 i ∧ rt 7 i = st 14 i ∧ rt 8 i = st 11 i ∧ rt 9 i = st 15 i ∧ rt 10 i = st 16 i) ∧
  (st 11 i = -1 ∨ ∃ a, a ≤ 5 ∧ st 11 i = Int32.ofNat a) ∧ (∃ d, 1 ≤ d ∧ d ≤ 4 ∧ st 15 i = Int32.ofNat d) ∧ (∃ k, 1 ≤ k ∧ k ≤ 8 ∧ st 16 i = Int32.ofNat k) ∧
  (pAny st rt i ∨ pNum st rt i ∨ pBuild n st rt i ∨ pEither st rt i)
def rP (n p : Nat) (st rt : ck_S) : Prop := p ≤ 60 ∧ st 2 7 = Int32.ofNat p ∧ rt 0 5 = Int32.ofNat p ∧ ∀ i, i < p → pOK n st rt i
def vpart (st : ck_S) (i : Nat) (a x : Int32) : Prop := (a = -1 ∧ x = -1) ∨ (a ≠ -1 ∧ ∃ l, l < i ∧ x = Int32.ofNat l ∧ st 17 l = a)
def vOK (n : Nat) (st rt : ck_S) (i : Nat) : Prop :=
  (rt 12 i = st 18 i ∧ rt 13 i = st 19 i ∧ rt 14 i = st 20 i) ∧
  ((rt 11 i = 1 ∧ st 17 i = 0 ∧ st 19 i = -1 ∧ st 20 i = -1) ∨ (rt 11 i = 2 ∧ ∃ c, c < n ∧ st 18 i = Int32.ofNat c ∧ st 17 i = st 7 c ∧ vpart st i (st 8 c) (st 19 i) ∧ vpart st i (st 9 c) (st 20 i)))
def rV (n v : Nat) (st rt : ck_S) : Prop := v ≤ 60 ∧ st 3 4 = Int32.ofNat v ∧ rt 0 13 = Int32.ofNat v ∧ ∀ i, i < v → vOK n st rt i
/-! what is not read may change -/
theorem rO_frame {t t2 : Nat} {st rt s2 r2 : ck_S} (h : rO t st rt) (ht : t ≤ t2) (a : s2 4 6 = st 4 6) (b : r2 0 18 = rt 0 18) : rO t2 s2 r2 := by
  refine ⟨by rw [a, b]; exact h.1, ?_⟩
  rw [a]
  rcases h.2 with h | ⟨o, h1, h2⟩
  · exact Or.inl h
  · exact Or.inr ⟨o, by omega, h2⟩
theorem partOK_frame {st s2 : ck_S} {i : Nat} {a x : Int32} (h : partOK st i a x) (e : ∀ l, l < i → s2 11 l = st 11 l) : partOK s2 i a x := by
  rcases h with h | ⟨h1, l, h2, h3, h4⟩
  · exact Or.inl h
  · exact Or.inr ⟨h1, l, h2, h3, by rw [e l h2]; exact h4⟩
theorem pd_frame {st s2 : ck_S} {i : Nat} {x : Int32} (hx : x = -1 ∨ ∃ l, l < i ∧ x = Int32.ofNat l) (hi : i < 2147483648) (e : ∀ l, l < i → s2 15 l = st 15 l) : pd s2 x = pd st x := by
  unfold pd
  rcases hx with rfl | ⟨l, h1, rfl⟩
  · rw [if_pos rfl, if_pos rfl]
  · rw [if_neg (ln_m1 (by omega)), if_neg (ln_m1 (by omega)), ln_at (by omega), e l h1]
theorem pch_frame {st s2 : ck_S} {i : Nat} {x : Int32} (hx : x = -1 ∨ ∃ l, l < i ∧ x = Int32.ofNat l) (hi : i < 2147483648) (e : ∀ l, l < i → s2 16 l = st 16 l) : pch s2 x = pch st x := by
  unfold pch
  rcases hx with rfl | ⟨l, h1, rfl⟩
  · rw [if_pos rfl, if_pos rfl]
  · rw [if_neg (ln_m1 (by omega)), if_neg (ln_m1 (by omega)), ln_at (by omega), e l h1]
theorem partOK.or {st : ck_S} {i : Nat} {a x : Int32} (h : partOK st i a x) : x = -1 ∨ ∃ l, l < i ∧ x = Int32.ofNat l := by
  rcases h with h | ⟨_, l, h2, h3, _⟩
  · exact Or.inl h.2
  · exact Or.inr ⟨l, h2, h3⟩
/-- the pattern i is read at its own place and below it alone -/
theorem pOK_frame {n n2 : Nat} {st rt s2 r2 : ck_S} {i : Nat} (hi : i < 60) (h : pOK n st rt i) (hn : n ≤ n2) (e10 : ∀ l, l ≤ i → s2 10 l = st 10 l) (e11 : ∀ l, l ≤ i → s2 11 l = st 11 l) (e12 : ∀ l, l ≤ i → s2 12 l = st 12 l) (e13 : ∀ l, l ≤ i → s2 13 l = st 13 l) (e14 : ∀ l, l ≤ i → s2 14 l = st 14 l) (e15 : ∀ l, l ≤ i → s2 15 l = st 15 l) (e16 : ∀ l, l ≤ i → s2 16 l = st 16 l)
    (d : ∀ c, c < n → s2 7 c = st 7 c ∧ s2 8 c = st 8 c ∧ s2 9 c = st 9 c) (r : ∀ q, 4 ≤ q → q ≤ 10 → ∀ l, l ≤ i → r2 q l = rt q l) : pOK n2 s2 r2 i := by
  obtain ⟨⟨a1, a2, a3, a4, a5, a6⟩, b, c, k, w⟩ := h
  have z := Nat.le_refl i
  unfold pOK pAny pNum
  rw [r 4 (by omega) (by omega) i z, r 5 (by omega) (by omega) i z, r 6 (by omega) (by omega) i z, r 7 (by omega) (by omega) i z, r 8 (by omega) (by omega) i z, r 9 (by omega) (by omega) i z, r 10 (by omega) (by omega) i z, e10 i z, e11 i z, e12 i z, e13 i z, e14 i z, e15 i z, e16 i z]
  refine ⟨⟨a1, a2, a3, a4, a5, a6⟩, b, c, k, ?_⟩
  rcases w with w | w | w | w
  · exact Or.inl w
  · exact Or.inr (Or.inl w)
  · refine Or.inr (Or.inr (Or.inl ?_))
    obtain ⟨w1, w2, co, w3, w4, w5, w6, w7, w8, w9⟩ := w
    obtain ⟨d7, d8, d9⟩ := d co w3
    unfold pBuild
    rw [r 4 (by omega) (by omega) i z, e10 i z, e12 i z, e11 i z, e13 i z, e14 i z, e15 i z, e16 i z]
    refine ⟨w1, w2, co, by omega, w4, by rw [d7]; exact w5, by rw [d8]; exact partOK_frame w6 (fun l hl => e11 l (by omega)), by rw [d9]; exact partOK_frame w7 (fun l hl => e11 l (by omega)), ?_, ?_⟩
    · rw [pd_frame w6.or (by omega) (fun l hl => e15 l (by omega)), pd_frame w7.or (by omega) (fun l hl => e15 l (by omega))]
      exact w8
    · rw [pch_frame w6.or (by omega) (fun l hl => e16 l (by omega)), pch_frame w7.or (by omega) (fun l hl => e16 l (by omega))]
      exact w9
  · refine Or.inr (Or.inr (Or.inr ?_))
    obtain ⟨w1, w2, l, q, w3, w4, w5, w6, w7, w8, w9, w10⟩ := w
    unfold pEither
    rw [r 4 (by omega) (by omega) i z, e10 i z, e11 i z, e13 i z, e14 i z, e15 i z, e16 i z]
    refine ⟨w1, w2, l, q, w3, w4, w5, w6, ?_, ?_, ?_, ?_⟩
    · rw [pd_frame (i := i) (Or.inr ⟨l, w3, w5⟩) (by omega) (fun l hl => e15 l (by omega)), pd_frame (i := i) (Or.inr ⟨q, w4, w6⟩) (by omega) (fun l hl => e15 l (by omega))]
      exact w7
    · rw [pch_frame (i := i) (Or.inr ⟨l, w3, w5⟩) (by omega) (fun l hl => e16 l (by omega)), pch_frame (i := i) (Or.inr ⟨q, w4, w6⟩) (by omega) (fun l hl => e16 l (by omega))]
      exact w8
    · rw [e11 l (by omega), e11 q (by omega)]
      exact w9
    · rw [e11 l (by omega), e11 q (by omega)]
      exact w10
theorem rP_frame {n n2 p : Nat} {st rt s2 r2 : ck_S} (h : rP n p st rt) (hn : n ≤ n2) (e2 : s2 2 7 = st 2 7) (e10 : s2 10 = st 10) (e11 : s2 11 = st 11) (e12 : s2 12 = st 12) (e13 : s2 13 = st 13) (e14 : s2 14 = st 14) (e15 : s2 15 = st 15) (e16 : s2 16 = st 16)
    (d : ∀ c, c < n → s2 7 c = st 7 c ∧ s2 8 c = st 8 c ∧ s2 9 c = st 9 c) (r0 : r2 0 5 = rt 0 5) (r : ∀ q, 4 ≤ q → q ≤ 10 → r2 q = rt q) : rP n2 p s2 r2 := by
  obtain ⟨h1, h2, h3, h4⟩ := h
  refine ⟨h1, by rw [e2]; exact h2, by rw [r0]; exact h3, fun i hi => pOK_frame (by omega) (h4 i hi) hn (fun _ _ => by rw [e10]) (fun _ _ => by rw [e11]) (fun _ _ => by rw [e12]) (fun _ _ => by rw [e13]) (fun _ _ => by rw [e14]) (fun _ _ => by rw [e15]) (fun _ _ => by rw [e16]) d (fun q a b l _ => by rw [r q a b])⟩
theorem vpart_frame {st s2 : ck_S} {i : Nat} {a x : Int32} (h : vpart st i a x) (e : ∀ l, l < i → s2 17 l = st 17 l) : vpart s2 i a x := by
  rcases h with h | ⟨h1, l, h2, h3, h4⟩
  · exact Or.inl h
  · exact Or.inr ⟨h1, l, h2, h3, by rw [e l h2]; exact h4⟩
theorem vOK_frame {n n2 : Nat} {st rt s2 r2 : ck_S} {i : Nat} (h : vOK n st rt i) (hn : n ≤ n2) (e17 : ∀ l, l ≤ i → s2 17 l = st 17 l) (e18 : s2 18 i = st 18 i) (e19 : s2 19 i = st 19 i) (e20 : s2 20 i = st 20 i) (d : ∀ c, c < n → s2 7 c = st 7 c ∧ s2 8 c = st 8 c ∧ s2 9 c = st 9 c) (r : ∀ q, 11 ≤ q → q ≤ 14 → r2 q i = rt q i) : vOK n2 s2 r2 i := by
  obtain ⟨a, w⟩ := h
  unfold vOK
  rw [r 11 (by omega) (by omega), r 12 (by omega) (by omega), r 13 (by omega) (by omega), r 14 (by omega) (by omega), e17 i (Nat.le_refl i), e18, e19, e20]
  refine ⟨a, ?_⟩
  rcases w with w | ⟨w1, c, w2, w3, w4, w5, w6⟩
  · exact Or.inl w
  · obtain ⟨d7, d8, d9⟩ := d c w2
    exact Or.inr ⟨w1, c, by omega, w3, by rw [d7]; exact w4, by rw [d8]; exact vpart_frame w5 (fun l hl => e17 l (by omega)), by rw [d9]; exact vpart_frame w6 (fun l hl => e17 l (by omega))⟩
theorem rV_frame {n n2 v : Nat} {st rt s2 r2 : ck_S} (h : rV n v st rt) (hn : n ≤ n2) (e3 : s2 3 4 = st 3 4) (e17 : s2 17 = st 17) (e18 : s2 18 = st 18) (e19 : s2 19 = st 19) (e20 : s2 20 = st 20) (d : ∀ c, c < n → s2 7 c = st 7 c ∧ s2 8 c = st 8 c ∧ s2 9 c = st 9 c) (r0 : r2 0 13 = rt 0 13) (r : ∀ q, 11 ≤ q → q ≤ 14 → r2 q = rt q) : rV n2 v s2 r2 := by
  obtain ⟨h1, h2, h3, h4⟩ := h
  refine ⟨h1, by rw [e3]; exact h2, by rw [r0]; exact h3, fun i hi => vOK_frame (h4 i hi) hn (fun _ _ => by rw [e17]) (by rw [e18]) (by rw [e19]) (by rw [e20]) d (fun q a b => by rw [r q a b])⟩
theorem rD_frame {t n : Nat} {st rt s2 r2 : ck_S} (h : rD t n st rt) (e3 : s2 1 3 = st 1 3) (e4 : s2 1 4 = st 1 4) (e7 : s2 7 = st 7) (e8 : s2 8 = st 8) (e9 : s2 9 = st 9) (r0 : r2 0 0 = rt 0 0) (r1 : r2 0 1 = rt 0 1) (f1 : r2 1 = rt 1) (f2 : r2 2 = rt 2) (f3 : r2 3 = rt 3) : rD t n s2 r2 := by
  unfold rD
  rw [e3, e4, e7, e8, e9, r0, r1, f1, f2, f3]
  exact h
