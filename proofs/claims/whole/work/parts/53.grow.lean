/-! a node is expanded -/
def lfN (k : Nat) (s r : ck_S) (i : Nat) : Prop := s 30 i = 0 ∧ r 24 i = 0 ∧ s 31 i = -1 ∧ s 32 i = r 26 i ∧ s 34 i = 0 ∧ r 28 i = 0 ∧ ((r 22 i = 0 ∧ r 26 i = -1) ∨ ∃ f, f < k ∧ lws (r 22 i) f ∧ r 26 i = Int32.ofNat f ∧ (∀ p, 1 ≤ p → p < 16 → ¬ (bt (r 23 i) p = true ∧ bt (s 23 p) f = true)) ∧ bt (s 5 15) f = true)
def tsB (n k i p F M : Nat) (ty : Int32) (s r : ck_S) : Prop :=
  (ty = 0 ∧ (∀ c, c < k → bt (r 22 i) c = true → bt (s 23 p) c = true → r 17 (16 * c + p) = 1) ∧ ∃ m, M = m + 1 ∧ m ≤ 16 ∧ (∀ j, j < m → brn s r i p (F + j) false false) ∧ brn s r i p (F + m) true false ∧ r 29 (F + m) = 0 ∧ (∀ j1 j2, j1 < j2 → j2 < m → (r 29 (F + j1)).toInt < (r 29 (F + j2)).toInt) ∧ (∀ c, c < k → akb (r 22 i) s p c = true → ∃ j, j < m ∧ r 29 (F + j) = nmb r p c)) ∨
  ((∃ o, 1 ≤ o ∧ o ≤ 5 ∧ ty = Int32.ofNat o) ∧ (∀ c, c < k → bt (r 22 i) c = true → bt (s 23 p) c = true → r 17 (16 * c + p) = 2) ∧ 1 ≤ M ∧ CI i p F ty s r n M)
def tsN (n k N : Nat) (s r : ck_S) (i : Nat) : Prop := ∃ p f F M, 1 ≤ p ∧ p < 16 ∧ s 30 i = Int32.ofNat p ∧ r 24 i = Int32.ofNat p ∧ f < k ∧ lws (r 22 i) f ∧ bt (r 23 i) p = true ∧ bt (s 23 p) f = true ∧ s 31 i = s 25 (p * 16 + f) ∧ r 25 i = s 31 i ∧ s 32 i = -1 ∧ s 33 i = Int32.ofNat F ∧ r 27 i = Int32.ofNat F ∧ s 34 i = Int32.ofNat M ∧ r 28 i = Int32.ofNat M ∧ i < F ∧ F + M ≤ N ∧ tsB n k i p F M (s 31 i) s r
def XF (x : Nat) (s r s2 r2 : ck_S) : Prop := (∀ a i, 30 ≤ a → a ≤ 34 → i < x → s2 a i = s a i) ∧ (∀ a i, 24 ≤ a → a ≤ 28 → i < x → r2 a i = r a i) ∧ (∀ c, c < 16 → bt (s 5 15) c = true → bt (s2 5 15) c = true)
theorem lfN_frame {k N x i : Nat} {s r s2 r2 : ck_S} (hk : k ≤ 16) (h : lfN k s r i) (f : TF N s r s2 r2) (g : XF x s r s2 r2) (hi : i < x) (hi2 : i < N) : lfN k s2 r2 i := by
  obtain ⟨h1, h2, h3, h4, h5, h6, h7⟩ := h
  obtain ⟨g1, g2, g3⟩ := g
  unfold lfN
  rw [g1 30 i (by omega) (by omega) hi, g1 31 i (by omega) (by omega) hi, g1 32 i (by omega) (by omega) hi, g1 34 i (by omega) (by omega) hi, g2 24 i (by omega) (by omega) hi, g2 26 i (by omega) (by omega) hi, g2 28 i (by omega) (by omega) hi, (f.2.2.2.2.2 i hi2).1, (f.2.2.2.2.2 i hi2).2.1, f.2.1 23 (by omega) (by omega)]
  refine ⟨h1, h2, h3, h4, h5, h6, ?_⟩
  rcases h7 with h7 | ⟨q, a1, a2, a3, a4, a5⟩
  · exact Or.inl h7
  · exact Or.inr ⟨q, a1, a2, a3, a4, g3 q (by omega) a5⟩
theorem tsB_frame {n k N i p F M : Nat} {ty : Int32} {s r s2 r2 : ck_S} (h : tsB n k i p F M ty s r) (f : TF N s r s2 r2) (hi : i < F) (hF : F + M ≤ N) : tsB n k i p F M ty s2 r2 := by
  have e22 := (f.2.2.2.2.2 i (show i < N by omega)).1
  have e23 := f.2.1 23 (by omega) (by omega)
  rcases h with ⟨h1, h2, m, rfl, h3, h4, h5, h6, h7, h8⟩ | ⟨h1, h2, h3, h4⟩
  · have e : ∀ j, j < m + 1 → r2 29 (F + j) = r 29 (F + j) := fun j hj => (f.2.2.2.2.2 (F + j) (by omega)).2.2.1
    refine Or.inl ⟨h1, fun c a b d => ?_, m, rfl, h3, fun j hj => brn_frame (h4 j hj) f (by omega) (by omega), brn_frame h5 f (by omega) (by omega), by rw [e m (by omega)]; exact h6, fun j1 j2 a b => by rw [e j1 (by omega), e j2 (by omega)]; exact h7 j1 j2 a b, fun c a b => ?_⟩
    · rw [f.2.2.2.1]
      rw [e22] at b
      rw [e23] at d
      exact h2 c a b d
    · rw [akb_frame f (by omega)] at b
      obtain ⟨j, y, z⟩ := h8 c a b
      exact ⟨j, y, by rw [e j (by omega), nmb_frame f]; exact z⟩
  · refine Or.inr ⟨h1, fun c a b d => ?_, h3, CI_frame h4 (TF_le f hF) hi⟩
    rw [f.2.2.2.1]
    rw [e22] at b
    rw [e23] at d
    exact h2 c a b d
theorem tsN_frame {n k N N2 x i : Nat} {s r s2 r2 : ck_S} (h : tsN n k N s r i) (f : TF N s r s2 r2) (g : XF x s r s2 r2) (hi : i < x) (hi2 : i < N) (hN : N ≤ N2) : tsN n k N2 s2 r2 i := by
  obtain ⟨p, q, F, M, h1, h2, h3, h4, h5, h6, h7, h8, h9, h10, h11, h12, h13, h14, h15, h16, h17, h18⟩ := h
  obtain ⟨g1, g2, g3⟩ := g
  have hB := tsB_frame h18 f h16 h17
  refine ⟨p, q, F, M, h1, h2, ?_⟩
  rw [g1 30 i (by omega) (by omega) hi, g1 31 i (by omega) (by omega) hi, g1 32 i (by omega) (by omega) hi, g1 33 i (by omega) (by omega) hi, g1 34 i (by omega) (by omega) hi, g2 24 i (by omega) (by omega) hi, g2 25 i (by omega) (by omega) hi, g2 27 i (by omega) (by omega) hi, g2 28 i (by omega) (by omega) hi, (f.2.2.2.2.2 i hi2).1, (f.2.2.2.2.2 i hi2).2.1, f.2.1 23 (by omega) (by omega), f.2.1 25 (by omega) (by omega)]
  exact ⟨h3, h4, h5, h6, h7, h8, h9, h10, h11, h12, h13, h14, h15, h16, by omega, hB⟩
def par (s : ck_S) (x j : Nat) : Prop := ∃ i F M, i < x ∧ i < j ∧ s 33 i = Int32.ofNat F ∧ s 34 i = Int32.ofNat M ∧ F ≤ j ∧ j < F + M ∧ F + M ≤ 60
def GI (n k x N : Nat) (s r : ck_S) : Prop := gC n k s r ∧ 1 ≤ N ∧ N ≤ 60 ∧ x ≤ N ∧ s 5 14 = Int32.ofNat N ∧ r 0 29 = Int32.ofNat N ∧ r 0 30 = 0 ∧ (∀ i, i < N → nd k s r i) ∧ (∀ i, i < x → lfN k s r i ∨ tsN n k N s r i) ∧ (∀ i, x ≤ i → i < N → df s i) ∧ (∀ j, 1 ≤ j → j < N → par s x j) ∧ (∀ c, c < k → bt (s 5 15) c = true → ∃ i, i < x ∧ r 24 i = 0 ∧ r 26 i = Int32.ofNat c) ∧ s 29 0 = 0 ∧ r 23 0 = 2 ∧ (∀ c, c < k → bt (r 22 0) c = true)
/-- from a step that leaves what is there alone -/
theorem GI_step {n k x N N2 : Nat} {s r s2 r2 : ck_S} (h : GI n k x N s r) (hx : x < N) (f : TF N s r s2 r2) (g : XF x s r s2 r2) (hg : gC n k s2 r2) (hN2 : N ≤ N2) (hN60 : N2 ≤ 60) (e14 : s2 5 14 = Int32.ofNat N2) (e29 : r2 0 29 = Int32.ofNat N2) (e30 : r2 0 30 = 0) (hnew : ∀ j, N ≤ j → j < N2 → nd k s2 r2 j ∧ df s2 j ∧ par s2 (x + 1) j) (hexp : lfN k s2 r2 x ∨ tsN n k N2 s2 r2 x) (hdf : ∀ i, x < i → i < N → df s i → df s2 i) (hc : ∀ c, c < k → bt (s2 5 15) c = true → bt (s 5 15) c = true ∨ (r2 24 x = 0 ∧ r2 26 x = Int32.ofNat c)) : GI n k (x + 1) N2 s2 r2 := by
  obtain ⟨a1, a2, a3, a4, a5, a6, a7, a8, a9, a10, a11, a12, a13, a14, a15⟩ := h
  refine ⟨hg, by omega, hN60, by omega, e14, e29, e30, fun i hi => ?_, fun i hi => ?_, fun i hi hi2 => ?_, fun j hj hj2 => ?_, fun c hck hb => ?_, ?_, ?_, fun c hck => ?_⟩
  · by_cases e : i < N
    · exact nd_frame (a8 i e) f e
    · exact (hnew i (by omega) hi).1
  · by_cases e : i = x
    · rw [e]; exact hexp
    · rcases a9 i (by omega) with h | h
      · exact Or.inl (lfN_frame a1.1 h f g (by omega) (by omega))
      · exact Or.inr (tsN_frame h f g (by omega) (by omega) hN2)
  · by_cases e : i < N
    · exact hdf i (by omega) e (a10 i (by omega) e)
    · exact (hnew i (by omega) hi2).2.1
  · by_cases e : j < N
    · obtain ⟨i, F, M, b1, b2, b3, b4, b5, b6, b7⟩ := a11 j hj e
      exact ⟨i, F, M, by omega, b2, by rw [g.1 33 i (by omega) (by omega) b1]; exact b3, by rw [g.1 34 i (by omega) (by omega) b1]; exact b4, b5, b6, b7⟩
    · exact (hnew j (by omega) hj2).2.2
  · rcases hc c hck hb with h | h
    · obtain ⟨i, b1, b2, b3⟩ := a12 c hck h
      exact ⟨i, by omega, by rw [g.2.1 24 i (by omega) (by omega) b1]; exact b2, by rw [g.2.1 26 i (by omega) (by omega) b1]; exact b3⟩
    · exact ⟨x, by omega, h⟩
  · rw [f.2.2.1 29 0 (by omega) (by omega) (by omega)]; exact a13
  · rw [(f.2.2.2.2.2 0 (by omega)).2.1]; exact a14
  · rw [(f.2.2.2.2.2 0 (by omega)).1]; exact a15 c hck
