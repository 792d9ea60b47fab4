/-! a branch more -/
theorem kpb_in {L : Int32} {s r : ck_S} {i b : Nat} {v : Int32} {rest : Bool} (h : kpb L s r i v rest b = true) : bt L b = true := by
  unfold kpb at h
  simp only [Bool.and_eq_true] at h
  exact h.1
theorem kpb_sym {L : Int32} {s r : ck_S} {i b : Nat} {v : Int32} {rest : Bool} (h : kpb L s r i v rest b = true) (ha : bt (s 23 i) b = true) : rest = false ∧ r 18 (16 * b + i) = v := by
  unfold kpb at h
  rw [ha] at h
  simp only [Bool.and_eq_true, Bool.not_true, Bool.false_or, Bool.not_eq_true', decide_eq_true_eq] at h
  exact ⟨h.2.1, h.2.2⟩
theorem add_nd {n k N x p : Nat} {s r : ck_S} {lab K O1 O2 m : Int32} {rest con : Bool} (hn : n ≤ 12) (hg : gC n k s r) (hx : nd k s r x) (hxN : x < N) (hp1 : 1 ≤ p) (hp2 : p < 16) (hop : bt (r 23 x) p = true) (hK : lowb k K) (hKb : ∀ b, b < 32 → bt K b = kpb (r 22 x) s r p lab rest b) (hO : ∀ b, b < 16 → bt O1 b = bt O2 b) (hOw : obw s r x p lab con O2) (hcon : con = true → ∃ co, co < n ∧ lab = Int32.ofNat co) :
    nd k (addS N lab K O1 (s 29 x + 1) s) (addR N x lab K (if rest then 1 else 0) O2 m r) N ∧ brn (addS N lab K O1 (s 29 x + 1) s) (addR N x lab K (if rest then 1 else 0) O2 m r) x p N rest con := by
  obtain ⟨x1, x2, x3, ⟨a, x4, x4b⟩, x5, x6⟩ := hx
  obtain ⟨g1, g2, g3, g4⟩ := hg
  obtain ⟨c1, c2, c3⟩ := g4
  obtain ⟨n26, n27, n28, n29, n30, n31, n32, n34⟩ := addS_new (N := N) (lab := lab) (L := K) (O := O1) (ab := s 29 x + 1) (s := s)
  obtain ⟨m22, m23, m29, m30⟩ := addR_new (N := N) (x := x) (lab := lab) (K := K) (rest := (if rest then 1 else 0)) (O := O2) (m := m) (r := r)
  have hmu : mu O2 + 1 ≤ mu (r 23 x) := mu_step hp1 hp2 hop (fun b hb h => by
    rcases (hOw b hb).mp h with h1 | ⟨_, h1 | h1⟩
    · exact Or.inl h1
    · exact Or.inr (Or.inl h1.1)
    · exact Or.inr (Or.inr h1.1))
  constructor
  · unfold nd
    rw [n26, n27, n28, n29, m22, m23, m29, addS_cell (a := 23) (by omega) (by omega), addS_cell (a := 25) (by omega) (by omega)]
    refine ⟨rfl, hK, hO, ⟨a + 1, by rw [x4]; exact ln_addL a 1, by omega⟩, fun q hq1 hq2 hb => ?_, fun _ => rfl⟩
    rcases (hOw q hq2).mp hb with h1 | ⟨hc, h1 | h1⟩
    · obtain ⟨ty, hty⟩ := x5 q hq1 hq2 h1.1
      exact ⟨ty, fun c hc hcK ha => hty c hc (kpb_in (by rw [← hKb c (by omega)]; exact hcK)) ha⟩
    · obtain ⟨co, hco, rfl⟩ := hcon hc
      refine ⟨s 8 co, fun c hc hcK ha => ?_⟩
      obtain ⟨h1, h2⟩ := h1
      subst h1
      have hk := hKb c (by omega)
      rw [hcK] at hk
      have t1 := (c3 c hc).2 p hp1 (by omega)
      have t2 : ¬ r 17 (16 * c + 2 * p) = 0 := by
        rcases c2 c (2 * p) hc hq1 hq2 with ⟨_, z⟩ | ⟨z, _⟩ | ⟨z, _⟩
        · rw [z] at ha; cases ha
        · rw [z]; decide
        · rw [z]; decide
      obtain ⟨t3, co2, t4, t5, t6, t7⟩ := t1.1 t2
      have ha2 : bt (s 23 p) c = true := by
        rcases c2 c p hc hp1 hp2 with ⟨z, _⟩ | ⟨z, _⟩ | ⟨_, z, _⟩
        · rw [z] at t3; exact absurd t3 (by decide)
        · rw [z] at t3; exact absurd t3 (by decide)
        · exact z
      have := (kpb_sym hk.symm ha2).2
      rw [t5] at this
      rw [t6, (ln_eq (by omega) (by omega)).mp this]
    · obtain ⟨co, hco, rfl⟩ := hcon hc
      refine ⟨s 9 co, fun c hc hcK ha => ?_⟩
      obtain ⟨h1, h2⟩ := h1
      subst h1
      have hk := hKb c (by omega)
      rw [hcK] at hk
      have t1 := (c3 c hc).2 p hp1 (by omega)
      have t2 : ¬ r 17 (16 * c + (2 * p + 1)) = 0 := by
        rcases c2 c (2 * p + 1) hc hq1 hq2 with ⟨_, z⟩ | ⟨z, _⟩ | ⟨z, _⟩
        · rw [z] at ha; cases ha
        · rw [z]; decide
        · rw [z]; decide
      obtain ⟨t3, co2, t4, t5, t6, t7⟩ := t1.2 t2
      have ha2 : bt (s 23 p) c = true := by
        rcases c2 c p hc hp1 hp2 with ⟨z, _⟩ | ⟨z, _⟩ | ⟨_, z, _⟩
        · rw [z] at t3; exact absurd t3 (by decide)
        · rw [z] at t3; exact absurd t3 (by decide)
        · exact z
      have := (kpb_sym hk.symm ha2).2
      rw [t5] at this
      rw [t6, (ln_eq (by omega) (by omega)).mp this]
  · unfold brn kpb obw
    rw [n29, m22, m23, m29, m30, addS_at (a := 29) (by omega) (show ¬ x = N by omega), addR_at (a := 22) (by omega) (show ¬ x = N by omega) (by omega), addR_at (a := 23) (by omega) (show ¬ x = N by omega) (by omega), addS_cell (a := 23) (by omega) (by omega), addS_cell (a := 8) (by omega) (by omega), addS_cell (a := 9) (by omega) (by omega), addR_cell (a := 18) (by omega) (by omega)]
    exact ⟨rfl, rfl, hKb, hOw⟩
/-- what growing leaves alone -/
def wk (st rt s r : ck_S) : Prop := (∀ a, (a < 26 ∨ 34 < a) → ¬ a = 5 → s a = st a) ∧ (∀ j, ¬ j = 14 → ¬ j = 15 → s 5 j = st 5 j) ∧ (∀ a, 1 ≤ a → (a < 22 ∨ 30 < a) → r a = rt a) ∧ (∀ j, ¬ j = 29 → ¬ j = 30 → r 0 j = rt 0 j)
theorem wk_refl (st rt : ck_S) : wk st rt st rt := ⟨fun _ _ _ => rfl, fun _ _ _ => rfl, fun _ _ _ => rfl, fun _ _ _ => rfl⟩
theorem wk_trans {s r s2 r2 s3 r3 : ck_S} (h : wk s r s2 r2) (g : wk s2 r2 s3 r3) : wk s r s3 r3 := ⟨fun a x y => (g.1 a x y).trans (h.1 a x y), fun j x y => (g.2.1 j x y).trans (h.2.1 j x y), fun a x y => (g.2.2.1 a x y).trans (h.2.2.1 a x y), fun j x y => (g.2.2.2 j x y).trans (h.2.2.2 j x y)⟩
/-- M branches of node x are there, from N0 on -/
def mid (n k x N0 : Nat) (st rt s r : ck_S) (M : Nat) : Prop := wk st rt s r ∧ s 5 15 = st 5 15 ∧ r 0 30 = 0 ∧ (∀ a j, 26 ≤ a → a ≤ 34 → j < N0 → s a j = st a j) ∧ (∀ a j, 22 ≤ a → a ≤ 30 → j < N0 → ¬ (a = 28 ∧ j = x) → r a j = rt a j) ∧ s 5 14 = Int32.ofNat (N0 + M) ∧ r 0 29 = Int32.ofNat (N0 + M) ∧ N0 + M ≤ 60 ∧ r 28 x = Int32.ofNat M ∧ (∀ j, N0 ≤ j → j < N0 + M → nd k s r j ∧ df s j)
theorem mid_TF {n k x N0 M : Nat} {st rt s r : ck_S} (h : mid n k x N0 st rt s r M) : TF N0 st rt s r := by
  obtain ⟨⟨w1, w2, w3, w4⟩, h15, h30, h1, h2, _⟩ := h
  exact ⟨fun a x y => w1 a (by omega) (by omega), fun a x y => w1 a (by omega) (by omega), fun a j x y z => h1 a j x (by omega) z, w3 17 (by omega) (by omega), w3 18 (by omega) (by omega), fun j hj => ⟨h2 22 j (by omega) (by omega) hj (by omega), h2 23 j (by omega) (by omega) hj (by omega), h2 29 j (by omega) (by omega) hj (by omega), h2 30 j (by omega) (by omega) hj (by omega)⟩⟩
theorem mid_gC {n k x N0 M : Nat} {st rt s r : ck_S} (hg : gC n k st rt) (h : mid n k x N0 st rt s r M) : gC n k s r := gC_frame hg (h.1.1 4 (by omega) (by omega)) (h.1.2.2.2 20 (by omega) (by omega)) (mid_TF h)
theorem mid_step {n k x N0 M p : Nat} {st rt s r : ck_S} {lab K O1 O2 : Int32} (rest con : Bool) (hn : n ≤ 12) (hg : gC n k st rt) (hm : mid n k x N0 st rt s r M) (hx : nd k st rt x) (hxN : x < N0) (hp1 : 1 ≤ p) (hp2 : p < 16) (hop : bt (rt 23 x) p = true) (hN : N0 + M < 60)
    (hkp : fR_keep (r 22 x) (r 24 x) lab (if rest then 1 else 0) r = some (K, r)) (hK : lowb k K) (hKb : ∀ b, b < 32 → bt K b = kpb (r 22 x) s r p lab rest b) (hO : ∀ b, b < 16 → bt O1 b = bt O2 b) (hOw : obw s r x p lab con O2) (hcon : con = true → ∃ co, co < n ∧ lab = Int32.ofNat co) :
    ∃ s2 r2, fT_addNode lab K O1 (s 29 x + 1) s = some (1, s2) ∧ fR_branch (Int32.ofNat x) lab (if rest then 1 else 0) O2 r = some r2 ∧ mid n k x N0 st rt s2 r2 (M + 1) ∧ brn s2 r2 x p (N0 + M) rest con ∧ r2 29 (N0 + M) = lab ∧ TF (N0 + M) s r s2 r2 := by
  have hTF := mid_TF hm
  have hg2 := mid_gC hg hm
  have hm' := hm
  obtain ⟨⟨w1, w2, w3, w4⟩, h15, h30, h1, h2, h3, h4, h5, h6, h7⟩ := hm'
  have hx2 := nd_frame hx hTF hxN
  have hop2 : bt (r 23 x) p = true := by rw [h2 23 x (by omega) (by omega) hxN (by omega)]; exact hop
  obtain ⟨q1, q2⟩ := add_nd (N := N0 + M) (m := Int32.ofNat (M + 1)) (rest := rest) hn hg2 hx2 (by omega) hp1 hp2 hop2 hK hKb hO hOw hcon
  have hTF2 : TF (N0 + M) s r (addS (N0 + M) lab K O1 (s 29 x + 1) s) (addR (N0 + M) x lab K (if rest then 1 else 0) O2 (Int32.ofNat (M + 1)) r) := add_TF
  obtain ⟨n26, n27, n28, n29, n30, n31, n32, n34⟩ := addS_new (N := N0 + M) (lab := lab) (L := K) (O := O1) (ab := s 29 x + 1) (s := s)
  refine ⟨_, _, addNode_ev hN h3 _ _ _ _, branch_ev rest hN (by omega) h4 h6 hkp, ⟨⟨fun a y z => ?_, fun j y z => ?_, fun a y z => ?_, fun j y z => ?_⟩, ?_, ?_, fun a j y z w => ?_, fun a j y z w v => ?_, addS_14, addR_29, by omega, addR_28, fun j y z => ?_⟩, q2, addR_new.2.2.1, hTF2⟩
  · rw [addS_cell y z]; exact w1 a y z
  · rw [addS_5 y]; exact w2 j y z
  · rw [addR_cell y z]; exact w3 a y z
  · rw [addR_0 y]; exact w4 j y z
  · rw [addS_5 (by omega)]; exact h15
  · rw [addR_0 (by omega)]; exact h30
  · rw [addS_at (by omega) (by omega)]; exact h1 a j y z w
  · rw [addR_at (by omega) (by omega) v]; exact h2 a j y z w v
  · by_cases e : j = N0 + M
    · subst e
      exact ⟨q1, n31, n32, n34⟩
    · obtain ⟨b1, b2, b3, b4⟩ := h7 j y (by omega)
      refine ⟨nd_frame b1 hTF2 (by omega), ?_, ?_, ?_⟩
      · rw [addS_at (by omega) e]; exact b2
      · rw [addS_at (by omega) e]; exact b3
      · rw [addS_at (by omega) e]; exact b4
