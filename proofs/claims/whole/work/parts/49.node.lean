/-! nodes of the tree -/
def sm (f : Nat → Nat) : Nat → Nat
  | 0 => 0
  | c + 1 => sm f c + f c
theorem sm_le {f g : Nat → Nat} : ∀ k, (∀ c, c < k → f c ≤ g c) → sm f k ≤ sm g k
  | 0, _ => Nat.le_refl _
  | k + 1, h => Nat.add_le_add (sm_le k (fun c hc => h c (by omega))) (h k (by omega))
theorem sm_add {f g : Nat → Nat} : ∀ k, sm (fun c => f c + g c) k = sm f k + sm g k
  | 0 => rfl
  | k + 1 => by
    have := sm_add (f := f) (g := g) k
    show sm (fun c => f c + g c) k + (f k + g k) = (sm f k + f k) + (sm g k + g k)
    omega
theorem sm_ind {a v : Nat} : ∀ k, sm (fun c => if c = a then v else 0) k = if a < k then v else 0
  | 0 => by simp [sm]
  | k + 1 => by
    have := sm_ind (a := a) (v := v) k
    show sm (fun c => if c = a then v else 0) k + (if k = a then v else 0) = _
    rw [this]
    by_cases e : k = a
    · subst e; simp
    · rw [if_neg e]
      by_cases e2 : a < k
      · rw [if_pos e2, if_pos (by omega)]; omega
      · rw [if_neg e2, if_neg (by omega)]
def wt (p : Nat) : Nat := if p < 1 then 0 else if p < 2 then 15 else if p < 4 then 7 else if p < 8 then 3 else if p < 16 then 1 else 0
def wb (x : Int32) (b : Nat) : Nat := if bt x b = true then wt b else 0
def mu (x : Int32) : Nat := sm (wb x) 16
theorem wt_sub : ∀ p : Fin 16, 1 ≤ p.val → wt p.val = 1 + (if 2 * p.val < 16 then wt (2 * p.val) else 0) + (if 2 * p.val + 1 < 16 then wt (2 * p.val + 1) else 0) := by decide
theorem mu_pos {x : Int32} {p : Nat} (hp : 1 ≤ p) (hp2 : p < 16) (h : bt x p = true) : 1 ≤ mu x := by
  have h1 : sm (fun c => if c = p then wt p else 0) 16 ≤ mu x := sm_le 16 (fun c _ => by
    by_cases e : c = p
    · subst e
      simp only [wb, h, ↓reduceIte]
      exact Nat.le_refl _
    · rw [if_neg e]; omega)
  rw [sm_ind, if_pos hp2] at h1
  have := wt_sub ⟨p, hp2⟩ hp
  simp only at this
  omega
theorem mu_step {x y : Int32} {p : Nat} (hp : 1 ≤ p) (hp2 : p < 16) (h : bt x p = true) (hy : ∀ b, b < 16 → bt y b = true → (bt x b = true ∧ ¬ b = p) ∨ b = 2 * p ∨ b = 2 * p + 1) : mu y + 1 ≤ mu x := by
  have h1 : sm (fun c => wb y c + (if c = p then wt p else 0)) 16 ≤ sm (fun c => wb x c + ((if c = 2 * p then wt (2 * p) else 0) + (if c = 2 * p + 1 then wt (2 * p + 1) else 0))) 16 := sm_le 16 (fun c hc => by
    by_cases e : c = p
    · have e2 : wb y c = 0 := by
        unfold wb
        by_cases hb : bt y c = true
        · rcases hy c hc hb with h3 | h3 | h3
          · exact absurd e h3.2
          · omega
          · omega
        · rw [if_neg hb]
      have e3 : wb x c = wt p := by unfold wb; rw [e, if_pos h]
      rw [if_pos e]
      omega
    · rw [if_neg e]
      unfold wb
      by_cases hb : bt y c = true
      · rw [if_pos hb]
        rcases hy c hc hb with h3 | h3 | h3
        · rw [if_pos h3.1]; omega
        · rw [if_pos h3, h3]; omega
        · rw [if_pos h3, if_neg (show ¬ c = 2 * p by omega), h3]; omega
      · rw [if_neg hb]; omega)
  rw [sm_add, sm_add, sm_add, sm_ind, sm_ind, sm_ind, if_pos hp2] at h1
  have := wt_sub ⟨p, hp2⟩ hp
  simp only at this
  unfold mu
  show sm (wb y) 16 + 1 ≤ sm (wb x) 16
  have e1 : sm (fun c => wb y c) 16 = sm (wb y) 16 := rfl
  have e2 : sm (fun c => wb x c) 16 = sm (wb x) 16 := rfl
  omega
def nd (k : Nat) (s r : ck_S) (i : Nat) : Prop := s 26 i = r 22 i ∧ lowb k (r 22 i) ∧ (∀ b, b < 16 → bt (s 27 i) b = bt (r 23 i) b) ∧ (∃ a, s 29 i = Int32.ofNat a ∧ a + mu (r 23 i) ≤ 15) ∧
  (∀ p, 1 ≤ p → p < 16 → bt (r 23 i) p = true → ∃ ty, ∀ c, c < k → bt (r 22 i) c = true → bt (s 23 p) c = true → s 25 (p * 16 + c) = ty) ∧ (1 ≤ i → s 28 i = r 29 i)
def df (s : ck_S) (i : Nat) : Prop := s 31 i = -1 ∧ s 32 i = -1 ∧ s 34 i = 0
def obw (s r : ck_S) (i p : Nat) (lab : Int32) (con : Bool) (y : Int32) : Prop := ∀ b, b < 16 → (bt y b = true ↔ ((bt (r 23 i) b = true ∧ ¬ b = p) ∨ (con = true ∧ ((b = 2 * p ∧ ¬ s 8 lab.toNatClampNeg = -1) ∨ (b = 2 * p + 1 ∧ ¬ s 9 lab.toNatClampNeg = -1)))))
def brn (s r : ck_S) (i p j : Nat) (rest con : Bool) : Prop := s 29 j = s 29 i + 1 ∧ r 30 j = (if rest then 1 else 0) ∧ (∀ b, b < 32 → bt (r 22 j) b = kpb (r 22 i) s r p (r 29 j) rest b) ∧ obw s r i p (r 29 j) con (r 23 j)
/-- what nodes below N are read from -/
def TF (N : Nat) (s r s2 r2 : ck_S) : Prop := (∀ a, 7 ≤ a → a ≤ 9 → s2 a = s a) ∧ (∀ a, 23 ≤ a → a ≤ 25 → s2 a = s a) ∧ (∀ a j, 26 ≤ a → a ≤ 29 → j < N → s2 a j = s a j) ∧ r2 17 = r 17 ∧ r2 18 = r 18 ∧ (∀ j, j < N → r2 22 j = r 22 j ∧ r2 23 j = r 23 j ∧ r2 29 j = r 29 j ∧ r2 30 j = r 30 j)
theorem TF_le {N M : Nat} {s r s2 r2 : ck_S} (h : TF N s r s2 r2) (hM : M ≤ N) : TF M s r s2 r2 := ⟨h.1, h.2.1, fun a j h1 h2 h3 => h.2.2.1 a j h1 h2 (by omega), h.2.2.2.1, h.2.2.2.2.1, fun j hj => h.2.2.2.2.2 j (by omega)⟩
theorem TF_trans {N : Nat} {s r s2 r2 s3 r3 : ck_S} (h : TF N s r s2 r2) (g : TF N s2 r2 s3 r3) : TF N s r s3 r3 := by
  obtain ⟨h1, h2, h3, h4, h5, h6⟩ := h
  obtain ⟨g1, g2, g3, g4, g5, g6⟩ := g
  refine ⟨fun a x y => (g1 a x y).trans (h1 a x y), fun a x y => (g2 a x y).trans (h2 a x y), fun a j x y z => (g3 a j x y z).trans (h3 a j x y z), g4.trans h4, g5.trans h5, fun j hj => ?_⟩
  obtain ⟨a1, a2, a3, a4⟩ := h6 j hj
  obtain ⟨b1, b2, b3, b4⟩ := g6 j hj
  exact ⟨b1.trans a1, b2.trans a2, b3.trans a3, b4.trans a4⟩
theorem nd_frame {k N i : Nat} {s r s2 r2 : ck_S} (h : nd k s r i) (f : TF N s r s2 r2) (hi : i < N) : nd k s2 r2 i := by
  obtain ⟨h1, h2, h3, h4, h5, h6⟩ := f
  obtain ⟨a1, a2, a3, a4⟩ := h6 i hi
  unfold nd
  rw [a1, a2, a3, h3 26 i (by omega) (by omega) hi, h3 27 i (by omega) (by omega) hi, h3 28 i (by omega) (by omega) hi, h3 29 i (by omega) (by omega) hi, h2 23 (by omega) (by omega), h2 25 (by omega) (by omega)]
  exact h
theorem brn_frame {N i p j : Nat} {s r s2 r2 : ck_S} {rest con : Bool} (h : brn s r i p j rest con) (f : TF N s r s2 r2) (hi : i < N) (hj : j < N) : brn s2 r2 i p j rest con := by
  obtain ⟨h1, h2, h3, h4, h5, h6⟩ := f
  obtain ⟨a1, a2, a3, a4⟩ := h6 i hi
  obtain ⟨b1, b2, b3, b4⟩ := h6 j hj
  unfold brn kpb obw
  rw [a1, a2, b1, b2, b3, b4, h3 29 i (by omega) (by omega) hi, h3 29 j (by omega) (by omega) hj, h2 23 (by omega) (by omega), h1 8 (by omega) (by omega), h1 9 (by omega) (by omega), h5]
  exact h
theorem gC_frame {n k : Nat} {s r s2 r2 : ck_S} (h : gC n k s r) (e4 : s2 4 = s 4) (e0 : r2 0 20 = r 0 20) {N : Nat} (f : TF N s r s2 r2) : gC n k s2 r2 := by
  obtain ⟨g1, g2, g3, g4⟩ := h
  obtain ⟨h1, h2, h3, h4, h5, h6⟩ := f
  exact ⟨g1, by rw [e4]; exact g2, by rw [e0]; exact g3, cls_frame g4 (Nat.le_refl _) (h2 23 (by omega) (by omega)) (h2 24 (by omega) (by omega)) (h2 25 (by omega) (by omega)) (fun c _ => ⟨by rw [h1 7 (by omega) (by omega)], by rw [h1 8 (by omega) (by omega)], by rw [h1 9 (by omega) (by omega)]⟩) (by rw [e4]) h4 h5⟩
/-! adding a node -/
theorem ck_u_off {st : ck_S} {q i a j : Nat} {x : Int32} (h : ¬ (a = q ∧ j = i)) : ck_u st q i x a j = st a j := by
  by_cases e : a = q
  · subst e
    exact ck_u_nei (fun z => h ⟨rfl, z⟩)
  · rw [ck_u_ne e]
def addS (N : Nat) (lab L O ab : Int32) (st : ck_S) : ck_S := ck_u (ck_u (ck_u (ck_u (ck_u (ck_u (ck_u (ck_u (ck_u (ck_u st 28 N lab) 26 N L) 27 N O) 29 N ab) 30 N 0) 31 N (-1)) 32 N (-1)) 33 N 0) 34 N 0) 5 14 (Int32.ofNat (N + 1))
theorem addNode_ev {N : Nat} {s : ck_S} (hN : N < 60) (h : s 5 14 = Int32.ofNat N) (lab L O ab : Int32) : fT_addNode lab L O ab s = some (1, addS N lab L O ab s) := by
  unfold fT_addNode
  simp (disch := omega) only [h, ln_ltL, hN, ↓reduceIte, ck_gd_ok, ln_at, ln_addL]
  rfl
theorem addNode_full {s : ck_S} (h : s 5 14 = Int32.ofNat 60) (lab L O ab : Int32) : fT_addNode lab L O ab s = some (0, s) := by
  unfold fT_addNode
  rw [h, if_neg (by decide)]
def addR (N x : Nat) (lab K rest O m : Int32) (rt : ck_S) : ck_S := ck_u (ck_u (ck_u (ck_u (ck_u (ck_u rt 22 N K) 23 N O) 29 N lab) 30 N rest) 0 29 (Int32.ofNat (N + 1))) 28 x m
theorem branch_ev {N x M : Nat} {r : ck_S} {lab K O : Int32} (rest : Bool) (hN : N < 60) (hx : x < N) (h : r 0 29 = Int32.ofNat N) (hM : r 28 x = Int32.ofNat M) (hk : fR_keep (r 22 x) (r 24 x) lab (if rest then 1 else 0) r = some (K, r)) : fR_branch (Int32.ofNat x) lab (if rest then 1 else 0) O r = some (addR N x lab K (if rest then 1 else 0) O (Int32.ofNat (M + 1)) r) := by
  unfold fR_branch
  have hv : vp_nar .boolean (if rest = true then (1 : Int32) else 0) = (if rest = true then (1 : Int32) else 0) := by
    cases rest <;> decide
  simp (disch := omega) only [h, ln_eqL, show ¬ N = 60 by omega, ↓reduceIte, ck_gd_ok, ln_at, hk, ck_b_some, hM, ln_addL, hv]
  rfl
theorem branch_full {r : ck_S} (h : r 0 29 = Int32.ofNat 60) (x1 x2 x3 x4 : Int32) : fR_branch x1 x2 x3 x4 r = some (ck_u r 0 30 1) := by
  unfold fR_branch
  rw [h, if_pos (by decide)]
theorem addS_cell {N a : Nat} {lab L O ab : Int32} {s : ck_S} (h : a < 26 ∨ 34 < a) (h5 : ¬ a = 5) : addS N lab L O ab s a = s a := by
  unfold addS
  rw [ck_u_ne h5, ck_u_ne (by omega), ck_u_ne (by omega), ck_u_ne (by omega), ck_u_ne (by omega), ck_u_ne (by omega), ck_u_ne (by omega), ck_u_ne (by omega), ck_u_ne (by omega), ck_u_ne (by omega)]
theorem addS_5 {N j : Nat} {lab L O ab : Int32} {s : ck_S} (h : ¬ j = 14) : addS N lab L O ab s 5 j = s 5 j := by
  unfold addS
  rw [ck_u_nei h, ck_u_ne (by omega), ck_u_ne (by omega), ck_u_ne (by omega), ck_u_ne (by omega), ck_u_ne (by omega), ck_u_ne (by omega), ck_u_ne (by omega), ck_u_ne (by omega), ck_u_ne (by omega)]
theorem addS_14 {N : Nat} {lab L O ab : Int32} {s : ck_S} : addS N lab L O ab s 5 14 = Int32.ofNat (N + 1) := ck_u_eq
theorem addS_at {N j a : Nat} {lab L O ab : Int32} {s : ck_S} (h : ¬ a = 5) (hj : ¬ j = N) : addS N lab L O ab s a j = s a j := by
  unfold addS
  rw [ck_u_off (by omega), ck_u_off (by omega), ck_u_off (by omega), ck_u_off (by omega), ck_u_off (by omega), ck_u_off (by omega), ck_u_off (by omega), ck_u_off (by omega), ck_u_off (by omega), ck_u_off (by omega)]
theorem addS_new {N : Nat} {lab L O ab : Int32} {s : ck_S} : addS N lab L O ab s 26 N = L ∧ addS N lab L O ab s 27 N = O ∧ addS N lab L O ab s 28 N = lab ∧ addS N lab L O ab s 29 N = ab ∧ addS N lab L O ab s 30 N = 0 ∧ addS N lab L O ab s 31 N = -1 ∧ addS N lab L O ab s 32 N = -1 ∧ addS N lab L O ab s 34 N = 0 := by
  simp [addS, ck_u, upd]
theorem addR_cell {N x a : Nat} {lab K rest O m : Int32} {r : ck_S} (h1 : 1 ≤ a) (h : a < 22 ∨ 30 < a) : addR N x lab K rest O m r a = r a := by
  unfold addR
  rw [ck_u_ne (by omega), ck_u_ne (by omega), ck_u_ne (by omega), ck_u_ne (by omega), ck_u_ne (by omega), ck_u_ne (by omega)]
theorem addR_0 {N x j : Nat} {lab K rest O m : Int32} {r : ck_S} (h : ¬ j = 29) : addR N x lab K rest O m r 0 j = r 0 j := by
  simp [addR, ck_u, upd, h]
theorem addR_29 {N x : Nat} {lab K rest O m : Int32} {r : ck_S} : addR N x lab K rest O m r 0 29 = Int32.ofNat (N + 1) := by
  simp [addR, ck_u, upd]
theorem addR_at {N x j a : Nat} {lab K rest O m : Int32} {r : ck_S} (h1 : 1 ≤ a) (hj : ¬ j = N) (h28 : ¬ (a = 28 ∧ j = x)) : addR N x lab K rest O m r a j = r a j := by
  unfold addR
  rw [ck_u_off h28, ck_u_off (by omega), ck_u_off (by omega), ck_u_off (by omega), ck_u_off (by omega), ck_u_off (by omega)]
theorem addR_28 {N x : Nat} {lab K rest O m : Int32} {r : ck_S} : addR N x lab K rest O m r 28 x = m := ck_u_eq
theorem addR_new {N x : Nat} {lab K rest O m : Int32} {r : ck_S} : addR N x lab K rest O m r 22 N = K ∧ addR N x lab K rest O m r 23 N = O ∧ addR N x lab K rest O m r 29 N = lab ∧ addR N x lab K rest O m r 30 N = rest := by
  simp [addR, ck_u, upd]
theorem add_TF {N x : Nat} {lab L O ab K rest O2 m : Int32} {s r : ck_S} : TF N s r (addS N lab L O ab s) (addR N x lab K rest O2 m r) := by
  refine ⟨fun a h1 h2 => addS_cell (by omega) (by omega), fun a h1 h2 => addS_cell (by omega) (by omega), fun a j h1 h2 h3 => addS_at (by omega) (by omega), addR_cell (by omega) (by omega), addR_cell (by omega) (by omega), fun j hj => ⟨addR_at (by omega) (by omega) (by omega), addR_at (by omega) (by omega) (by omega), addR_at (by omega) (by omega) (by omega), addR_at (by omega) (by omega) (by omega)⟩⟩
