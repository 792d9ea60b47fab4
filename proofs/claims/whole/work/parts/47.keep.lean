/-! which clauses are kept, the least number -/
def kpb (L : Int32) (s r : ck_S) (i : Nat) (v : Int32) (rest : Bool) (b : Nat) : Bool := bt L b && (!bt (s 23 i) b || (!rest && decide (r 18 (16 * b + i) = v)))
theorem notAsking_ev {n k i : Nat} {s r : ck_S} {L : Int32} (hg : gC n k s r) (hL : lowb k L) (hi : i < 16) (v : Int32) : ∃ x, fM_notAsking L (Int32.ofNat i) s = some (x, s) ∧ lowb k x ∧ ∀ b, b < 32 → bt x b = kpb L s r i v true b := by
  unfold fM_notAsking
  refine ⟨_, by rw [ck_gd_ok hi (by omega), ln_at (by omega)], fun b h1 h2 => ?_, fun b hb => ?_⟩
  · rw [bt_and, hL b h1 h2, Bool.false_and]
  · rw [bt_and, bt_not _ hb]
    unfold kpb
    simp
theorem notAskingElse_ev {n k i : Nat} {s r : ck_S} {L : Int32} (hg : gC n k s r) (hL : lowb k L) (hi1 : 1 ≤ i) (hi : i < 16) (v : Int32) : ∃ x, fM_notAskingElse L (Int32.ofNat i) v s = some (x, s) ∧ lowb k x ∧ ∀ b, b < 32 → bt x b = kpb L s r i v false b := by
  have hg' := hg
  obtain ⟨g1, g2, g3, g4⟩ := hg'
  have key : ∀ (d m c : Nat) (x : Int32), c + d = k → d < m → (∀ b, b < 32 → bt x b = (bt L b && (!bt (s 23 i) b || (decide (b < c) && decide (s 24 (i * 16 + b) = v))))) → ∃ y, fM_notAskingElse_l11 m L (Int32.ofNat i) v x (Int32.ofNat c) s = some (y, s) ∧ ∀ b, b < 32 → bt y b = (bt L b && (!bt (s 23 i) b || (decide (b < k) && decide (s 24 (i * 16 + b) = v)))) := by
    intro d
    induction d with
    | zero =>
      intro m c x hc hm hx
      obtain ⟨m, rfl⟩ : ∃ z, m = z + 1 := ⟨m - 1, by omega⟩
      have e : c = k := by omega
      subst e
      exact ⟨x, by rw [fM_notAskingElse_l11, g2, if_pos (Int32.le_refl _)], hx⟩
    | succ d ih =>
      intro m c x hc hm hx
      obtain ⟨m, rfl⟩ : ∃ z, m = z + 1 := ⟨m - 1, by omega⟩
      rw [fM_notAskingElse_l11, g2, if_neg (mt (ln_le (by omega) (by omega)).mp (by omega))]
      simp (disch := omega) only [ln_mulL, ln_add, ck_gd_ok, ln_at, ln_addL]
      by_cases z : s 24 (i * 16 + c) = v
      · rw [if_pos z]
        refine ih m (c + 1) _ (by omega) (by omega) (fun b hb => ?_)
        rw [bt_or, bt_and, bt_1 (by omega) hb, hx b hb]
        by_cases e : b = c
        · subst e
          cases bt L b <;> cases bt (s 23 i) b <;> simp [z]
        · have : decide (b < c + 1) = decide (b < c) := by
            by_cases y : b < c
            · rw [decide_eq_true y, decide_eq_true (by omega)]
            · rw [decide_eq_false y, decide_eq_false (by omega)]
          rw [this]
          simp [e]
      · rw [if_neg z]
        refine ih m (c + 1) _ (by omega) (by omega) (fun b hb => ?_)
        rw [hx b hb]
        by_cases e : b = c
        · subst e
          simp [z]
        · have : decide (b < c + 1) = decide (b < c) := by
            by_cases y : b < c
            · rw [decide_eq_true y, decide_eq_true (by omega)]
            · rw [decide_eq_false y, decide_eq_false (by omega)]
          rw [this]
  unfold fM_notAskingElse
  obtain ⟨x0, a1, a2, a3⟩ := notAsking_ev hg hL hi v
  rw [a1, ck_b_some]
  obtain ⟨y, b1, b2⟩ := key k 4096 0 x0 (by omega) (by omega) (fun b hb => by
    rw [a3 b hb]
    unfold kpb
    simp)
  refine ⟨y, b1, fun b h1 h2 => by rw [b2 b h2, hL b h1 h2, Bool.false_and], fun b hb => ?_⟩
  rw [b2 b hb]
  unfold kpb
  by_cases hbk : b < k
  · cases hbt : bt (s 23 i) b with
    | false => simp
    | true =>
      have hcl := g4.2.1 b i hbk hi1 hi
      have e24 : s 24 (i * 16 + b) = r 18 (16 * b + i) := by
        rcases hcl with ⟨_, z⟩ | ⟨_, _, z, _⟩ | ⟨_, _, z, _⟩
        · rw [hbt] at z; cases z
        · exact z
        · exact z
      rw [e24, decide_eq_true hbk]
      simp
  · rw [hL b (by omega) hb]
    rfl
theorem keep_ev {n k i : Nat} {s r : ck_S} {L : Int32} (hg : gC n k s r) (hL : lowb k L) (hi1 : 1 ≤ i) (hi : i < 16) (v : Int32) (rest : Bool) : ∃ x, fR_keep L (Int32.ofNat i) v (if rest then 1 else 0) r = some (x, r) ∧ ∀ b, b < 32 → bt x b = kpb L s r i v rest b := by
  have hg' := hg
  obtain ⟨g1, g2, g3, g4⟩ := hg'
  have key : ∀ (d m c : Nat) (x : Int32), c + d = k → d < m → (∀ b, b < 32 → bt x b = (decide (b < c) && kpb L s r i v rest b)) → ∃ y, fR_keep_l6 m L (Int32.ofNat i) v (if rest then 1 else 0) x (Int32.ofNat c) r = some (y, r) ∧ ∀ b, b < 32 → bt y b = (decide (b < k) && kpb L s r i v rest b) := by
    intro d
    induction d with
    | zero =>
      intro m c x hc hm hx
      obtain ⟨m, rfl⟩ : ∃ z, m = z + 1 := ⟨m - 1, by omega⟩
      have e : c = k := by omega
      subst e
      exact ⟨x, by rw [fR_keep_l6, g3, if_pos (Int32.le_refl _)], hx⟩
    | succ d ih =>
      intro m c x hc hm hx
      obtain ⟨m, rfl⟩ : ∃ z, m = z + 1 := ⟨m - 1, by omega⟩
      have hab := (ask_bt hg (c := c) (by omega) hi1 hi).2
      have hlt : ∀ b, ¬ b = c → decide (b < c + 1) = decide (b < c) := fun b e => by
        by_cases y : b < c
        · rw [decide_eq_true y, decide_eq_true (by omega)]
        · rw [decide_eq_false y, decide_eq_false (by omega)]
      -- the bit c is set, or not
      have b56 : ∀ y : Bool, y = (!bt (s 23 i) c || (!rest && decide (r 18 (16 * c + i) = v))) → ∃ z, fR_keep_b56 (fR_keep_l6 m) (if y then 1 else 0) L (Int32.ofNat i) v (if rest then 1 else 0) x (Int32.ofNat c) r = some (z, r) ∧ ∀ b, b < 32 → bt z b = (decide (b < k) && kpb L s r i v rest b) := by
        intro y hy
        unfold fR_keep_b56
        rw [show Int32.ofNat c + 1 = Int32.ofNat (c + 1) from ln_addL c 1]
        have hk1 : kpb L s r i v rest c = (bt L c && y) := by unfold kpb; rw [hy]
        cases bL : bt L c with
        | false =>
          rw [if_neg (fun z => by have := (bt_t L (by omega)).mp z; rw [bL] at this; cases this)]
          refine ih m (c + 1) x (by omega) (by omega) (fun b hb => ?_)
          by_cases e : b = c
          · subst e
            rw [hx b hb, hk1, bL]
            simp
          · rw [hx b hb, hlt b e]
        | true =>
          rw [if_pos ((bt_t L (by omega)).mpr bL)]
          cases y with
          | false =>
            rw [if_pos (by simp)]
            refine ih m (c + 1) x (by omega) (by omega) (fun b hb => ?_)
            by_cases e : b = c
            · subst e
              rw [hx b hb, hk1]
              simp
            · rw [hx b hb, hlt b e]
          | true =>
            rw [if_neg (by decide)]
            refine ih m (c + 1) _ (by omega) (by omega) (fun b hb => ?_)
            rw [bt_or, bt_1 (by omega) hb, hx b hb]
            by_cases e : b = c
            · subst e
              rw [hk1, bL]
              simp
            · rw [hlt b e]
              simp [e]
      rw [fR_keep_l6, g3, if_neg (mt (ln_le (by omega) (by omega)).mp (by omega))]
      simp (disch := omega) only [ln_Lmul, ln_add, ck_gd_ok, ln_at]
      cases hbt : bt (s 23 i) c with
      | false =>
        rw [if_pos (hab.mpr hbt)]
        exact b56 true (by rw [hbt]; simp)
      | true =>
        rw [if_neg (fun z => by have := hab.mp z; rw [hbt] at this; cases this)]
        cases rest with
        | true =>
          rw [if_neg (by decide)]
          exact b56 false (by rw [hbt]; simp)
        | false =>
          rw [if_pos (by simp)]
          by_cases z : r 18 (16 * c + i) = v
          · rw [if_pos z]
            exact b56 true (by rw [hbt]; simp [z])
          · rw [if_neg z]
            exact b56 false (by rw [hbt]; simp [z])
  unfold fR_keep
  obtain ⟨y, b1, b2⟩ := key k 4096 0 0 (by omega) (by omega) (fun b hb => by rw [bt_zero]; simp)
  refine ⟨y, b1, fun b hb => ?_⟩
  rw [b2 b hb]
  by_cases hbk : b < k
  · rw [decide_eq_true hbk, Bool.true_and]
  · unfold kpb
    rw [hL b (by omega) hb, decide_eq_false hbk]
    rfl
/-- what is kept is the same int on both sides -/
theorem keep_same {n k i : Nat} {s r : ck_S} {L : Int32} (hg : gC n k s r) (hL : lowb k L) (hi1 : 1 ≤ i) (hi : i < 16) (v : Int32) : (∃ x, fM_notAskingElse L (Int32.ofNat i) v s = some (x, s) ∧ fR_keep L (Int32.ofNat i) v 0 r = some (x, r) ∧ lowb k x ∧ ∀ b, b < 32 → bt x b = kpb L s r i v false b) ∧
    (∃ x, fM_notAsking L (Int32.ofNat i) s = some (x, s) ∧ fR_keep L (Int32.ofNat i) v 1 r = some (x, r) ∧ lowb k x ∧ ∀ b, b < 32 → bt x b = kpb L s r i v true b) := by
  constructor
  · obtain ⟨x, a1, a2, a3⟩ := notAskingElse_ev hg hL hi1 hi v
    obtain ⟨y, b1, b2⟩ := keep_ev hg hL hi1 hi v false
    have e : y = x := bt_ext (fun b hb => by rw [b2 b hb, a3 b hb])
    subst e
    exact ⟨y, a1, b1, a2, a3⟩
  · obtain ⟨x, a1, a2, a3⟩ := notAsking_ev hg hL hi v
    obtain ⟨y, b1, b2⟩ := keep_ev hg hL hi1 hi v true
    have e : y = x := bt_ext (fun b hb => by rw [b2 b hb, a3 b hb])
    subst e
    exact ⟨y, a1, b1, a2, a3⟩
