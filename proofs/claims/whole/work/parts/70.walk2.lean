/-! a value's way through the tree: a step -/
def wS (p u : Nat) (s : ck_S) : ck_S := ck_u (ck_u s 37 (2 * p) (s 19 u)) 37 (2 * p + 1) (s 20 u)
theorem wS_ne {p u a : Nat} {s : ck_S} (h : ¬ a = 37) : wS p u s a = s a := by
  unfold wS
  rw [ck_u_ne h, ck_u_ne h]
theorem pw_parts {n v p u : Nat} {s r : ck_S} {x : Int32} (hV : rV n v s r) (hp : 1 ≤ p) (hp8 : p < 8) (hu : u < v) (hpw : pw r x p = Int32.ofNat u) : pw r x (2 * p) = s 19 u ∧ pw r x (2 * p + 1) = s 20 u := by
  obtain ⟨v1, _, _, v4⟩ := hV
  obtain ⟨⟨a1, a2, a3⟩, _⟩ := v4 u hu
  rw [pw_l hp hp8, pw_r hp hp8, hpw]
  unfold ch
  rw [if_neg (ln_lt0 (by omega)), if_neg (ln_lt0 (by omega)), ln_at (by omega), if_neg (by decide), if_pos rfl, a2, a3]
  exact ⟨rfl, rfl⟩
theorem WI_put {n k v i p u : Nat} {s r : ck_S} {x : Int32} (hV : rV n v s r) (hp : 1 ≤ p) (hu : u < v) (hpw : pw r x p = Int32.ofNat u) (h : WI k v i x s r) : WI k v i x (wS p u s) r ∧ wS p u s 37 (2 * p) = s 19 u ∧ wS p u s 37 (2 * p + 1) = s 20 u := by
  have e1 : wS p u s 37 (2 * p) = s 19 u := by
    unfold wS
    rw [ck_u_nei (by omega), ck_u_eq]
  have e2 : wS p u s 37 (2 * p + 1) = s 20 u := by
    unfold wS
    rw [ck_u_eq]
  refine ⟨⟨h.1, fun q q1 q2 q3 => ?_, h.2.2⟩, e1, e2⟩
  obtain ⟨w, w1, w2, w3, w4⟩ := h.2.1 q q1 q2 q3
  refine ⟨w, w1, w2, ?_, fun c c1 c2 c3 => ?_⟩
  · by_cases z1 : q = 2 * p
    · rw [z1, e1, ← (pw_parts hV hp (by omega) hu hpw).1, ← z1, w2]
    · by_cases z2 : q = 2 * p + 1
      · rw [z2, e2, ← (pw_parts hV hp (by omega) hu hpw).2, ← z2, w2]
      · unfold wS
        rw [ck_u_nei z2, ck_u_nei z1, w3]
  · rw [wS_ne (by omega)] at c3 ⊢
    rw [wS_ne (by omega)]
    exact w4 c c1 c2 c3
theorem WI_step {t n k v i p u F M j : Nat} {s r : ck_S} {x : Int32} {rest con : Bool} (hk : k ≤ 16) (hD : rD t n s r) (hV : rV n v s r) (hC : cls n k s r) (hp : 1 ≤ p) (hp2 : p < 16) (hu : u < v) (hpw : pw r x p = Int32.ofNat u) (e1 : s 37 (2 * p) = s 19 u) (e2 : s 37 (2 * p + 1) = s 20 u) (hT : TK n k i p F M u s r j rest con) (h : WI k v i x s r) : WI k v (F + j) x s r := by
  have hn := hD.2.1
  have hv := hV.1
  obtain ⟨t1, ⟨b1, b2, b3, b4⟩, t3, t4, t5, t6, t7, t8, t9⟩ := hT
  have r12 : r 12 u = s 18 u := (hV.2.2.2 u hu).1.1
  have inI : ∀ c, c < k → bt (r 22 (F + j)) c = true → bt (r 22 i) c = true := fun c c1 c2 => kpb_in ((b3 c (by omega)).symm.trans c2)
  have sym : ∀ c, c < k → bt (r 22 (F + j)) c = true → bt (s 23 p) c = true → rest = false ∧ r 18 (16 * c + p) = s 18 u := fun c c1 c2 c3 => by
    obtain ⟨z1, z2⟩ := kpb_sym ((b3 c (by omega)).symm.trans c2) c3
    exact ⟨z1, by rw [z2, t5 z1]⟩
  have hmt : ∀ c, c < k → bt (r 22 (F + j)) c = true → bt (s 23 p) c = true → mtc r x c p := fun c c1 c2 c3 => ⟨u, by omega, hpw, t7 c c1 (inI c c1 c2) c3, by rw [r12, (sym c c1 c2 c3).2]⟩
  -- the parts below stand to be asked, and are of the type that the clause asks
  have two : ∀ c, c < k → bt (r 22 (F + j)) c = true → r 17 (16 * c + p) = 2 → con = true ∧ rest = false := fun c c1 c2 c3 => by
    have hb : bt (s 23 p) c = true := (asks_iff hC c1 hp hp2).mpr (by rw [c3]; decide)
    refine ⟨?_, (sym c c1 c2 hb).1⟩
    cases hc : con with
    | true => rfl
    | false =>
      have := t7 c c1 (inI c c1 c2) hb
      rw [t9 hc, c3] at this
      exact absurd this (by decide)
  have left : ∀ c, c < k → bt (r 22 (F + j)) c = true → p < 8 → ¬ r 17 (16 * c + 2 * p) = 0 → bt (r 23 (F + j)) (2 * p) = true ∧ ∀ co, s 18 u = Int32.ofNat co → co < n → s 25 (2 * p * 16 + c) = s 8 co := fun c c1 c2 h8 c3 => by
    obtain ⟨y1, co, y2, y3, y4, y5⟩ := ((hC.2.2 c c1).2 p hp h8).1 c3
    obtain ⟨z1, z2⟩ := two c c1 c2 y1
    have hs := (sym c c1 c2 ((asks_iff hC c1 hp hp2).mpr (by rw [y1]; decide))).2
    rw [y3] at hs
    refine ⟨(b4 (2 * p) (by omega)).mpr (Or.inr ⟨z1, Or.inl ⟨rfl, ?_⟩⟩), fun co2 q1 q2 => ?_⟩
    · rw [t5 z2, ← hs, ln_at (by omega)]
      exact y5
    · rw [q1] at hs
      rw [← (ln_eq (by omega) (by omega)).mp hs, y4]
  have right : ∀ c, c < k → bt (r 22 (F + j)) c = true → p < 8 → ¬ r 17 (16 * c + (2 * p + 1)) = 0 → bt (r 23 (F + j)) (2 * p + 1) = true ∧ ∀ co, s 18 u = Int32.ofNat co → co < n → s 25 ((2 * p + 1) * 16 + c) = s 9 co := fun c c1 c2 h8 c3 => by
    obtain ⟨y1, co, y2, y3, y4, y5⟩ := ((hC.2.2 c c1).2 p hp h8).2 c3
    obtain ⟨z1, z2⟩ := two c c1 c2 y1
    have hs := (sym c c1 c2 ((asks_iff hC c1 hp hp2).mpr (by rw [y1]; decide))).2
    rw [y3] at hs
    refine ⟨(b4 (2 * p + 1) (by omega)).mpr (Or.inr ⟨z1, Or.inr ⟨rfl, ?_⟩⟩), fun co2 q1 q2 => ?_⟩
    · rw [t5 z2, ← hs, ln_at (by omega)]
      exact y5
    · rw [q1] at hs
      rw [← (ln_eq (by omega) (by omega)).mp hs, y4]
  refine ⟨fun c c1 c2 q q1 q2 q3 => ?_, fun q q1 q2 q3 => ?_, fun c c1 c2 => ?_⟩
  · rcases h.1 c c1 (inI c c1 c2) q q1 q2 q3 with z | ⟨w, w1, w2⟩
    · exact Or.inl z
    · by_cases e : w = p
      · subst e
        have ha := asks_anc hC c1 q1 q2 q3 w1
        by_cases e3 : w = q
        · left
          rw [← e3]
          exact hmt c c1 c2 ((asks_iff hC c1 hp hp2).mpr ha)
        · right
          have h8 : w < 8 := by unfold anc at w1; omega
          rcases anc_down w1 q2 e3 with z | z
          · exact ⟨2 * w, z, (left c c1 c2 h8 (asks_anc hC c1 q1 q2 q3 z)).1⟩
          · exact ⟨2 * w + 1, z, (right c c1 c2 h8 (asks_anc hC c1 q1 q2 q3 z)).1⟩
      · right
        exact ⟨w, w1, (b4 w (by unfold anc at w1; omega)).mpr (Or.inl ⟨w2, e⟩)⟩
  · rcases (b4 q q2).mp q3 with ⟨z1, z2⟩ | ⟨z1, z2⟩
    · obtain ⟨w, w1, w2, w3, w4⟩ := h.2.1 q q1 q2 z1
      exact ⟨w, w1, w2, w3, fun c c1 c2 c3 => w4 c c1 (inI c c1 c2) c3⟩
    · obtain ⟨hrest, co, y1, y2, y3, y4⟩ := t8 z1
      rw [t5 hrest, y2, ln_at (by omega)] at z2
      rcases z2 with ⟨e, z3⟩ | ⟨e, z3⟩
      · subst e
        have h8 : p < 8 := by omega
        rcases y3 with ⟨y3, y5⟩ | ⟨y3, l, y5, y6, y7⟩
        · exact absurd y3 z3
        · refine ⟨l, by omega, by rw [(pw_parts hV hp h8 hu hpw).1, y6], by rw [e1, y6], fun c c1 c2 c3 => ?_⟩
          rw [y7]
          exact (left c c1 c2 h8 ((asks_iff hC c1 (by omega) q2).mp c3)).2 co y2 y1
      · subst e
        have h8 : p < 8 := by omega
        rcases y4 with ⟨y4, y5⟩ | ⟨y4, l, y5, y6, y7⟩
        · exact absurd y4 z3
        · refine ⟨l, by omega, by rw [(pw_parts hV hp h8 hu hpw).2, y6], by rw [e2, y6], fun c c1 c2 c3 => ?_⟩
          rw [y7]
          exact (right c c1 c2 h8 ((asks_iff hC c1 (by omega) q2).mp c3)).2 co y2 y1
  · have hi := h.2.2 c c1 c2
    rw [b3 c (by omega)]
    unfold kpb
    rw [hi, Bool.true_and]
    cases hb : bt (s 23 p) c with
    | false => rfl
    | true =>
      obtain ⟨w, w1, w2, w3, w4⟩ := c2 p hp hp2 ((asks_iff hC c1 hp hp2).mp hb)
      rw [hpw] at w2
      rw [← (ln_eq (by omega) (by omega)).mp w2, r12] at w4
      cases hr : rest with
      | true => exact absurd w4.symm (t6 hr c c1 (by unfold akb; rw [hi, hb]; rfl))
      | false => rw [decide_eq_true (by rw [t5 hr, w4])]; rfl
