/-! useless -/
theorem bt_row : ∀ a b : Fin 17, ∀ k : Fin 32, a.val ≤ b.val → bt (((1 : Int32) <<< (Int32.ofNat b.val &&& 31)) - ((1 : Int32) <<< (Int32.ofNat a.val &&& 31))) k.val = decide (a.val ≤ k.val ∧ k.val < b.val) := by decide +kernel
theorem bt_sar (x : Int32) {c k : Nat} (hc : c < 32) (hk : k < 32) (h31 : bt x 31 = false) : bt (x >>> (Int32.ofNat c &&& 31)) k = (decide (k + c < 32) && bt x (k + c)) := by
  have e := bt_smod ⟨c, hc⟩
  simp only at e
  show (x.toBitVec.sshiftRight' ((Int32.ofNat c &&& 31).toBitVec.smod 32#32)).getLsbD k = _
  rw [BitVec.getLsbD_sshiftRight', e]
  have hm : x.toBitVec.msb = false := by
    rw [BitVec.msb_eq_getLsbD_last]
    exact h31
  by_cases z : k + c < 32
  · have z2 : c + k < 32 := by omega
    simp [hk, z, z2, bt, Nat.add_comm]
  · have z2 : ¬ c + k < 32 := by omega
    simp [hk, z, z2, hm]
theorem add_bit {y : Int32} {b : Nat} (hb : b < 32) (h : ∀ q, b ≤ q → q < 32 → bt y q = false) {q : Nat} (hq : q < 32) : bt (y + ((1 : Int32) <<< (Int32.ofNat b &&& 31))) q = (bt y q || decide (q = b)) := by
  have hz : y.toBitVec &&& ((1 : Int32) <<< (Int32.ofNat b &&& 31)).toBitVec = 0#32 := by
    apply BitVec.eq_of_getLsbD_eq
    intro i hi
    rw [BitVec.getLsbD_and]
    show (bt y i && bt ((1 : Int32) <<< (Int32.ofNat b &&& 31)) i) = _
    rw [bt_1 hb hi]
    by_cases e : i = b
    · subst e
      rw [h i (Nat.le_refl _) hi]
      simp
    · simp [e]
  show (y.toBitVec + ((1 : Int32) <<< (Int32.ofNat b &&& 31)).toBitVec).getLsbD q = _
  rw [BitVec.add_eq_or_of_and_eq_zero _ _ hz, BitVec.getLsbD_or]
  show (bt y q || bt ((1 : Int32) <<< (Int32.ofNat b &&& 31)) q) = _
  rw [bt_1 hb hq]
theorem fc_mono {fc : Nat → Nat} {q : Nat} (h : ∀ j, j < q → fc j < fc (j + 1)) : ∀ b, b ≤ q → ∀ a, a ≤ b → fc a ≤ fc b := by
  intro b
  induction b with
  | zero => intro _ a ha; rw [show a = 0 by omega]; exact Nat.le_refl _
  | succ b ih =>
    intro hb a ha
    by_cases e : a = b + 1
    · rw [e]; exact Nat.le_refl _
    · have h1 := ih (by omega) a (by omega)
      have h2 := h b (by omega)
      omega
theorem fc_row {fc : Nat → Nat} (h0 : fc 0 = 0) : ∀ q c, c < fc q → ∃ j, j < q ∧ fc j ≤ c ∧ c < fc (j + 1) := by
  intro q
  induction q with
  | zero => intro c hc; omega
  | succ q ih =>
    intro c hc
    by_cases e : c < fc q
    · obtain ⟨j, a, b, d⟩ := ih c e
      exact ⟨j, by omega, b, d⟩
    · exact ⟨q, by omega, by omega, hc⟩
theorem caught_iff {n k N c : Nat} {s r : ck_S} (h : GI n k N N s r) (hc : c < k) : bt (s 5 15) c = true ↔ ∃ i, i < N ∧ r 24 i = 0 ∧ r 26 i = Int32.ofNat c := by
  constructor
  · exact fun hb => h.2.2.2.2.2.2.2.2.2.2.2.1 c hc hb
  · rintro ⟨i, h1, h2, h3⟩
    have hk := h.1.1
    rcases GI_node h h1 with ⟨_, _, q⟩ | ⟨_, q, _⟩
    · rcases q.2.2.2.2.2.2 with ⟨_, z⟩ | ⟨f, f1, f2, f3, f4, f5⟩
      · rw [h3] at z
        exact absurd z (ln_m1 (by omega))
      · rw [(ln_eq (by omega) (by omega)).mp (h3.symm.trans f3)]
        exact f5
    · exact absurd h2 q
theorem l57_ev {n k N c : Nat} {s r : ck_S} (h : GI n k N N s r) (hc : c < k) (K : Int32 → Int32 → Int32 → Int32 → ck_S → Option (Int32 × ck_S)) (x1 x2 : Int32) (v : Int32) (hv : v = 0 ∨ v = 1) :
    ∃ w, (w = 0 ∨ w = 1) ∧ (w = 1 ↔ v = 1 ∨ bt (s 5 15) c = true) ∧ fR_useless_l57 K 4096 x1 x2 (Int32.ofNat c) v 0 r = K x1 x2 (Int32.ofNat c) w r := by
  have hN := h.2.2.1
  have h29 := h.2.2.2.2.2.1
  have key : ∀ (d m i : Nat) (v : Int32), i + d = N → d < m → (v = 0 ∨ v = 1) → ∃ w, (w = 0 ∨ w = 1) ∧ (w = 1 ↔ v = 1 ∨ ∃ j, i ≤ j ∧ j < N ∧ r 24 j = 0 ∧ r 26 j = Int32.ofNat c) ∧ fR_useless_l57 K m x1 x2 (Int32.ofNat c) v (Int32.ofNat i) r = K x1 x2 (Int32.ofNat c) w r := by
    intro d
    induction d with
    | zero =>
      intro m i v hi hm hv
      obtain ⟨m, rfl⟩ : ∃ z, m = z + 1 := ⟨m - 1, by omega⟩
      refine ⟨v, hv, ⟨Or.inl, fun z => ?_⟩, ?_⟩
      · rcases z with z | ⟨j, a, b, _⟩
        · exact z
        · omega
      · rw [fR_useless_l57, h29, if_pos ((ln_le (by omega) (by omega)).mpr (by omega))]
    | succ d ih =>
      intro m i v hi hm hv
      obtain ⟨m, rfl⟩ : ∃ z, m = z + 1 := ⟨m - 1, by omega⟩
      rw [fR_useless_l57, h29, if_neg (mt (ln_le (by omega) (by omega)).mp (by omega)), show Int32.ofNat i + 1 = Int32.ofNat (i + 1) from ln_addL i 1]
      rcases hv with rfl | rfl
      · rw [if_pos rfl, ck_gd_ok (by omega) (by omega), ck_gd_ok (by omega) (by omega), ln_at (by omega)]
        have no : ¬ (r 24 i = 0 ∧ r 26 i = Int32.ofNat c) → ∃ w, (w = 0 ∨ w = 1) ∧ (w = 1 ↔ (0 : Int32) = 1 ∨ ∃ j, i ≤ j ∧ j < N ∧ r 24 j = 0 ∧ r 26 j = Int32.ofNat c) ∧ fR_useless_l57 K m x1 x2 (Int32.ofNat c) 0 (Int32.ofNat (i + 1)) r = K x1 x2 (Int32.ofNat c) w r := fun hno => by
          obtain ⟨w, w1, w2, w3⟩ := ih m (i + 1) 0 (by omega) (by omega) (Or.inl rfl)
          refine ⟨w, w1, ?_, w3⟩
          rw [w2]
          constructor
          · rintro (z | ⟨j, a, b, e⟩)
            · exact Or.inl z
            · exact Or.inr ⟨j, by omega, b, e⟩
          · rintro (z | ⟨j, a, b, e⟩)
            · exact Or.inl z
            · by_cases e3 : j = i
              · rw [e3] at e; exact absurd e hno
              · exact Or.inr ⟨j, by omega, b, e⟩
        by_cases e1 : r 24 i = 0
        · rw [if_pos e1]
          by_cases e2 : r 26 i = Int32.ofNat c
          · rw [if_pos e2]
            obtain ⟨w, w1, w2, w3⟩ := ih m (i + 1) 1 (by omega) (by omega) (Or.inr rfl)
            exact ⟨w, w1, ⟨fun _ => Or.inr ⟨i, by omega, by omega, e1, e2⟩, fun _ => w2.mpr (Or.inl rfl)⟩, w3⟩
          · rw [if_neg e2]
            exact no (fun z => e2 z.2)
        · rw [if_neg e1]
          exact no (fun z => e1 z.1)
      · rw [if_neg (show ¬ ((1 : Int32) = 0) by decide)]
        obtain ⟨w, w1, w2, w3⟩ := ih m (i + 1) 1 (by omega) (by omega) (Or.inr rfl)
        exact ⟨w, w1, ⟨fun _ => Or.inl rfl, fun _ => w2.mpr (Or.inl rfl)⟩, w3⟩
  obtain ⟨w, w1, w2, w3⟩ := key N 4096 0 v (by omega) (by omega) hv
  refine ⟨w, w1, ?_, w3⟩
  rw [w2, caught_iff h hc]
  constructor
  · rintro (z | ⟨j, a, b⟩)
    · exact Or.inl z
    · exact Or.inr ⟨j, b⟩
  · rintro (z | ⟨j, b⟩)
    · exact Or.inl z
    · exact Or.inr ⟨j, by omega, b⟩
theorem useless_T {n q k N : Nat} {s r : ck_S} (hM : rM n q k s r) (h : GI n k N N s r) (h16 : s 5 16 = 1) (h28 : r 0 28 = 1) (x : Int32) : ∃ v, fC_useless x s = some (v, s) ∧ fR_useless x r = some (v, r) := by
  obtain ⟨m1, m2, m3, m4, m5, m6, m7, ⟨fc, f1, f2, f3, f4, f5⟩, m9⟩ := hM
  have hh : fM_hasRow x s = some (if x < 0 then 0 else if s 4 7 ≤ x then 0 else 1, s) := by
    unfold fM_hasRow
    split
    · rfl
    · split <;> rfl
  unfold fC_useless fT_isThere fR_useless fT_caught
  rw [h16, ck_gz1, ck_b_some, if_neg (show ¬ ((1 : Int32) = 0) by decide), h28, if_neg (show ¬ ((1 : Int32) = 0) by decide), hh, ck_b_some, m3, m4]
  rcases ln_cases x q (by omega) with ⟨j, j1, rfl⟩ | z | ⟨z1, z2⟩
  · rw [if_neg (ln_lt0 (by omega)), if_neg (mt (ln_le (by omega) (by omega)).mp (by omega)), if_neg (show ¬ ((1 : Int32) = 0) by decide), ck_b_some, if_neg (ln_lt0 (by omega)), if_pos ((ln_lt (by omega) (by omega)).mpr j1)]
    have hA : fc j < fc (j + 1) := f4 j j1
    have hB : fc (j + 1) ≤ k := by rw [← f2]; exact fc_mono f4 q (Nat.le_refl _) (j + 1) (by omega)
    unfold fM_alternativesOutside
    rw [hh, ck_b_some, m3, if_neg (ln_lt0 (by omega)), if_neg (mt (ln_le (by omega) (by omega)).mp (by omega)), if_neg (show ¬ ((1 : Int32) = 0) by decide)]
    simp (disch := omega) only [ln_addL, ck_gd_ok, ln_at, f3 j (by omega), f3 (j + 1) (by omega), ck_b_some]
    have hrow : ∀ c, c < k → (r 15 c = Int32.ofNat j ↔ fc j ≤ c ∧ c < fc (j + 1)) := fun c hc => by
      constructor
      · intro e
        obtain ⟨j', a, b, d⟩ := fc_row f1 q c (by rw [f2]; exact hc)
        have := (f5 j' c a b d).2.1
        have := (ln_eq (by omega) (by omega)).mp (e.symm.trans this)
        subst this
        exact ⟨b, d⟩
      · rintro ⟨a, b⟩
        exact (f5 j c j1 a b).2.1
    have key : ∀ (d m c : Nat) (y : Int32), c + d = k → d < m → (∀ b, b < 32 → bt y b = (decide (fc j + b < c) && decide (fc j + b < fc (j + 1)) && !bt (s 5 15) (fc j + b))) →
        ∃ y2, fR_useless_l29 m (Int32.ofNat j) y (Int32.ofNat c) r = some (y2, r) ∧ (∀ b, b < 32 → bt y2 b = (decide (fc j + b < k) && decide (fc j + b < fc (j + 1)) && !bt (s 5 15) (fc j + b))) := by
      intro d
      induction d with
      | zero =>
        intro m c y hc hm hy
        obtain ⟨m, rfl⟩ : ∃ z, m = z + 1 := ⟨m - 1, by omega⟩
        have e : c = k := by omega
        subst e
        refine ⟨y, ?_, hy⟩
        rw [fR_useless_l29, m6, if_pos ((ln_le (by omega) (by omega)).mpr (by omega))]
      | succ d ih =>
        intro m c y hc hm hy
        obtain ⟨m, rfl⟩ : ∃ z, m = z + 1 := ⟨m - 1, by omega⟩
        have hck : c < k := by omega
        rw [fR_useless_l29, m6, if_neg (mt (ln_le (by omega) (by omega)).mp (by omega)), ck_gd_ok (by omega) (by omega), ln_at (by omega)]
        have stay : (¬ (fc j ≤ c ∧ c < fc (j + 1)) ∨ bt (s 5 15) c = true) → ∃ y2, fR_useless_l29 m (Int32.ofNat j) y (Int32.ofNat (c + 1)) r = some (y2, r) ∧ (∀ b, b < 32 → bt y2 b = (decide (fc j + b < k) && decide (fc j + b < fc (j + 1)) && !bt (s 5 15) (fc j + b))) := fun hno => by
          refine ih m (c + 1) y (by omega) (by omega) (fun b hb => ?_)
          rw [hy b hb]
          by_cases e : fc j + b = c
          · rcases hno with z | z
            · have z2 : ¬ fc j + b < fc (j + 1) := by omega
              simp [z2]
            · rw [e, z]; simp
          · have : decide (fc j + b < c + 1) = decide (fc j + b < c) := by
              by_cases z : fc j + b < c
              · rw [decide_eq_true z, decide_eq_true (by omega)]
              · rw [decide_eq_false z, decide_eq_false (by omega)]
            rw [this]
        by_cases e : r 15 c = Int32.ofNat j
        · rw [if_pos e]
          obtain ⟨i1, i2⟩ := (hrow c hck).mp e
          obtain ⟨w, w1, w2, w3⟩ := l57_ev h hck (fun x1 x2 x3 x4 st => fR_useless_b105 (fR_useless_l29 m) x1 x2 x3 x4 st) (Int32.ofNat j) y 0 (Or.inl rfl)
          rw [w3]
          unfold fR_useless_b105
          rw [show Int32.ofNat c + 1 = Int32.ofNat (c + 1) from ln_addL c 1]
          by_cases ew : w = 0
          · rw [if_pos ew, ck_gd_ok (by omega) (by omega), ln_at (by omega), (f5 j c j1 i1 i2).2.2]
            have hnc : bt (s 5 15) c = false := by
              cases hb : bt (s 5 15) c with
              | false => rfl
              | true =>
                have := w2.mpr (Or.inr hb)
                rw [ew] at this
                exact absurd this (by decide)
            refine ih m (c + 1) _ (by omega) (by omega) (fun b hb => ?_)
            rw [add_bit (b := c - fc j) (by omega) (fun p hp hp2 => by
              rw [hy p hp2]
              have : ¬ fc j + p < c := by omega
              simp [this]) hb, hy b hb]
            by_cases eb : b = c - fc j
            · have e3 : fc j + b = c := by omega
              rw [e3, hnc, decide_eq_true eb, decide_eq_true (show c < c + 1 by omega), decide_eq_true i2]
              simp
            · rw [decide_eq_false eb]
              have : decide (fc j + b < c + 1) = decide (fc j + b < c) := by
                by_cases z : fc j + b < c
                · rw [decide_eq_true z, decide_eq_true (by omega)]
                · rw [decide_eq_false z, decide_eq_false (by omega)]
              rw [this]
              simp
          · rw [if_neg ew]
            have hw1 : w = 1 := w1.resolve_left ew
            exact stay (Or.inr ((w2.mp hw1).resolve_left (by decide)))
        · rw [if_neg e]
          obtain ⟨w, w1, w2, w3⟩ := l57_ev h hck (fun x1 x2 x3 x4 st => fR_useless_b105 (fR_useless_l29 m) x1 x2 x3 x4 st) (Int32.ofNat j) y 1 (Or.inr rfl)
          rw [w3]
          unfold fR_useless_b105
          rw [show Int32.ofNat c + 1 = Int32.ofNat (c + 1) from ln_addL c 1]
          have hw1 : w = 1 := w2.mpr (Or.inl rfl)
          rw [if_neg (by rw [hw1]; decide)]
          exact stay (Or.inl (fun z => e ((hrow c hck).mpr z)))
    obtain ⟨y2, b1, b2⟩ := key k 4096 0 0 (by omega) (by omega) (fun b _ => by rw [bt_zero]; simp)
    refine ⟨y2, ?_, b1⟩
    congr 2
    apply bt_ext
    intro b hb
    have hr := fun (p : Nat) (hp : p < 32) => bt_row ⟨fc j, by omega⟩ ⟨fc (j + 1), by omega⟩ ⟨p, hp⟩ (by simp only; omega)
    simp only at hr
    have h31 : bt ((((1 : Int32) <<< (Int32.ofNat (fc (j + 1)) &&& 31)) - ((1 : Int32) <<< (Int32.ofNat (fc j) &&& 31))) &&& (s 5 15 ^^^ -1)) 31 = false := by
      rw [bt_and, hr 31 (by omega)]
      have : ¬ (31 < fc (j + 1)) := by omega
      simp [this]
    rw [b2 b hb, bt_sar _ (by omega) hb h31, Nat.add_comm b (fc j)]
    by_cases z : fc j + b < 32
    · rw [bt_and, hr _ z, bt_not _ z, decide_eq_true z]
      by_cases z2 : fc j + b < fc (j + 1)
      · rw [decide_eq_true (show fc j ≤ fc j + b ∧ fc j + b < fc (j + 1) from ⟨by omega, z2⟩), decide_eq_true z2, decide_eq_true (show fc j + b < k by omega)]
        simp
      · rw [decide_eq_false (show ¬ (fc j ≤ fc j + b ∧ fc j + b < fc (j + 1)) from fun w => z2 w.2), decide_eq_false z2]
        simp
    · rw [decide_eq_false z, decide_eq_false (show ¬ fc j + b < fc (j + 1) by omega)]
      simp
  · rw [if_pos z, if_pos rfl, if_pos z]
    exact ⟨_, rfl, rfl⟩
  · rw [if_neg z1, if_pos z2, if_pos rfl, if_neg z1, if_neg (fun w => by
      have := Int32.not_le.mpr w
      exact this z2)]
    exact ⟨_, rfl, rfl⟩
