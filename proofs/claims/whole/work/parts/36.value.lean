/-! values -/
theorem val_cases {n v : Nat} {st rt : ck_S} (h : rV n v st rt) (x : Int32) : (∃ i, i < v ∧ x = Int32.ofNat i ∧ fV_has x st = some (1, st) ∧ fR_isValue x rt = some (1, rt)) ∨ (fV_has x st = some (0, st) ∧ fR_isValue x rt = some (0, rt) ∧ ∀ i, i < v → ¬ x = Int32.ofNat i) := by
  obtain ⟨h1, h2, h3, h4⟩ := h
  unfold fV_has fR_isValue
  rcases ln_cases x v (by omega) with ⟨i, hi, rfl⟩ | hx | ⟨hx, hx2⟩
  · left
    refine ⟨i, hi, rfl, ?_, ?_⟩ <;> simp (disch := omega) only [h2, h3, ln_lt0, ln_le, Nat.not_le.mpr hi, ↓reduceIte]
  · right
    refine ⟨?_, ?_, fun i hi e => ln_lt0 (a := i) (by omega) (by rw [← e]; exact hx)⟩ <;> simp only [hx, ↓reduceIte]
  · right
    refine ⟨?_, ?_, fun i hi e => ?_⟩
    · simp only [h2, hx, hx2, ↓reduceIte]
    · simp only [h3, hx, hx2, ↓reduceIte]
    · rw [e] at hx2
      have := (ln_le (by omega) (by omega)).mp hx2
      omega
def vadd (v : Nat) (sy ty l r : Int32) (st : ck_S) : ck_S := ck_u (ck_u (ck_u (ck_u (ck_u st 18 v sy) 17 v ty) 19 v l) 20 v r) 3 4 (Int32.ofNat (v + 1))
def rvadd (v : Nat) (k w l r : Int32) (rt : ck_S) : ck_S := ck_u (ck_u (ck_u (ck_u (ck_u rt 11 v k) 12 v w) 13 v l) 14 v r) 0 13 (Int32.ofNat (v + 1))
theorem vadd_ev {n v : Nat} {st rt : ck_S} (h : rV n v st rt) (sy ty l r : Int32) : (v < 60 → fV_addBuilt sy ty l r st = some (Int32.ofNat v, vadd v sy ty l r st)) ∧ (¬ v < 60 → fV_addBuilt sy ty l r st = some (-8, st)) := by
  obtain ⟨h1, h2, h3, h4⟩ := h
  unfold fV_addBuilt
  constructor
  · intro hv
    simp (disch := omega) only [h2, ln_ltL, hv, ↓reduceIte, ck_gd_ok, ln_at, ln_addL, vadd]
  · intro hv
    simp (disch := omega) only [h2, ln_ltL, hv, ↓reduceIte]
theorem rvadd_ev {n v : Nat} {st rt : ck_S} (h : rV n v st rt) (hv : v < 60) (k w l r : Int32) : fR_value k w l r rt = some (Int32.ofNat v, rvadd v k w l r rt) := by
  obtain ⟨h1, h2, h3, h4⟩ := h
  unfold fR_value
  simp (disch := omega) only [h3, ck_gd_ok, ln_at, ln_addL, ln_subL, rvadd, Nat.add_sub_cancel]
theorem add_rV {n v : Nat} {st rt : ck_S} {sy ty l r k : Int32} (h : rV n v st rt) (hv : v < 60) (w : vOK n (vadd v sy ty l r st) (rvadd v k sy l r rt) v) : rV n (v + 1) (vadd v sy ty l r st) (rvadd v k sy l r rt) := by
  obtain ⟨h1, h2, h3, h4⟩ := h
  refine ⟨by omega, by simp [vadd, ck_u, upd], by simp [rvadd, ck_u, upd], fun i hi => ?_⟩
  by_cases e : i = v
  · subst e
    exact w
  · have hlt : ∀ z, z ≤ i → ¬ z = v := fun z hz => by omega
    refine vOK_frame (h4 i (by omega)) (Nat.le_refl _) ?_ ?_ ?_ ?_ (fun c _ => ⟨?_, ?_, ?_⟩) (fun q q1 q2 => ?_)
    · intro z hz; simp [vadd, ck_u, upd, hlt z hz]
    · simp [vadd, ck_u, upd, e]
    · simp [vadd, ck_u, upd, e]
    · simp [vadd, ck_u, upd, e]
    · simp [vadd, ck_u, upd]
    · simp [vadd, ck_u, upd]
    · simp [vadd, ck_u, upd]
    · match q, q1, q2 with
      | 11, _, _ => simp [rvadd, ck_u, upd, e]
      | 12, _, _ => simp [rvadd, ck_u, upd, e]
      | 13, _, _ => simp [rvadd, ck_u, upd, e]
      | 14, _, _ => simp [rvadd, ck_u, upd, e]
def touchV (st s2 rt r2 : ck_S) : Prop := (∀ q, q ≠ 3 → (q < 17 ∨ 20 < q) → s2 q = st q) ∧ (∀ q, 1 ≤ q → (q < 11 ∨ 14 < q) → r2 q = rt q) ∧ (∀ j, j ≠ 13 → r2 0 j = rt 0 j)
theorem touchV_rf {st rt : ck_S} : touchV st st rt rt := ⟨fun _ _ _ => rfl, fun _ _ _ => rfl, fun _ _ => rfl⟩
theorem vadd_touch {v : Nat} {st rt : ck_S} {sy ty l r k w l2 r2 : Int32} : touchV st (vadd v sy ty l r st) rt (rvadd v k w l2 r2 rt) := by
  refine ⟨fun q h2 h => ?_, fun q h1 h => ?_, fun j hj => ?_⟩
  · have a17 : ¬ q = 17 := by omega
    have a18 : ¬ q = 18 := by omega
    have a19 : ¬ q = 19 := by omega
    have a20 : ¬ q = 20 := by omega
    simp [vadd, ck_u, h2, a17, a18, a19, a20]
  · have a0 : ¬ q = 0 := by omega
    have a11 : ¬ q = 11 := by omega
    have a12 : ¬ q = 12 := by omega
    have a13 : ¬ q = 13 := by omega
    have a14 : ¬ q = 14 := by omega
    simp [rvadd, ck_u, a0, a11, a12, a13, a14]
  · simp [rvadd, ck_u, upd, hj]
def simV (n v : Nat) (st rt : ck_S) (fc fr : Option (Int32 × ck_S)) : Prop := ∃ (x : Int32) (v2 : Nat) (s2 r2 : ck_S), fc = some (x, s2) ∧ fr = some (x, r2) ∧ rV n v2 s2 r2 ∧ touchV st s2 rt r2
theorem simV_no {n v : Nat} {st rt : ck_S} {fc fr : Option (Int32 × ck_S)} {x : Int32} (h : rV n v st rt) (h1 : fc = some (x, st)) (h2 : fr = some (x, rt)) : simV n v st rt fc fr := ⟨x, v, st, rt, h1, h2, h, touchV_rf⟩
theorem valueNumber_V {n v : Nat} {st rt : ck_S} (h : rV n v st rt) (x : Int32) : simV n v st rt (fC_valueNumber x st) (fR_valueNumber x rt) := by
  have h' := h
  obtain ⟨h1, h2, h3, h4⟩ := h'
  unfold fC_valueNumber fV_addInt fR_valueNumber
  rw [ck_bid, ck_bid]
  by_cases hv : v < 60
  · refine ⟨_, v + 1, _, rvadd v 1 x (-1) (-1) rt, (vadd_ev h _ _ _ _).1 hv, ?_, add_rV h hv ⟨?_, Or.inl ?_⟩, vadd_touch⟩
    · simp (disch := omega) only [h3, ln_eqL, show ¬ (v = 60) by omega, ↓reduceIte, rvadd_ev h hv, ck_b_some]
    · simp [vadd, rvadd, ck_u, upd]
    · simp [vadd, rvadd, ck_u, upd]
  · refine simV_no h ((vadd_ev h _ _ _ _).2 hv) ?_
    simp (disch := omega) only [h3, ln_eqL, show (v = 60) by omega, ↓reduceIte]
theorem val_has {n v i : Nat} {st rt : ck_S} (h : rV n v st rt) (hi : i < v) : fV_has (Int32.ofNat i) st = some (1, st) ∧ fR_isValue (Int32.ofNat i) rt = some (1, rt) := by
  rcases val_cases h (Int32.ofNat i) with ⟨j, h1, h2, h3, h4⟩ | ⟨h1, h2, h3⟩
  · exact ⟨h3, h4⟩
  · exact absurd rfl (h3 i hi)
/-- a value's type -/
theorem val_type {t n v i : Nat} {st rt : ck_S} (hD : rD t n st rt) (h : rV n v st rt) (hi : i < v) : fR_typeOf (Int32.ofNat i) rt = some (st 17 i, rt) ∧ (∃ a, a ≤ 5 ∧ st 17 i = Int32.ofNat a) := by
  obtain ⟨h1, h2, h3, h4⟩ := h
  obtain ⟨w1, w2, w3, w4, w5, w6, w7, w8, w9⟩ := hD
  obtain ⟨⟨a1, a2, a3⟩, b | ⟨b1, c, b2, b3, b4, b5, b6⟩⟩ := h4 i hi
  · unfold fR_typeOf
    refine ⟨by simp (disch := omega) only [ck_gd_ok, ln_at, b.1, ↓reduceIte, b.2.1], 0, by omega, by rw [b.2.1]; rfl⟩
  · unfold fR_typeOf
    obtain ⟨⟨o, o1, o2, o3⟩, _⟩ := w8 c b2
    refine ⟨by simp (disch := omega) only [ck_gd_ok, ln_at, b1, ↓reduceIte, a1, b3, (w7 c b2).1, b4, show ¬ ((2 : Int32) = 1) by decide], o, by omega, by rw [b4, o3]⟩
def vargOK (v : Nat) (st rt : ck_S) (a x : Int32) (hv f : Int32) : Prop := fV_has x st = some (hv, st) ∧ fC_standsFor x hv a st = some (1, st) ∧ fV_isOf x a st = some (f, st) ∧ (f = 0 ∨ f = 1 ∧ vpart st v a x) ∧
  ((a = -1 ∧ x = -1 ∧ f = 1) ∨ (∃ a' i, a' ≤ 5 ∧ a = Int32.ofNat a' ∧ i < v ∧ x = Int32.ofNat i ∧ fR_isValue x rt = some (1, rt) ∧ fR_typeOf x rt = some (st 17 i, rt) ∧ ((f = 0 ∧ ¬ st 17 i = a) ∨ (f = 1 ∧ st 17 i = a))))
theorem varg_cases {t n v : Nat} {st rt : ck_S} (hD : rD t n st rt) (h : rV n v st rt) {a : Int32} (ha : a = -1 ∨ ∃ a', a' ≤ 5 ∧ a = Int32.ofNat a') (x : Int32) :
    (∃ hv, fV_has x st = some (hv, st) ∧ fC_standsFor x hv a st = some (0, st) ∧ ((a = -1 ∧ ¬ x = -1) ∨ (∃ a', a' ≤ 5 ∧ a = Int32.ofNat a' ∧ fR_isValue x rt = some (0, rt)))) ∨ (∃ hv f, vargOK v st rt a x hv f) := by
  have hv60 := h.1
  rcases ha with rfl | ⟨a', ha1, rfl⟩
  · by_cases hx : x = -1
    · subst hx
      have e : fV_has (-1) st = some (0, st) := by
        unfold fV_has
        simp only [ln_m1', ↓reduceIte]
      refine Or.inr ⟨0, 1, e, ?_, ?_, Or.inr ⟨rfl, Or.inl ⟨rfl, rfl⟩⟩, Or.inl ⟨rfl, rfl, rfl⟩⟩
      · unfold fC_standsFor
        simp only [↓reduceIte]
      · unfold fV_isOf
        simp only [e, ck_b_some, ↓reduceIte]
    · left
      rcases val_cases h x with ⟨j, h1, h2, h3, h4⟩ | ⟨h1, h2, h3⟩
      · refine ⟨1, h3, ?_, Or.inl ⟨rfl, hx⟩⟩
        unfold fC_standsFor
        simp only [↓reduceIte, hx]
      · refine ⟨0, h1, ?_, Or.inl ⟨rfl, hx⟩⟩
        unfold fC_standsFor
        simp only [↓reduceIte, hx]
  · rcases val_cases h x with ⟨i, h1, h2, h3, h4⟩ | ⟨h1, h2, h3⟩
    · right
      subst h2
      obtain ⟨y1, y2⟩ := val_type hD h h1
      have hst : fC_standsFor (Int32.ofNat i) 1 (Int32.ofNat a') st = some (1, st) := by
        unfold fC_standsFor
        simp (disch := omega) only [ln_m1, ↓reduceIte, ck_gz1]
      by_cases e : st 17 i = Int32.ofNat a'
      · refine ⟨1, 1, h3, hst, ?_, Or.inr ⟨rfl, Or.inr ⟨ln_m1 (by omega), i, h1, rfl, e⟩⟩, Or.inr ⟨a', i, ha1, rfl, h1, rfl, h4, y1, Or.inr ⟨rfl, e⟩⟩⟩
        unfold fV_isOf
        simp (disch := omega) only [h3, ck_b_some, ln_10, ↓reduceIte, ck_gd_ok, ln_at, e]
      · refine ⟨1, 0, h3, hst, ?_, Or.inl rfl, Or.inr ⟨a', i, ha1, rfl, h1, rfl, h4, y1, Or.inl ⟨rfl, e⟩⟩⟩
        unfold fV_isOf
        simp (disch := omega) only [h3, ck_b_some, ln_10, ↓reduceIte, ck_gd_ok, ln_at, e]
    · left
      refine ⟨0, h1, ?_, Or.inr ⟨a', ha1, rfl, h2⟩⟩
      unfold fC_standsFor
      simp (disch := omega) only [ln_m1, ↓reduceIte, ck_gz0]
def vres (s full : ck_S) (x f1 f2 : Int32) (v : Nat) : Option (Int32 × ck_S) := if f1 = 0 then some (-7, s) else if f2 = 0 then some (-7, s) else if v < 60 then some (x, full) else some (-8, s)
theorem valueOf_C {t n v c : Nat} {st rt : ck_S} (hD : rD t n st rt) (hV : rV n v st rt) (hc : c < n) {x2 x3 h1 f1 h2 f2 : Int32} (A1 : vargOK v st rt (st 8 c) x2 h1 f1) (A2 : vargOK v st rt (st 9 c) x3 h2 f2) :
    fC_valueOf (Int32.ofNat c) x2 x3 st = vres st (vadd v (Int32.ofNat c) (st 7 c) x2 x3 st) (Int32.ofNat v) f1 f2 v := by
  obtain ⟨e1, e2, e3, e4, -⟩ := A1
  obtain ⟨g1, g2, g3, g4, -⟩ := A2
  obtain ⟨w1, w2, w3, w4, w5, w6, w7, w8, w9⟩ := hD
  have hco : fD_isConstructor (Int32.ofNat c) st = some (1, st) := by
    unfold fD_isConstructor
    simp (disch := omega) only [w5, ln_lt0, ln_le, ↓reduceIte, Nat.not_le.mpr hc]
  have hf1 : fD_firstTypeOf (Int32.ofNat c) st = some (st 8 c, st) := by
    unfold fD_firstTypeOf
    simp (disch := omega) only [hco, ck_b_some, ln_10, ↓reduceIte, ck_gd_ok, ln_at]
  have hf2 : fD_secondTypeOf (Int32.ofNat c) st = some (st 9 c, st) := by
    unfold fD_secondTypeOf
    simp (disch := omega) only [hco, ck_b_some, ln_10, ↓reduceIte, ck_gd_ok, ln_at]
  have hf3 : fD_ownerOf (Int32.ofNat c) st = some (st 7 c, st) := by
    unfold fD_ownerOf
    simp (disch := omega) only [hco, ck_b_some, ln_10, ↓reduceIte, ck_gd_ok, ln_at]
  unfold fC_valueOf vres
  simp only [hco, hf1, hf2, hf3, e1, e2, e3, g1, g2, g3, ck_b_some, ln_10, ↓reduceIte]
  by_cases z1 : f1 = 0
  · simp only [z1, ↓reduceIte]
  · by_cases z2 : f2 = 0
    · simp only [z1, z2, ↓reduceIte]
    · by_cases z5 : v < 60
      · simp only [z1, z2, z5, ↓reduceIte, (vadd_ev hV _ _ _ _).1 z5, ck_b_some]
      · simp only [z1, z2, z5, ↓reduceIte, (vadd_ev hV _ _ _ _).2 z5, ck_b_some]
theorem valueOf_R {t n v c : Nat} {st rt : ck_S} (hD : rD t n st rt) (hV : rV n v st rt) (hc : c < n) {x2 x3 h1 f1 h2 f2 : Int32} (A1 : vargOK v st rt (st 8 c) x2 h1 f1) (A2 : vargOK v st rt (st 9 c) x3 h2 f2) :
    fR_valueOf (Int32.ofNat c) x2 x3 rt = vres rt (rvadd v 2 (Int32.ofNat c) x2 x3 rt) (Int32.ofNat v) f1 f2 v := by
  obtain ⟨-, -, -, e11, E⟩ := A1
  obtain ⟨-, -, -, g11, G⟩ := A2
  obtain ⟨w1, w2, w3, w4, w5, w6, w7, w8, w9⟩ := hD
  obtain ⟨w71, w72, w73⟩ := w7 c hc
  have hv60 := hV.1
  have hrv := hV.2.2.1
  rcases E with ⟨E1, E2, E3⟩ | ⟨a, i, E0, E1, E2, E3, E6, E7, E8⟩
  · rcases G with ⟨G1, G2, G3⟩ | ⟨b, j, G0, G1, G2, G3, G6, G7, G8⟩
    · subst E3 G3
      rw [E2]
      rw [G2]
      have t1 : fR_valueOf_b137 (Int32.ofNat c) (-1) (-1) rt = (if v < 60 then some (Int32.ofNat v, rvadd v 2 (Int32.ofNat c) (-1) (-1) rt) else some (-8, rt)) := by
        unfold fR_valueOf_b137
        by_cases z5 : v < 60
        · simp (disch := omega) only [hrv, ln_eqL, z5, show ¬ (v = 60) by omega, ↓reduceIte, rvadd_ev hV z5, ck_b_some]
        · simp (disch := omega) only [hrv, ln_eqL, z5, show (v = 60) by omega, ↓reduceIte, Nat.lt_irrefl]
      have t2 : fR_valueOf_b115 (Int32.ofNat c) (-1) (-1) (0 : Int32) rt = (if v < 60 then some (Int32.ofNat v, rvadd v 2 (Int32.ofNat c) (-1) (-1) rt) else some (-8, rt)) := by
        unfold fR_valueOf_b115
        simp (disch := omega) only [ln_lt0, w6, ln_lt, hc, ↓reduceIte, ck_gd_ok, ln_at, w71, w72, w73, ln_m1', ln_10, ln_00, ck_b_some, E1, G1, E2, G2, t1]
      have t3 : fR_valueOf_b96 (Int32.ofNat c) (-1) (-1) (0 : Int32) (0 : Int32) rt = (if v < 60 then some (Int32.ofNat v, rvadd v 2 (Int32.ofNat c) (-1) (-1) rt) else some (-8, rt)) := by
        unfold fR_valueOf_b96
        simp (disch := omega) only [ln_lt0, w6, ln_lt, hc, ↓reduceIte, ck_gd_ok, ln_at, w71, w72, w73, ln_m1', ln_10, ln_00, ck_b_some, E1, G1, E2, G2, t2]
      have t83 : fR_valueOf_b83 (Int32.ofNat c) (-1) (-1) (0 : Int32) (0 : Int32) rt = (if v < 60 then some (Int32.ofNat v, rvadd v 2 (Int32.ofNat c) (-1) (-1) rt) else some (-8, rt)) := by
        unfold fR_valueOf_b83
        simp (disch := omega) only [ln_lt0, w6, ln_lt, hc, ↓reduceIte, ck_gd_ok, ln_at, w71, w72, w73, ln_m1', ln_10, ln_00, ck_b_some, E1, G1, E2, G2, t3]
      have t70 : fR_valueOf_b70 (Int32.ofNat c) (-1) (-1) (0 : Int32) (0 : Int32) rt = (if v < 60 then some (Int32.ofNat v, rvadd v 2 (Int32.ofNat c) (-1) (-1) rt) else some (-8, rt)) := by
        unfold fR_valueOf_b70
        simp (disch := omega) only [ln_lt0, w6, ln_lt, hc, ↓reduceIte, ck_gd_ok, ln_at, w71, w72, w73, ln_m1', ln_10, ln_00, ck_b_some, E1, G1, E2, G2, t83]
      have t60 : fR_valueOf_b60 (Int32.ofNat c) (-1) (-1) (0 : Int32) (0 : Int32) rt = (if v < 60 then some (Int32.ofNat v, rvadd v 2 (Int32.ofNat c) (-1) (-1) rt) else some (-8, rt)) := by
        unfold fR_valueOf_b60
        simp (disch := omega) only [ln_lt0, w6, ln_lt, hc, ↓reduceIte, ck_gd_ok, ln_at, w71, w72, w73, ln_m1', ln_10, ln_00, ck_b_some, E1, G1, E2, G2, t70]
      have t45 : fR_valueOf_b45 (0 : Int32) (Int32.ofNat c) (-1) (-1) (0 : Int32) rt = (if v < 60 then some (Int32.ofNat v, rvadd v 2 (Int32.ofNat c) (-1) (-1) rt) else some (-8, rt)) := by
        unfold fR_valueOf_b45
        simp (disch := omega) only [ln_lt0, w6, ln_lt, hc, ↓reduceIte, ck_gd_ok, ln_at, w71, w72, w73, ln_m1', ln_10, ln_00, ck_b_some, E1, G1, E2, G2, t60]
      have t29 : fR_valueOf_b29 (0 : Int32) (Int32.ofNat c) (-1) (-1) rt = (if v < 60 then some (Int32.ofNat v, rvadd v 2 (Int32.ofNat c) (-1) (-1) rt) else some (-8, rt)) := by
        unfold fR_valueOf_b29
        simp (disch := omega) only [ln_lt0, w6, ln_lt, hc, ↓reduceIte, ck_gd_ok, ln_at, w71, w72, w73, ln_m1', ln_10, ln_00, ck_b_some, E1, G1, E2, G2, t45]
      unfold fR_valueOf vres
      simp (disch := omega) only [ln_lt0, w6, ln_lt, hc, ↓reduceIte, ck_gd_ok, ln_at, w71, w72, w73, ln_m1', ln_10, ln_00, ck_b_some, E1, G1, E2, G2, t29]
    · subst E3
      rw [E2]
      rw [G3] at G6 G7 ⊢
      have t1 : fR_valueOf_b137 (Int32.ofNat c) (-1) (Int32.ofNat j) rt = (if v < 60 then some (Int32.ofNat v, rvadd v 2 (Int32.ofNat c) (-1) (Int32.ofNat j) rt) else some (-8, rt)) := by
        unfold fR_valueOf_b137
        by_cases z5 : v < 60
        · simp (disch := omega) only [hrv, ln_eqL, z5, show ¬ (v = 60) by omega, ↓reduceIte, rvadd_ev hV z5, ck_b_some]
        · simp (disch := omega) only [hrv, ln_eqL, z5, show (v = 60) by omega, ↓reduceIte, Nat.lt_irrefl]
      have t2 : fR_valueOf_b115 (Int32.ofNat c) (-1) (Int32.ofNat j) (1 : Int32) rt = (if f2 = 0 then some (-7, rt) else (if v < 60 then some (Int32.ofNat v, rvadd v 2 (Int32.ofNat c) (-1) (Int32.ofNat j) rt) else some (-8, rt))) := by
        unfold fR_valueOf_b115
        rcases G8 with ⟨rfl, G8⟩ | ⟨rfl, G8⟩ <;> simp (disch := omega) only [ln_lt0, w6, ln_lt, hc, ↓reduceIte, ck_gd_ok, ln_at, w71, w72, w73, ln_m1', ln_10, ln_00, ck_b_some, E1, E2, t1, G7, G8]
      have t3 : fR_valueOf_b96 (Int32.ofNat c) (-1) (Int32.ofNat j) (0 : Int32) (1 : Int32) rt = (if f2 = 0 then some (-7, rt) else (if v < 60 then some (Int32.ofNat v, rvadd v 2 (Int32.ofNat c) (-1) (Int32.ofNat j) rt) else some (-8, rt))) := by
        unfold fR_valueOf_b96
        simp (disch := omega) only [ln_lt0, w6, ln_lt, hc, ↓reduceIte, ck_gd_ok, ln_at, w71, w72, w73, ln_m1', ln_10, ln_00, ck_b_some, E1, G1, E2, t2]
      have t83 : fR_valueOf_b83 (Int32.ofNat c) (-1) (Int32.ofNat j) (0 : Int32) (1 : Int32) rt = (if f2 = 0 then some (-7, rt) else (if v < 60 then some (Int32.ofNat v, rvadd v 2 (Int32.ofNat c) (-1) (Int32.ofNat j) rt) else some (-8, rt))) := by
        unfold fR_valueOf_b83
        simp (disch := omega) only [ln_lt0, w6, ln_lt, hc, ↓reduceIte, ck_gd_ok, ln_at, w71, w72, w73, ln_m1', ln_10, ln_00, ck_b_some, E1, G1, E2, t3]
      have t70 : fR_valueOf_b70 (Int32.ofNat c) (-1) (Int32.ofNat j) (0 : Int32) (1 : Int32) rt = (if f2 = 0 then some (-7, rt) else (if v < 60 then some (Int32.ofNat v, rvadd v 2 (Int32.ofNat c) (-1) (Int32.ofNat j) rt) else some (-8, rt))) := by
        unfold fR_valueOf_b70
        simp (disch := omega) only [ln_lt0, w6, ln_lt, hc, ↓reduceIte, ck_gd_ok, ln_at, w71, w72, w73, ln_m1', ln_10, ln_00, ck_b_some, E1, G1, E2, t83, G6]
      have t60 : fR_valueOf_b60 (Int32.ofNat c) (-1) (Int32.ofNat j) (0 : Int32) (1 : Int32) rt = (if f2 = 0 then some (-7, rt) else (if v < 60 then some (Int32.ofNat v, rvadd v 2 (Int32.ofNat c) (-1) (Int32.ofNat j) rt) else some (-8, rt))) := by
        unfold fR_valueOf_b60
        simp (disch := omega) only [ln_lt0, w6, ln_lt, hc, ↓reduceIte, ck_gd_ok, ln_at, w71, w72, w73, ln_m1', ln_10, ln_00, ck_b_some, E1, G1, E2, t70]
      have t45 : fR_valueOf_b45 (1 : Int32) (Int32.ofNat c) (-1) (Int32.ofNat j) (0 : Int32) rt = (if f2 = 0 then some (-7, rt) else (if v < 60 then some (Int32.ofNat v, rvadd v 2 (Int32.ofNat c) (-1) (Int32.ofNat j) rt) else some (-8, rt))) := by
        unfold fR_valueOf_b45
        simp (disch := omega) only [ln_lt0, w6, ln_lt, hc, ↓reduceIte, ck_gd_ok, ln_at, w71, w72, w73, ln_m1', ln_10, ln_00, ck_b_some, E1, G1, E2, t60]
      have t29 : fR_valueOf_b29 (0 : Int32) (Int32.ofNat c) (-1) (Int32.ofNat j) rt = (if f2 = 0 then some (-7, rt) else (if v < 60 then some (Int32.ofNat v, rvadd v 2 (Int32.ofNat c) (-1) (Int32.ofNat j) rt) else some (-8, rt))) := by
        unfold fR_valueOf_b29
        simp (disch := omega) only [ln_lt0, w6, ln_lt, hc, ↓reduceIte, ck_gd_ok, ln_at, w71, w72, w73, ln_m1', ln_10, ln_00, ck_b_some, E1, G1, E2, t45]
      unfold fR_valueOf vres
      simp (disch := omega) only [ln_lt0, w6, ln_lt, hc, ↓reduceIte, ck_gd_ok, ln_at, w71, w72, w73, ln_m1', ln_10, ln_00, ck_b_some, E1, G1, E2, t29]
  · rcases G with ⟨G1, G2, G3⟩ | ⟨b, j, G0, G1, G2, G3, G6, G7, G8⟩
    · subst G3
      rw [E3] at E6 E7 ⊢
      rw [G2]
      have t1 : fR_valueOf_b137 (Int32.ofNat c) (Int32.ofNat i) (-1) rt = (if v < 60 then some (Int32.ofNat v, rvadd v 2 (Int32.ofNat c) (Int32.ofNat i) (-1) rt) else some (-8, rt)) := by
        unfold fR_valueOf_b137
        by_cases z5 : v < 60
        · simp (disch := omega) only [hrv, ln_eqL, z5, show ¬ (v = 60) by omega, ↓reduceIte, rvadd_ev hV z5, ck_b_some]
        · simp (disch := omega) only [hrv, ln_eqL, z5, show (v = 60) by omega, ↓reduceIte, Nat.lt_irrefl]
      have t2 : fR_valueOf_b115 (Int32.ofNat c) (Int32.ofNat i) (-1) (0 : Int32) rt = (if v < 60 then some (Int32.ofNat v, rvadd v 2 (Int32.ofNat c) (Int32.ofNat i) (-1) rt) else some (-8, rt)) := by
        unfold fR_valueOf_b115
        simp (disch := omega) only [ln_lt0, w6, ln_lt, hc, ↓reduceIte, ck_gd_ok, ln_at, w71, w72, w73, ln_m1', ln_10, ln_00, ck_b_some, E1, G1, G2, t1]
      have t3 : fR_valueOf_b96 (Int32.ofNat c) (Int32.ofNat i) (-1) (1 : Int32) (0 : Int32) rt = (if f1 = 0 then some (-7, rt) else (if v < 60 then some (Int32.ofNat v, rvadd v 2 (Int32.ofNat c) (Int32.ofNat i) (-1) rt) else some (-8, rt))) := by
        unfold fR_valueOf_b96
        rcases E8 with ⟨rfl, E8⟩ | ⟨rfl, E8⟩ <;> simp (disch := omega) only [ln_lt0, w6, ln_lt, hc, ↓reduceIte, ck_gd_ok, ln_at, w71, w72, w73, ln_m1', ln_10, ln_00, ck_b_some, G1, G2, t2, E7, E8]
      have t83 : fR_valueOf_b83 (Int32.ofNat c) (Int32.ofNat i) (-1) (1 : Int32) (0 : Int32) rt = (if f1 = 0 then some (-7, rt) else (if v < 60 then some (Int32.ofNat v, rvadd v 2 (Int32.ofNat c) (Int32.ofNat i) (-1) rt) else some (-8, rt))) := by
        unfold fR_valueOf_b83
        simp (disch := omega) only [ln_lt0, w6, ln_lt, hc, ↓reduceIte, ck_gd_ok, ln_at, w71, w72, w73, ln_m1', ln_10, ln_00, ck_b_some, E1, G1, G2, t3]
      have t70 : fR_valueOf_b70 (Int32.ofNat c) (Int32.ofNat i) (-1) (1 : Int32) (0 : Int32) rt = (if f1 = 0 then some (-7, rt) else (if v < 60 then some (Int32.ofNat v, rvadd v 2 (Int32.ofNat c) (Int32.ofNat i) (-1) rt) else some (-8, rt))) := by
        unfold fR_valueOf_b70
        simp (disch := omega) only [ln_lt0, w6, ln_lt, hc, ↓reduceIte, ck_gd_ok, ln_at, w71, w72, w73, ln_m1', ln_10, ln_00, ck_b_some, E1, G1, G2, t83]
      have t60 : fR_valueOf_b60 (Int32.ofNat c) (Int32.ofNat i) (-1) (1 : Int32) (0 : Int32) rt = (if f1 = 0 then some (-7, rt) else (if v < 60 then some (Int32.ofNat v, rvadd v 2 (Int32.ofNat c) (Int32.ofNat i) (-1) rt) else some (-8, rt))) := by
        unfold fR_valueOf_b60
        simp (disch := omega) only [ln_lt0, w6, ln_lt, hc, ↓reduceIte, ck_gd_ok, ln_at, w71, w72, w73, ln_m1', ln_10, ln_00, ck_b_some, E1, G1, G2, t70]
      have t45 : fR_valueOf_b45 (0 : Int32) (Int32.ofNat c) (Int32.ofNat i) (-1) (1 : Int32) rt = (if f1 = 0 then some (-7, rt) else (if v < 60 then some (Int32.ofNat v, rvadd v 2 (Int32.ofNat c) (Int32.ofNat i) (-1) rt) else some (-8, rt))) := by
        unfold fR_valueOf_b45
        simp (disch := omega) only [ln_lt0, w6, ln_lt, hc, ↓reduceIte, ck_gd_ok, ln_at, w71, w72, w73, ln_m1', ln_10, ln_00, ck_b_some, E1, G1, G2, t60, E6]
      have t29 : fR_valueOf_b29 (1 : Int32) (Int32.ofNat c) (Int32.ofNat i) (-1) rt = (if f1 = 0 then some (-7, rt) else (if v < 60 then some (Int32.ofNat v, rvadd v 2 (Int32.ofNat c) (Int32.ofNat i) (-1) rt) else some (-8, rt))) := by
        unfold fR_valueOf_b29
        simp (disch := omega) only [ln_lt0, w6, ln_lt, hc, ↓reduceIte, ck_gd_ok, ln_at, w71, w72, w73, ln_m1', ln_10, ln_00, ck_b_some, E1, G1, G2, t45]
      unfold fR_valueOf vres
      simp (disch := omega) only [ln_lt0, w6, ln_lt, hc, ↓reduceIte, ck_gd_ok, ln_at, w71, w72, w73, ln_m1', ln_10, ln_00, ck_b_some, E1, G1, G2, t29]
    · rw [E3] at E6 E7 ⊢
      rw [G3] at G6 G7 ⊢
      have t1 : fR_valueOf_b137 (Int32.ofNat c) (Int32.ofNat i) (Int32.ofNat j) rt = (if v < 60 then some (Int32.ofNat v, rvadd v 2 (Int32.ofNat c) (Int32.ofNat i) (Int32.ofNat j) rt) else some (-8, rt)) := by
        unfold fR_valueOf_b137
        by_cases z5 : v < 60
        · simp (disch := omega) only [hrv, ln_eqL, z5, show ¬ (v = 60) by omega, ↓reduceIte, rvadd_ev hV z5, ck_b_some]
        · simp (disch := omega) only [hrv, ln_eqL, z5, show (v = 60) by omega, ↓reduceIte, Nat.lt_irrefl]
      have t2 : fR_valueOf_b115 (Int32.ofNat c) (Int32.ofNat i) (Int32.ofNat j) (1 : Int32) rt = (if f2 = 0 then some (-7, rt) else (if v < 60 then some (Int32.ofNat v, rvadd v 2 (Int32.ofNat c) (Int32.ofNat i) (Int32.ofNat j) rt) else some (-8, rt))) := by
        unfold fR_valueOf_b115
        rcases G8 with ⟨rfl, G8⟩ | ⟨rfl, G8⟩ <;> simp (disch := omega) only [ln_lt0, w6, ln_lt, hc, ↓reduceIte, ck_gd_ok, ln_at, w71, w72, w73, ln_m1', ln_10, ln_00, ck_b_some, E1, t1, G7, G8]
      have t3 : fR_valueOf_b96 (Int32.ofNat c) (Int32.ofNat i) (Int32.ofNat j) (1 : Int32) (1 : Int32) rt = (if f1 = 0 then some (-7, rt) else (if f2 = 0 then some (-7, rt) else (if v < 60 then some (Int32.ofNat v, rvadd v 2 (Int32.ofNat c) (Int32.ofNat i) (Int32.ofNat j) rt) else some (-8, rt)))) := by
        unfold fR_valueOf_b96
        rcases E8 with ⟨rfl, E8⟩ | ⟨rfl, E8⟩ <;> simp (disch := omega) only [ln_lt0, w6, ln_lt, hc, ↓reduceIte, ck_gd_ok, ln_at, w71, w72, w73, ln_m1', ln_10, ln_00, ck_b_some, G1, t2, E7, E8]
      have t83 : fR_valueOf_b83 (Int32.ofNat c) (Int32.ofNat i) (Int32.ofNat j) (1 : Int32) (1 : Int32) rt = (if f1 = 0 then some (-7, rt) else (if f2 = 0 then some (-7, rt) else (if v < 60 then some (Int32.ofNat v, rvadd v 2 (Int32.ofNat c) (Int32.ofNat i) (Int32.ofNat j) rt) else some (-8, rt)))) := by
        unfold fR_valueOf_b83
        simp (disch := omega) only [ln_lt0, w6, ln_lt, hc, ↓reduceIte, ck_gd_ok, ln_at, w71, w72, w73, ln_m1', ln_10, ln_00, ck_b_some, E1, G1, t3]
      have t70 : fR_valueOf_b70 (Int32.ofNat c) (Int32.ofNat i) (Int32.ofNat j) (1 : Int32) (1 : Int32) rt = (if f1 = 0 then some (-7, rt) else (if f2 = 0 then some (-7, rt) else (if v < 60 then some (Int32.ofNat v, rvadd v 2 (Int32.ofNat c) (Int32.ofNat i) (Int32.ofNat j) rt) else some (-8, rt)))) := by
        unfold fR_valueOf_b70
        simp (disch := omega) only [ln_lt0, w6, ln_lt, hc, ↓reduceIte, ck_gd_ok, ln_at, w71, w72, w73, ln_m1', ln_10, ln_00, ck_b_some, E1, G1, t83, G6]
      have t60 : fR_valueOf_b60 (Int32.ofNat c) (Int32.ofNat i) (Int32.ofNat j) (1 : Int32) (1 : Int32) rt = (if f1 = 0 then some (-7, rt) else (if f2 = 0 then some (-7, rt) else (if v < 60 then some (Int32.ofNat v, rvadd v 2 (Int32.ofNat c) (Int32.ofNat i) (Int32.ofNat j) rt) else some (-8, rt)))) := by
        unfold fR_valueOf_b60
        simp (disch := omega) only [ln_lt0, w6, ln_lt, hc, ↓reduceIte, ck_gd_ok, ln_at, w71, w72, w73, ln_m1', ln_10, ln_00, ck_b_some, E1, G1, t70]
      have t45 : fR_valueOf_b45 (1 : Int32) (Int32.ofNat c) (Int32.ofNat i) (Int32.ofNat j) (1 : Int32) rt = (if f1 = 0 then some (-7, rt) else (if f2 = 0 then some (-7, rt) else (if v < 60 then some (Int32.ofNat v, rvadd v 2 (Int32.ofNat c) (Int32.ofNat i) (Int32.ofNat j) rt) else some (-8, rt)))) := by
        unfold fR_valueOf_b45
        simp (disch := omega) only [ln_lt0, w6, ln_lt, hc, ↓reduceIte, ck_gd_ok, ln_at, w71, w72, w73, ln_m1', ln_10, ln_00, ck_b_some, E1, G1, t60, E6]
      have t29 : fR_valueOf_b29 (1 : Int32) (Int32.ofNat c) (Int32.ofNat i) (Int32.ofNat j) rt = (if f1 = 0 then some (-7, rt) else (if f2 = 0 then some (-7, rt) else (if v < 60 then some (Int32.ofNat v, rvadd v 2 (Int32.ofNat c) (Int32.ofNat i) (Int32.ofNat j) rt) else some (-8, rt)))) := by
        unfold fR_valueOf_b29
        simp (disch := omega) only [ln_lt0, w6, ln_lt, hc, ↓reduceIte, ck_gd_ok, ln_at, w71, w72, w73, ln_m1', ln_10, ln_00, ck_b_some, E1, G1, t45]
      unfold fR_valueOf vres
      simp (disch := omega) only [ln_lt0, w6, ln_lt, hc, ↓reduceIte, ck_gd_ok, ln_at, w71, w72, w73, ln_m1', ln_10, ln_00, ck_b_some, E1, G1, t29]
theorem valueOf_V {t n v : Nat} {st rt : ck_S} (hD : rD t n st rt) (hV : rV n v st rt) (x1 x2 x3 : Int32) : simV n v st rt (fC_valueOf x1 x2 x3 st) (fR_valueOf x1 x2 x3 rt) := by
  have hD' := hD
  obtain ⟨w1, w2, w3, w4, w5, w6, w7, w8, w9⟩ := hD'
  rcases ln_cases x1 n (by omega) with ⟨c, hc, rfl⟩ | hx | ⟨hx, hx2⟩
  · have hw := w8 c hc
    obtain ⟨⟨o, o1, o2, o3⟩, wa, wb, wab⟩ := hw
    have ha : st 8 c = -1 ∨ ∃ a', a' ≤ 5 ∧ st 8 c = Int32.ofNat a' := by
      rcases wa with wa | ⟨a, a1, a2⟩
      · exact Or.inl wa
      · exact Or.inr ⟨a, by omega, a2⟩
    have hb : st 9 c = -1 ∨ ∃ a', a' ≤ 5 ∧ st 9 c = Int32.ofNat a' := by
      rcases wb with wb | ⟨a, a1, a2⟩
      · exact Or.inl wb
      · exact Or.inr ⟨a, by omega, a2⟩
    have hco : fD_isConstructor (Int32.ofNat c) st = some (1, st) := by
      unfold fD_isConstructor
      simp (disch := omega) only [w5, ln_lt0, ln_le, ↓reduceIte, Nat.not_le.mpr hc]
    have hf1 : fD_firstTypeOf (Int32.ofNat c) st = some (st 8 c, st) := by
      unfold fD_firstTypeOf
      simp (disch := omega) only [hco, ck_b_some, ln_10, ↓reduceIte, ck_gd_ok, ln_at]
    have hf2 : fD_secondTypeOf (Int32.ofNat c) st = some (st 9 c, st) := by
      unfold fD_secondTypeOf
      simp (disch := omega) only [hco, ck_b_some, ln_10, ↓reduceIte, ck_gd_ok, ln_at]
    obtain ⟨w71, w72, w73⟩ := w7 c hc
    rcases varg_cases hD hV ha x2 with ⟨hv, e1, e2, e3⟩ | ⟨h1, f1, A1⟩
    · refine simV_no (x := -6) hV ?_ ?_
      · unfold fC_valueOf
        simp only [hco, ck_b_some, ln_10, ↓reduceIte, hf1, hf2, e1, e2]
      · rcases e3 with ⟨e3, e4⟩ | ⟨a', e3, e4, e5⟩
        · rcases hb with hb | ⟨b', b1, b2⟩
          · simp (disch := omega) only [fR_valueOf, fR_valueOf_b29, fR_valueOf_b45, fR_valueOf_b60, ln_lt0, w6, ln_lt, hc, ↓reduceIte, ck_gd_ok, ln_at, w72, w73, e3, hb, ln_m1', ln_00, e4]
          · simp (disch := omega) only [fR_valueOf, fR_valueOf_b29, fR_valueOf_b45, fR_valueOf_b60, ln_lt0, w6, ln_lt, hc, ↓reduceIte, ck_gd_ok, ln_at, w72, w73, e3, b2, ln_m1', ln_00, e4]
        · rcases hb with hb | ⟨b', b1, b2⟩
          · simp (disch := omega) only [fR_valueOf, fR_valueOf_b29, fR_valueOf_b45, ln_lt0, w6, ln_lt, hc, ↓reduceIte, ck_gd_ok, ln_at, w72, w73, e4, hb, ln_m1', ln_10, e5, ck_b_some]
          · simp (disch := omega) only [fR_valueOf, fR_valueOf_b29, fR_valueOf_b45, ln_lt0, w6, ln_lt, hc, ↓reduceIte, ck_gd_ok, ln_at, w72, w73, e4, b2, ln_10, e5, ck_b_some]
    · have A1' := A1
      obtain ⟨g1, g2, g3, g11, E⟩ := A1'
      rcases varg_cases hD hV hb x3 with ⟨hv, e1, e2, e3⟩ | ⟨h2, f2, A2⟩
      · refine simV_no (x := -6) hV ?_ ?_
        · unfold fC_valueOf
          simp only [hco, ck_b_some, ln_10, ↓reduceIte, hf1, hf2, e1, e2, g1, g2]
        · rcases E with ⟨E1, E2, E3⟩ | ⟨a, i, E0, E1, E2, E3, E6, E7, E8⟩
          · rcases e3 with ⟨e3, e4⟩ | ⟨b', e3, e4, e5⟩
            · simp (disch := omega) only [fR_valueOf, fR_valueOf_b29, fR_valueOf_b45, fR_valueOf_b60, fR_valueOf_b70, fR_valueOf_b83, ln_lt0, w6, ln_lt, hc, ↓reduceIte, ck_gd_ok, ln_at, w72, w73, E1, E2, e3, ln_m1', ln_00, e4]
            · simp (disch := omega) only [fR_valueOf, fR_valueOf_b29, fR_valueOf_b45, fR_valueOf_b60, fR_valueOf_b70, ln_lt0, w6, ln_lt, hc, ↓reduceIte, ck_gd_ok, ln_at, w72, w73, E1, E2, e4, ln_m1', ln_00, ln_10, e5, ck_b_some]
          · rcases e3 with ⟨e3, e4⟩ | ⟨b', e3, e4, e5⟩
            · simp (disch := omega) only [fR_valueOf, fR_valueOf_b29, fR_valueOf_b45, fR_valueOf_b60, fR_valueOf_b70, fR_valueOf_b83, ln_lt0, w6, ln_lt, hc, ↓reduceIte, ck_gd_ok, ln_at, w72, w73, E1, E6, e3, ln_m1', ln_00, ln_10, e4, ck_b_some]
            · simp (disch := omega) only [fR_valueOf, fR_valueOf_b29, fR_valueOf_b45, fR_valueOf_b60, fR_valueOf_b70, ln_lt0, w6, ln_lt, hc, ↓reduceIte, ck_gd_ok, ln_at, w72, w73, E1, E6, e4, ln_00, ln_10, e5, ck_b_some]
      · have A2' := A2
        obtain ⟨i1, i2, i3, i11, G⟩ := A2'
        rw [valueOf_C hD hV hc A1 A2, valueOf_R hD hV hc A1 A2]
        unfold vres
        by_cases z1 : f1 = 0
        · simp only [z1, ↓reduceIte]
          exact simV_no hV rfl rfl
        · by_cases z2 : f2 = 0
          · simp only [z1, z2, ↓reduceIte]
            exact simV_no hV rfl rfl
          · by_cases z5 : v < 60
            · simp only [z1, z2, z5, ↓reduceIte]
              have pa : vpart st v (st 8 c) x2 := g11.elim (fun h => absurd h z1) (fun h => h.2)
              have pb : vpart st v (st 9 c) x3 := i11.elim (fun h => absurd h z2) (fun h => h.2)
              refine ⟨_, v + 1, _, _, rfl, rfl, add_rV hV z5 ⟨?_, Or.inr ⟨?_, c, hc, ?_, ?_, ?_, ?_⟩⟩, vadd_touch⟩
              · simp [vadd, rvadd, ck_u, upd]
              · simp [vadd, rvadd, ck_u, upd]
              · simp [vadd, rvadd, ck_u, upd]
              · simp [vadd, rvadd, ck_u, upd]
              · rw [show vadd v (Int32.ofNat c) (st 7 c) x2 x3 st 8 c = st 8 c by simp [vadd, ck_u], show vadd v (Int32.ofNat c) (st 7 c) x2 x3 st 19 v = x2 by simp [vadd, ck_u, upd]]
                exact vpart_frame pa (fun l hl => by have := Nat.ne_of_lt hl; simp [vadd, ck_u, upd, this])
              · rw [show vadd v (Int32.ofNat c) (st 7 c) x2 x3 st 9 c = st 9 c by simp [vadd, ck_u], show vadd v (Int32.ofNat c) (st 7 c) x2 x3 st 20 v = x3 by simp [vadd, ck_u, upd]]
                exact vpart_frame pb (fun l hl => by have := Nat.ne_of_lt hl; simp [vadd, ck_u, upd, this])
            · simp only [z1, z2, z5, ↓reduceIte]
              exact simV_no hV rfl rfl
  · refine simV_no (x := -4) hV ?_ ?_
    · unfold fC_valueOf fD_isConstructor
      simp only [hx, ↓reduceIte, ck_b_some]
    · unfold fR_valueOf
      simp only [hx, ↓reduceIte]
  · refine simV_no (x := -4) hV ?_ ?_
    · unfold fC_valueOf fD_isConstructor
      simp only [hx, ↓reduceIte, ck_b_some, w5, hx2]
    · unfold fR_valueOf
      simp only [hx, ↓reduceIte, w6, Int32.not_lt.mpr hx2]
