/-! the witness, symbol by symbol -/
theorem ref_top {n h p : Nat} {s r : ck_S} (hw : WR n s r) (hp : p < 32) (hh : h < 20) (h21 : r 21 h = Int32.ofNat p) (m : Nat) : fR_writeWitness_l9 (m + 1) (Int32.ofNat (h + 1)) r = fR_writeWitness_b54 (fR_writeWitness_l9 m) (s 39 p) (Int32.ofNat h) (Int32.ofNat p) (s 38 p) r := by
  rw [fR_writeWitness_l9, if_neg (fun z => by have := (ln_le (b := 0) (by omega) (by omega)).mp z; omega), ln_dec, ck_gd_ok hh (by omega), ln_at (by omega), h21]
  unfold fR_writeWitness_b39
  by_cases e : 16 ≤ p
  · rw [if_pos (show (16 : Int32) ≤ Int32.ofNat p from (ln_le (a := 16) (by omega) (by omega)).mpr e), if_pos rfl, (hw.2 p e hp).1, (hw.2 p e hp).2]
  · obtain ⟨w1, w2, w3, w4, w5⟩ := hw.1 p (by omega)
    rw [if_neg (show ¬ ((16 : Int32) ≤ Int32.ofNat p) from mt (ln_le (a := 16) (by omega) (by omega)).mp e), ck_gd_ok (by omega) (by omega), ln_at (by omega), w1]
    by_cases e0 : s 38 p = 0
    · rw [if_pos e0, w3 e0]
    · rw [if_neg e0, ck_gd_ok (by omega) (by omega), w4 e0]
theorem class_top {p l g : Nat} {s : ck_S} (hp : p < 32) (hl : l < 32) (h6 : s 6 6 = Int32.ofNat l) : fG_write_r (g + 1) (Int32.ofNat p) s = if s 38 p = 2 then (ck_b (fD_firstTypeOf (s 39 p) (outS l (s 38 p) (s 39 p) s)) fun v2 st1 => (if v2 = (-1 : Int32) then (fG_write_b91 (fG_write_r g) (Int32.ofNat p) st1) else (ck_bv (fG_write_r g (Int32.ofNat (2 * p)) st1) fun st3 => (fG_write_b91 (fG_write_r g) (Int32.ofNat p) st3)))) else some (outS l (s 38 p) (s 39 p) s) := by
  show fG_write_s (fG_write_r g) (Int32.ofNat p) s = _
  unfold fG_write_s
  rw [if_neg (fun z => by have := (ln_le (a := 32) (by omega) (by omega)).mp z; omega)]
  simp (disch := omega) only [h6, ln_ltL, hl, ↓reduceIte, ck_gd_ok, ln_at, ln_addL, ln_Lmul]
  rfl
theorem b91_ev {t n p co g : Nat} {s r : ck_S} (hD : rD t n s r) (hp : p < 32) (hc : co < n) (h39 : s 39 p = Int32.ofNat co) : fG_write_b91 (fG_write_r g) (Int32.ofNat p) s = if s 9 co = -1 then some s else fG_write_r g (Int32.ofNat (2 * p + 1)) s := by
  unfold fG_write_b91
  rw [ck_gd_ok hp (by omega), ln_at (by omega), h39, (d_con hD hc).2.2, ck_b_some]
  by_cases e : s 9 co = -1
  · rw [if_pos e, if_pos e]
  · rw [if_neg e, if_neg e, ln_Lmul, ln_addL]
    cases fG_write_r g (Int32.ofNat (2 * p + 1)) s with
    | none => rfl
    | some a => rfl
theorem write_ev {t n : Nat} : ∀ (f g P p h l : Nat) (s r : ck_S), P * 2 ^ f = 32 → 1 ≤ f → f ≤ g → P ≤ p → p < 2 * P → rD t n s r → WR n s r → OUT s r l → l + (2 ^ f - 1) ≤ 31 → h + f ≤ 10 → r 21 h = Int32.ofNat p →
    ∃ s2 r2 l2 c, fG_write_r g (Int32.ofNat p) s = some s2 ∧ (∀ m, fR_writeWitness_l9 (m + c) (Int32.ofNat (h + 1)) r = fR_writeWitness_l9 m (Int32.ofNat h) r2) ∧ OUT s2 r2 l2 ∧ l2 ≤ l + (2 ^ f - 1) ∧ WFs s s2 ∧ WFr h r r2 ∧ c ≤ 2 ^ f - 1 := by
  intro f
  induction f with
  | zero => intro g P p h l s r _ h1; omega
  | succ f ih =>
    intro g P p h l s r hP _ hg hp1 hp2 hD hw hO hl hh h21
    obtain ⟨g, rfl⟩ : ∃ z, g = z + 1 := ⟨g - 1, by omega⟩
    have he1 : 1 ≤ 2 ^ f := Nat.one_le_two_pow
    have hpow : 2 ^ (f + 1) = 2 * 2 ^ f := by rw [Nat.pow_succ, Nat.mul_comm]
    rw [hpow] at hP hl ⊢
    have hPe : (2 * P) * 2 ^ f = 32 := by rw [← hP, ← Nat.mul_assoc, Nat.mul_comm P 2]
    have hP16 : P ≤ 16 := by
      have := Nat.le_mul_of_pos_right (2 * P) (show 0 < 2 ^ f by omega)
      omega
    have hp32 : p < 32 := by omega
    have hl32 : l < 32 := by omega
    rw [class_top hp32 hl32 hO.1]
    have hDo : rD t n (outS l (s 38 p) (s 39 p) s) (outR l (s 38 p) (s 39 p) r) := WF_rD (h := 0) hD WFs_out WFr_out
    have hOo := OUT_out (s 38 p) (s 39 p) hO
    have hr41 := hO.2.1
    by_cases e2 : s 38 p = 2
    · have hp16 : p < 16 := by
        rcases Nat.lt_or_ge p 16 with z | z
        · exact z
        · have := (hw.2 p z hp32).1
          rw [e2] at this
          exact absurd this (by decide)
      obtain ⟨co, hco, hsy⟩ := (hw.1 p hp16).2.2.2.2 e2
      have hf1 : 1 ≤ f := by
        rcases Nat.eq_zero_or_pos f with z | z
        · subst z
          simp at hP
          omega
        · exact z
      have d2 := hD.2.1
      have n8 : (outS l (s 38 p) (s 39 p) s) 8 = s 8 := WFs_out.1 8 (by omega) (by omega) (by omega)
      have n9 : (outS l (s 38 p) (s 39 p) s) 9 = s 9 := WFs_out.1 9 (by omega) (by omega) (by omega)
      have n39 : (outS l (s 38 p) (s 39 p) s) 39 = s 39 := WFs_out.1 39 (by omega) (by omega) (by omega)
      rw [if_pos e2]
      have hft : fD_firstTypeOf (s 39 p) (outS l (s 38 p) (s 39 p) s) = some (s 8 co, outS l (s 38 p) (s 39 p) s) := by
        have := (d_con hDo hco).2.1
        rw [n8, ← hsy] at this
        exact this
      rw [hft, ck_b_some]
      obtain ⟨g2, g3, _⟩ := arg_neg hD hco
      have hco12 : co < 12 := by omega
      have hb54 : ∀ m, fR_writeWitness_l9 (m + 1) (Int32.ofNat (h + 1)) r = (if s 9 co = -1 then (if s 8 co = -1 then fR_writeWitness_l9 m (Int32.ofNat h) (outR l (s 38 p) (s 39 p) r) else fR_writeWitness_l9 m (Int32.ofNat (h + 1)) (ck_u (outR l (s 38 p) (s 39 p) r) 21 h (Int32.ofNat (2 * p)))) else (if s 8 co = -1 then fR_writeWitness_l9 m (Int32.ofNat (h + 1)) (ck_u (outR l (s 38 p) (s 39 p) r) 21 h (Int32.ofNat (2 * p + 1))) else fR_writeWitness_l9 m (Int32.ofNat (h + 2)) (ck_u (ck_u (outR l (s 38 p) (s 39 p) r) 21 h (Int32.ofNat (2 * p + 1))) 21 (h + 1) (Int32.ofNat (2 * p))))) := by
        intro m
        rw [ref_top hw hp32 (by omega) h21 m]
        have m2 : (outR l (s 38 p) (s 39 p) r) 2 = r 2 := (WFr_out (h := 0)).1 2 (by omega) (by omega) (by omega) (by omega)
        have m2' : ∀ v, (ck_u (outR l (s 38 p) (s 39 p) r) 21 h v) 2 = r 2 := fun v => by rw [ck_u_ne (by omega)]; exact m2
        unfold fR_writeWitness_b54
        rw [hr41, ck_gd_ok hl32 (by omega), ck_gd_ok hl32 (by omega), if_pos e2, hsy, ck_gd_ok hco12 (by omega), ln_at (a := co) (by omega), ln_at (a := l) (by omega), ln_at (a := h) (by omega)]
        rw [show ck_u (ck_u (ck_u r 32 l (s 38 p)) 33 l (Int32.ofNat co)) 0 41 (Int32.ofNat l + 1) = outR l (s 38 p) (s 39 p) r by rw [hsy, show Int32.ofNat l + 1 = Int32.ofNat (l + 1) from ln_addL l 1]; rfl]
        unfold fR_writeWitness_b116
        rw [if_pos e2, if_pos e2, ck_gd_ok (k := co) (n := 12) hco12 (by omega), ck_gd_ok (k := co) (n := 12) hco12 (by omega), ln_at (a := co) (by omega), m2, m2', ck_gd_ok (k := h) (by omega) (by omega), ck_gd_ok (k := h) (by omega) (by omega), ln_at (a := h) (by omega), ln_Lmul, ln_addL, ln_addL, ck_gd_ok (k := h + 1) (by omega) (by omega), ln_at (a := h + 1) (by omega), ln_addL, ← hsy]
        simp only [g2, g3]
      by_cases e8 : s 8 co = -1
      · have e9 : s 9 co = -1 := (hD.2.2.2.2.2.2.2.1 co hco).2.2.2 e8
        rw [if_pos e8, b91_ev hDo hp32 hco (by rw [n39]; exact hsy), n9, if_pos e9]
        refine ⟨_, outR l (s 38 p) (s 39 p) r, l + 1, 1, rfl, fun m => ?_, hOo, by omega, WFs_out, WFr_out, by omega⟩
        rw [hb54, if_pos e9, if_pos e8]
      · rw [if_neg e8]
        by_cases e9 : s 9 co = -1
        · obtain ⟨s3, r3, l3, c3, b1, b2, b3, b4, b5, b6, b7⟩ := ih g (2 * P) (2 * p) h (l + 1) (outS l (s 38 p) (s 39 p) s) (ck_u (outR l (s 38 p) (s 39 p) r) 21 h (Int32.ofNat (2 * p))) hPe hf1 (by omega) (by omega) (by omega) (WF_rD (h := h) hDo ⟨fun _ _ _ _ => rfl, fun _ _ => rfl⟩ (WFr_21 (Nat.le_refl _))) (WR_frame hw WFs_out (WFr_trans WFr_out (WFr_21 (h := h) (Nat.le_refl _)))) (OUT_21 hOo) (by omega) (by omega) ck_u_eq
          have hD3 : rD t n s3 r3 := WF_rD (h := h) hDo b5 (WFr_trans (WFr_21 (h := h) (Nat.le_refl _)) b6)
          rw [b1, ck_bv_some, b91_ev hD3 hp32 hco (by rw [b5.1 39 (by omega) (by omega) (by omega), n39]; exact hsy), b5.1 9 (by omega) (by omega) (by omega), n9, if_pos e9]
          refine ⟨s3, r3, l3, c3 + 1, rfl, fun m => ?_, b3, by omega, WFs_trans WFs_out b5, WFr_trans (WFr_trans WFr_out (WFr_21 (Nat.le_refl _))) b6, by omega⟩
          rw [← Nat.add_assoc, hb54, if_pos e9, if_neg e8]
          exact b2 m
        · have hr21 : WFr h (outR l (s 38 p) (s 39 p) r) (ck_u (ck_u (outR l (s 38 p) (s 39 p) r) 21 h (Int32.ofNat (2 * p + 1))) 21 (h + 1) (Int32.ofNat (2 * p))) := WFr_trans (WFr_21 (Nat.le_refl _)) (WFr_21 (by omega))
          obtain ⟨s3, r3, l3, c3, b1, b2, b3, b4, b5, b6, b7⟩ := ih g (2 * P) (2 * p) (h + 1) (l + 1) (outS l (s 38 p) (s 39 p) s) (ck_u (ck_u (outR l (s 38 p) (s 39 p) r) 21 h (Int32.ofNat (2 * p + 1))) 21 (h + 1) (Int32.ofNat (2 * p))) hPe hf1 (by omega) (by omega) (by omega) (WF_rD (h := h) hDo ⟨fun _ _ _ _ => rfl, fun _ _ => rfl⟩ hr21) (WR_frame hw WFs_out (WFr_trans WFr_out hr21)) (OUT_21 (OUT_21 hOo)) (by omega) (by omega) ck_u_eq
          have hD3 : rD t n s3 r3 := WF_rD (h := h) hDo b5 (WFr_trans hr21 (WFr_le b6 (by omega)))
          have h213 : r3 21 h = Int32.ofNat (2 * p + 1) := by rw [b6.2.2 h (by omega), ck_u_nei (by omega), ck_u_eq]
          obtain ⟨s4, r4, l4, c4, d1, d2', d3, d4, d5, d6, d7⟩ := ih g (2 * P) (2 * p + 1) h l3 s3 r3 hPe hf1 (by omega) (by omega) (by omega) hD3 (WR_frame hw (WFs_trans WFs_out b5) (WFr_trans (WFr_trans WFr_out hr21) (WFr_le b6 (show h ≤ h + 1 by omega)))) b3 (by omega) (by omega) h213
          rw [b1, ck_bv_some, b91_ev hD3 hp32 hco (by rw [b5.1 39 (by omega) (by omega) (by omega), n39]; exact hsy), b5.1 9 (by omega) (by omega) (by omega), n9, if_neg e9]
          refine ⟨s4, r4, l4, c4 + c3 + 1, d1, fun m => ?_, d3, by omega, WFs_trans (WFs_trans WFs_out b5) d5, WFr_trans (WFr_trans (WFr_trans WFr_out hr21) (WFr_le b6 (by omega))) d6, by omega⟩
          rw [show m + (c4 + c3 + 1) = (m + c4) + c3 + 1 by omega, hb54, if_neg e9, if_neg e8, b2 (m + c4)]
          exact d2' m
    · rw [if_neg e2]
      refine ⟨_, outR l (s 38 p) (s 39 p) r, l + 1, 1, rfl, fun m => ?_, hOo, by omega, WFs_out, WFr_out, by omega⟩
      rw [ref_top hw hp32 (by omega) h21 m]
      unfold fR_writeWitness_b54 fR_writeWitness_b116
      simp (disch := omega) only [hr41, ck_gd_ok, ln_at, e2, ↓reduceIte, ln_addL]
      rfl
