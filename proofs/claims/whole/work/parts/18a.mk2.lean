/-! a made cell in the shape's words -/
def mk_mp (f : Nat → Option Nat → Value) : Nat → List (Option Nat) → List Value
  | _, [] => []
  | n, x :: l => f n x :: mk_mp f (n + 1) l
theorem mk_mp_len (f : Nat → Option Nat → Value) : ∀ (l : List (Option Nat)) (n k : Nat), (mk_mp f n l)[k]? = (l[k]?).map (f (n + k))
  | [], n, k => by simp [mk_mp]
  | x :: l, n, 0 => by simp [mk_mp]
  | x :: l, n, k + 1 => by
    simp only [mk_mp, List.getElem?_cons_succ]
    rw [mk_mp_len f l (n + 1) k]
    congr 2
    omega
theorem mk_mp_eq (f : Nat → Option Nat → Value) (l : List (Option Nat)) : l.mapIdx f = mk_mp f 0 l := by
  apply List.ext_getElem?
  intro k
  rw [List.getElem?_mapIdx, mk_mp_len, Nat.zero_add]
theorem mk_cO {cl : List vw_C} {D : va_G} {H : Heap} {cA : Nat → ClassId} {ad : Nat → Nat} {r : Nat → Int32} {a k ci : Nat} {fs1 : List Value} {fs : List (Option Nat)} (h : va_at D cl (a, .inr (ci, fs1)) H) (ha : a = ad k) (hf : fs1 = mk_mp (ck_fv ad r) 0 fs) : va_at D cl (ad k, ck_ce cA ad r (.inl (ci, fs))) H := by
  subst ha; subst hf
  rw [← mk_mp_eq] at h
  exact h
theorem mk_cA {cl : List vw_C} {D : va_G} {H : Heap} {cA : Nat → ClassId} {ad : Nat → Nat} {r : Nat → Int32} {a k t n : Nat} {f : Nat → Int32} (h : va_at D cl (a, .inl (cA t, n, .inl f)) H) (ha : a = ad k) (hf : ∀ j, f j = r j) : va_at D cl (ad k, ck_ce cA ad r (.inr (t, n))) H := by
  subst ha
  have hf : f = r := funext hf
  subst hf
  exact h
