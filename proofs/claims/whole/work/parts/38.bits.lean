/-! ints as sets of bits -/
def bt (x : Int32) (k : Nat) : Bool := x.toBitVec.getLsbD k
theorem bt_and (x y : Int32) (k : Nat) : bt (x &&& y) k = (bt x k && bt y k) := by
  show (x.toBitVec &&& y.toBitVec).getLsbD k = _
  rw [BitVec.getLsbD_and]
  rfl
theorem bt_or (x y : Int32) (k : Nat) : bt (x ||| y) k = (bt x k || bt y k) := by
  show (x.toBitVec ||| y.toBitVec).getLsbD k = _
  rw [BitVec.getLsbD_or]
  rfl
theorem bt_m1 : ∀ k : Fin 32, bt (-1) k.val = true := by decide +kernel
theorem bt_not (x : Int32) {k : Nat} (hk : k < 32) : bt (x ^^^ (-1)) k = !bt x k := by
  show (x.toBitVec ^^^ (-1 : Int32).toBitVec).getLsbD k = _
  rw [BitVec.getLsbD_xor]
  have := bt_m1 ⟨k, hk⟩
  unfold bt at this
  rw [this]
  show (x.toBitVec.getLsbD k ^^ true) = !x.toBitVec.getLsbD k
  rw [Bool.xor_true]
theorem bt_ext {x y : Int32} (h : ∀ k, k < 32 → bt x k = bt y k) : x = y := Int32.toBitVec_inj.mp (BitVec.eq_of_getLsbD_eq h)
theorem bt_zero (k : Nat) : bt 0 k = false := by
  show (0#32).getLsbD k = false
  simp
theorem bt_one : ∀ c k : Fin 32, bt ((1 : Int32) <<< (Int32.ofNat c.val &&& 31)) k.val = decide (k.val = c.val) := by decide +kernel
theorem bt_1 {c k : Nat} (hc : c < 32) (hk : k < 32) : bt ((1 : Int32) <<< (Int32.ofNat c &&& 31)) k = decide (k = c) := bt_one ⟨c, hc⟩ ⟨k, hk⟩
theorem bt_low : ∀ c k : Fin 32, bt (((1 : Int32) <<< (Int32.ofNat c.val &&& 31)) - 1) k.val = decide (k.val < c.val) := by decide +kernel
theorem bt_is1 : ∀ k : Fin 32, bt 1 k.val = decide (k.val = 0) := by decide +kernel
theorem bt_smod : ∀ c : Fin 32, ((Int32.ofNat c.val &&& 31).toBitVec.smod 32#32).toNat = c.val := by decide +kernel
theorem bt_shr (x : Int32) {c : Nat} (hc : c < 32) : ((x >>> (Int32.ofNat c &&& 31)) &&& 1) = if bt x c = true then 1 else 0 := by
  apply bt_ext
  intro k hk
  rw [bt_and, bt_is1 ⟨k, hk⟩]
  have e := bt_smod ⟨c, hc⟩
  simp only at e
  have e2 : bt (x >>> (Int32.ofNat c &&& 31)) 0 = bt x c := by
    show (x.toBitVec.sshiftRight' ((Int32.ofNat c &&& 31).toBitVec.smod 32#32)).getLsbD 0 = _
    rw [BitVec.getLsbD_sshiftRight', e]
    simp [hc, bt]
  by_cases z : k = 0
  · subst z
    rw [e2]
    by_cases b : bt x c = true
    · rw [if_pos b, b]
      rfl
    · rw [if_neg b, bt_zero]
      simp at b
      rw [b]
      rfl
  · by_cases b : bt x c = true
    · rw [if_pos b, bt_is1 ⟨k, hk⟩]
      simp [z]
    · rw [if_neg b, bt_zero]
      simp [z]
theorem bt_t (x : Int32) {c : Nat} (hc : c < 32) : (((x >>> (Int32.ofNat c &&& 31)) &&& 1) = 1) ↔ bt x c = true := by
  rw [bt_shr x hc]
  by_cases b : bt x c = true
  · simp [b]
  · simp [b]
theorem bt_f (x : Int32) {c : Nat} (hc : c < 32) : (((x >>> (Int32.ofNat c &&& 31)) &&& 1) = 0) ↔ bt x c = false := by
  rw [bt_shr x hc]
  by_cases b : bt x c = true
  · simp [b]
  · simp at b
    simp [b]
