/-! bits of any int; a SEATING's house and its nights -/
def zvb (x : Int32) (s : Nat) : Bool := x.toBitVec.getLsbD s
theorem zvb_or (x y : Int32) (s : Nat) : zvb (x ||| y) s = (zvb x s || zvb y s) := by
  show (x.toBitVec ||| y.toBitVec).getLsbD s = _
  rw [BitVec.getLsbD_or]
  rfl
theorem zvb_and (x y : Int32) (s : Nat) : zvb (x &&& y) s = (zvb x s && zvb y s) := by
  show (x.toBitVec &&& y.toBitVec).getLsbD s = _
  rw [BitVec.getLsbD_and]
  rfl
theorem zvb_m1 : ∀ s, s < 32 → zvb (-1) s = true := by decide
theorem zvb_not (x : Int32) {s : Nat} (hs : s < 32) : zvb (x ^^^ (-1)) s = !zvb x s := by
  have h : zvb (x ^^^ (-1)) s = (zvb x s ^^ zvb (-1) s) := by
    show (x.toBitVec ^^^ (-1 : Int32).toBitVec).getLsbD s = _
    rw [BitVec.getLsbD_xor]
    rfl
  rw [h, zvb_m1 s hs, Bool.xor_true]
theorem zvb_n (a : Nat) {s : Nat} (hs : s < 32) : zvb (nI a) s = a.testBit s := by
  show (BitVec.ofNat 32 a).getLsbD s = _
  rw [BitVec.getLsbD_ofNat, decide_eq_true hs, Bool.true_and]
theorem zvb_x {x y : Int32} (h : ∀ s, s < 32 → zvb x s = zvb y s) : x = y := Int32.toBitVec.inj (BitVec.eq_of_getLsbD_eq h)
theorem zsmod : ∀ s, s < 32 → ((nI s &&& 31).toBitVec.smod 32).toNat = s := by decide
theorem zvb_1 : ∀ s, s < 32 → s ≠ 0 → zvb 1 s = false := by decide
theorem zbit_bt (x : Int32) {s : Nat} (hs : s < 32) : zbit x s = zb (zvb x s) := by
  have h0 : zvb (x >>> (nI s &&& 31)) 0 = zvb x s := by
    show (x.toBitVec.sshiftRight ((nI s &&& 31).toBitVec.smod 32).toNat).getLsbD 0 = _
    rw [zsmod s hs, BitVec.getLsbD_sshiftRight]
    simp [hs, zvb]
  have h1 : ∀ b : Bool, ∀ j, j < 32 → zvb (zb b) j = (decide (j = 0) && b) := by decide
  refine zvb_x fun j hj => ?_
  rw [h1 _ j hj]
  unfold zbit
  rw [zvb_and]
  by_cases e : j = 0
  · subst e
    rw [h0, show zvb 1 0 = true from rfl, decide_eq_true rfl, Bool.and_true, Bool.true_and]
  · rw [zvb_1 j hj e, decide_eq_false e, Bool.and_false, Bool.false_and]
theorem zn_or (a b : Nat) : nI a ||| nI b = nI (a ||| b) := by
  refine zvb_x fun s hs => ?_
  rw [zvb_or, zvb_n a hs, zvb_n b hs, zvb_n _ hs, Nat.testBit_or]
theorem zn_and (a b : Nat) : nI a &&& nI b = nI (a &&& b) := by
  refine zvb_x fun s hs => ?_
  rw [zvb_and, zvb_n a hs, zvb_n b hs, zvb_n _ hs, Nat.testBit_and]
theorem zn_1 : ∀ s, s < 12 → (1 : Int32) <<< (nI s &&& 31) = nI (1 <<< s) := by decide
theorem z4095 : ∀ s, s < 12 → (4095 : Nat).testBit s = true := by decide
theorem zn_not {a b : Nat} (ha : a < 4096) : nI a &&& (nI b ^^^ (-1)) = nI (a &&& (b ^^^ 4095)) := by
  refine zvb_x fun s hs => ?_
  rw [zvb_and, zvb_not _ hs, zvb_n a hs, zvb_n b hs, zvb_n _ hs, Nat.testBit_and, Nat.testBit_xor]
  by_cases h : s < 12
  · rw [z4095 s h, Bool.xor_true]
  · have : a.testBit s = false := Nat.testBit_lt_two_pow (Nat.lt_of_lt_of_le ha (Nat.pow_le_pow_right (n := 2) (i := 12) (by omega) (by omega)))
    rw [this, Bool.false_and, Bool.false_and]
theorem zlow' : ∀ a, a < 16 → ∀ b, b < 256 → ∀ s, s < 12 → zvb (nI (256 * a + b) &&& -nI (256 * a + b)) s = ((256 * a + b).testBit s && decide (zpopn s (256 * a + b) = 0)) := by decide +kernel
theorem zlow (n : Nat) (h : n < 4096) (s : Nat) (hs : s < 12) : zvb (nI n &&& -nI n) s = (n.testBit s && decide (zpopn s n = 0)) := by
  have := zlow' (n / 256) (by omega) (n % 256) (by omega) s hs
  rw [show 256 * (n / 256) + n % 256 = n by omega] at this
  exact this
