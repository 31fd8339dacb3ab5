/-! BITS of an int -/
section MM110
theorem bv_one (v : BitVec 32) : (v &&& 1#32 = 1#32) ↔ v.getLsbD 0 = true := by
  constructor
  · intro h
    have := congrArg (fun z => z.getLsbD 0) h
    simpa using this
  · intro h
    apply BitVec.eq_of_getLsbD_eq
    intro i hi
    rw [BitVec.getLsbD_and, BitVec.getLsbD_one]
    rcases i with _ | i
    · simp [h]
    · simp
theorem sm_32 : ∀ k : Fin 32, ((nI k.val &&& 31).toBitVec.smod 32#32) = BitVec.ofNat 32 k.val := by decide
theorem mB_get {x : Int32} {k : Nat} (h : k < 32) : mB x k = x.toBitVec.getLsbD k := by
  unfold mB
  rw [Bool.eq_iff_iff, decide_eq_true_eq, ← Int32.toBitVec_inj]
  rw [Int32.toBitVec_and, Int32.toBitVec_shiftRight]
  have e1 : (1 : Int32).toBitVec = 1#32 := rfl
  have e2 : (nI k &&& 31).toBitVec.smod 32 = BitVec.ofNat 32 k := sm_32 ⟨k, h⟩
  rw [e1, e2, bv_one]
  unfold BitVec.sshiftRight'
  rw [BitVec.getLsbD_sshiftRight, BitVec.toNat_ofNat, Nat.mod_eq_of_lt (by show k < 2 ^ 32; omega)]
  simp [h]
theorem mB_or {x y : Int32} {k : Nat} (h : k < 32) : mB (x ||| y) k = (mB x k || mB y k) := by
  rw [mB_get h, mB_get h, mB_get h, Int32.toBitVec_or, BitVec.getLsbD_or]
theorem mB_and {x y : Int32} {k : Nat} (h : k < 32) : mB (x &&& y) k = (mB x k && mB y k) := by
  rw [mB_get h, mB_get h, mB_get h, Int32.toBitVec_and, BitVec.getLsbD_and]
theorem mB_bit {a k : Nat} (ha : a < 32) (h : k < 32) : mB ((1 : Int32) <<< (nI a &&& 31)) k = decide (a = k) := by
  rw [mB_get h, Int32.toBitVec_shiftLeft]
  have e1 : (1 : Int32).toBitVec = 1#32 := rfl
  have e2 : (nI a &&& 31).toBitVec.smod 32 = BitVec.ofNat 32 a := sm_32 ⟨a, ha⟩
  rw [e1, e2]
  have : (1#32 <<< (BitVec.ofNat 32 a)) = 1#32 <<< a := by
    rw [BitVec.shiftLeft_eq', BitVec.toNat_ofNat, Nat.mod_eq_of_lt (by show a < 2 ^ 32; omega)]
  rw [this, BitVec.getLsbD_shiftLeft, BitVec.getLsbD_one]
  rw [Bool.eq_iff_iff]
  simp [h]
  omega
theorem mB_0 {k : Nat} (h : k < 32) : mB 0 k = false := by rw [mB_get h]; simp
theorem mB_1 {k : Nat} (h : k < 32) : mB 1 k = decide (k = 0) := by
  rw [mB_get h]; show (1#32).getLsbD k = _; rw [BitVec.getLsbD_one]; simp
theorem mB_ext {x y : Int32} (h : ∀ k, k < 32 → mB x k = mB y k) : x = y := by
  rw [← Int32.toBitVec_inj]
  apply BitVec.eq_of_getLsbD_eq
  intro k hk
  rw [← mB_get hk, ← mB_get hk]; exact h k hk
end MM110
