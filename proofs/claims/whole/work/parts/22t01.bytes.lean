/-! THE FOUR SIGNS of a number -/
section MM176
variable {x : Int32} {j k : Nat}
/-- sign j of four -/
def byt (x : Int32) (j : Nat) : Nat := ((x >>> ((8 * nI j) &&& 31)) &&& 255).toBitVec.toNat
theorem and_255 (v : Int32) : (v &&& 255) = nI ((v &&& 255).toBitVec.toNat) ∧ (v &&& 255).toBitVec.toNat < 256 := by
  constructor
  · apply Int32.toBitVec_inj.mp
    show (v &&& 255).toBitVec = BitVec.ofNat 32 ((v &&& 255).toBitVec.toNat)
    apply BitVec.eq_of_toNat_eq
    rw [BitVec.toNat_ofNat, Nat.mod_eq_of_lt (v &&& 255).toBitVec.isLt]
  · rw [Int32.toBitVec_and, BitVec.toNat_and]
    exact Nat.and_lt_two_pow (n := 8) _ (by decide)
theorem byt_r : (x >>> ((8 * nI j) &&& 31)) &&& 255 = nI (byt x j) := (and_255 _).1
theorem byt_lt : byt x j < 256 := (and_255 _).2
theorem m255 : ∀ k, k < 32 → mB 255 k = decide (k < 8) := by decide +kernel
theorem us_bits (hj : j < 4) (hk : k < 8) : mB (mm_us x (8 * nI j)) k = mB (x >>> ((8 * nI j) &&& 31)) k := by
  rw [mB_get (by omega), mB_get (by omega)]
  have e1 : ∀ j, j < 4 → ((8 * nI j).toUInt32 &&& Int32.toUInt32 31).toBitVec % 32#32 = BitVec.ofNat 32 (8 * j) := by decide
  have e2 : ∀ j, j < 4 → ((8 * nI j) &&& 31 : Int32).toBitVec.smod 32 = BitVec.ofNat 32 (8 * j) := by decide
  have h1 : (mm_us x (8 * nI j)).toBitVec = x.toBitVec >>> (BitVec.ofNat 32 (8 * j)) := by
    rw [← e1 j hj]
    exact UInt32.toBitVec_shiftRight _ _
  have h2 : (x >>> ((8 * nI j) &&& 31)).toBitVec = x.toBitVec.sshiftRight' (BitVec.ofNat 32 (8 * j)) := by
    rw [← e2 j hj]
    exact Int32.toBitVec_shiftRight _ _
  rw [h1, h2]
  unfold BitVec.sshiftRight'
  rw [BitVec.ushiftRight_eq', BitVec.getLsbD_ushiftRight, BitVec.getLsbD_sshiftRight, BitVec.toNat_ofNat, Nat.mod_eq_of_lt (show 8 * j < 2 ^ 32 by omega), if_pos (by omega)]
  simp
  omega
theorem byt_c (hj : j < 4) : mm_us x (8 * nI j) &&& 255 = nI (byt x j) := by
  rw [← byt_r]
  apply mB_ext
  intro k hk
  rw [mB_and hk, mB_and hk, m255 k hk]
  by_cases q : k < 8
  · rw [us_bits hj q]
  · rw [decide_eq_false q, Bool.and_false, Bool.and_false]
end MM176
