/-! LIMITS (the family wb_ is the kit's own, to paste) -/
section MM73
theorem wb_tb (n : Nat) : (lN n).toBitVec = BitVec.ofNat 64 n := rfl
theorem wb_inj {a b : Int64} (h : a.toBitVec = b.toBitVec) : a = b := Int64.toBitVec_inj.mp h
theorem wb_tn {n : Nat} (h : n < 2 ^ 64) : (lN n).toBitVec.toNat = n := by rw [wb_tb, BitVec.toNat_ofNat, Nat.mod_eq_of_lt h]
theorem wb_of (x : Int64) : ∃ n, n < 2 ^ 64 ∧ x = lN n := ⟨x.toBitVec.toNat, x.toBitVec.isLt, wb_inj (by rw [wb_tb]; simp)⟩
theorem wb_of32 (x : Int32) : ∃ n, n < 2 ^ 32 ∧ x = nI n := ⟨x.toBitVec.toNat, x.toBitVec.isLt, Int32.toBitVec_inj.mp (by show _ = BitVec.ofNat 32 _; simp)⟩
theorem wb_c : ∀ k, k < 64 → ((nI k).toInt64 &&& 63) = lN k := by decide +kernel
theorem wb_cu : ∀ k, k < 64 → ((nI k).toInt64.toUInt64 &&& Int64.toUInt64 63) = UInt64.ofNat k := by decide +kernel
theorem wb_sm : ∀ k, k < 64 → (BitVec.ofNat 64 k).smod 64 = BitVec.ofNat 64 k := by decide +kernel
theorem wb_pw {a b : Nat} (h : a ≤ b) : 2 ^ b = 2 ^ a * 2 ^ (b - a) := by rw [← Nat.pow_add]; congr 1; omega
theorem wb_lt2 {a b : Nat} (h : a < b) : 2 ^ a < 2 ^ b := Nat.pow_lt_pow_right (by decide) h
theorem wb_mod (n : Nat) : lN n = lN (n % 2 ^ 64) := wb_inj (by rw [wb_tb, wb_tb]; apply BitVec.eq_of_toNat_eq; rw [BitVec.toNat_ofNat, BitVec.toNat_ofNat, Nat.mod_mod])
theorem wb_shr {n k : Nat} (hn : n < 2 ^ 64) (hk : k < 64) : ((lN n).toUInt64 >>> ((nI k).toInt64.toUInt64 &&& Int64.toUInt64 63)).toInt64 = lN (n / 2 ^ k) := by
  rw [wb_cu k hk]
  apply wb_inj
  apply BitVec.eq_of_toNat_eq
  show ((lN n).toUInt64 >>> UInt64.ofNat k).toNat = (BitVec.ofNat 64 _).toNat
  have h1 : (UInt64.ofNat k).toNat = k := by
    show (BitVec.ofNat 64 k).toNat = k
    rw [BitVec.toNat_ofNat, Nat.mod_eq_of_lt (by omega)]
  have h2 : (lN n).toUInt64.toNat = n := wb_tn hn
  rw [UInt64.toNat_shiftRight, h1, h2, Nat.mod_eq_of_lt hk, Nat.shiftRight_eq_div_pow, BitVec.toNat_ofNat, Nat.mod_eq_of_lt (Nat.lt_of_le_of_lt (Nat.div_le_self _ _) hn)]
theorem wb_shl (n : Nat) {k : Nat} (hk : k < 64) : lN n <<< ((nI k).toInt64 &&& 63) = lN (n * 2 ^ k) := by
  rw [wb_c k hk]
  apply wb_inj
  rw [Int64.toBitVec_shiftLeft, wb_tb, wb_tb, wb_tb, wb_sm k hk]
  apply BitVec.eq_of_toNat_eq
  rw [BitVec.shiftLeft_eq', BitVec.toNat_shiftLeft, BitVec.toNat_ofNat, BitVec.toNat_ofNat, BitVec.toNat_ofNat, Nat.mod_eq_of_lt (show k < 2 ^ 64 by omega), Nat.shiftLeft_eq, Nat.mul_mod, Nat.mod_mod, ← Nat.mul_mod]
theorem wb_and {a b : Nat} (ha : a < 2 ^ 64) (hb : b < 2 ^ 64) : lN a &&& lN b = lN (a &&& b) := by
  apply wb_inj
  rw [Int64.toBitVec_and, wb_tb, wb_tb, wb_tb]
  apply BitVec.eq_of_toNat_eq
  rw [BitVec.toNat_and, BitVec.toNat_ofNat, BitVec.toNat_ofNat, BitVec.toNat_ofNat, Nat.mod_eq_of_lt ha, Nat.mod_eq_of_lt hb, Nat.mod_eq_of_lt (Nat.and_lt_two_pow _ hb)]
theorem wb_or {a b : Nat} (ha : a < 2 ^ 64) (hb : b < 2 ^ 64) : lN a ||| lN b = lN (a ||| b) := by
  apply wb_inj
  rw [Int64.toBitVec_or, wb_tb, wb_tb, wb_tb]
  apply BitVec.eq_of_toNat_eq
  rw [BitVec.toNat_or, BitVec.toNat_ofNat, BitVec.toNat_ofNat, BitVec.toNat_ofNat, Nat.mod_eq_of_lt ha, Nat.mod_eq_of_lt hb, Nat.mod_eq_of_lt (Nat.or_lt_two_pow ha hb)]
theorem wb_mask {n k : Nat} (hn : n < 2 ^ 64) (hk : k < 64) : lN n &&& lN (2 ^ k - 1) = lN (n % 2 ^ k) := by
  rw [wb_and hn (by have := wb_lt2 hk; omega), Nat.and_two_pow_sub_one_eq_mod]
theorem wb_a1 {n : Nat} (hn : n < 2 ^ 64) : lN n &&& 1 = lN (n % 2) := wb_mask (k := 1) hn (by decide)

def bNat : List Bool → Nat
  | [] => 0
  | b :: r => (if b = true then 1 else 0) + 2 * bNat r
theorem bNat_lt : ∀ (st : List Bool), bNat st < 2 ^ st.length
  | [] => by decide
  | b :: r => by
    have := bNat_lt r
    rw [bNat, List.length_cons, Nat.pow_succ]
    split <;> omega
theorem bNat_62 {st : List Bool} (h : st.length ≤ 62) : bNat st < 2 ^ 62 := Nat.lt_of_lt_of_le (bNat_lt st) (Nat.pow_le_pow_right (by decide) h)
theorem cmp_0 {x y : Int64} : lg_cmp x y = 0 ↔ x = y := by
  unfold lg_cmp
  constructor
  · intro h
    split at h
    · cases h
    · split at h
      · assumption
      · cases h
  · intro h
    subst h
    simp
/-- an operation of the class on the stack of truths -/
def cEv (a b : Nat) (c : Nat × Int32) (st : List Bool) : List Bool := match c.1 with
  | 7 => (match st with
    | x :: r => (!x) :: r
    | [] => [])
  | 6 => (match st with
    | y :: x :: r => (x && y) :: r
    | _ => [])
  | 5 => (match st with
    | y :: x :: r => (x || y) :: r
    | _ => [])
  | 0 => decide (a / 1000 = b / 1000) :: st
  | 1 => decide (a / 100 % 10 = b / 100 % 10) :: st
  | 2 => decide (a % 100 = b % 100) :: st
  | 3 => mB c.2 (a % 100) :: st
  | _ => mB c.2 (b % 100) :: st
/-- heights: from h on these operations have what they need, and leave one truth -/
def cOk : Nat → List (Nat × Int32) → Prop
  | h, [] => h = 1
  | h, c :: r => c.1 ≤ 7 ∧ (if c.1 = 7 then 1 ≤ h ∧ cOk h r else if c.1 = 6 ∨ c.1 = 5 then 2 ≤ h ∧ cOk (h - 1) r else h < 60 ∧ cOk (h + 1) r)
def cRun (a b : Nat) (cs : List (Nat × Int32)) (st : List Bool) : List Bool := cs.foldl (fun s c => cEv a b c s) st
def cSeg (p : Bool) (i : Nat → Nat → Int32) (s : Nat) (cs : List (Nat × Int32)) : Prop := ∀ j c, cs[j]? = some c → i (mm_P p + 17) (s + j) = nI c.1 ∧ ((c.1 = 3 ∨ c.1 = 4) → i (mm_P p + 18) (s + j) = c.2)
variable {p w : Bool} {i : Nat → Nat → Int32} {l : Nat → Nat → Int64} {e : Bool × Nat × Nat} {π : mP} {m : Nat}
theorem sh_1 {x : Bool} {st : List Bool} (h : st.length ≤ 62) : (lN (bNat st) <<< ((1 : Int32).toInt64 &&& 63)) ||| ((bI x : Int32).toInt64) = lN (bNat (x :: st)) := by
  have hb := bNat_62 h
  rw [show (1 : Int32) = nI 1 from rfl, wb_shl _ (by decide)]
  have e1 : (bI x).toInt64 = lN (if x = true then 1 else 0) := by cases x <;> rfl
  rw [e1, wb_or (by omega) (by split <;> omega)]
  congr 1
  rw [bNat, Nat.pow_one, Nat.mul_comm]
  have := Nat.shiftLeft_add_eq_or_of_lt (i := 1) (b := if x = true then 1 else 0) (by split <;> decide) (bNat st)
  rw [Nat.shiftLeft_eq, Nat.pow_one, Nat.mul_comm] at this
  rw [← this, Nat.add_comm]
theorem us_1 {x : Bool} {st : List Bool} (h : st.length ≤ 61) : mm_ul (lN (bNat (x :: st))) 1 = lN (bNat st) := by
  have hb := bNat_62 (st := x :: st) (by simp only [List.length_cons]; omega)
  unfold mm_ul
  rw [show (1 : Int32) = nI 1 from rfl, wb_shr (by omega) (by decide)]
  congr 1
  rw [bNat, Nat.pow_one]
  split <;> omega
theorem us_2 {x y : Bool} {st : List Bool} (h : st.length ≤ 60) : mm_ul (lN (bNat (x :: y :: st))) 2 = lN (bNat st) := by
  have hb := bNat_62 (st := x :: y :: st) (by simp only [List.length_cons]; omega)
  unfold mm_ul
  rw [show (2 : Int32) = nI 2 from rfl, wb_shr (by omega) (by decide)]
  congr 1
  rw [bNat, bNat]
  split <;> split <;> omega
theorem an_1 {x : Bool} {st : List Bool} (h : st.length ≤ 61) : (lg_cmp (lN (bNat (x :: st)) &&& 1) 0 = 0) ↔ x = false := by
  have hb := bNat_62 (st := x :: st) (by simp only [List.length_cons]; omega)
  rw [wb_a1 (by omega), cmp_0, show (0 : Int64) = lN 0 from rfl, lN_eq (by omega) (by omega), bNat]
  cases x <;> simp <;> omega
theorem an_3 {x y : Bool} {st : List Bool} {k : Nat} (hk : k ≤ 3) (h : st.length ≤ 60) : (lg_cmp (lN (bNat (x :: y :: st)) &&& 3) (lN k) = 0) ↔ (if x = true then 1 else 0) + 2 * (if y = true then 1 else 0) = k := by
  have hb := bNat_62 (st := x :: y :: st) (by simp only [List.length_cons]; omega)
  rw [show (3 : Int64) = lN (2 ^ 2 - 1) from rfl, wb_mask (by omega) (by decide), cmp_0, lN_eq (by omega) (by omega), bNat, bNat]
  cases x <;> cases y <;> simp <;> omega
end MM73
