/-! STEPS of the value: a row an instruction, what comes behind it being known to be X -/
section MM41
def mm_g (C : List (Option mm_E)) (pc : Nat) : Option mm_E := match C[pc]? with
  | some x => x
  | none => none
/-- what the tables have of a method: code, locals, answer, handlers, class -/
abbrev mm_mi (m : Nat) (C : List (Option mm_E)) (n : Nat) (T : Option FieldType) (hh : List (Nat × Nat × Nat × Nat)) (ow : Nat) : Prop := mm_codes.getD m [] = C ∧ mm_ml m = n ∧ mm_T m = T ∧ mm_hh m = hh ∧ mm_ow m = ow
/-- a store of ints, of longs -/
def mm_ww (i : Nat → Nat → Int32) (k j : Nat) (x : Int32) : Nat → Nat → Int32 := va_up i k (upd (i k) j x)
def mm_wl (i : Nat → Nat → Int64) (k j : Nat) (x : Int64) : Nat → Nat → Int64 := va_up i k (vp_updL (i k) j x)
def mm_re (x y : Int32) : Int32 := x - x / y * y
def mm_us (x y : Int32) : Int32 := (x.toUInt32 >>> (y.toUInt32 &&& Int32.toUInt32 31)).toInt32
def mm_ul (x : Int64) (y : Int32) : Int64 := (x.toUInt64 >>> (y.toInt64.toUInt64 &&& Int64.toUInt64 63)).toInt64
/-- a cell of this sort is there -/
def mm_oc (T : Nat → Nat × Nat) (N : Nat × Bool × Nat × Nat) (o t : Nat) : Bool := Nat.blt o N.1 && Nat.beq (T o).1 t
def mm_te (e : Bool × Nat × Nat) : Bool × Nat × Nat := (false, e.2.1 + 1, e.2.2 + 6)
/-- what comes behind a call -/
def mm_bi (b : Bool) (o : Option mm_R) (f : Option Value → mm_M → Option mm_R) : Option mm_R := match o with
  | some (.inl w, μ) => f w μ
  | some (.inr E, μ) => if b = true then some (.inr E, μ) else none
  | none => none
/-- what comes behind a call in a method with handlers -/
noncomputable def mm_bx (m pc : Nat) (b : Bool) (hh : List (Nat × Nat × Nat × Nat)) (L : List (Option Value)) (o : Option mm_R) (f : Option Value → mm_M → Option mm_R) : Option mm_R := match o with
  | some (.inl w, μ) => f w μ
  | some (.inr E, μ) => if b = true then match mm_ca pc E hh with
      | some h => match mm_hs m h with
        | some (k, pc') => mm_V m pc' (mm_forget L k) [] μ
        | none => none
      | none => if hh = [] then some (.inr E, μ) else none
      else none
  | none => none
/-- a switch -/
def mm_sw (x : Int32) : List (Int32 × Option mm_R) → Option mm_R → Option mm_R
  | [], d => d
  | (k, X) :: t, d => if x = k then X else mm_sw x t d
variable {m pc q g n ow : Nat} {C : List (Option mm_E)} {RT : Option FieldType} {hh : List (Nat × Nat × Nat × Nat)} {L L' : List (Option Value)} {S S' : List Value} {μ μ' : mm_M} {X Y : Option mm_R} {a b : Nat} {v : Value} {en : mm_E}
variable {T : Nat → Nat × Nat} {i : Nat → Nat → Int32} {l : Nat → Nat → Int64} {R : Nat → Nat → Value} {N : Nat × Bool × Nat × Nat} {o len : Nat} {x y z : Int32} {r s : Int64}
theorem mv_at (hm : mm_mi m C n RT hh ow) (h : mm_g C pc = some en) : mm_at m pc = some en := by
  rw [← h, ← hm.1]; rfl
theorem mv_ (hm : mm_mi m C n RT hh ow) (h : mm_g C pc = some en) (st : mm_st m pc en L S μ = some (q, L', S', μ')) (k : mm_V m q L' S' μ' = X) : mm_V m pc L S μ = X := by
  rw [mm_V_eq]
  unfold mm_bd
  simp only [mv_at hm h, st]
  exact k
theorem mv_M (h1 : mm_sS en.1 en.2.1 S = none) (h2 : mm_sL en.1 en.2.1 L = none) (h3 : mm_sM en S μ = some (S', μ')) : mm_st m pc en L S μ = some (pc + en.2.1, L, S', μ') := by
  unfold mm_st
  simp only [h1, h2, h3]
theorem mv_iconst {c : Int} (x : Int32) (hm : mm_mi m C n RT hh ow) (h : mm_g C pc = some (.iconst c, 1, a, b, v)) (hx : Int32.ofInt c = x) (hq : pc + 1 = q) (k : mm_V m q L (.int x :: S) μ = X) : mm_V m pc L S μ = X := by
  subst hx hq; exact mv_ hm h rfl k
theorem mv_bipush {c : Int} (x : Int32) (hm : mm_mi m C n RT hh ow) (h : mm_g C pc = some (.bipush c, 2, a, b, v)) (hx : (Int8.ofInt c).toInt32 = x) (hq : pc + 2 = q) (k : mm_V m q L (.int x :: S) μ = X) : mm_V m pc L S μ = X := by
  subst hx hq; exact mv_ hm h rfl k
theorem mv_sipush {c : Int} (x : Int32) (hm : mm_mi m C n RT hh ow) (h : mm_g C pc = some (.sipush c, 3, a, b, v)) (hx : (Int16.ofInt c).toInt32 = x) (hq : pc + 3 = q) (k : mm_V m q L (.int x :: S) μ = X) : mm_V m pc L S μ = X := by
  subst hx hq; exact mv_ hm h rfl k
theorem mv_ldc {c : Nat} (hm : mm_mi m C n RT hh ow) (h : mm_g C pc = some (.ldc c, 2, a, b, v)) (hq : pc + 2 = q) (k : mm_V m q L (v :: S) μ = X) : mm_V m pc L S μ = X := by
  subst hq; exact mv_ hm h rfl k
theorem mv_ldc_w {c : Nat} (hm : mm_mi m C n RT hh ow) (h : mm_g C pc = some (.ldc_w c, 3, a, b, v)) (hq : pc + 3 = q) (k : mm_V m q L (v :: S) μ = X) : mm_V m pc L S μ = X := by
  subst hq; exact mv_ hm h rfl k
theorem mv_ldc2_w {c : Nat} (hm : mm_mi m C n RT hh ow) (h : mm_g C pc = some (.ldc2_w c, 3, a, b, v)) (hq : pc + 3 = q) (k : mm_V m q L (v :: S) μ = X) : mm_V m pc L S μ = X := by
  subst hq; exact mv_ hm h rfl k
theorem mv_getstatic {c : Nat} (hm : mm_mi m C n RT hh ow) (h : mm_g C pc = some (.getstatic c, 3, a, b, v)) (hq : pc + 3 = q) (k : mm_V m q L (v :: S) μ = X) : mm_V m pc L S μ = X := by
  subst hq; exact mv_ hm h rfl k
theorem mv_lconst (r : Int64) (hm : mm_mi m C n RT hh ow) {c} (h : mm_g C pc = some (.lconst c, 1, a, b, v)) (hx : Int64.ofNat (c : Nat) = r) (hq : pc + 1 = q) (k : mm_V m q L (.long r :: S) μ = X) : mm_V m pc L S μ = X := by
  subst hx hq; exact mv_ hm h rfl k
theorem mv_iadd (hm : mm_mi m C n RT hh ow) (h : mm_g C pc = some (.iadd, 1, a, b, v)) (hq : pc + 1 = q) (k : mm_V m q L (.int (x + y) :: S) μ = X) : mm_V m pc L (.int y :: .int x :: S) μ = X := by
  subst hq; exact mv_ hm h rfl k
theorem mv_isub (hm : mm_mi m C n RT hh ow) (h : mm_g C pc = some (.isub, 1, a, b, v)) (hq : pc + 1 = q) (k : mm_V m q L (.int (x - y) :: S) μ = X) : mm_V m pc L (.int y :: .int x :: S) μ = X := by
  subst hq; exact mv_ hm h rfl k
theorem mv_imul (hm : mm_mi m C n RT hh ow) (h : mm_g C pc = some (.imul, 1, a, b, v)) (hq : pc + 1 = q) (k : mm_V m q L (.int (x * y) :: S) μ = X) : mm_V m pc L (.int y :: .int x :: S) μ = X := by
  subst hq; exact mv_ hm h rfl k
theorem mv_iand (hm : mm_mi m C n RT hh ow) (h : mm_g C pc = some (.iand, 1, a, b, v)) (hq : pc + 1 = q) (k : mm_V m q L (.int (x &&& y) :: S) μ = X) : mm_V m pc L (.int y :: .int x :: S) μ = X := by
  subst hq; exact mv_ hm h rfl k
theorem mv_ior (hm : mm_mi m C n RT hh ow) (h : mm_g C pc = some (.ior, 1, a, b, v)) (hq : pc + 1 = q) (k : mm_V m q L (.int (x ||| y) :: S) μ = X) : mm_V m pc L (.int y :: .int x :: S) μ = X := by
  subst hq; exact mv_ hm h rfl k
theorem mv_ixor (hm : mm_mi m C n RT hh ow) (h : mm_g C pc = some (.ixor, 1, a, b, v)) (hq : pc + 1 = q) (k : mm_V m q L (.int (x ^^^ y) :: S) μ = X) : mm_V m pc L (.int y :: .int x :: S) μ = X := by
  subst hq; exact mv_ hm h rfl k
theorem mv_ishl (hm : mm_mi m C n RT hh ow) (h : mm_g C pc = some (.ishl, 1, a, b, v)) (hq : pc + 1 = q) (k : mm_V m q L (.int (x <<< (y &&& 31)) :: S) μ = X) : mm_V m pc L (.int y :: .int x :: S) μ = X := by
  subst hq; exact mv_ hm h rfl k
theorem mv_ishr (hm : mm_mi m C n RT hh ow) (h : mm_g C pc = some (.ishr, 1, a, b, v)) (hq : pc + 1 = q) (k : mm_V m q L (.int (x >>> (y &&& 31)) :: S) μ = X) : mm_V m pc L (.int y :: .int x :: S) μ = X := by
  subst hq; exact mv_ hm h rfl k
theorem mv_iushr (hm : mm_mi m C n RT hh ow) (h : mm_g C pc = some (.iushr, 1, a, b, v)) (hq : pc + 1 = q) (k : mm_V m q L (.int (mm_us x y) :: S) μ = X) : mm_V m pc L (.int y :: .int x :: S) μ = X := by
  subst hq; exact mv_ hm h rfl k
theorem mv_idiv (hm : mm_mi m C n RT hh ow) (h : mm_g C pc = some (.idiv, 1, a, b, v)) (hy : y ≠ 0) (hq : pc + 1 = q) (k : mm_V m q L (.int (x / y) :: S) μ = X) : mm_V m pc L (.int y :: .int x :: S) μ = X := by
  subst hq
  refine mv_ hm h ?_ k
  unfold mm_st
  simp only [mm_sS, mm_d2, if_neg hy]
theorem mv_irem (hm : mm_mi m C n RT hh ow) (h : mm_g C pc = some (.irem, 1, a, b, v)) (hy : y ≠ 0) (hq : pc + 1 = q) (k : mm_V m q L (.int (mm_re x y) :: S) μ = X) : mm_V m pc L (.int y :: .int x :: S) μ = X := by
  subst hq
  refine mv_ hm h ?_ k
  unfold mm_st
  simp only [mm_sS, mm_d2, if_neg hy, mm_re]
theorem mv_land (hm : mm_mi m C n RT hh ow) (h : mm_g C pc = some (.land, 1, a, b, v)) (hq : pc + 1 = q) (k : mm_V m q L (.long (r &&& s) :: S) μ = X) : mm_V m pc L (.long s :: .long r :: S) μ = X := by
  subst hq; exact mv_ hm h rfl k
theorem mv_lor (hm : mm_mi m C n RT hh ow) (h : mm_g C pc = some (.lor, 1, a, b, v)) (hq : pc + 1 = q) (k : mm_V m q L (.long (r ||| s) :: S) μ = X) : mm_V m pc L (.long s :: .long r :: S) μ = X := by
  subst hq; exact mv_ hm h rfl k
theorem mv_lcmp (hm : mm_mi m C n RT hh ow) (h : mm_g C pc = some (.lcmp, 1, a, b, v)) (hq : pc + 1 = q) (k : mm_V m q L (.int (lg_cmp r s) :: S) μ = X) : mm_V m pc L (.long s :: .long r :: S) μ = X := by
  subst hq; exact mv_ hm h rfl k
theorem mv_lshl (hm : mm_mi m C n RT hh ow) (h : mm_g C pc = some (.lshl, 1, a, b, v)) (hq : pc + 1 = q) (k : mm_V m q L (.long (r <<< (y.toInt64 &&& 63)) :: S) μ = X) : mm_V m pc L (.int y :: .long r :: S) μ = X := by
  subst hq; exact mv_ hm h rfl k
theorem mv_lshr (hm : mm_mi m C n RT hh ow) (h : mm_g C pc = some (.lshr, 1, a, b, v)) (hq : pc + 1 = q) (k : mm_V m q L (.long (r >>> (y.toInt64 &&& 63)) :: S) μ = X) : mm_V m pc L (.int y :: .long r :: S) μ = X := by
  subst hq; exact mv_ hm h rfl k
theorem mv_lushr (hm : mm_mi m C n RT hh ow) (h : mm_g C pc = some (.lushr, 1, a, b, v)) (hq : pc + 1 = q) (k : mm_V m q L (.long (mm_ul r y) :: S) μ = X) : mm_V m pc L (.int y :: .long r :: S) μ = X := by
  subst hq; exact mv_ hm h rfl k
theorem mv_i2l (hm : mm_mi m C n RT hh ow) (h : mm_g C pc = some (.i2l, 1, a, b, v)) (hq : pc + 1 = q) (k : mm_V m q L (.long x.toInt64 :: S) μ = X) : mm_V m pc L (.int x :: S) μ = X := by
  subst hq; exact mv_ hm h rfl k
theorem mv_i2b (hm : mm_mi m C n RT hh ow) (h : mm_g C pc = some (.i2b, 1, a, b, v)) (hq : pc + 1 = q) (k : mm_V m q L (.int x.toInt8.toInt32 :: S) μ = X) : mm_V m pc L (.int x :: S) μ = X := by
  subst hq; exact mv_ hm h rfl k
theorem mv_l2i (hm : mm_mi m C n RT hh ow) (h : mm_g C pc = some (.l2i, 1, a, b, v)) (hq : pc + 1 = q) (k : mm_V m q L (.int r.toInt32 :: S) μ = X) : mm_V m pc L (.long r :: S) μ = X := by
  subst hq; exact mv_ hm h rfl k
theorem mv_dupi (hm : mm_mi m C n RT hh ow) (h : mm_g C pc = some (.dup, 1, a, b, v)) (hq : pc + 1 = q) (k : mm_V m q L (.int x :: .int x :: S) μ = X) : mm_V m pc L (.int x :: S) μ = X := by
  subst hq; exact mv_ hm h rfl k
theorem mv_dupa (hm : mm_mi m C n RT hh ow) (h : mm_g C pc = some (.dup, 1, a, b, v)) (hq : pc + 1 = q) (k : mm_V m q L (.ref o :: .ref o :: S) μ = X) : mm_V m pc L (.ref o :: S) μ = X := by
  subst hq; exact mv_ hm h rfl k
theorem mv_popi (hm : mm_mi m C n RT hh ow) (h : mm_g C pc = some (.pop, 1, a, b, v)) (hq : pc + 1 = q) (k : mm_V m q L S μ = X) : mm_V m pc L (.int x :: S) μ = X := by
  subst hq; exact mv_ hm h rfl k
theorem mv_dup2 (hm : mm_mi m C n RT hh ow) (h : mm_g C pc = some (.dup2, 1, a, b, v)) (hq : pc + 1 = q) (k : mm_V m q L (.int x :: .ref o :: .int x :: .ref o :: S) μ = X) : mm_V m pc L (.int x :: .ref o :: S) μ = X := by
  subst hq; exact mv_ hm h rfl k
/-- loads and stores -/
theorem mv_iload {j : Nat} (hm : mm_mi m C n RT hh ow) (h : mm_g C pc = some (.iload j, 2, a, b, v)) (hl : L[j]? = some (some (.int x))) (hq : pc + 2 = q) (k : mm_V m q L (.int x :: S) μ = X) : mm_V m pc L S μ = X := by
  subst hq
  refine mv_ hm h ?_ k
  unfold mm_st
  simp only [mm_sS, mm_sL, hl]
theorem mv_iload_n {j : Fin 4} (hm : mm_mi m C n RT hh ow) (h : mm_g C pc = some (.iload_n j, 1, a, b, v)) (hl : L[(j : Nat)]? = some (some (.int x))) (hq : pc + 1 = q) (k : mm_V m q L (.int x :: S) μ = X) : mm_V m pc L S μ = X := by
  subst hq
  refine mv_ hm h ?_ k
  unfold mm_st
  simp only [mm_sS, mm_sL, hl]
theorem mv_lload {j : Nat} (hm : mm_mi m C n RT hh ow) (h : mm_g C pc = some (.lload j, 2, a, b, v)) (hl : L[j]? = some (some (.long r))) (hq : pc + 2 = q) (k : mm_V m q L (.long r :: S) μ = X) : mm_V m pc L S μ = X := by
  subst hq
  refine mv_ hm h ?_ k
  unfold mm_st
  simp only [mm_sS, mm_sL, hl]
theorem mv_lload_n {j : Fin 4} (hm : mm_mi m C n RT hh ow) (h : mm_g C pc = some (.lload_n j, 1, a, b, v)) (hl : L[(j : Nat)]? = some (some (.long r))) (hq : pc + 1 = q) (k : mm_V m q L (.long r :: S) μ = X) : mm_V m pc L S μ = X := by
  subst hq
  refine mv_ hm h ?_ k
  unfold mm_st
  simp only [mm_sS, mm_sL, hl]
theorem mv_aload {j : Nat} (hm : mm_mi m C n RT hh ow) (h : mm_g C pc = some (.aload j, 2, a, b, v)) (hl : L[j]? = some (some (.ref o))) (hq : pc + 2 = q) (k : mm_V m q L (.ref o :: S) μ = X) : mm_V m pc L S μ = X := by
  subst hq
  refine mv_ hm h ?_ k
  unfold mm_st
  simp only [mm_sS, mm_sL, hl]
theorem mv_aload_n {j : Fin 4} (hm : mm_mi m C n RT hh ow) (h : mm_g C pc = some (.aload_n j, 1, a, b, v)) (hl : L[(j : Nat)]? = some (some (.ref o))) (hq : pc + 1 = q) (k : mm_V m q L (.ref o :: S) μ = X) : mm_V m pc L S μ = X := by
  subst hq
  refine mv_ hm h ?_ k
  unfold mm_st
  simp only [mm_sS, mm_sL, hl]
theorem mv_istore {j : Nat} (L' : List (Option Value)) (hm : mm_mi m C n RT hh ow) (h : mm_g C pc = some (.istore j, 2, a, b, v)) (hj : Nat.blt j n = true) (hL : mm_s1 L j (.int x) = L') (hq : pc + 2 = q) (k : mm_V m q L' S μ = X) : mm_V m pc L (.int x :: S) μ = X := by
  subst hq hL
  have hj : j < mm_ml m := by rw [hm.2.1]; exact Nat.ble_eq.mp hj
  refine mv_ hm h ?_ k
  unfold mm_st
  simp only [mm_sS, mm_sL, mm_sM, mm_sJ, mm_sT, if_pos hj]
theorem mv_istore_n {j : Fin 4} (L' : List (Option Value)) (hm : mm_mi m C n RT hh ow) (h : mm_g C pc = some (.istore_n j, 1, a, b, v)) (hj : Nat.blt (j : Nat) n = true) (hL : mm_s1 L (j : Nat) (.int x) = L') (hq : pc + 1 = q) (k : mm_V m q L' S μ = X) : mm_V m pc L (.int x :: S) μ = X := by
  subst hq hL
  have hj : (j : Nat) < mm_ml m := by rw [hm.2.1]; exact Nat.ble_eq.mp hj
  refine mv_ hm h ?_ k
  unfold mm_st
  simp only [mm_sS, mm_sL, mm_sM, mm_sJ, mm_sT, if_pos hj]
theorem mv_astore {j : Nat} (L' : List (Option Value)) (hm : mm_mi m C n RT hh ow) (h : mm_g C pc = some (.astore j, 2, a, b, v)) (hj : Nat.blt j n = true) (hL : mm_s1 L j (.ref o) = L') (hq : pc + 2 = q) (k : mm_V m q L' S μ = X) : mm_V m pc L (.ref o :: S) μ = X := by
  subst hq hL
  have hj : j < mm_ml m := by rw [hm.2.1]; exact Nat.ble_eq.mp hj
  refine mv_ hm h ?_ k
  unfold mm_st
  simp only [mm_sS, mm_sL, mm_sM, mm_sJ, mm_sT, if_pos hj]
theorem mv_astore_n {j : Fin 4} (L' : List (Option Value)) (hm : mm_mi m C n RT hh ow) (h : mm_g C pc = some (.astore_n j, 1, a, b, v)) (hj : Nat.blt (j : Nat) n = true) (hL : mm_s1 L (j : Nat) (.ref o) = L') (hq : pc + 1 = q) (k : mm_V m q L' S μ = X) : mm_V m pc L (.ref o :: S) μ = X := by
  subst hq hL
  have hj : (j : Nat) < mm_ml m := by rw [hm.2.1]; exact Nat.ble_eq.mp hj
  refine mv_ hm h ?_ k
  unfold mm_st
  simp only [mm_sS, mm_sL, mm_sM, mm_sJ, mm_sT, if_pos hj]
theorem mv_lstore {j : Nat} (L' : List (Option Value)) (hm : mm_mi m C n RT hh ow) (h : mm_g C pc = some (.lstore j, 2, a, b, v)) (hj : Nat.blt (j + 1) n = true) (hL : mm_s2 L j (.long r) = L') (hq : pc + 2 = q) (k : mm_V m q L' S μ = X) : mm_V m pc L (.long r :: S) μ = X := by
  subst hq hL
  have hj : j + 1 < mm_ml m := by rw [hm.2.1]; exact Nat.ble_eq.mp hj
  refine mv_ hm h ?_ k
  unfold mm_st
  simp only [mm_sS, mm_sL, mm_sM, mm_sJ, mm_sT, if_pos hj]
theorem mv_lstore_n {j : Fin 4} (L' : List (Option Value)) (hm : mm_mi m C n RT hh ow) (h : mm_g C pc = some (.lstore_n j, 1, a, b, v)) (hj : Nat.blt ((j : Nat) + 1) n = true) (hL : mm_s2 L (j : Nat) (.long r) = L') (hq : pc + 1 = q) (k : mm_V m q L' S μ = X) : mm_V m pc L (.long r :: S) μ = X := by
  subst hq hL
  have hj : (j : Nat) + 1 < mm_ml m := by rw [hm.2.1]; exact Nat.ble_eq.mp hj
  refine mv_ hm h ?_ k
  unfold mm_st
  simp only [mm_sS, mm_sL, mm_sM, mm_sJ, mm_sT, if_pos hj]
theorem mv_iinc {j : Nat} {c : Int} (y : Int32) (L' : List (Option Value)) (hm : mm_mi m C n RT hh ow) (h : mm_g C pc = some (.iinc j c, 3, a, b, v)) (hl : L[j]? = some (some (.int x))) (hj : Nat.blt j n = true) (hc : Int32.ofInt c = y) (hL : mm_s1 L j (.int (x + y)) = L') (hq : pc + 3 = q) (k : mm_V m q L' S μ = X) : mm_V m pc L S μ = X := by
  subst hq hc hL
  have hj : j < mm_ml m := by rw [hm.2.1]; exact Nat.ble_eq.mp hj
  refine mv_ hm h ?_ k
  unfold mm_st
  simp only [mm_sS, mm_sL, mm_sM, mm_sJ, mm_sT, hl, if_pos hj]
end MM41
