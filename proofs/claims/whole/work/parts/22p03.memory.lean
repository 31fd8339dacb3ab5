/-! STEPS of the value: memory, jumps, calls, ends -/
section MM42
variable {m pc q g n ow : Nat} {C : List (Option mm_E)} {RT : Option FieldType} {hh : List (Nat × Nat × Nat × Nat)} {L L' : List (Option Value)} {S S' : List Value} {μ μ' : mm_M} {X Y : Option mm_R} {a b : Nat} {v : Value} {en : mm_E}
variable {T : Nat → Nat × Nat} {i : Nat → Nat → Int32} {l : Nat → Nat → Int64} {R : Nat → Nat → Value} {N : Nat × Bool × Nat × Nat} {o len c d : Nat} {x y z : Int32} {r s : Int64}
theorem mv_oc {t : Nat} (h : mm_oc T N o t = true) : mm_wr (T, i, l, R, N) o t := by
  unfold mm_oc at h
  rw [Bool.and_eq_true] at h
  exact ⟨Nat.ble_eq.mp h.1, Nat.eq_of_beq_eq_true h.2⟩
/-- fields -/
theorem mv_getI (hm : mm_mi m C n RT hh ow) (h : mm_g C pc = some (.getfield c, 3, a, b, v)) (ho : mm_oc T N o (10 + a) = true) (ht : Nat.ble (mm_ty a b) 1 = true) (hq : pc + 3 = q) (k : mm_V m q L (.int (i o b) :: S) (T, i, l, R, N) = X) : mm_V m pc L (.ref o :: S) (T, i, l, R, N) = X := by
  subst hq
  refine mv_ hm h (mv_M rfl rfl ?_) k
  have hw : mm_wr (T, i, l, R, N) o (10 + a) := mv_oc ho
  simp only [mm_sM]
  rw [if_pos hw]
  have h2 : mm_ty a b = 0 ∨ mm_ty a b = 1 := by have := Nat.ble_eq.mp ht; omega
  rcases h2 with h2 | h2 <;> simp only [mm_fvOf, h2]
theorem mv_getL (hm : mm_mi m C n RT hh ow) (h : mm_g C pc = some (.getfield c, 3, a, b, v)) (ho : mm_oc T N o (10 + a) = true) (ht : mm_ty a b = 2) (hq : pc + 3 = q) (k : mm_V m q L (.long (l o b) :: S) (T, i, l, R, N) = X) : mm_V m pc L (.ref o :: S) (T, i, l, R, N) = X := by
  subst hq
  refine mv_ hm h (mv_M rfl rfl ?_) k
  have hw : mm_wr (T, i, l, R, N) o (10 + a) := mv_oc ho
  simp only [mm_sM]
  rw [if_pos hw]
  simp only [mm_fvOf, ht]
theorem mv_getR (hm : mm_mi m C n RT hh ow) (h : mm_g C pc = some (.getfield c, 3, a, b, v)) (ho : mm_oc T N o (10 + a) = true) (ht : mm_ty a b = 3) (hr : R o b = .ref d) (hq : pc + 3 = q) (k : mm_V m q L (.ref d :: S) (T, i, l, R, N) = X) : mm_V m pc L (.ref o :: S) (T, i, l, R, N) = X := by
  subst hq
  refine mv_ hm h (mv_M rfl rfl ?_) k
  have hw : mm_wr (T, i, l, R, N) o (10 + a) := mv_oc ho
  simp only [mm_sM]
  rw [if_pos hw]
  simp only [mm_fvOf, ht, hr]
theorem mv_putI (hm : mm_mi m C n RT hh ow) (h : mm_g C pc = some (.putfield c, 3, a, b, v)) (ho : mm_oc T N o (10 + a) = true) (ht : mm_ty a b = 0) (hq : pc + 3 = q) (k : mm_V m q L S (T, mm_ww i o b x, l, R, N) = X) : mm_V m pc L (.int x :: .ref o :: S) (T, i, l, R, N) = X := by
  subst hq
  refine mv_ hm h (mv_M rfl rfl ?_) k
  have hw : mm_wr (T, i, l, R, N) o (10 + a) := mv_oc ho
  simp only [mm_sM]
  rw [if_pos hw]
  simp only [mm_pf, ht]
  rfl
theorem mv_putZ (hm : mm_mi m C n RT hh ow) (h : mm_g C pc = some (.putfield c, 3, a, b, v)) (ho : mm_oc T N o (10 + a) = true) (ht : mm_ty a b = 1) (hx : x = 0 ∨ x = 1) (hq : pc + 3 = q) (k : mm_V m q L S (T, mm_ww i o b x, l, R, N) = X) : mm_V m pc L (.int x :: .ref o :: S) (T, i, l, R, N) = X := by
  subst hq
  refine mv_ hm h (mv_M rfl rfl ?_) k
  have hw : mm_wr (T, i, l, R, N) o (10 + a) := mv_oc ho
  simp only [mm_sM]
  rw [if_pos hw]
  simp only [mm_pf, ht, if_pos hx]
  rfl
theorem mv_putL (hm : mm_mi m C n RT hh ow) (h : mm_g C pc = some (.putfield c, 3, a, b, v)) (ho : mm_oc T N o (10 + a) = true) (ht : mm_ty a b = 2) (hq : pc + 3 = q) (k : mm_V m q L S (T, i, mm_wl l o b r, R, N) = X) : mm_V m pc L (.long r :: .ref o :: S) (T, i, l, R, N) = X := by
  subst hq
  refine mv_ hm h (mv_M rfl rfl ?_) k
  have hw : mm_wr (T, i, l, R, N) o (10 + a) := mv_oc ho
  simp only [mm_sM]
  rw [if_pos hw]
  simp only [mm_pf, ht]
  rfl
theorem mv_putR (hm : mm_mi m C n RT hh ow) (h : mm_g C pc = some (.putfield c, 3, a, b, v)) (ho : mm_oc T N o (10 + a) = true) (ht : mm_ty a b = 3) (hq : pc + 3 = q) (k : mm_V m q L S (T, i, l, va_up R o (va_up (R o) b (.ref d)), N) = X) : mm_V m pc L (.ref d :: .ref o :: S) (T, i, l, R, N) = X := by
  subst hq
  refine mv_ hm h (mv_M rfl rfl ?_) k
  have hw : mm_wr (T, i, l, R, N) o (10 + a) := mv_oc ho
  simp only [mm_sM]
  rw [if_pos hw]
  simp only [mm_pf, ht]
  rfl
/-- arrays -/
theorem mv_out (h : mm_out x len) (hm : mm_mi m C n RT hh ow) (hg : mm_g C pc = some en) (h1 : mm_sS en.1 en.2.1 S = none) (h2 : mm_sL en.1 en.2.1 L = none) (h3 : mm_sM en S μ = none) (h4 : mm_sJ en.1 en.2.1 pc S = none) (h5 : mm_sT en.1 en.2.1 (mm_ml m) L S = none) (h6 : mm_sN en S μ = none) (h7 : mm_sG en S = none) (h8 : mm_cl0 en = none) (h9 : mm_rt m en.1 S = none) (h10 : mm_tr m pc en = none) : mm_V m pc L S μ = none := by
  rw [mm_V_eq]
  unfold mm_bd
  simp only [mv_at hm hg, mm_st, h1, h2, h3, h4, h5, h6, h7, h8, h9, h10]
theorem mv_iald (hm : mm_mi m C n RT hh ow) (h : mm_g C pc = some (.iaload, 1, a, b, v)) (ho : mm_oc T N o 1 = true) (hl : (T o).2 = len) (hq : pc + 1 = q) (k : mm_V m q L (.int (i o x.toNatClampNeg) :: S) (T, i, l, R, N) = X) : mm_V m pc L (.int x :: .ref o :: S) (T, i, l, R, N) = if mm_out x len then none else X := by
  subst hq hl
  have hw : mm_rd (T, i, l, R, N) o 1 := by
    have hw : mm_wr (T, i, l, R, N) o 1 := mv_oc ho
    exact ⟨Or.inl hw.1, hw.2⟩
  by_cases hx : mm_out x (T o).2
  · rw [if_pos hx]
    refine mv_out hx hm h rfl rfl ?_ rfl rfl rfl rfl rfl rfl rfl
    simp only [mm_sM]
    rw [if_pos hw, if_pos (show mm_out x (mm_gt (T, i, l, R, N) o).2 from hx)]
  · rw [if_neg hx]
    refine mv_ hm h (mv_M rfl rfl ?_) k
    simp only [mm_sM]
    rw [if_pos hw, if_neg (show ¬ mm_out x (mm_gt (T, i, l, R, N) o).2 from hx)]
    rfl
theorem mv_iald2 (hm : mm_mi m C n RT hh ow) (h : mm_g C pc = some (.iaload, 1, a, b, v)) (ho : Nat.ble 1000000 o = true) (ht : (T o).1 = 1) (hl : (T o).2 = len) (hq : pc + 1 = q) (k : mm_V m q L (.int (i o x.toNatClampNeg) :: S) (T, i, l, R, N) = X) : mm_V m pc L (.int x :: .ref o :: S) (T, i, l, R, N) = if mm_out x len then none else X := by
  subst hq hl
  have hw : mm_rd (T, i, l, R, N) o 1 := ⟨Or.inr (Nat.ble_eq.mp ho), ht⟩
  by_cases hx : mm_out x (T o).2
  · rw [if_pos hx]
    refine mv_out hx hm h rfl rfl ?_ rfl rfl rfl rfl rfl rfl rfl
    simp only [mm_sM]
    rw [if_pos hw, if_pos (show mm_out x (mm_gt (T, i, l, R, N) o).2 from hx)]
  · rw [if_neg hx]
    refine mv_ hm h (mv_M rfl rfl ?_) k
    simp only [mm_sM]
    rw [if_pos hw, if_neg (show ¬ mm_out x (mm_gt (T, i, l, R, N) o).2 from hx)]
    rfl
theorem mv_iast (hm : mm_mi m C n RT hh ow) (h : mm_g C pc = some (.iastore, 1, a, b, v)) (ho : mm_oc T N o 1 = true) (hl : (T o).2 = len) (hq : pc + 1 = q) (k : mm_V m q L S (T, mm_ww i o x.toNatClampNeg y, l, R, N) = X) : mm_V m pc L (.int y :: .int x :: .ref o :: S) (T, i, l, R, N) = if mm_out x len then none else X := by
  subst hq hl
  have hw : mm_wr (T, i, l, R, N) o 1 := mv_oc ho
  by_cases hx : mm_out x (T o).2
  · rw [if_pos hx]
    refine mv_out hx hm h rfl rfl ?_ rfl rfl rfl rfl rfl rfl rfl
    simp only [mm_sM]
    rw [if_pos hw, if_pos (show mm_out x (mm_gt (T, i, l, R, N) o).2 from hx)]
  · rw [if_neg hx]
    refine mv_ hm h (mv_M rfl rfl ?_) k
    simp only [mm_sM]
    rw [if_pos hw, if_neg (show ¬ mm_out x (mm_gt (T, i, l, R, N) o).2 from hx)]
    rfl
theorem mv_bald (hm : mm_mi m C n RT hh ow) (h : mm_g C pc = some (.baload, 1, a, b, v)) (ho : mm_oc T N o 2 = true) (hl : (T o).2 = len) (hq : pc + 1 = q) (k : mm_V m q L (.int (i o x.toNatClampNeg) :: S) (T, i, l, R, N) = X) : mm_V m pc L (.int x :: .ref o :: S) (T, i, l, R, N) = if mm_out x len then none else X := by
  subst hq hl
  have hw : mm_wr (T, i, l, R, N) o 2 := mv_oc ho
  by_cases hx : mm_out x (T o).2
  · rw [if_pos hx]
    refine mv_out hx hm h rfl rfl ?_ rfl rfl rfl rfl rfl rfl rfl
    simp only [mm_sM]
    rw [if_pos hw, if_pos (show mm_out x (mm_gt (T, i, l, R, N) o).2 from hx)]
  · rw [if_neg hx]
    refine mv_ hm h (mv_M rfl rfl ?_) k
    simp only [mm_sM]
    rw [if_pos hw, if_neg (show ¬ mm_out x (mm_gt (T, i, l, R, N) o).2 from hx)]
    rfl
theorem mv_zald (hm : mm_mi m C n RT hh ow) (h : mm_g C pc = some (.baload, 1, a, b, v)) (ho : mm_oc T N o 3 = true) (hl : (T o).2 = len) (hq : pc + 1 = q) (k : mm_V m q L (.int (i o x.toNatClampNeg) :: S) (T, i, l, R, N) = X) : mm_V m pc L (.int x :: .ref o :: S) (T, i, l, R, N) = if mm_out x len then none else X := by
  subst hq hl
  have hw : mm_wr (T, i, l, R, N) o 3 := mv_oc ho
  have hn : ¬ mm_wr (T, i, l, R, N) o 2 := fun q => by have := hw.2.symm.trans q.2; cases this
  by_cases hx : mm_out x (T o).2
  · rw [if_pos hx]
    refine mv_out hx hm h rfl rfl ?_ rfl rfl rfl rfl rfl rfl rfl
    simp only [mm_sM]
    rw [if_neg hn, if_pos hw, if_pos (show mm_out x (mm_gt (T, i, l, R, N) o).2 from hx)]
  · rw [if_neg hx]
    refine mv_ hm h (mv_M rfl rfl ?_) k
    simp only [mm_sM]
    rw [if_neg hn, if_pos hw, if_neg (show ¬ mm_out x (mm_gt (T, i, l, R, N) o).2 from hx)]
    rfl
theorem mv_bast (hm : mm_mi m C n RT hh ow) (h : mm_g C pc = some (.bastore, 1, a, b, v)) (ho : mm_oc T N o 2 = true) (hl : (T o).2 = len) (hq : pc + 1 = q) (k : mm_V m q L S (T, mm_ww i o x.toNatClampNeg (vp_nar .byte y), l, R, N) = X) : mm_V m pc L (.int y :: .int x :: .ref o :: S) (T, i, l, R, N) = if mm_out x len then none else X := by
  subst hq hl
  have hw : mm_wr (T, i, l, R, N) o 2 := mv_oc ho
  by_cases hx : mm_out x (T o).2
  · rw [if_pos hx]
    refine mv_out hx hm h rfl rfl ?_ rfl rfl rfl rfl rfl rfl rfl
    simp only [mm_sM]
    rw [if_pos hw, if_pos (show mm_out x (mm_gt (T, i, l, R, N) o).2 from hx)]
  · rw [if_neg hx]
    refine mv_ hm h (mv_M rfl rfl ?_) k
    simp only [mm_sM]
    rw [if_pos hw, if_neg (show ¬ mm_out x (mm_gt (T, i, l, R, N) o).2 from hx)]
    rfl
theorem mv_zast (hm : mm_mi m C n RT hh ow) (h : mm_g C pc = some (.bastore, 1, a, b, v)) (ho : mm_oc T N o 3 = true) (hl : (T o).2 = len) (hq : pc + 1 = q) (k : mm_V m q L S (T, mm_ww i o x.toNatClampNeg (vp_nar .boolean y), l, R, N) = X) : mm_V m pc L (.int y :: .int x :: .ref o :: S) (T, i, l, R, N) = if mm_out x len then none else X := by
  subst hq hl
  have hw : mm_wr (T, i, l, R, N) o 3 := mv_oc ho
  have hn : ¬ mm_wr (T, i, l, R, N) o 2 := fun q => by have := hw.2.symm.trans q.2; cases this
  by_cases hx : mm_out x (T o).2
  · rw [if_pos hx]
    refine mv_out hx hm h rfl rfl ?_ rfl rfl rfl rfl rfl rfl rfl
    simp only [mm_sM]
    rw [if_neg hn, if_pos hw, if_pos (show mm_out x (mm_gt (T, i, l, R, N) o).2 from hx)]
  · rw [if_neg hx]
    refine mv_ hm h (mv_M rfl rfl ?_) k
    simp only [mm_sM]
    rw [if_neg hn, if_pos hw, if_neg (show ¬ mm_out x (mm_gt (T, i, l, R, N) o).2 from hx)]
    rfl
theorem mv_lald (hm : mm_mi m C n RT hh ow) (h : mm_g C pc = some (.laload, 1, a, b, v)) (ho : mm_oc T N o 4 = true) (hl : (T o).2 = len) (hq : pc + 1 = q) (k : mm_V m q L (.long (l o x.toNatClampNeg) :: S) (T, i, l, R, N) = X) : mm_V m pc L (.int x :: .ref o :: S) (T, i, l, R, N) = if mm_out x len then none else X := by
  subst hq hl
  have hw : mm_wr (T, i, l, R, N) o 4 := mv_oc ho
  by_cases hx : mm_out x (T o).2
  · rw [if_pos hx]
    refine mv_out hx hm h rfl rfl ?_ rfl rfl rfl rfl rfl rfl rfl
    simp only [mm_sM]
    rw [if_pos hw, if_pos (show mm_out x (mm_gt (T, i, l, R, N) o).2 from hx)]
  · rw [if_neg hx]
    refine mv_ hm h (mv_M rfl rfl ?_) k
    simp only [mm_sM]
    rw [if_pos hw, if_neg (show ¬ mm_out x (mm_gt (T, i, l, R, N) o).2 from hx)]
    rfl
theorem mv_last (hm : mm_mi m C n RT hh ow) (h : mm_g C pc = some (.lastore, 1, a, b, v)) (ho : mm_oc T N o 4 = true) (hl : (T o).2 = len) (hq : pc + 1 = q) (k : mm_V m q L S (T, i, mm_wl l o x.toNatClampNeg r, R, N) = X) : mm_V m pc L (.long r :: .int x :: .ref o :: S) (T, i, l, R, N) = if mm_out x len then none else X := by
  subst hq hl
  have hw : mm_wr (T, i, l, R, N) o 4 := mv_oc ho
  by_cases hx : mm_out x (T o).2
  · rw [if_pos hx]
    refine mv_out hx hm h rfl rfl ?_ rfl rfl rfl rfl rfl rfl rfl
    simp only [mm_sM]
    rw [if_pos hw, if_pos (show mm_out x (mm_gt (T, i, l, R, N) o).2 from hx)]
  · rw [if_neg hx]
    refine mv_ hm h (mv_M rfl rfl ?_) k
    simp only [mm_sM]
    rw [if_pos hw, if_neg (show ¬ mm_out x (mm_gt (T, i, l, R, N) o).2 from hx)]
    rfl
theorem mv_alen (hm : mm_mi m C n RT hh ow) (h : mm_g C pc = some (.arraylength, 1, a, b, v)) (ho : mm_oc T N o 1 = true) (hl : (T o).2 = len) (hq : pc + 1 = q) (k : mm_V m q L (.int (Int32.ofNat len) :: S) (T, i, l, R, N) = X) : mm_V m pc L (.ref o :: S) (T, i, l, R, N) = X := by
  subst hq hl
  have hw : mm_rd (T, i, l, R, N) o 1 := by
    have hw : mm_wr (T, i, l, R, N) o 1 := mv_oc ho
    exact ⟨Or.inl hw.1, hw.2⟩
  refine mv_ hm h (mv_M rfl rfl ?_) k
  simp only [mm_sM]
  rw [if_pos hw]
  rfl
theorem mv_alen4 (hm : mm_mi m C n RT hh ow) (h : mm_g C pc = some (.arraylength, 1, a, b, v)) (ho : mm_oc T N o 4 = true) (hl : (T o).2 = len) (hq : pc + 1 = q) (k : mm_V m q L (.int (Int32.ofNat len) :: S) (T, i, l, R, N) = X) : mm_V m pc L (.ref o :: S) (T, i, l, R, N) = X := by
  subst hq hl
  have hw : mm_wr (T, i, l, R, N) o 4 := mv_oc ho
  have hn : ¬ mm_rd (T, i, l, R, N) o 1 := fun q => by have := hw.2.symm.trans q.2; cases this
  refine mv_ hm h (mv_M rfl rfl ?_) k
  simp only [mm_sM]
  rw [if_neg hn, if_pos hw]
  rfl
theorem mv_alen2 (hm : mm_mi m C n RT hh ow) (h : mm_g C pc = some (.arraylength, 1, a, b, v)) (ho : Nat.ble 1000000 o = true) (ht : (T o).1 = 1) (hl : (T o).2 = len) (hq : pc + 1 = q) (k : mm_V m q L (.int (Int32.ofNat len) :: S) (T, i, l, R, N) = X) : mm_V m pc L (.ref o :: S) (T, i, l, R, N) = X := by
  subst hq hl
  have hw : mm_rd (T, i, l, R, N) o 1 := ⟨Or.inr (Nat.ble_eq.mp ho), ht⟩
  refine mv_ hm h (mv_M rfl rfl ?_) k
  simp only [mm_sM]
  rw [if_pos hw]
  rfl
end MM42
