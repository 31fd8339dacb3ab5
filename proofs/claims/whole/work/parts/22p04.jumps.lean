/-! STEPS of the value: jumps, calls, ends -/
section MM43
variable {m pc q g n ow : Nat} {C C' : List (Option mm_E)} {RT RT' : Option FieldType} {hh hh' : List (Nat × Nat × Nat × Nat)} {L L' : List (Option Value)} {S S' As rest : List Value} {μ μ' : mm_M} {X Y : Option mm_R} {a b na ow' E : Nat} {v : Value} {en : mm_E} {off : Int}
variable {T : Nat → Nat × Nat} {i : Nat → Nat → Int32} {l : Nat → Nat → Int64} {R : Nat → Nat → Value} {N : Nat × Bool × Nat × Nat} {o o' len len' c d nx : Nat} {x y z : Int32} {r s : Int64} {e : Bool × Nat × Nat} {t : List Nat}
theorem mv_goto (hm : mm_mi m C n RT hh ow) (h : mm_g C pc = some (.goto off, 3, a, b, v)) (hg : mm_tg pc off = some g) (k : mm_V m g L S μ = X) : mm_V m pc L S μ = X := by
  refine mv_ hm h ?_ k
  unfold mm_st
  simp only [mm_sS, mm_sL, mm_sM, mm_sJ, if_true, hg, Option.map_some]
theorem mv_if0 {cd : Jvm.ClassFile.Cond} (hm : mm_mi m C n RT hh ow) (h : mm_g C pc = some (.ifCond cd off, 3, a, b, v)) (hg : mm_tg pc off = some g) (hq : pc + 3 = q) (k1 : mm_V m g L S μ = X) (k2 : mm_V m q L S μ = Y) : mm_V m pc L (.int x :: S) μ = bif mm_cc cd x 0 then X else Y := by
  subst hq
  have e : mm_V m (bif mm_cc cd x 0 then g else pc + 3) L S μ = bif mm_cc cd x 0 then X else Y := by
    cases mm_cc cd x 0
    · exact k2
    · exact k1
  refine mv_ hm h ?_ e
  unfold mm_st
  simp only [mm_sS, mm_sL, mm_sM, mm_sJ, if_true, hg, Option.map_some]
theorem mv_if2 {cd : Jvm.ClassFile.Cond} (hm : mm_mi m C n RT hh ow) (h : mm_g C pc = some (.if_icmp cd off, 3, a, b, v)) (hg : mm_tg pc off = some g) (hq : pc + 3 = q) (k1 : mm_V m g L S μ = X) (k2 : mm_V m q L S μ = Y) : mm_V m pc L (.int y :: .int x :: S) μ = bif mm_cc cd x y then X else Y := by
  subst hq
  have e : mm_V m (bif mm_cc cd x y then g else pc + 3) L S μ = bif mm_cc cd x y then X else Y := by
    cases mm_cc cd x y
    · exact k2
    · exact k1
  refine mv_ hm h ?_ e
  unfold mm_st
  simp only [mm_sS, mm_sL, mm_sM, mm_sJ, if_true, hg, Option.map_some]
theorem mv_ceq : (bif mm_cc .eq x y then X else Y) = if x = y then X else Y := by simp [mm_cc, Bool.cond_decide]
theorem mv_cne : (bif mm_cc .ne x y then X else Y) = if x = y then Y else X := by
  by_cases h : x = y <;> simp [mm_cc, h]
theorem mv_clt : (bif mm_cc .lt x y then X else Y) = if x < y then X else Y := by simp [mm_cc, Bool.cond_decide]
theorem mv_cge : (bif mm_cc .ge x y then X else Y) = if x < y then Y else X := by
  by_cases h : x < y
  · rw [if_pos h]; simp [mm_cc, Int32.not_le.mpr h]
  · rw [if_neg h]; simp [mm_cc, Int32.not_lt.mp h]
theorem mv_cgt : (bif mm_cc .gt x y then X else Y) = if y < x then X else Y := by simp [mm_cc, Bool.cond_decide]
theorem mv_cle : (bif mm_cc .le x y then X else Y) = if y < x then Y else X := by
  by_cases h : y < x
  · rw [if_pos h]; simp [mm_cc, Int32.not_le.mpr h]
  · rw [if_neg h]; simp [mm_cc, Int32.not_lt.mp h]
theorem mv_0eq (hm : mm_mi m C n RT hh ow) (h : mm_g C pc = some (.ifCond .eq off, 3, a, b, v)) (hg : mm_tg pc off = some g) (hq : pc + 3 = q) (k1 : mm_V m g L S μ = X) (k2 : mm_V m q L S μ = Y) : mm_V m pc L (.int x :: S) μ = if x = 0 then X else Y := (mv_if0 hm h hg hq k1 k2).trans mv_ceq
theorem mv_0ne (hm : mm_mi m C n RT hh ow) (h : mm_g C pc = some (.ifCond .ne off, 3, a, b, v)) (hg : mm_tg pc off = some g) (hq : pc + 3 = q) (k1 : mm_V m g L S μ = X) (k2 : mm_V m q L S μ = Y) : mm_V m pc L (.int x :: S) μ = if x = 0 then Y else X := (mv_if0 hm h hg hq k1 k2).trans mv_cne
theorem mv_0lt (hm : mm_mi m C n RT hh ow) (h : mm_g C pc = some (.ifCond .lt off, 3, a, b, v)) (hg : mm_tg pc off = some g) (hq : pc + 3 = q) (k1 : mm_V m g L S μ = X) (k2 : mm_V m q L S μ = Y) : mm_V m pc L (.int x :: S) μ = if x < 0 then X else Y := (mv_if0 hm h hg hq k1 k2).trans mv_clt
theorem mv_0ge (hm : mm_mi m C n RT hh ow) (h : mm_g C pc = some (.ifCond .ge off, 3, a, b, v)) (hg : mm_tg pc off = some g) (hq : pc + 3 = q) (k1 : mm_V m g L S μ = X) (k2 : mm_V m q L S μ = Y) : mm_V m pc L (.int x :: S) μ = if x < 0 then Y else X := (mv_if0 hm h hg hq k1 k2).trans mv_cge
theorem mv_0gt (hm : mm_mi m C n RT hh ow) (h : mm_g C pc = some (.ifCond .gt off, 3, a, b, v)) (hg : mm_tg pc off = some g) (hq : pc + 3 = q) (k1 : mm_V m g L S μ = X) (k2 : mm_V m q L S μ = Y) : mm_V m pc L (.int x :: S) μ = if 0 < x then X else Y := (mv_if0 hm h hg hq k1 k2).trans mv_cgt
theorem mv_0le (hm : mm_mi m C n RT hh ow) (h : mm_g C pc = some (.ifCond .le off, 3, a, b, v)) (hg : mm_tg pc off = some g) (hq : pc + 3 = q) (k1 : mm_V m g L S μ = X) (k2 : mm_V m q L S μ = Y) : mm_V m pc L (.int x :: S) μ = if 0 < x then Y else X := (mv_if0 hm h hg hq k1 k2).trans mv_cle
theorem mv_2eq (hm : mm_mi m C n RT hh ow) (h : mm_g C pc = some (.if_icmp .eq off, 3, a, b, v)) (hg : mm_tg pc off = some g) (hq : pc + 3 = q) (k1 : mm_V m g L S μ = X) (k2 : mm_V m q L S μ = Y) : mm_V m pc L (.int y :: .int x :: S) μ = if x = y then X else Y := (mv_if2 hm h hg hq k1 k2).trans mv_ceq
theorem mv_2ne (hm : mm_mi m C n RT hh ow) (h : mm_g C pc = some (.if_icmp .ne off, 3, a, b, v)) (hg : mm_tg pc off = some g) (hq : pc + 3 = q) (k1 : mm_V m g L S μ = X) (k2 : mm_V m q L S μ = Y) : mm_V m pc L (.int y :: .int x :: S) μ = if x = y then Y else X := (mv_if2 hm h hg hq k1 k2).trans mv_cne
theorem mv_2lt (hm : mm_mi m C n RT hh ow) (h : mm_g C pc = some (.if_icmp .lt off, 3, a, b, v)) (hg : mm_tg pc off = some g) (hq : pc + 3 = q) (k1 : mm_V m g L S μ = X) (k2 : mm_V m q L S μ = Y) : mm_V m pc L (.int y :: .int x :: S) μ = if x < y then X else Y := (mv_if2 hm h hg hq k1 k2).trans mv_clt
theorem mv_2ge (hm : mm_mi m C n RT hh ow) (h : mm_g C pc = some (.if_icmp .ge off, 3, a, b, v)) (hg : mm_tg pc off = some g) (hq : pc + 3 = q) (k1 : mm_V m g L S μ = X) (k2 : mm_V m q L S μ = Y) : mm_V m pc L (.int y :: .int x :: S) μ = if x < y then Y else X := (mv_if2 hm h hg hq k1 k2).trans mv_cge
theorem mv_2gt (hm : mm_mi m C n RT hh ow) (h : mm_g C pc = some (.if_icmp .gt off, 3, a, b, v)) (hg : mm_tg pc off = some g) (hq : pc + 3 = q) (k1 : mm_V m g L S μ = X) (k2 : mm_V m q L S μ = Y) : mm_V m pc L (.int y :: .int x :: S) μ = if y < x then X else Y := (mv_if2 hm h hg hq k1 k2).trans mv_cgt
theorem mv_2le (hm : mm_mi m C n RT hh ow) (h : mm_g C pc = some (.if_icmp .le off, 3, a, b, v)) (hg : mm_tg pc off = some g) (hq : pc + 3 = q) (k1 : mm_V m g L S μ = X) (k2 : mm_V m q L S μ = Y) : mm_V m pc L (.int y :: .int x :: S) μ = if y < x then Y else X := (mv_if2 hm h hg hq k1 k2).trans mv_cle
/-- switches -/
def mm_tso (P : Int → Option mm_R → Prop) : Int → List Int → List (Int32 × Option mm_R) → Prop
  | _, [], [] => True
  | lo, f :: fs, (k, X) :: ks => k.toInt = lo ∧ P f X ∧ mm_tso P (lo + 1) fs ks
  | _, _, _ => False
theorem mm_tso_sw {P : Int → Option mm_R → Prop} {Xd : Option mm_R} : ∀ (lo : Int) (fs : List Int) (ks : List (Int32 × Option mm_R)), mm_tso P lo fs ks → ((x.toInt < lo ∨ lo + fs.length ≤ x.toInt) → mm_sw x ks Xd = Xd) ∧ (∀ (j : Nat) (f : Int), fs[j]? = some f → x.toInt = lo + j → P f (mm_sw x ks Xd))
  | lo, [], [], _ => ⟨fun _ => rfl, fun j f hj => by simp at hj⟩
  | lo, f :: fs, (k, X) :: ks, h => by
    obtain ⟨h1, h2, h3⟩ := h
    obtain ⟨i1, i2⟩ := mm_tso_sw (P := P) (Xd := Xd) (lo + 1) fs ks h3
    refine ⟨fun hx => ?_, fun j f' hj hx => ?_⟩
    · have hne : x ≠ k := fun q => by
        subst q
        simp only [List.length_cons] at hx
        omega
      simp only [mm_sw, if_neg hne]
      refine i1 ?_
      simp only [List.length_cons] at hx
      have : x.toInt ≠ k.toInt := fun q => hne (Int32.toInt_inj.mp q)
      omega
    · cases j with
      | zero =>
        have e : f = f' := by simpa using hj
        subst e
        have hk : x = k := Int32.toInt_inj.mp (by omega)
        simp only [mm_sw, if_pos hk]
        exact h2
      | succ j =>
        have hne : x ≠ k := fun q => by
          subst q
          omega
        simp only [mm_sw, if_neg hne]
        exact i2 j f' (by simpa using hj) (by omega)
  | _, [], _ :: _, h => h.elim
  | _, _ :: _, [], h => h.elim
theorem mv_tsw {lo hi dd : Int} {offs : Array Int} {ks : List (Int32 × Option mm_R)} {Xd : Option mm_R} (hm : mm_mi m C n RT hh ow) (h : mm_g C pc = some (.tableswitch dd lo hi offs, len, a, b, v)) (hhi : lo + offs.toList.length = hi + 1) (hd : ∃ g, mm_tg pc dd = some g ∧ mm_V m g L S μ = Xd) (hk : mm_tso (fun f X => ∃ g, mm_tg pc f = some g ∧ mm_V m g L S μ = X) lo offs.toList ks) : mm_V m pc L (.int x :: S) μ = mm_sw x ks Xd := by
  obtain ⟨s1, s2⟩ := mm_tso_sw (x := x) (Xd := Xd) lo offs.toList ks hk
  by_cases hx : x.toInt < lo ∨ hi < x.toInt
  · obtain ⟨g, g1, g2⟩ := hd
    rw [s1 (by omega)]
    refine mv_ hm h ?_ g2
    unfold mm_st
    simp only [mm_sS, mm_sL, mm_sM, mm_sJ, if_pos hx, g1, Option.map_some]
  · have hj : (x.toInt - lo).toNat < offs.toList.length := by omega
    have e1 : offs.toList[(x.toInt - lo).toNat]? = some offs.toList[(x.toInt - lo).toNat] := List.getElem?_eq_getElem hj
    obtain ⟨g, g1, g2⟩ := s2 _ _ e1 (by omega)
    have e2 : offs[(x.toInt - lo).toNat]? = some offs.toList[(x.toInt - lo).toNat] := by rw [← e1]; simp
    refine mv_ hm h ?_ g2
    unfold mm_st
    simp only [mm_sS, mm_sL, mm_sM, mm_sJ, if_neg hx, e2, g1, Option.map_some]
def mm_lso (P : Int → Option mm_R → Prop) : List (Int × Int) → List (Int32 × Option mm_R) → Prop
  | [], [] => True
  | (a, f) :: fs, (k, X) :: ks => k.toInt = a ∧ P f X ∧ mm_lso P fs ks
  | _, _ => False
theorem mm_lso_sw {P : Int → Option mm_R → Prop} {Xd : Option mm_R} {dd : Int} (hd : P dd Xd) : ∀ (fs : List (Int × Int)) (ks : List (Int32 × Option mm_R)), mm_lso P fs ks → P (Op.lookupswitch.offset fs dd x.toInt) (mm_sw x ks Xd)
  | [], [], _ => hd
  | (a, f) :: fs, (k, X) :: ks, h => by
    obtain ⟨h1, h2, h3⟩ := h
    by_cases hx : x = k
    · have e : a = x.toInt := by rw [hx]; exact h1.symm
      simp only [mm_sw, if_pos hx, Op.lookupswitch.offset_cons, if_pos e]
      exact h2
    · have e : a ≠ x.toInt := fun q => hx (Int32.toInt_inj.mp (by omega))
      simp only [mm_sw, if_neg hx, Op.lookupswitch.offset_cons, if_neg e]
      exact mm_lso_sw hd fs ks h3
  | [], _ :: _, h => h.elim
  | _ :: _, [], h => h.elim
theorem mv_lsw {dd : Int} {ps : Array (Int × Int)} {ks : List (Int32 × Option mm_R)} {Xd : Option mm_R} (hm : mm_mi m C n RT hh ow) (h : mm_g C pc = some (.lookupswitch dd ps, len, a, b, v)) (hs : (ps.toList.zip (ps.toList.drop 1)).all (fun (a, next) => a.1 < next.1) = true) (hd : ∃ g, mm_tg pc dd = some g ∧ mm_V m g L S μ = Xd) (hk : mm_lso (fun f X => ∃ g, mm_tg pc f = some g ∧ mm_V m g L S μ = X) ps.toList ks) : mm_V m pc L (.int x :: S) μ = mm_sw x ks Xd := by
  obtain ⟨g, g1, g2⟩ := mm_lso_sw (x := x) (P := fun f X => ∃ g, mm_tg pc f = some g ∧ mm_V m g L S μ = X) hd ps.toList ks hk
  refine mv_ hm h ?_ g2
  unfold mm_st
  simp only [mm_sS, mm_sL, mm_sM, mm_sJ, if_pos hs, g1, Option.map_some]
/-- calls -/
theorem mv_call0 {w : Bool} (hm : mm_mi m C n RT hh ow) (h : mm_g C pc = some en) (hst : mm_st m pc en L S μ = none) (hc : mm_cl0 en = some (a, b, w)) (ha : mm_mi a C' na RT' hh' ow') (hp : mm_pop b S = some (As, rest)) (hr : w = true → mm_rc a μ As = true) (hs : Nat.ble (mm_sl0 As).length na = true) (hL : mm_L0 na As = L') (hq : pc + 3 = q) : mm_V m pc L S μ = mm_bx m pc (mm_mt m a en.1) hh L (mm_V a 0 L' [] μ) (fun w μ' => mm_V m q L (w.toList ++ rest) μ') := by
  subst hq hL
  rw [mm_V_eq]
  unfold mm_bd
  have hs := Nat.ble_eq.mp hs
  have hn : ¬ ((w = true ∧ mm_rc a μ As = false) ∨ na < (mm_sl0 As).length) := by
    rintro (⟨h1, h2⟩ | h1)
    · rw [hr h1] at h2; cases h2
    · omega
  simp only [mv_at hm h, hst, hc, hp, ha.2.1, hm.2.2.2.1]
  rw [if_neg hn]
  unfold mm_bx
  rfl
theorem mv_bx0 {w : Bool} {f : Option Value → mm_M → Option mm_R} {O : Option mm_R} : mm_bx m pc w [] L O f = mm_bi w O f := by
  unfold mm_bx mm_bi
  split
  · rfl
  · simp only [mm_ca, if_true]
  · rfl
theorem mv_callV (hm : mm_mi m C n RT [] ow) (h : mm_g C pc = some (.invokevirtual c, 3, a, b, v)) (ha : mm_mi a C' na RT' hh' ow') (hb : Nat.blt a 900 = true) (hp : mm_pop (b + 1) S = some (As, rest)) (hr : mm_rc a μ As = true) (hs : Nat.ble (mm_sl0 As).length na = true) (hL : mm_L0 na As = L') (hq : pc + 3 = q) : mm_V m pc L S μ = mm_bi true (mm_V a 0 L' [] μ) (fun w μ' => mm_V m q L (w.toList ++ rest) μ') := by
  have hb := Nat.ble_eq.mp hb
  have h9 : mm_sG (.invokevirtual c, 3, a, b, v) S = none := by
    simp only [mm_sG]
    rw [if_neg (by omega), if_neg (by omega)]
  rw [mv_call0 (w := true) (b := b + 1) hm h ?_ ?_ ha hp (fun _ => hr) hs hL hq, mv_bx0]
  · rfl
  · unfold mm_st
    simp only [mm_sS, mm_sL, mm_sM, mm_sJ, mm_sT, mm_sN, h9]
  · simp only [mm_cl0]
    rw [if_pos ⟨trivial, by omega⟩]
theorem mv_callH (hm : mm_mi m C n RT hh ow) (h : mm_g C pc = some (.invokevirtual c, 3, a, b, v)) (ha : mm_mi a C' na RT' hh' ow') (hb : Nat.blt a 900 = true) (hp : mm_pop (b + 1) S = some (As, rest)) (hr : mm_rc a μ As = true) (hs : Nat.ble (mm_sl0 As).length na = true) (hL : mm_L0 na As = L') (hq : pc + 3 = q) : mm_V m pc L S μ = mm_bx m pc true hh L (mm_V a 0 L' [] μ) (fun w μ' => mm_V m q L (w.toList ++ rest) μ') := by
  have hb := Nat.ble_eq.mp hb
  have h9 : mm_sG (.invokevirtual c, 3, a, b, v) S = none := by
    simp only [mm_sG]
    rw [if_neg (by omega), if_neg (by omega)]
  rw [mv_call0 (w := true) (b := b + 1) hm h ?_ ?_ ha hp (fun _ => hr) hs hL hq]
  · rfl
  · unfold mm_st
    simp only [mm_sS, mm_sL, mm_sM, mm_sJ, mm_sT, mm_sN, h9]
  · simp only [mm_cl0]
    rw [if_pos ⟨trivial, by omega⟩]
theorem mv_callS (w : Bool) (hm : mm_mi m C n RT [] ow) (h : mm_g C pc = some (.invokestatic c, 3, a, b, v)) (ha : mm_mi a C' na RT' hh' ow') (hw : Nat.beq ow' ow = w) (hb : Nat.blt a 900 = true) (hp : mm_pop b S = some (As, rest)) (hs : Nat.ble (mm_sl0 As).length na = true) (hL : mm_L0 na As = L') (hq : pc + 3 = q) : mm_V m pc L S μ = mm_bi w (mm_V a 0 L' [] μ) (fun w μ' => mm_V m q L (w.toList ++ rest) μ') := by
  have hb := Nat.ble_eq.mp hb
  have h9 : mm_sN (.invokestatic c, 3, a, b, v) S μ = none := by
    simp only [mm_sN]
    rw [if_neg (by omega), if_neg (by omega), if_neg (by omega)]
  have hmt : mm_mt m a (.invokestatic c) = w := by
    simp only [mm_mt, ha.2.2.2.2, hm.2.2.2.2]
    rw [← hw]
    by_cases q : ow' = ow
    · subst q; simp
    · rw [Bool.eq_false_iff.mpr (fun z => q (Nat.eq_of_beq_eq_true z))]
      simp [q]
  rw [mv_call0 (w := false) hm h ?_ ?_ ha hp (fun q => by cases q) hs hL hq, mv_bx0]
  · simp only [hmt]
  · unfold mm_st
    simp only [mm_sS, mm_sL, mm_sM, mm_sJ, mm_sT, mm_sG, h9]
  · simp only [mm_cl0]
    rw [if_pos ⟨trivial, by omega⟩]
/-- ends -/
theorem mv_end {w : Option Value} (hm : mm_mi m C n RT hh ow) (h : mm_g C pc = some en) (hst : mm_st m pc en L S μ = none) (hc : mm_cl0 en = none) (hr : mm_rt m en.1 S = some w) : mm_V m pc L S μ = some (.inl w, μ) := by
  rw [mm_V_eq]
  unfold mm_bd
  simp only [mv_at hm h, hst, hc, hr]
theorem mv_iret (hm : mm_mi m C n (some .int) hh ow) (h : mm_g C pc = some (.ireturn, 1, a, b, v)) : mm_V m pc L [.int x] μ = some (.inl (some (.int x)), μ) := by
  refine mv_end hm h rfl rfl ?_
  simp only [mm_rt, hm.2.2.1, true_or, if_true]
theorem mv_zret (hm : mm_mi m C n (some .boolean) hh ow) (h : mm_g C pc = some (.ireturn, 1, a, b, v)) (hx : x = 0 ∨ x = 1) : mm_V m pc L [.int x] μ = some (.inl (some (.int x)), μ) := by
  refine mv_end hm h rfl rfl ?_
  simp only [mm_rt, hm.2.2.1]
  rw [if_pos (Or.inr ⟨trivial, hx⟩)]
theorem mv_lret (hm : mm_mi m C n (some .long) hh ow) (h : mm_g C pc = some (.lreturn, 1, a, b, v)) : mm_V m pc L [.long r] μ = some (.inl (some (.long r)), μ) := by
  refine mv_end hm h rfl rfl ?_
  simp only [mm_rt, hm.2.2.1, if_true]
theorem mv_aret {nm : String} (hm : mm_mi m C n (some (.object nm)) hh ow) (h : mm_g C pc = some (.areturn, 1, a, b, v)) : mm_V m pc L [.ref o] μ = some (.inl (some (.ref o)), μ) := by
  refine mv_end hm h rfl rfl ?_
  simp only [mm_rt, hm.2.2.1]
theorem mv_vret (hm : mm_mi m C n none hh ow) (h : mm_g C pc = some (.return_, 1, a, b, v)) : mm_V m pc L [] μ = some (.inl none, μ) := by
  refine mv_end hm h rfl rfl ?_
  simp only [mm_rt, hm.2.2.1, if_true]
theorem mv_throw (hm : mm_mi m C n RT [] ow) (h : mm_g C pc = some (.new c, 3, a, b, v)) (hE : a = 100 + E) : mm_V m pc L [] (T, i, l, R, nx, e) = some (.inr E, (T, i, l, R, nx, mm_te e)) := by
  subst hE
  have h9 : mm_sN (.new c, 3, 100 + E, b, v) [] (T, i, l, R, nx, e) = none := by
    simp only [mm_sN]
    rw [if_neg (by omega)]
  have h8 : mm_st m pc (.new c, 3, 100 + E, b, v) L [] (T, i, l, R, nx, e) = none := by
    unfold mm_st
    simp only [mm_sS, mm_sL, mm_sM, mm_sJ, mm_sT, mm_sG, h9]
  have h7 : mm_tr m pc (.new c, 3, 100 + E, b, v) = some E := by
    simp only [mm_tr]
    rw [if_pos (by omega)]
    congr 1
    omega
  rw [mm_V_eq]
  unfold mm_bd
  simp only [mv_at hm h, h8, mm_cl0, mm_rt, h7, hm.2.2.2.1, true_and, if_true]
  rfl
/-- the library's own -/
theorem mv_len (hm : mm_mi m C n RT hh ow) (h : mm_g C pc = some (.invokevirtual c, 3, 900, b, v)) (hs : mm_sx mm_stb o = some t) (hc : Nat.ble (S.map (fun v => v.category)).sum 8 = true) (hq : pc + 3 = q) (k : mm_V m q L (.int (Int32.ofNat t.length) :: S) μ = X) : mm_V m pc L (.ref o :: S) μ = X := by
  subst hq
  refine mv_ hm h ?_ k
  unfold mm_st
  simp only [mm_sS, mm_sL, mm_sM, mm_sJ, mm_sT, mm_sN, mm_sG, hs, if_pos (Nat.ble_eq.mp hc), and_self, if_true]
theorem mv_charAt (hm : mm_mi m C n RT hh ow) (h : mm_g C pc = some (.invokevirtual c, 3, 901, b, v)) (hs : mm_sx mm_stb o = some t) (hc : Nat.ble (S.map (fun v => v.category)).sum 8 = true) (ho : ¬ mm_out x t.length) (hq : pc + 3 = q) (k : mm_V m q L (.int (Int32.ofNat (t.getD x.toNatClampNeg 0)) :: S) μ = X) : mm_V m pc L (.int x :: .ref o :: S) μ = X := by
  subst hq
  refine mv_ hm h ?_ k
  unfold mm_st
  simp only [mm_sS, mm_sL, mm_sM, mm_sJ, mm_sT, mm_sN, mm_sG, hs]
  rw [if_neg (by omega), if_pos ⟨trivial, trivial⟩, if_pos ⟨Nat.ble_eq.mp hc, ho⟩]
theorem mv_max (hm : mm_mi m C n RT hh ow) (h : mm_g C pc = some (.invokestatic c, 3, 904, b, v)) (hc : Nat.ble (S.map (fun v => v.category)).sum 8 = true) (hq : pc + 3 = q) (k : mm_V m q L (.int (if x < y then y else x) :: S) μ = X) : mm_V m pc L (.int y :: .int x :: S) μ = X := by
  subst hq
  refine mv_ hm h ?_ k
  unfold mm_st
  simp only [mm_sS, mm_sL, mm_sM, mm_sJ, mm_sT, mm_sN]
  rw [if_neg (by omega), if_pos ⟨trivial, trivial⟩, if_pos (Nat.ble_eq.mp hc)]
theorem mv_min (hm : mm_mi m C n RT hh ow) (h : mm_g C pc = some (.invokestatic c, 3, 905, b, v)) (hc : Nat.ble (S.map (fun v => v.category)).sum 8 = true) (hq : pc + 3 = q) (k : mm_V m q L (.int (if y < x then y else x) :: S) μ = X) : mm_V m pc L (.int y :: .int x :: S) μ = X := by
  subst hq
  refine mv_ hm h ?_ k
  unfold mm_st
  simp only [mm_sS, mm_sL, mm_sM, mm_sJ, mm_sT, mm_sN]
  rw [if_neg (by omega), if_neg (by omega), if_pos ⟨trivial, trivial⟩, if_pos (Nat.ble_eq.mp hc)]
theorem mv_copy (hm : mm_mi m C n RT hh ow) (h : mm_g C pc = some (.invokestatic c, 3, 902, b, v)) (hc : Nat.ble (S.map (fun v => v.category)).sum 8 = true) (ho : mm_oc T N o 1 = true) (ho' : mm_oc T N o' 1 = true) (hl : (T o).2 = len) (hl' : (T o').2 = len') (hx : ¬ x < 0 ∧ ¬ y < 0 ∧ ¬ z < 0 ∧ x.toNatClampNeg + z.toNatClampNeg ≤ len ∧ y.toNatClampNeg + z.toNatClampNeg ≤ len') (hq : pc + 3 = q) (k : mm_V m q L S (T, va_up i o' (va_cpy (i o) (i o') x.toNatClampNeg y.toNatClampNeg z.toNatClampNeg), l, R, N) = X) : mm_V m pc L (.int z :: .int y :: .ref o' :: .int x :: .ref o :: S) (T, i, l, R, N) = X := by
  subst hq hl hl'
  refine mv_ hm h ?_ k
  have h1 : mm_wr (T, i, l, R, N) o 1 := mv_oc ho
  have h2 : mm_wr (T, i, l, R, N) o' 1 := mv_oc ho'
  unfold mm_st
  simp only [mm_sS, mm_sL, mm_sM, mm_sJ, mm_sT, mm_sN]
  rw [if_pos ⟨trivial, trivial⟩, if_pos ⟨h1, h2, hx.1, hx.2.1, hx.2.2.1, hx.2.2.2.1, hx.2.2.2.2, Nat.ble_eq.mp hc⟩]
  rfl
end MM43
