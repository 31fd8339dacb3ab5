/-! AT THE LAW'S ENTRY: what the start holds -/
section MMl
variable {s : State} {args : Array Value}
abbrev en_F : List Cond := flatC (Jvm.Cond.and given_1 narrow_1)
theorem en_sl {F L : List Cond} {p n : Nat} (h : (F.drop p).take n = L) : ∀ w ∈ L, w ∈ F := by
  intro w hw
  rw [← h] at hw
  exact List.mem_of_mem_drop (List.mem_of_mem_take hw)
theorem en_Wd (hts : ∀ w ∈ lw_tbl, w.before args s = true) : mm_Wd s := by
  intro w hw ht A
  have h1 := hts w hw
  have hW : s.WarmedH s.vm := State.WarmedH.refl s
  cases w <;> first
    | exact word_at (U := s) hW (Or.inr ⟨_, rfl⟩) h1
    | exact va_tabs (u := s) (U := s) rfl rfl h1
    | exact word_at (U := s) hW (Or.inl ht) h1
/-- what the start says of a text of the class -/
def en_tv (own : String) (k : Nat) : Term := .field (.string own k) "java/lang/String" "value" "[B"
def en_tq (own : String) (k : Nat) (tx : List Nat) : List Cond :=
  .exactly (.string own k) "java/lang/String" :: .eq (.field (.string own k) "java/lang/String" "coder" "B") (.int 0) :: .arrayOf (en_tv own k) .byte :: .eq (.length (en_tv own k)) (.int (Int32.ofNat tx.length)) :: (List.range tx.length).map (fun j => .eq (.elem (en_tv own k) (.int (Int32.ofNat j))) (.int (Int32.ofNat (tx.getD j 0))))
def en_sq (C n d : String) (f : Nat → Int32) (N : Nat) : List Cond :=
  .isRef (.static C n d) :: .arrayOf (.static C n d) .int :: .eq (.length (.static C n d)) (.int (Int32.ofNat N)) :: (List.range N).map (fun j => .eq (.elem (.static C n d) (.int (Int32.ofNat j))) (.int (f j)))
theorem en_len {t : Term} {v : Value} (h : (Term.length t).eval args s none [] s = some v) : ∃ a cell, t.eval args s none [] s = some (.ref a) ∧ s.arrayAt? a = some cell ∧ v = .int cell.slots.size.toInt32 ∧ cell.slots.size < 2147483648 := by
  simp only [Term.eval, Option.bind_eq_bind] at h
  cases ht : t.eval args s none [] s with
  | none => simp [ht] at h
  | some x =>
    cases x <;> simp [ht] at h
    case ref a =>
      obtain ⟨cell, hcell, h⟩ := Option.bind_eq_some_iff.mp h
      by_cases hn : cell.slots.size < 2147483648
      · rw [if_pos hn] at h; cases h; exact ⟨a, cell, rfl, hcell, rfl, hn⟩
      · rw [if_neg hn] at h; cases h
theorem en_fld {t : Term} {a : Nat} {o n d : String} {v : Value} (ht : t.eval args s none [] s = some (.ref a)) (hv : (Term.field t o n d).eval args s none [] s = some v) : ∃ (f : Field) (cell : Cell), s.heap[a]? = some cell ∧ cell.vm ≠ .unknown ∧ (∃ c k i, s.fieldFound? o n d = some (c, k, i, f) ∧ s.vm.assignable cell.cls c = true) ∧ f.isStatic = false ∧ cell.slots[f.slot]? = some v := by
  cases hfo : s.fieldFound? o n d with
  | none =>
    rw [va_fe ht] at hv
    simp [State.fieldOf?, State.fieldNamed?, hfo] at hv
  | some x =>
    obtain ⟨cf, k, fi, f⟩ := x
    obtain ⟨g1, cell, g2, g3, -, g5, g6⟩ := Term.field_spec hfo ht hv
    exact ⟨f, cell, g2, g3, ⟨cf, k, fi, rfl, g5⟩, g1, g6⟩
theorem en_inj {a b : Nat} (h : a.toInt32 = Int32.ofNat b) (ha : a < 2147483648) (hb : b < 2147483648) : a = b := by
  have h1 : (Int32.ofNat a).toNatClampNeg = a := Int32.toNatClampNeg_ofNat_of_lt ha
  have h2 : (Int32.ofNat b).toNatClampNeg = b := Int32.toNatClampNeg_ofNat_of_lt hb
  have h3 : Int32.ofNat a = Int32.ofNat b := h
  rw [← h1, h3, h2]
theorem en_text {own : String} {k : Nat} {tx : List Nat} {A : Nat → Prop} (hlen : tx.length < 1000) (hA : ∀ a : Nat, a < s.heap.size → ¬ A a) (h : ∀ w ∈ en_tq own k tx, w.before args s = true) : ∃ a : Nat, (Term.string own k).eval args s none [] s = some (.ref a) ∧ mm_tS a tx A s s.heap := by
  have hex := h _ (by unfold en_tq; exact List.mem_cons_self)
  have hco := h (.eq (.field (.string own k) "java/lang/String" "coder" "B") (.int 0)) (by unfold en_tq; simp)
  have har := h (.arrayOf (en_tv own k) .byte) (by unfold en_tq; simp)
  have hle := va_eqt (h (.eq (.length (en_tv own k)) (.int (Int32.ofNat tx.length))) (by unfold en_tq; simp))
  have hel : ∀ j : Nat, j < tx.length → (Term.elem (en_tv own k) (.int (Int32.ofNat j))).eval args s none [] s = some (.int (Int32.ofNat (tx.getD j 0))) := fun j hj => va_eqt (h _ (by
    unfold en_tq
    refine List.mem_cons_of_mem _ (List.mem_cons_of_mem _ (List.mem_cons_of_mem _ (List.mem_cons_of_mem _ ?_)))
    exact List.mem_map.mpr ⟨j, List.mem_range.mpr hj, rfl⟩))
  obtain ⟨a, c, cA, kA, q1, q2, q3, q4, q5, q6, -⟩ := Cond.exactly_spec (args := args) (first := s) (o := none) (s := s) (idx := []) hex
  obtain ⟨t, ht, hT⟩ := va_Tof (f := fun j => .int (Int32.ofNat (tx.getD j 0))) (A := A) (N := tx.length) (by omega) har hle hel hA
  obtain ⟨t2, SA, ht2, hat, hv, hsz⟩ := en_len hle
  cases ht.symm.trans ht2
  obtain ⟨hSA, hkn, -, -⟩ := State.arrayAt?_spec hat
  obtain ⟨cell, g1, g2, g3, g4, g5, g6, g7⟩ := hT
  cases hSA.symm.trans g1
  obtain ⟨fC, cC, e1, e2, e3, e4, e5⟩ := en_fld q1 (va_eqt hco)
  cases q3.symm.trans e1
  obtain ⟨fV, cV, d1, d2, d3, d4, d5⟩ := en_fld q1 ht
  cases q3.symm.trans d1
  exact ⟨a, q1, cA, fV, fC, t, SA, q3, e2, q5, by rw [q6]; exact q2, d3, e3, d4, e4, d5, e5, hSA, g2, g3, en_inj g5 hsz (by omega), g6, hA a (Array.getElem?_eq_some_iff.mp q3).1, g7⟩
def en_ps : List Nat := [608, 681, 749, 793, 824, 142, 163, 359]
def en_wl : List Nat := [6012, 6013, 6014, 6015, 6016, 3048, 3049, 5183]
def en_tk (j : Nat) : Bool := match mm_lds[j]?, mm_sx mm_stb (1000100 + j), en_ps[j]?, en_wl[j]? with
  | some q, some tx, some p, some w => decide ((en_F.drop p).take (4 + tx.length) = en_tq (mm_RN q.1) q.2.1 tx) && decide (mm_w w = some (.stringRef (mm_RN q.1) q.2.1 q.2.2))
  | _, _, _, _ => false
theorem en_tc : (List.range 8).all en_tk = true := by decide +kernel
def en_ws : List Nat := [5089, 5124, 5142, 6097, 6124, 6125, 6134, 6144, 6153, 7009, 7017, 7045, 7052, 7077, 6169, 6179]
def en_mk (i : Nat) : Bool := match mm_mgs[i]?, en_ws[i]? with
  | some q, some w => decide (mm_w w = some (.stringRef (mm_RN 11) q.1 q.2)) && decide (Cond.exactly (.string (mm_RN 11) q.1) "java/lang/String" ∈ en_F)
  | _, _ => false
theorem en_mc : (List.range 16).all en_mk = true := by decide +kernel
theorem en_ml : mm_mgs.length = 16 := by decide +kernel
theorem en_ll : mm_lds.length = 8 := by decide +kernel
theorem en_s1 : (en_F.drop 49).take 8 = en_sq "GuardHouse$Compiler" "ALL_PERMISSIONS" "[I" (fun j => nI (mAp j)) 5 := by decide +kernel
theorem en_s2 : (en_F.drop 9).take 28 = en_sq "GuardHouse$EventReader" "NUMBERS" "[I" (fun j => nI (eNu j)) 25 := by decide +kernel
theorem en_s3 : (en_F.drop 39).take 10 = en_sq "GuardHouse$Policy" "MOST" "[I" (fun j => nI (mMx j)) 7 := by decide +kernel
theorem en_nc : (List.range 5).all (fun x => (List.range 5).all (fun y => decide (x = y) || decide (Cond.not (.castable (mm_XN x) (mm_XN y)) ∈ en_F))) = true := by decide +kernel
def en_iw : List Nat := [1055, 1202, 2003, 2192, 2112, 2060, 2167, 1061, 1038, 1144, 2066, 1030, 7086]
theorem en_ic : (List.range 13).all (fun o => decide (mm_w (en_iw.getD o 0) = some (.instantiable (mm_RN o) (mm_nf o)))) = true := by decide +kernel
theorem en_stat {C n d : String} {f : Nat → Int32} {N : Nat} {A : Nat → Prop} (hN : N < 1000) (hA : ∀ a : Nat, a < s.heap.size → ¬ A a) (hl : (Cond.laysStatic C n d).before args s = true) (hini : (Cond.initialized C).before args s = true) (h : ∀ w ∈ en_sq C n d f N, w.before args s = true) : ∃ t : Nat, va_Z C n d (.ref t) A s s.heap ∧ va_T .int t N (fun j => .int (f j)) A s s.heap := by
  have har := h (.arrayOf (.static C n d) .int) (by unfold en_sq; simp)
  have hle := va_eqt (h (.eq (.length (.static C n d)) (.int (Int32.ofNat N))) (by unfold en_sq; simp))
  have hel : ∀ j : Nat, j < N → (Term.elem (.static C n d) (.int (Int32.ofNat j))).eval args s none [] s = some (.int (f j)) := fun j hj => va_eqt (h _ (by
    unfold en_sq
    refine List.mem_cons_of_mem _ (List.mem_cons_of_mem _ (List.mem_cons_of_mem _ ?_))
    exact List.mem_map.mpr ⟨j, List.mem_range.mpr hj, rfl⟩))
  obtain ⟨t, ht, hT⟩ := va_Tof (f := fun j => .int (f j)) (A := A) (N := N) (by omega) har hle hel hA
  exact ⟨t, va_Zof hl hini ht hA, hT⟩
theorem en_arr {ty : FieldType} (h : (Cond.arrayClass ty).before args s = true) : ∃ c : ClassId, ArrOfT s c ty ∧ s.vm.findClass ("[" ++ ty.toString) = some c := by
  obtain ⟨c, k, comp, h1, h2, h3⟩ := Cond.arrayClass_spec h
  exact ⟨c, fun n z => ⟨fun k h => (by cases h), k, h2, comp, h3⟩, h1⟩
theorem en_K (hts : ∀ w ∈ lw_tbl, w.before args s = true) : ∃ (D : va_G) (cA : Nat → ClassId), va_K D mm_K (mm_tyl cA) s := by
  have h0 : ∀ o : Nat, ∃ q : ClassId × (Nat → Nat), o < 13 → u_Kn s (mm_RN o) (mm_TF o) (mm_nf o) q.1 q.2 := by
    intro o
    by_cases ho : o < 13
    · have h1 := List.all_eq_true.mp en_ic o (List.mem_range.mpr ho)
      obtain ⟨c, i, h2⟩ := u_known (n := mm_nf o) hts (mm_uw ho) (hts _ (mm_w_in (of_decide_eq_true h1)))
      exact ⟨(c, i), fun _ => h2⟩
    · exact ⟨(0, fun _ => 0), fun h => absurd h ho⟩
  obtain ⟨ad, had⟩ := Classical.axiomOfChoice h0
  obtain ⟨c1, a1, b1⟩ := en_arr (hts (.arrayClass .int) (mm_w_in (i := 1142) (by decide +kernel)))
  obtain ⟨c2, a2, b2⟩ := en_arr (hts (.arrayClass .byte) (mm_w_in (i := 1053) (by decide +kernel)))
  obtain ⟨c3, a3, b3⟩ := en_arr (hts (.arrayClass .boolean) (mm_w_in (i := 8198) (by decide +kernel)))
  obtain ⟨c4, a4, b4⟩ := en_arr (hts (.arrayClass .long) (mm_w_in (i := 1168) (by decide +kernel)))
  refine ⟨(fun o => (ad o).1, fun o => (ad o).2), fun n => if n = 1 then c1 else if n = 2 then c2 else if n = 3 then c3 else c4, fun o q hq => ?_, fun k q hq => ?_⟩
  · have ho : o < 13 := (List.getElem?_eq_some_iff.mp hq).1
    rw [mm_K_at ho] at hq
    cases hq
    exact had o ho
  · match k, hq with
    | 0, hq => cases hq; exact ⟨a1, b1⟩
    | 1, hq => cases hq; exact ⟨a2, b2⟩
    | 2, hq => cases hq; exact ⟨a3, b3⟩
    | 3, hq => cases hq; exact ⟨a4, b4⟩
    | k + 4, hq => simp at hq
/-- the ints of what was there before -/
def en_i (xs : Nat → Int32) : Nat → Nat → Int32 := fun o j => if o = 1000000 then xs j else if o = 1000001 then nI (mAp j) else if o = 1000002 then nI (eNu j) else if o = 1000003 then nI (mMx j) else 0
theorem en_ST {xs : Nat → Int32} : ST (en_i xs) := ⟨fun _ _ => rfl, fun _ _ => rfl⟩
theorem en_ES {xs : Nat → Int32} : ES (en_i xs) := fun _ _ => rfl
/-- where things lie -/
def en_r (n b t1 t2 t3 : Nat) (tx : Nat → Nat) : Nat → Nat := fun k => if k < 1000000 then n + k else if k = 1000000 then b else if k = 1000001 then t1 else if k = 1000002 then t2 else if k = 1000003 then t3 else tx (k - 1000100)
theorem en_zk : mm_stb.map (fun q => q.1) = (List.range 8).map (fun j => 1000100 + j) := by decide +kernel
theorem en_zx : ∀ {l : List (Nat × List Nat)} {z : Nat} {tx : List Nat}, mm_sx l z = some tx → z ∈ l.map (fun q => q.1)
  | [], z, tx, h => by simp [mm_sx] at h
  | (k, t) :: l, z, tx, h => by
    unfold mm_sx at h
    by_cases hk : k = z
    · subst hk; simp
    · rw [if_neg hk] at h
      exact List.mem_cons_of_mem _ (en_zx h)
theorem en_z8 {z : Nat} {tx : List Nat} (h : mm_sx mm_stb z = some tx) : ∃ j, j < 8 ∧ z = 1000100 + j := by
  have h1 := en_zx h
  rw [en_zk] at h1
  obtain ⟨j, hj, e⟩ := List.mem_map.mp h1
  exact ⟨j, List.mem_range.mp hj, e.symm⟩
theorem en_bq {a b : Nat} (h : a ≠ b) : Nat.beq a b = false := by
  cases e : Nat.beq a b
  · rfl
  · exact absurd (Nat.eq_of_beq_eq_true e) h
theorem en_ts {L o : Nat} (h0 : o ≠ 1000000) (h1 : o ≠ 1000001) (h2 : o ≠ 1000002) (h3 : o ≠ 1000003) : mm_ts L o = (0, 0) := by
  unfold mm_ts
  rw [en_bq h0, en_bq h1, en_bq h2, en_bq h3]
  rfl
set_option maxHeartbeats 1000000 in
theorem en_env {b L : Nat} {xs : Nat → Int32} (hL : L ≤ 2560) (hts : ∀ w ∈ lw_tbl, w.before args s = true) (hF : ∀ w ∈ en_F, w.before args s = true) (hX : va_X b L xs s s.heap) (hb : b < s.heap.size) :
    ∃ (D : va_G) (cA : Nat → ClassId) (r : Nat → Nat), (∀ k, k < 1000000 → r k = s.heap.size + k) ∧ r 1000000 = b ∧ mm_Env D cA r (mm_A s.heap.size) s s.heap ∧ mm_Old r (mm_A s.heap.size) (mm_ts L, en_i xs, fun _ _ => 0, fun _ _ => .null, 0, true, 0, 0) s s.heap := by
  have hA : ∀ a : Nat, a < s.heap.size → ¬ mm_A s.heap.size a := fun a h1 h2 => Nat.not_le.mpr h1 h2
  obtain ⟨D, cA, hK⟩ := en_K hts
  have hw := en_Wd hts
  obtain ⟨t1, z1, y1⟩ := en_stat (A := mm_A s.heap.size) (N := 5) (by omega) hA (hts _ (mm_w_in (i := 6008) (by decide +kernel))) (hts _ (mm_w_in (i := 1003) (by decide +kernel))) (fun w h => hF w (en_sl en_s1 w h))
  obtain ⟨t2, z2, y2⟩ := en_stat (A := mm_A s.heap.size) (N := 25) (by omega) hA (hts _ (mm_w_in (i := 3102) (by decide +kernel))) (hts _ (mm_w_in (i := 1006) (by decide +kernel))) (fun w h => hF w (en_sl en_s2 w h))
  obtain ⟨t3, z3, y3⟩ := en_stat (A := mm_A s.heap.size) (N := 7) (by omega) hA (hts _ (mm_w_in (i := 5194) (by decide +kernel))) (hts _ (mm_w_in (i := 1004) (by decide +kernel))) (fun w h => hF w (en_sl en_s3 w h))
  have h0 : ∀ j : Nat, ∃ a : Nat, j < 8 → (∀ q, mm_lds[j]? = some q → vk_R (mm_RN q.1) q.2.1 q.2.2 a s) ∧ ∀ tx, mm_sx mm_stb (1000100 + j) = some tx → mm_tS a tx (mm_A s.heap.size) s s.heap := by
    intro j
    by_cases hj : j < 8
    · have h1 := List.all_eq_true.mp en_tc j (List.mem_range.mpr hj)
      unfold en_tk at h1
      split at h1
      · rename_i q tx p w e1 e2 e3 e4
        rw [Bool.and_eq_true, decide_eq_true_eq, decide_eq_true_eq] at h1
        obtain ⟨a, g1, g2⟩ := en_text (A := mm_A s.heap.size) (tx_ok e2).2 hA (fun w h => hF w (en_sl h1.1 w h))
        refine ⟨a, fun _ => ⟨fun q' hq' => ?_, fun tx' htx' => ?_⟩⟩
        · cases e1.symm.trans hq'
          exact vk_R.of (hts _ (mm_w_in h1.2)) g1
        · cases e2.symm.trans htx'
          exact g2
      · cases h1
    · exact ⟨0, fun h => absurd h hj⟩
  obtain ⟨ad, had⟩ := Classical.axiomOfChoice h0
  have hr : ∀ j : Nat, en_r s.heap.size b t1 t2 t3 ad (1000100 + j) = ad j := by
    intro j
    unfold en_r
    rw [if_neg (by omega), if_neg (by omega), if_neg (by omega), if_neg (by omega), if_neg (by omega), Nat.add_sub_cancel_left]
  have hr1 : en_r s.heap.size b t1 t2 t3 ad 1000001 = t1 := rfl
  have hr2 : en_r s.heap.size b t1 t2 t3 ad 1000002 = t2 := rfl
  have hr3 : en_r s.heap.size b t1 t2 t3 ad 1000003 = t3 := rfl
  refine ⟨D, cA, en_r s.heap.size b t1 t2 t3 ad, fun k hk => if_pos hk, rfl, ⟨hw, hK, fun j q hj => ?_, fun j q hj => ?_, fun q hq => ?_, ?_, ?_, fun x y hx hy hxy => ?_, fun z tx hz => ?_, ?_, ?_⟩, fun o ho ht => ?_⟩
  · match j, hj with
    | 0, hj => cases hj; exact z1
    | 1, hj => cases hj; exact z2
    | 2, hj => cases hj; exact z3
    | j + 3, hj => simp [mm_sts] at hj
  · have h8 : j < 8 := by rw [← en_ll]; exact (List.getElem?_eq_some_iff.mp hj).1
    rw [hr]
    exact (had j h8).1 q hj
  · obtain ⟨i, hi⟩ := List.mem_iff_getElem?.mp hq
    have h16 : i < 16 := by rw [← en_ml]; exact (List.getElem?_eq_some_iff.mp hi).1
    have h1 := List.all_eq_true.mp en_mc i (List.mem_range.mpr h16)
    unfold en_mk at h1
    split at h1
    · rename_i q' w e1 e2
      cases hi.symm.trans e1
      rw [Bool.and_eq_true, decide_eq_true_eq, decide_eq_true_eq] at h1
      obtain ⟨a, c, cA, kA, q1, -⟩ := Cond.exactly_spec (args := args) (first := s) (o := none) (s := s) (idx := []) (hF _ h1.2)
      exact ⟨a, vk_R.of (hts _ (mm_w_in h1.1)) q1⟩
    · cases h1
  · exact vx_Zqof (hts _ (mm_w_in (i := 5073) (by decide +kernel))) (hts _ (mm_w_in (i := 1015) (by decide +kernel))) (hF _ (by decide +kernel)) hA
  · exact vx_Zqof (hts _ (mm_w_in (i := 5075) (by decide +kernel))) (hts _ (mm_w_in (i := 1015) (by decide +kernel))) (hF _ (by decide +kernel)) hA
  · have h1 := List.all_eq_true.mp (List.all_eq_true.mp en_nc x (List.mem_range.mpr hx)) y (List.mem_range.mpr hy)
    rw [Bool.or_eq_true, decide_eq_true_eq, decide_eq_true_eq] at h1
    exact va_Nc.of (hF _ (h1.resolve_left hxy))
  · have hz8 : ∃ j, j < 8 ∧ z = 1000100 + j := en_z8 hz
    obtain ⟨j, hj, rfl⟩ := hz8
    rw [hr]
    exact (had j hj).2 tx hz
  · exact va_Zof (hts _ (mm_w_in (i := 3062) (by decide +kernel))) (hts _ (mm_w_in (i := 1020) (by decide +kernel))) (va_eqt (hF (.eq (.static "java/lang/String" "COMPACT_STRINGS" "Z") (.int 1)) (by decide +kernel))) hA
  · exact va_Zqof (hts _ (mm_w_in (i := 3078) (by decide +kernel))) (hts _ (mm_w_in (i := 1022) (by decide +kernel))) (hF _ (by decide +kernel)) hA
  · have ht2 : (mm_ts L o).1 = 1 := ht
    show va_T .int (en_r s.heap.size b t1 t2 t3 ad o) (mm_ts L o).2 (fun j => .int (en_i xs o j)) (mm_A s.heap.size) s s.heap
    by_cases e0 : o = 1000000
    · subst e0
      obtain ⟨scr, g1, g2, g3, g4, g5⟩ := hX
      exact ⟨scr, g1, g2, g3, by rw [g4]; exact Nat.le_refl _, by rw [g4]; rfl, g5, hA b hb⟩
    · by_cases e1 : o = 1000001
      · subst e1; exact y1
      · by_cases e2 : o = 1000002
        · subst e2; exact y2
        · by_cases e3 : o = 1000003
          · subst e3; exact y3
          · exfalso
            rw [en_ts e0 e1 e2 e3] at ht2
            cases ht2
end MMl
