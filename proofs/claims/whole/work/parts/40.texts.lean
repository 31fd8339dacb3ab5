/-! TEXTS: length() and charAt() of the library -/
section MMk
/-- the entries that call them lie in one method -/
def tx_row (k : Nat) (L : List (Option mm_E)) : Bool := L.all (fun x => match x with
  | none => true
  | some en => match en.1 with
    | .invokevirtual i => (decide (en.2.2.1 ≠ 900) || (decide (k = 129) && decide (i = 23))) && (decide (en.2.2.1 ≠ 901) || (decide (k = 129) && decide (i = 29)))
    | _ => true)
theorem tx_all : (List.range 363).all (fun k => tx_row k (mm_codes.getD k [])) = true := by decide +kernel
theorem tx_len : mm_codes.length = 363 := by decide +kernel
theorem tx_in {k pc i : Nat} {en : mm_E} (h : mm_at k pc = some en) (hi : en.1 = .invokevirtual i) : (en.2.2.1 = 900 → k = 129 ∧ i = 23) ∧ (en.2.2.1 = 901 → k = 129 ∧ i = 29) := by
  unfold mm_at at h
  split at h
  · rename_i x hx
    subst h
    by_cases hk : k < 363
    · have h1 := List.all_eq_true.mp tx_all k (List.mem_range.mpr hk)
      have h2 := List.all_eq_true.mp h1 _ (List.mem_of_getElem? hx)
      dsimp only at h2
      rw [hi] at h2
      dsimp only at h2
      rw [Bool.and_eq_true, Bool.or_eq_true, Bool.or_eq_true, Bool.and_eq_true, Bool.and_eq_true, decide_eq_true_eq, decide_eq_true_eq, decide_eq_true_eq, decide_eq_true_eq, decide_eq_true_eq] at h2
      exact ⟨fun e => h2.1.resolve_left (fun n => n e), fun e => h2.2.resolve_left (fun n => n e)⟩
    · have hn : mm_codes[k]? = none := List.getElem?_eq_none (by rw [tx_len]; omega)
      rw [List.getD_eq_getElem?_getD, hn] at hx
      simp at hx
  · cases h
/-- a method of its own class: its word by two others -/
theorem tx_decl {args : Array Value} {s : State} {x : MethodName} {bs : ByteArray} {n : Nat} {ret : Option FieldType} (h1 : (Cond.instanceMethod x).before args s = true) (h2 : (Cond.code x bs n ret).before args s = true) : (Cond.declares x).before args s = true := by
  obtain ⟨mk, meth, g1, g2, g3, g4⟩ := Cond.instanceMethod_spec h1
  obtain ⟨meth', c, q1, q2, q3, q4, q5, q6, q7, q8⟩ := Cond.code_spec g1 h2
  cases g2.symm.trans q1
  show (Cond.declares x).holds args s none s [] = true
  simp only [Cond.holds, Cond.value, g1, g2, Option.bind_some, Option.map_some, beq_iff_eq, Option.some.injEq]
  simp [g3, q8]
theorem tx_asc : mm_stb.all (fun q => q.2.all (fun x => decide (x < 128)) && decide (q.2.length < 1000)) = true := by decide +kernel
theorem tx_sx : ∀ {l : List (Nat × List Nat)} {z : Nat} {tx : List Nat}, mm_sx l z = some tx → ∃ q ∈ l, q.2 = tx
  | [], z, tx, h => by simp [mm_sx] at h
  | x :: l, z, tx, h => by
    unfold mm_sx at h
    split at h
    · cases h
      exact ⟨x, List.mem_cons_self, rfl⟩
    · obtain ⟨q, g1, g2⟩ := tx_sx h
      exact ⟨q, List.mem_cons_of_mem _ g1, g2⟩
theorem tx_ok {z : Nat} {tx : List Nat} (h : mm_sx mm_stb z = some tx) : (∀ x ∈ tx, x < 128) ∧ tx.length < 1000 := by
  obtain ⟨q, g1, rfl⟩ := tx_sx h
  have h1 := List.all_eq_true.mp tx_asc q g1
  rw [Bool.and_eq_true, decide_eq_true_eq] at h1
  exact ⟨fun x hx => of_decide_eq_true (List.all_eq_true.mp h1.1 x hx), h1.2⟩
theorem tx_fits : ∀ x : Nat, x < 128 → fits .byte (.int (Int32.ofNat x)) = true := by decide +kernel
theorem tx_Sl {a : Nat} {tx : List Nat} {A : Nat → Prop} {T : State} (h : mm_tS a tx A T T.heap) (hasc : ∀ x ∈ tx, x < 128) (hlen : tx.length < 1000) : ∃ (q : Jvm.Free.SB.SQ) (cS : ClassId), Jvm.Free.SBG.Sl q cS T ∧ q.sa = a ∧ q.SA.slots.size = tx.length ∧ ∀ j : Nat, j < tx.length → q.SA.slots[j]? = some (.int (Int32.ofNat (tx.getD j 0))) := by
  obtain ⟨C, fV, fC, d, SA, h1, h2, h3, h4, h5, h6, h7, h8, h9, h10, h11, h12, h13, h14, h15, h16, h17⟩ := h
  refine ⟨(a, C, fV, fC, d, SA, tx.length), C.cls, ⟨⟨h1, h2, h3, h5, h6, h7, h8, h9, h10, h11, h12, h13, h14, ?_, ?_, ?_⟩, h4, rfl⟩, rfl, h14, h15⟩
  · show tx.length < 2 ^ 31
    omega
  · intro e
    have e2 : a = d := e
    subst e2
    cases h1.symm.trans h11
    have h20 := (Array.getElem?_eq_some_iff.mp h9).1
    have h21 := h15 fV.slot (by omega)
    cases h9.symm.trans h21
  · intro i hi
    have hi2 : i < SA.slots.size := hi
    have h20 := h15 i (by omega)
    show fits .byte (SA.slots.getD i .null) = true
    rw [Array.getD_eq_getD_getElem?, h20]
    refine tx_fits _ ?_
    rw [List.getD_eq_getElem?_getD, List.getElem?_eq_getElem (by omega)]
    exact hasc _ (List.getElem_mem _)
def tx_ck : List Cond → List Nat → Bool
  | [], [] => true
  | w :: L, q :: ps => decide (mm_w q = some w) && mm_tw w && tx_ck L ps
  | _, _ => false
theorem tx_ckok : ∀ {L : List Cond} {ps : List Nat}, tx_ck L ps = true → ∀ w ∈ L, w ∈ lw_tbl ∧ mm_tw w = true
  | [], _, _, w, hw => absurd hw List.not_mem_nil
  | x :: L, [], h, w, hw => by cases h
  | x :: L, q :: ps, h, w, hw => by
    unfold tx_ck at h
    rw [Bool.and_eq_true, Bool.and_eq_true, decide_eq_true_eq] at h
    rcases List.mem_cons.mp hw with e | hw
    · rw [e]; exact ⟨mm_w_in h.1.1, h.1.2⟩
    · exact tx_ckok h.2 w hw
def tx_cw : List Cond := [.code Jvm.Free.Fmt.SCh.yN Jvm.Free.Fmt.SCh.yB 2 (some .char), .initialized "java/lang/String", .methodLink "java/lang/String" 492 Jvm.Free.Str.ilN, .selects "java/lang/String" Jvm.Free.Str.ilN Jvm.Free.Str.ilN, .instanceMethod Jvm.Free.Str.ilN, .fieldLink "java/lang/String" 9 "java/lang/String" "value" "[B", .methodLink "java/lang/String" 495 Jvm.Free.Fmt.LCh.yN, .static Jvm.Free.Fmt.LCh.yN] ++ Jvm.Free.Fmt.LCh.words
theorem tx_c1 : tx_ck tx_cw [3066, 1020, 3067, 3069, 3068, 11062, 3071, 3072, 3073, 1021, 3074, 3075, 3076, 1020, 3077, 3079, 3080, 3081, 1022] = true := by decide +kernel
def tx_ow : List Cond := [.code Jvm.Free.Str.lnN Jvm.Free.Str.lnB 1 (some .int), .methodLink "java/lang/String" 335 Jvm.Free.Str.coN, .selects "java/lang/String" Jvm.Free.Str.coN Jvm.Free.Str.coN, .instanceMethod Jvm.Free.Str.coN, .code Jvm.Free.Str.coN Jvm.Free.Str.coB 1 (some .byte), .fieldLink "java/lang/String" 38 "java/lang/String" "COMPACT_STRINGS" "Z", .fieldLink "java/lang/String" 15 "java/lang/String" "coder" "B", .code Jvm.Free.Str.ilN Jvm.Free.Str.ilB 1 (some .boolean), .methodLink (mm_RN 8) 23 Jvm.Free.Str.lnN, .methodLink (mm_RN 8) 29 Jvm.Free.Fmt.SCh.yN, .selects "java/lang/String" Jvm.Free.Str.lnN Jvm.Free.Str.lnN, .instanceMethod Jvm.Free.Str.lnN, .selects "java/lang/String" Jvm.Free.Fmt.SCh.yN Jvm.Free.Fmt.SCh.yN, .instanceMethod Jvm.Free.Fmt.SCh.yN]
theorem tx_c2 : tx_ck tx_ow [3056, 3057, 3059, 3058, 3060, 3061, 11063, 3070, 3053, 3063, 3055, 3054, 3065, 3064] = true := by decide +kernel
theorem tx_wd {s : State} (h : mm_Wd s) (args : Array Value) : (∀ w ∈ tx_cw, w.before args s = true) ∧ ∀ w ∈ tx_ow, w.before args s = true :=
  ⟨fun w hw => h w (tx_ckok tx_c1 w hw).1 (tx_ckok tx_c1 w hw).2 args, fun w hw => h w (tx_ckok tx_c2 w hw).1 (tx_ckok tx_c2 w hw).2 args⟩
theorem tx_str : Jvm.Lib.str = "java/lang/String" := rfl
theorem tx_words {s : State} (h : mm_Wd s) (args : Array Value) : (∀ w ∈ Jvm.Free.Fmt.SCh.words, w.before args s = true) ∧ Jvm.Free.Str.LN.tab.before args s = true := by
  obtain ⟨h1, h2⟩ := tx_wd h args
  refine ⟨fun w hw => ?_, ?_⟩
  · unfold Jvm.Free.Fmt.SCh.words at hw
    rcases List.mem_append.mp hw with hw | hw
    · simp only [List.mem_cons, List.not_mem_nil, or_false] at hw
      rcases hw with rfl | rfl | rfl | rfl | rfl | rfl | rfl | rfl | rfl | rfl
      · exact h1 _ (by simp [tx_cw, tx_str])
      · exact h1 _ (by simp [tx_cw, tx_str])
      · exact h1 _ (by simp [tx_cw, tx_str])
      · exact tx_decl (h1 _ (by simp [tx_cw, tx_str])) (h2 (.code Jvm.Free.Str.ilN Jvm.Free.Str.ilB 1 (some .boolean)) (by simp [tx_ow, tx_str]))
      · exact h1 _ (by simp [tx_cw, tx_str])
      · exact h1 _ (by simp [tx_cw, tx_str])
      · simp only [Jvm.Free.Str.IL.tab, Cond.before_and, Bool.and_eq_true]
        exact ⟨h2 _ (by simp [tx_ow, tx_str]), h2 _ (by simp [tx_ow, tx_str]), h2 _ (by simp [tx_ow, tx_str])⟩
      · exact h1 _ (by simp [tx_cw, tx_str])
      · exact h1 _ (by simp [tx_cw, tx_str])
      · exact h1 _ (by simp [tx_cw, tx_str])
    · exact h1 _ (List.mem_append_right _ hw)
  · simp only [Jvm.Free.Str.LN.tab, Jvm.Free.Str.CO.tab, Cond.before_and, Bool.and_eq_true]
    exact ⟨h2 _ (by simp [tx_ow, tx_str]), h1 _ (by simp [tx_cw, tx_str]), h2 _ (by simp [tx_ow, tx_str]), tx_decl (h2 (.instanceMethod Jvm.Free.Str.coN) (by simp [tx_ow, tx_str])) (h2 (.code Jvm.Free.Str.coN Jvm.Free.Str.coB 1 (some .byte)) (by simp [tx_ow, tx_str])), h2 _ (by simp [tx_ow, tx_str]), h2 _ (by simp [tx_ow, tx_str]), ⟨h2 _ (by simp [tx_ow, tx_str]), h2 _ (by simp [tx_ow, tx_str]), h2 _ (by simp [tx_ow, tx_str])⟩, h1 _ (by simp [tx_cw, tx_str])⟩
theorem tx_st {C n d : String} {v : Value} {A : Nat → Prop} {U : State} (h : va_Z C n d v A U U.heap) : Jvm.Lib.Cold.StaticIs U C n d v := by
  obtain ⟨cf, kf, fi, f, a, cell, h1, h2, h3, h4, h5, h6, h7, h8⟩ := h
  exact ⟨cf, fi, kf, f, a, cell, h1, h2, h3, h4, h5, (fun e => by rw [e] at h6; cases h6), h7⟩
theorem tx_sio {A : Nat → Prop} {U : State} (h : va_Zq "jdk/internal/util/Preconditions" "SIOOBE_FORMATTER" "Ljava/util/function/BiFunction;" A U U.heap) : ∃ w, Jvm.Free.Fmt.Sio w U := by
  rcases h with h | ⟨t, h⟩
  · exact ⟨.null, Or.inl rfl, tx_st h⟩
  · exact ⟨.ref t, Or.inr ⟨t, rfl⟩, tx_st h⟩
theorem tx_fr : mm_fr 129 = 4 := by decide +kernel
theorem tx_lo : mm_lo 129 = 96 := by decide +kernel
set_option maxHeartbeats 1000000 in
theorem mm_sr_ok (l : Launch) : mm_SR l := by
  intro p e R s m args below meth c H locs cells slots Q pc ls r cA D b μ k en S S' i C E hat hi hq hdg hS hbs hsz hcl hsl kk
  obtain ⟨c1, c2, c3, c4, c5, c6, c7, c8, c9, c10, c11⟩ := C
  obtain ⟨hw, hK, hSt, hLd, hMg, hU, hN, hNc, hTx⟩ := E
  obtain ⟨w1, w2⟩ := tx_words hw args
  obtain ⟨w3, w4⟩ := tx_wd hw args
  have hin := tx_in hat hi
  unfold mm_sG at hq
  rw [hi] at hq hdg
  dsimp only at hq
  split at hq
  · rename_i h9
    obtain ⟨rfl, rfl⟩ := hin.1 h9.2
    rw [h9.1] at hdg kk
    split at hq
    · rename_i o rs
      split at hq
      · rename_i tx htx
        split at hq
        · rename_i hwt
          cases hq
          intro T hT X
          have hqq : ∀ a : Nat, a < s.heap.size → ¬ mm_A b a → T.heap[a]? = s.heap[a]? := fun a h1 h2 => by rw [hT]; exact hS.2.1 a h1 h2
          obtain ⟨q, cS, hSl, hsa, hsz2, hel⟩ := tx_Sl (mm_tS.moved X.warmed.alike (mm_tS.kept (hTx.1 o tx htx) hqq)) (tx_ok htx).1 (tx_ok htx).2
          have hZ := tx_st (va_Z.moved X.warmed.alike (va_Z.kept hTx.2.1 hqq))
          have hsel := w4 (.selects "java/lang/String" Jvm.Free.Str.lnN Jvm.Free.Str.lnN) (by simp [tx_ow])
          have hal : ∀ vmx, s.WarmedH vmx → T.vm.Alike vmx := fun vmx hWx => X.warmed.alike.symm.trans hWx.alike
          have hLP : ∀ vmx, s.WarmedH vmx → Jvm.Free.Str.LN.P q.fSC q.fSV q.sa q.sC 0 q.sd q.SA 1 #[.ref q.sa] (T.setVm vmx) := fun vmx hWx =>
            ⟨rfl, Jvm.Free.Str.Sl.strAt (Jvm.Free.Fmt.slSame' (U' := T.setVm vmx) (hal vmx hWx) rfl hSl), hZ.there (hal vmx hWx) rfl, by decide, by decide⟩
          have hcS : s.vm.findClass "java/lang/String" = some cS := by rw [← X.warmed.alike.findClass]; exact hSl.2.1
          obtain ⟨v3, vm3, ⟨T3, L3, c3', n3⟩, hW3, X3, ⟨⟨hq3, hL3, hc3, hn3⟩, rel3⟩, come3⟩ := X.virtualBack c1 (own := mm_RN 8) (C := "java/lang/String") (index := 23) (y := Jvm.Free.Str.lnN) (z := Jvm.Free.Str.lnN) c4 (w4 _ (by simp [tx_ow])) (tx_decl (w4 (.instanceMethod Jvm.Free.Str.lnN) (by simp [tx_ow])) (w4 (.code Jvm.Free.Str.lnN Jvm.Free.Str.lnB 1 (some .int)) (by simp [tx_ow]))) (notFace_of_selects hsel) hsel (w4 _ (by simp [tx_ow])) (by decide)
            (Jvm.Free.Str.LN.pays (l := l) (W := 8) (by rw [tx_fr] at c9; omega) (by rw [tx_lo] at c10; omega) w2) hcS ⟨q.sC, hSl.1.1, hSl.2.2, hSl.1.2.2.1⟩
            (g := F0 m pc ls ((Value.ref o :: rs).map (mm_cv r))) rfl (hsz.trans c3.symm) (Steps.refl _) (argsL := []) (rest := rs.map (mm_cv r))
            (fun sig h => by rw [show parseMethodDescriptor Jvm.Free.Str.lnN.desc = some ⟨[], some .int⟩ from by decide +kernel] at h; rw [← Option.some.inj h]; rfl) (by rw [hsa]; rfl) (lv_room (by rw [mm_wt]; exact hwt)) (by rw [c2]; exact hdg)
            (fun vmx hWx => ⟨hcl, hsl, (q.fSC, q.fSV, q.sa, q.sC, 0, q.sd, q.SA, 1), hLP vmx hWx⟩)
          dsimp only [Pt.U, Pt.locs, Pt.cells, Pt.slots] at X3 hq3 hL3 hc3 hn3 rel3 come3
          subst hL3 hc3 hn3
          have hv3 := rel3 (q.fSC, q.fSV, q.sa, q.sC, 0, q.sd, q.SA, 1) (hLP vm3 hW3)
          rw [show Jvm.Free.Str.LN.ans q.SA 0 = Int32.ofNat q.SA.slots.size from Jvm.Free.Str.LN.latin1 _, hsz2] at hv3
          subst hv3
          obtain ⟨t, a1, b1⟩ := kk T3 (hq3.trans hT) X3
          exact ⟨t, come3.trans a1, b1⟩
        · cases hq
      · cases hq
    · cases hq
  · split at hq
    · rename_i h9
      obtain ⟨rfl, rfl⟩ := hin.2 h9.2
      rw [h9.1] at hdg kk
      split at hq
      · rename_i i0 o rs
        split at hq
        · rename_i tx htx
          split at hq
          · rename_i hwt
            obtain ⟨hwt, hout⟩ := hwt
            cases hq
            intro T hT X
            have hqq : ∀ a : Nat, a < s.heap.size → ¬ mm_A b a → T.heap[a]? = s.heap[a]? := fun a h1 h2 => by rw [hT]; exact hS.2.1 a h1 h2
            obtain ⟨q, cS, hSl, hsa, hsz2, hel⟩ := tx_Sl (mm_tS.moved X.warmed.alike (mm_tS.kept (hTx.1 o tx htx) hqq)) (tx_ok htx).1 (tx_ok htx).2
            have hZ := tx_st (va_Z.moved X.warmed.alike (va_Z.kept hTx.2.1 hqq))
            obtain ⟨w, hio⟩ := tx_sio (va_Zq.moved X.warmed.alike (va_Zq.kept hTx.2.2 hqq))
            have hsel := w4 (.selects "java/lang/String" Jvm.Free.Fmt.SCh.yN Jvm.Free.Fmt.SCh.yN) (by simp [tx_ow])
            have hal : ∀ vmx, s.WarmedH vmx → T.vm.Alike vmx := fun vmx hWx => X.warmed.alike.symm.trans hWx.alike
            have hi9 : i0.toNatClampNeg < tx.length ∧ i0 = Int32.ofNat i0.toNatClampNeg := by
              refine ⟨Nat.lt_of_not_le (fun h => hout (Or.inr h)), (Int32.ofNat_toNatClampNeg i0 ?_).symm⟩
              exact Int32.not_lt.mp (fun h => hout (Or.inl h))
            have hk9 : tx.getD i0.toNatClampNeg 0 < 128 := by
              rw [List.getD_eq_getElem?_getD, List.getElem?_eq_getElem hi9.1]
              exact (tx_ok htx).1 _ (List.getElem_mem _)
            have hLP : ∀ vmx, s.WarmedH vmx → Jvm.Free.Fmt.SCh.P q cS 1 i0.toNatClampNeg (tx.getD i0.toNatClampNeg 0) w #[.ref q.sa, .int i0] (T.setVm vmx) := fun vmx hWx =>
              ⟨by rw [← hi9.2], Jvm.Free.Fmt.slSame' (U' := T.setVm vmx) (hal vmx hWx) rfl hSl, hZ.there (hal vmx hWx) rfl, by decide, hel _ hi9.1, hk9, hio.keep (hal vmx hWx) (fun _ _ g => g)⟩
            have hcS : s.vm.findClass "java/lang/String" = some cS := by rw [← X.warmed.alike.findClass]; exact hSl.2.1
            obtain ⟨v3, vm3, ⟨T3, L3, c3', n3⟩, hW3, X3, ⟨⟨rfl, hq3⟩, L', k', n', hL, hcc, hnn, hk', hn', hno⟩, come3⟩ := X.virtualBack c1 (own := mm_RN 8) (C := "java/lang/String") (index := 29) (y := Jvm.Free.Fmt.SCh.yN) (z := Jvm.Free.Fmt.SCh.yN) c4 (w4 _ (by simp [tx_ow])) (tx_decl (w4 (.instanceMethod Jvm.Free.Fmt.SCh.yN) (by simp [tx_ow])) (w3 (.code Jvm.Free.Fmt.SCh.yN Jvm.Free.Fmt.SCh.yB 2 (some .char)) (by simp [tx_cw]))) (notFace_of_selects hsel) hsel (w4 _ (by simp [tx_ow])) (by decide)
              (Jvm.Free.Fmt.SCh.pays (l := l) (W := 8) q cS 1 i0.toNatClampNeg (tx.getD i0.toNatClampNeg 0) w w1 (by rw [tx_fr] at c9; omega) (by rw [tx_lo] at c10; omega)) hcS ⟨q.sC, hSl.1.1, hSl.2.2, hSl.1.2.2.1⟩
              (g := F0 m pc ls ((Value.int i0 :: Value.ref o :: rs).map (mm_cv r))) rfl (hsz.trans c3.symm) (Steps.refl _) (argsL := [.int i0]) (rest := rs.map (mm_cv r))
              (fun sig h => by rw [show parseMethodDescriptor Jvm.Free.Fmt.SCh.yN.desc = some ⟨[.int], some .char⟩ from by decide +kernel] at h; rw [← Option.some.inj h]; rfl) (by rw [hsa]; rfl) (lv_room (by rw [mm_wt]; exact hwt)) (by rw [c2]; exact hdg)
              (fun vmx hWx => ⟨hcl, hsl, hLP vmx hWx⟩)
            dsimp only [Pt.U, Pt.locs, Pt.cells, Pt.slots] at X3 hq3 hL hcc hnn come3
            obtain rfl : L' = [] := List.eq_nil_iff_forall_not_mem.mpr fun w hw => hno w hw
            obtain rfl : k' = 0 := by omega
            obtain rfl : n' = 0 := by omega
            rw [List.append_nil] at hL
            rw [Nat.add_zero] at hcc hnn
            subst hL hcc hnn
            obtain ⟨t, a1, b1⟩ := kk T3 (hq3.trans hT) X3
            exact ⟨t, come3.trans a1, b1⟩
          · cases hq
        · cases hq
      · cases hq
    · cases hq
end MMk
