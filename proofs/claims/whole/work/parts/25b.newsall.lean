section MM8b
variable {p : Program} {l : Launch} {e : Env} {R : Room} {s : State} {m : MethodId} {args : Array Value} {below : List Frame} {meth : Method} {c : Code} {H : Heap} {locs : List Loc} {cells slots : Nat} {Q : State → Prop}
variable {pc : Nat} {ls : Array Slot} {r : Nat → Nat} {cA : Nat → ClassId} {D : va_G} {b : Nat} {μ μ' : mm_M} {k : Nat}
set_option maxHeartbeats 4000000 in
theorem mm_okN (h1 : mm_One) (C : mm_Cx p l R s m meth c k) (E : mm_Env D cA r (mm_A b) s s.heap) {en : mm_E} {S S' : List Value} (hdg : decode (mm_B k) pc = .ok (en.1, en.2.1)) (hN : mm_NOK k en) (h : mm_sN en S μ = some (S', μ'))
    (hr : ∀ k, k < 1000000 → r k = b + k) (hbs : b ≤ s.heap.size) (hnx : mm_nx μ ≤ 1000) (hsz : ls.size = mm_ml k) (hP : va_P D mm_K (mm_ws r cA μ) H) (hS : va_S (mm_A b) s.heap H locs) (hUp : mm_ex μ = true → s.heap.size + cells ≤ b + mm_nx μ)
    (hc : cells + mm_cn μ' ≤ R.cells + mm_cn μ) (hs : slots + mm_sn μ' ≤ R.slots + mm_sn μ)
    (kk : ∀ (H' : Heap) (locs' : List Loc) (cells' slots' : Nat), va_P D mm_K (mm_ws r cA μ') H' → va_S (mm_A b) s.heap H' locs' → cells' + mm_cn μ = cells + mm_cn μ' → slots' + mm_sn μ = slots + mm_sn μ' → W p l e R s m args below meth c H' locs' cells' slots' Q (F0 m (pc + en.2.1) ls (S'.map (mm_cv r)))) :
    W p l e R s m args below meth c H locs cells slots Q (F0 m pc ls (S.map (mm_cv r))) := by
  obtain ⟨hx, hb, hml, hown, hret, hlk, hini, htab, hfr, hlo, hst⟩ := C
  obtain ⟨hw, hK, hSt, hLd, hMg, hZ1, hZ2, hNc, hTx⟩ := E
  obtain ⟨o1, o2, o3, o4, o5, o6, o7, o8, o9, o10, o11, o12, o13, o14⟩ := h1
  obtain ⟨ins, len, a, bb, v0⟩ := en
  unfold mm_sN at h
  unfold mm_NOK at hN
  dsimp only at h hN hdg kk
  split at h
  · -- ldc
    split at h
    · rename_i hl
      subst hl
      cases h
      rcases hN with ⟨x, rfl, hc1⟩ | hN
      · exact lv_ldc hx hb hown (hw _ hc1 rfl args) hdg (kk H locs cells slots hP hS rfl rfl)
      · exact mm_okNLd hx hb hown hLd hN hdg (kk H locs cells slots hP hS rfl rfl)
    · cases h
  · -- ldc_w
    split at h
    · rename_i hl
      subst hl
      cases h
      obtain ⟨x, rfl, hc1⟩ := hN
      exact lv_ldcw hx hb hown (hw _ hc1 rfl args) hdg (kk H locs cells slots hP hS rfl rfl)
    · cases h
  · -- ldc2_w
    split at h
    · rename_i hl
      subst hl
      cases h
      obtain ⟨x, rfl, hc1⟩ := hN
      exact lv_ldc2 hx hb hown (hw _ hc1 rfl args) hdg (kk H locs cells slots hP hS rfl rfl)
    · cases h
  · -- getstatic
    split at h
    · rename_i hl
      subst hl
      cases h
      obtain ⟨j, q, hq, rfl, hl1⟩ := hN
      exact va_gets hx hb (hSt j q hq) hS hown (hw _ hl1 rfl args) (fun _ z => z) hdg (kk H locs cells slots hP hS rfl rfl)
    · cases h
  · -- new
    split at h
    · rename_i hl
      obtain ⟨rfl, ha, hex, hn9⟩ := hl
      cases h
      obtain ⟨w1, w2, w3⟩ := hN ha
      have z : mm_cn (mm_al μ (10 + a, 0) (mm_nf a)) = mm_cn μ + 1 := rfl
      have z2 : mm_sn (mm_al μ (10 + a, 0) (mm_nf a)) = mm_sn μ + mm_nf a := rfl
      exact mm_okNO hx hb hw hown hK ha w1 w2 w3 hr hbs hn9 hP hS (hUp hex) hdg (by omega) (by omega) (fun H' g1 g3 => kk H' locs (cells + 1) (slots + mm_nf a) g1 g3 (by omega) (by omega))
    · cases h
  · -- newarray
    split at h
    · rename_i n rs
      split at h
      · rename_i hl
        obtain ⟨rfl, hn0, hnb, hex, hn9⟩ := hl
        split at h
        · cases h
          have z : mm_cn (mm_al μ (1, n.toNatClampNeg) n.toNatClampNeg) = mm_cn μ + 1 := rfl
          have z2 : mm_sn (mm_al μ (1, n.toNatClampNeg) n.toNatClampNeg) = mm_sn μ + n.toNatClampNeg := rfl
          have wA : (Cond.arrayClass FieldType.int).before args s = true := hw _ o6 rfl args
          exact mm_okNA (atype := .int) (ty := .int) (tg := 1) (i := 0) (f0 := (n.toNatClampNeg, .inl (fun _ => 0))) hx hb wA rfl hK hr hbs hn9 hP hS (hUp hex) rfl (Or.inl rfl) (mm_cellOf_1 rfl) (fun _ => rfl) hn0 (by show n.toNatClampNeg * 4 ≤ 536870912; omega) hdg (by omega) (by omega) (fun H' g1 g3 => kk H' locs (cells + 1) (slots + n.toNatClampNeg) g1 g3 (by omega) (by omega))
        · cases h
          have z : mm_cn (mm_al μ (2, n.toNatClampNeg) n.toNatClampNeg) = mm_cn μ + 1 := rfl
          have z2 : mm_sn (mm_al μ (2, n.toNatClampNeg) n.toNatClampNeg) = mm_sn μ + n.toNatClampNeg := rfl
          have wA : (Cond.arrayClass FieldType.byte).before args s = true := hw _ o7 rfl args
          exact mm_okNA (atype := .byte) (ty := .byte) (tg := 2) (i := 1) (f0 := (n.toNatClampNeg, .inl (fun _ => 0))) hx hb wA rfl hK hr hbs hn9 hP hS (hUp hex) rfl (Or.inr (Or.inl rfl)) (mm_cellOf_2 rfl) (fun _ => rfl) hn0 (by show n.toNatClampNeg * 1 ≤ 536870912; omega) hdg (by omega) (by omega) (fun H' g1 g3 => kk H' locs (cells + 1) (slots + n.toNatClampNeg) g1 g3 (by omega) (by omega))
        · cases h
          have z : mm_cn (mm_al μ (3, n.toNatClampNeg) n.toNatClampNeg) = mm_cn μ + 1 := rfl
          have z2 : mm_sn (mm_al μ (3, n.toNatClampNeg) n.toNatClampNeg) = mm_sn μ + n.toNatClampNeg := rfl
          have wA : (Cond.arrayClass FieldType.boolean).before args s = true := hw _ o8 rfl args
          exact mm_okNA (atype := .boolean) (ty := .boolean) (tg := 3) (i := 2) (f0 := (n.toNatClampNeg, .inl (fun _ => 0))) hx hb wA rfl hK hr hbs hn9 hP hS (hUp hex) rfl (Or.inr (Or.inr (Or.inl rfl))) (mm_cellOf_3 rfl) (fun _ => rfl) hn0 (by show n.toNatClampNeg * 1 ≤ 536870912; omega) hdg (by omega) (by omega) (fun H' g1 g3 => kk H' locs (cells + 1) (slots + n.toNatClampNeg) g1 g3 (by omega) (by omega))
        · cases h
          have z : mm_cn (mm_al μ (4, n.toNatClampNeg) n.toNatClampNeg) = mm_cn μ + 1 := rfl
          have z2 : mm_sn (mm_al μ (4, n.toNatClampNeg) n.toNatClampNeg) = mm_sn μ + n.toNatClampNeg := rfl
          have wA : (Cond.arrayClass FieldType.long).before args s = true := hw _ o9 rfl args
          exact mm_okNA (atype := .long) (ty := .long) (tg := 4) (i := 3) (f0 := (n.toNatClampNeg, .inr (.inl (fun _ => 0)))) hx hb wA rfl hK hr hbs hn9 hP hS (hUp hex) rfl (Or.inr (Or.inr (Or.inr rfl))) (mm_cellOf_4 rfl) (fun _ => rfl) hn0 (by show n.toNatClampNeg * 8 ≤ 536870912; omega) hdg (by omega) (by omega) (fun H' g1 g3 => kk H' locs (cells + 1) (slots + n.toNatClampNeg) g1 g3 (by omega) (by omega))
        · cases h
      · cases h
    · cases h
  · -- Object.<init>
    split at h
    · rename_i hl
      obtain ⟨rfl, rfl⟩ := hl
      split at h
      · split at h
        · rename_i hwt
          cases h
          obtain ⟨w1, w2, w3⟩ := hN rfl
          exact mm_okNI hx hb hml hown (hw _ w1 rfl args) (hw _ o1 rfl args) (hw _ o2 rfl args) hsz hdg (by omega) (by omega) hwt (kk H locs cells slots hP hS rfl rfl)
        · cases h
      · cases h
    · cases h
  · -- System.arraycopy
    split at h
    · rename_i hl
      obtain ⟨rfl, rfl⟩ := hl
      obtain ⟨w1, w2, w3⟩ := hN.1 rfl
      split at h
      · split at h
        · rename_i hq
          obtain ⟨q1, q2, q3, q4, q5, q6, q7, q8⟩ := hq
          cases h
          exact mm_okNC hx hb hml hown (hw _ w1 rfl args) (hw _ o3 rfl args) (hw _ o4 rfl args) (hw _ o5 rfl args) hK hr hnx hP hS hsz hdg (by omega) (by omega) q1 q2 q3 q4 q5 q6 q7 q8 (fun H1 locs1 g1 g3 => kk H1 locs1 cells slots g1 g3 rfl rfl)
        · cases h
      · cases h
    · split at h
      · rename_i hl
        obtain ⟨rfl, rfl⟩ := hl
        obtain ⟨w1, w2, w3⟩ := hN.2.1 rfl
        split at h
        · split at h
          · rename_i hwt
            cases h
            exact va_mmax hx hb (hml.trans hsz.symm) hown (hw _ w1 rfl args) (hw _ o11 rfl args) (hw _ o10 rfl args) (hw _ o13 rfl args) (by omega) (by rw [mm_wt]; omega) (by omega) (by omega) hdg (kk H locs cells slots hP hS rfl rfl)
          · cases h
        · cases h
      · split at h
        · rename_i hl
          obtain ⟨rfl, rfl⟩ := hl
          obtain ⟨w1, w2, w3⟩ := hN.2.2 rfl
          split at h
          · split at h
            · rename_i hwt
              cases h
              exact va_mmin hx hb (hml.trans hsz.symm) hown (hw _ w1 rfl args) (hw _ o12 rfl args) (hw _ o10 rfl args) (hw _ o14 rfl args) (by omega) (by rw [mm_wt]; omega) (by omega) (by omega) hdg (kk H locs cells slots hP hS rfl rfl)
            · cases h
          · cases h
        · cases h
  · cases h
end MM8b
