/-! THE LAW: its steps, one for each call (by program) -/
section MM218
variable {X : mX} {w : Bool} {i : Nat → Nat → Int32} {l : Nat → Nat → Int64} {m a b : Nat} {e : Bool × Nat × Nat} {o : mOl} {R : List Int32} {u5 u6 : Option Value}
theorem xw_0 (h : XW X) : XW (xEd X 0) := ⟨Nat.zero_le _, fun k hk => absurd (show k < 0 from hk) (by omega)⟩
theorem lw_0 (h : WD w i l b X o R) (hb : b + 3840 < 2 ^ 29) (ha : a + 5 ≤ m) (hm : m < 2 ^ 30) : LwS m e i b a (mm_V 360 148 [some (.ref 1000000), some (.ref 0), some (.ref 83), some (.ref 146), some (.int (nI a)), u5, u6] [] (mm_Z m w i l e)) := by
  obtain ⟨c1, c2, c3, c4⟩ := h
  obtain ⟨cs0, xw⟩ := cs_put (m := m) (l := l) (e := e) (x := (i 1000000 (a + 1))) c4.1 c1
  obtain ⟨w1, i1, l1, e1, g0, g1, g2, g3, g4⟩ := cs0
  have r1 := c2.kp g2
  have v1 := (c3.kc g2 g3).ko (A := (wPt (i 1000000 (a + 1)) X).1)
  obtain ⟨y, i2, k1, k2, k3, k4⟩ := rs_put (m := m) (w := w1) (l := lOut ((wPt (i 1000000 (a + 1)) X).1) l1) (e := e1) (x := (i 1000000 (a + 1))) c4.1 r1
  have s0 : ∀ j, i1 1000000 j = i 1000000 j := fun j => g2 _ _ (by show ¬ 1000000 < 83; omega)
  have okA := ok_pt (x := (i 1000000 (a + 1))) (X := X)
  rw [mr_360_148, nI_1, if_neg (no_out (by omega) (by omega)), nI_clamp (by omega), wr_338 okA g1, mb_l, mb_v, mr_360_159, nI_1, if_neg (no_out (by omega) (by omega)), nI_clamp (by omega), s0, k1, mb_l, mb_v, mr_360_171, mr_193_0, mb_l, mb_v, mr_360_177, k2.1, if_pos rfl, lw_tail okA k2 f0_no, mr_360_201]
  exact ⟨w1, i2, _, e1, _, _, _, _, _, g0, rfl, ⟨g4.kp k3, k4, v1.kr k3, ⟨xw, c4.2.1.up (by omega), c4.2.2⟩⟩, fun j => (k3 _ _ (by unfold rG; omega)).trans (s0 j)⟩
theorem lw_1 (h : WD w i l b X o R) (hb : b + 3840 < 2 ^ 29) (ha : a + 5 ≤ m) (hm : m < 2 ^ 30) : LwS m e i b a (mm_V 360 204 [some (.ref 1000000), some (.ref 0), some (.ref 83), some (.ref 146), some (.int (nI a)), u5, u6] [] (mm_Z m w i l e)) := by
  obtain ⟨c1, c2, c3, c4⟩ := h
  obtain ⟨cs0, xw⟩ := cs_end (m := m) (l := l) (e := e) (x := (i 1000000 (a + 1))) c4.1 c1
  obtain ⟨w1, i1, l1, e1, g0, g1, g2, g3, g4⟩ := cs0
  have r1 := c2.kp g2
  have v1 := (c3.kc g2 g3).ko (A := (wEd (i 1000000 (a + 1)) X).1)
  obtain ⟨i2, k1, k2, k3, k4⟩ := rs_end (m := m) (w := w1) (l := lOut ((wEd (i 1000000 (a + 1)) X).1) l1) (e := e1) (x := (i 1000000 (a + 1))) c4.1 r1
  have s0 : ∀ j, i1 1000000 j = i 1000000 j := fun j => g2 _ _ (by show ¬ 1000000 < 83; omega)
  rw [mr_360_204, nI_1, if_neg (no_out (by omega) (by omega)), nI_clamp (by omega), wr_339 (ok_ed) g1, mb_l, mb_v, mr_360_214, nI_1, if_neg (no_out (by omega) (by omega)), nI_clamp (by omega), s0, k1, mb_l, mb_0, mr_360_226, mr_193_0, mb_l, mb_v, mr_360_230, k2, if_pos rfl]
  exact ⟨w1, i2, _, e1, _, _, _, _, _, g0, rfl, ⟨g4.kp k3, k4, v1.kr k3, ⟨xw, c4.2.1.up (by omega), c4.2.2⟩⟩, fun j => (k3 _ _ (by unfold rG; omega)).trans (s0 j)⟩
theorem lw_2 (h : WD w i l b X o R) (hb : b + 3840 < 2 ^ 29) (ha : a + 5 ≤ m) (hm : m < 2 ^ 30) : LwS m e i b a (mm_V 360 240 [some (.ref 1000000), some (.ref 0), some (.ref 83), some (.ref 146), some (.int (nI a)), u5, u6] [] (mm_Z m w i l e)) := by
  obtain ⟨c1, c2, c3, c4⟩ := h
  obtain ⟨cs0, ov⟩ := cs_load (m := m) (l := l) (e := e) c4.1 c3.1 c4.2.1 c1
  obtain ⟨w1, i1, l1, e1, g0, g1, g2, g3, g4⟩ := cs0
  have r1 := c2.kp g2
  have v1 := (c3.kc g2 g3).ko (A := (wLd X o).1)
  obtain ⟨y, i2, k1, k2, k3, k4⟩ := rs_load (m := m) (w := w1) (l := lOut ((wLd X o).1) l1) (e := e1) c4.1 v1.2.2.2.1 v1.2.2.1 c4.2.1 r1
  have s0 : ∀ j, i1 1000000 j = i 1000000 j := fun j => g2 _ _ (by show ¬ 1000000 < 83; omega)
  have okA := ok_ld (X := X) (o := o)
  rw [mr_360_240, wr_340 okA g1, mb_l, mb_v, mr_360_245, k1, mb_l, mb_v, mr_360_251, mr_193_0, mb_l, mb_v, mr_360_257, k2.1, if_pos rfl, lw_tail okA k2 f0_1, mr_360_281]
  exact ⟨w1, i2, _, e1, _, _, _, _, _, g0, rfl, ⟨g4.kp k3, k4, v1.kr k3, ⟨c4.1, ov.up (by omega), ob_ld c4.2.2.1, c4.2.2.2⟩⟩, fun j => (k3 _ _ (by unfold rG; omega)).trans (s0 j)⟩
theorem lw_3 (h : WD w i l b X o R) (hb : b + 3840 < 2 ^ 29) (ha : a + 5 ≤ m) (hm : m < 2 ^ 30) : LwS m e i b a (mm_V 360 284 [some (.ref 1000000), some (.ref 0), some (.ref 83), some (.ref 146), some (.int (nI a)), u5, u6] [] (mm_Z m w i l e)) := by
  obtain ⟨c1, c2, c3, c4⟩ := h
  obtain ⟨w1, i1, l1, e1, g0, g1, g2, g3, g4⟩ := StC.see (c_policy (m := m) (w := w) (l := l) (e := e) (x := (i 1000000 (a + 1))) c1.2.1) c1
  have r1 := c2.kp g2
  have v1 := (c3.kc g2 g3).ko (A := wPo (i 1000000 (a + 1)) o)
  obtain ⟨y, i2, k1, k2, k3, k4⟩ := StR.see (r_policy (m := m) (w := w1) (l := lOut (wPo (i 1000000 (a + 1)) o) l1) (e := e1) (x := (i 1000000 (a + 1))) r1.2.1) r1
  have s0 : ∀ j, i1 1000000 j = i 1000000 j := fun j => g2 _ _ (by show ¬ 1000000 < 83; omega)
  have okA := ok_po (x := (i 1000000 (a + 1))) (o := o)
  rw [mr_360_284, nI_1, if_neg (no_out (by omega) (by omega)), nI_clamp (by omega), wr_341 okA g1, mb_l, mb_v, mr_360_295, nI_1, if_neg (no_out (by omega) (by omega)), nI_clamp (by omega), s0, k1, mb_l, mb_v, mr_360_307, mr_193_0, mb_l, mb_v, mr_360_313, k2.1, if_pos rfl, lw_tail okA k2 f0_ac, mr_360_337]
  exact ⟨w1, i2, _, e1, _, _, _, _, _, g0, rfl, ⟨g4.kp k3, k4, v1.kr k3, ⟨c4.1, c4.2.1.up (by omega), c4.2.2⟩⟩, fun j => (k3 _ _ (by unfold rG; omega)).trans (s0 j)⟩
theorem lw_4 (h : WD w i l b X o R) (hb : b + 3840 < 2 ^ 29) (ha : a + 5 ≤ m) (hm : m < 2 ^ 30) : LwS m e i b a (mm_V 360 340 [some (.ref 1000000), some (.ref 0), some (.ref 83), some (.ref 146), some (.int (nI a)), u5, u6] [] (mm_Z m w i l e)) := by
  obtain ⟨c1, c2, c3, c4⟩ := h
  obtain ⟨w1, i1, l1, e1, g0, g1, g2, g3, g4⟩ := StC.see (c_vector (m := m) (w := w) (l := l) (e := e) (x1 := (i 1000000 (a + 1))) (x2 := (i 1000000 (a + 2))) (x3 := (i 1000000 (a + 3))) c1.2.1 c4.2.1) c1
  have r1 := c2.kp g2
  have v1 := (c3.kc g2 g3).ko (A := wVe (i 1000000 (a + 1)) (i 1000000 (a + 2)) (i 1000000 (a + 3)) o)
  obtain ⟨y, i2, k1, k2, k3, k4⟩ := StR.see (r_vector (m := m) (w := w1) (l := lOut (wVe (i 1000000 (a + 1)) (i 1000000 (a + 2)) (i 1000000 (a + 3)) o) l1) (e := e1) (x1 := (i 1000000 (a + 1))) (x2 := (i 1000000 (a + 2))) (x3 := (i 1000000 (a + 3))) r1.2.1 c4.2.1) r1
  have s0 : ∀ j, i1 1000000 j = i 1000000 j := fun j => g2 _ _ (by show ¬ 1000000 < 83; omega)
  have okA := ok_ve (x1 := (i 1000000 (a + 1))) (x2 := (i 1000000 (a + 2))) (x3 := (i 1000000 (a + 3))) (o := o)
  rw [mr_360_340, nI_1, nI_p2, nI_p3, if_neg (no_out (by omega) (by omega)), if_neg (no_out (by omega) (by omega)), if_neg (no_out (by omega) (by omega)), nI_clamp (by omega), nI_clamp (by omega), nI_clamp (by omega), wr_342 okA g1, mb_l, mb_v, mr_360_363, nI_1, nI_p2, nI_p3, if_neg (no_out (by omega) (by omega)), if_neg (no_out (by omega) (by omega)), if_neg (no_out (by omega) (by omega)), nI_clamp (by omega), nI_clamp (by omega), nI_clamp (by omega), s0, s0, s0, k1, mb_l, mb_v, mr_360_387, mr_193_0, mb_l, mb_v, mr_360_393, k2.1, if_pos rfl, lw_tail okA k2 f0_ac, mr_360_417]
  exact ⟨w1, i2, _, e1, _, _, _, _, _, g0, rfl, ⟨g4.kp k3, k4, v1.kr k3, ⟨c4.1, c4.2.1.up (by omega), c4.2.2⟩⟩, fun j => (k3 _ _ (by unfold rG; omega)).trans (s0 j)⟩
theorem lw_5 (h : WD w i l b X o R) (hb : b + 3840 < 2 ^ 29) (ha : a + 5 ≤ m) (hm : m < 2 ^ 30) : LwS m e i b a (mm_V 360 420 [some (.ref 1000000), some (.ref 0), some (.ref 83), some (.ref 146), some (.int (nI a)), u5, u6] [] (mm_Z m w i l e)) := by
  obtain ⟨c1, c2, c3, c4⟩ := h
  obtain ⟨w1, i1, l1, e1, g0, g1, g2, g3, g4⟩ := StC.see (c_move (m := m) (w := w) (l := l) (e := e) (x1 := (i 1000000 (a + 1))) (x2 := (i 1000000 (a + 2))) (x3 := (i 1000000 (a + 3))) c1.2.1 c4.2.1) c1
  have r1 := c2.kp g2
  have v1 := (c3.kc g2 g3).ko (A := wMo (i 1000000 (a + 1)) (i 1000000 (a + 2)) (i 1000000 (a + 3)) o)
  obtain ⟨y, i2, k1, k2, k3, k4⟩ := StR.see (r_move (m := m) (w := w1) (l := lOut (wMo (i 1000000 (a + 1)) (i 1000000 (a + 2)) (i 1000000 (a + 3)) o) l1) (e := e1) (x1 := (i 1000000 (a + 1))) (x2 := (i 1000000 (a + 2))) (x3 := (i 1000000 (a + 3))) r1.2.1 c4.2.1) r1
  have s0 : ∀ j, i1 1000000 j = i 1000000 j := fun j => g2 _ _ (by show ¬ 1000000 < 83; omega)
  have okA := ok_mo (x1 := (i 1000000 (a + 1))) (x2 := (i 1000000 (a + 2))) (x3 := (i 1000000 (a + 3))) (o := o)
  rw [mr_360_420, nI_1, nI_p2, nI_p3, if_neg (no_out (by omega) (by omega)), if_neg (no_out (by omega) (by omega)), if_neg (no_out (by omega) (by omega)), nI_clamp (by omega), nI_clamp (by omega), nI_clamp (by omega), wr_343 okA g1, mb_l, mb_v, mr_360_443, nI_1, nI_p2, nI_p3, if_neg (no_out (by omega) (by omega)), if_neg (no_out (by omega) (by omega)), if_neg (no_out (by omega) (by omega)), nI_clamp (by omega), nI_clamp (by omega), nI_clamp (by omega), s0, s0, s0, k1, mb_l, mb_v, mr_360_467, mr_193_0, mb_l, mb_v, mr_360_473, k2.1, if_pos rfl, lw_tail okA k2 f0_ac, mr_360_497]
  exact ⟨w1, i2, _, e1, _, _, _, _, _, g0, rfl, ⟨g4.kp k3, k4, v1.kr k3, ⟨c4.1, c4.2.1.up (by omega), c4.2.2⟩⟩, fun j => (k3 _ _ (by unfold rG; omega)).trans (s0 j)⟩
theorem lw_6 (h : WD w i l b X o R) (hb : b + 3840 < 2 ^ 29) (ha : a + 5 ≤ m) (hm : m < 2 ^ 30) : LwS m e i b a (mm_V 360 500 [some (.ref 1000000), some (.ref 0), some (.ref 83), some (.ref 146), some (.int (nI a)), u5, u6] [] (mm_Z m w i l e)) := by
  obtain ⟨c1, c2, c3, c4⟩ := h
  obtain ⟨w1, i1, l1, e1, g0, g1, g2, g3, g4⟩ := StC.see (c_identifier (m := m) (w := w) (l := l) (e := e) (x := (i 1000000 (a + 1))) c1.2.1 c4.2.1) c1
  have r1 := c2.kp g2
  have v1 := (c3.kc g2 g3).ko (A := wId (i 1000000 (a + 1)) o)
  obtain ⟨y, i2, k1, k2, k3, k4⟩ := StR.see (r_identifier (m := m) (w := w1) (l := lOut (wId (i 1000000 (a + 1)) o) l1) (e := e1) (x := (i 1000000 (a + 1))) r1.2.1 c4.2.1) r1
  have s0 : ∀ j, i1 1000000 j = i 1000000 j := fun j => g2 _ _ (by show ¬ 1000000 < 83; omega)
  have okA := ok_id (x := (i 1000000 (a + 1))) (o := o)
  rw [mr_360_500, nI_1, if_neg (no_out (by omega) (by omega)), nI_clamp (by omega), wr_344 okA g1, mb_l, mb_v, mr_360_511, nI_1, if_neg (no_out (by omega) (by omega)), nI_clamp (by omega), s0, k1, mb_l, mb_v, mr_360_523, mr_193_0, mb_l, mb_v, mr_360_529, k2.1, if_pos rfl, lw_tail okA k2 f0_1, mr_360_553]
  exact ⟨w1, i2, _, e1, _, _, _, _, _, g0, rfl, ⟨g4.kp k3, k4, v1.kr k3, ⟨c4.1, c4.2.1.up (by omega), c4.2.2⟩⟩, fun j => (k3 _ _ (by unfold rG; omega)).trans (s0 j)⟩
theorem lw_7 (h : WD w i l b X o R) (hb : b + 3840 < 2 ^ 29) (ha : a + 5 ≤ m) (hm : m < 2 ^ 30) : LwS m e i b a (mm_V 360 556 [some (.ref 1000000), some (.ref 0), some (.ref 83), some (.ref 146), some (.int (nI a)), u5, u6] [] (mm_Z m w i l e)) := by
  obtain ⟨c1, c2, c3, c4⟩ := h
  have ha : ∀ k, (aOp 0 4 (i 1000000 (a + 2))) = some k → k ≤ 21 := fun k z => by have := aOp_le (by omega) _ z; omega
  obtain ⟨_, _, _, _, ov⟩ := c_act (m := m) (w := w) (i := i) (l := l) (e := e) (x2 := (i 1000000 (a + 1))) (x3 := (i 1000000 (a + 3))) (x4 := 0) ha c1.2.1 c4.2.1 (by omega)
  obtain ⟨oa, ob⟩ := ob_act (x2 := (i 1000000 (a + 1))) (x3 := (i 1000000 (a + 3))) (x4 := 0) ha c4.2.1 (by omega) c4.2.2.1
  obtain ⟨w1, i1, l1, e1, g0, g1, g2, g3, g4⟩ := StC.act (c_onPath (m := m) (w := w) (l := l) (e := e) (x1 := (i 1000000 (a + 1))) (x2 := (i 1000000 (a + 2))) (x3 := (i 1000000 (a + 3))) c1.2.1 c4.2.1 (by omega) c4.2.2.1) c1
  have r1 := c2.kp g2
  have v1 := (c3.kc g2 g3).ko (A := (wAct (aOp 0 4 (i 1000000 (a + 2))) (i 1000000 (a + 1)) (i 1000000 (a + 3)) 0 o).1)
  obtain ⟨y, i2, k1, k2, k3, k4⟩ := StR.act (r_onPath (m := m) (w := w1) (l := lOut ((wAct (aOp 0 4 (i 1000000 (a + 2))) (i 1000000 (a + 1)) (i 1000000 (a + 3)) 0 o).1) l1) (e := e1) (x1 := (i 1000000 (a + 1))) (x2 := (i 1000000 (a + 2))) (x3 := (i 1000000 (a + 3))) r1.2.1 c4.2.1 (by omega)) r1
  have s0 : ∀ j, i1 1000000 j = i 1000000 j := fun j => g2 _ _ (by show ¬ 1000000 < 83; omega)
  have okA := ok_a oa
  rw [mr_360_556, nI_1, nI_p2, nI_p3, if_neg (no_out (by omega) (by omega)), if_neg (no_out (by omega) (by omega)), if_neg (no_out (by omega) (by omega)), nI_clamp (by omega), nI_clamp (by omega), nI_clamp (by omega), wr_345 okA g1, mb_l, mb_v, mr_360_579, nI_1, nI_p2, nI_p3, if_neg (no_out (by omega) (by omega)), if_neg (no_out (by omega) (by omega)), if_neg (no_out (by omega) (by omega)), nI_clamp (by omega), nI_clamp (by omega), nI_clamp (by omega), s0, s0, s0, k1, mb_l, mb_v, mr_360_603, mr_193_0, mb_l, mb_v, mr_360_609, k2.1, if_pos rfl, lw_tail okA k2 f0_ac, mr_360_633]
  exact ⟨w1, i2, _, e1, _, _, _, _, _, g0, rfl, ⟨g4.kp k3, k4, v1.kr k3, ⟨c4.1, ov.up (by omega), ob, c4.2.2.2⟩⟩, fun j => (k3 _ _ (by unfold rG; omega)).trans (s0 j)⟩
theorem lw_8 (h : WD w i l b X o R) (hb : b + 3840 < 2 ^ 29) (ha : a + 5 ≤ m) (hm : m < 2 ^ 30) : LwS m e i b a (mm_V 360 636 [some (.ref 1000000), some (.ref 0), some (.ref 83), some (.ref 146), some (.int (nI a)), u5, u6] [] (mm_Z m w i l e)) := by
  obtain ⟨c1, c2, c3, c4⟩ := h
  have ha : ∀ k, (aOp 5 3 (i 1000000 (a + 2))) = some k → k ≤ 21 := fun k z => by have := aOp_le (by omega) _ z; omega
  obtain ⟨_, _, _, _, ov⟩ := c_act (m := m) (w := w) (i := i) (l := l) (e := e) (x2 := (i 1000000 (a + 1))) (x3 := (i 1000000 (a + 3))) (x4 := (i 1000000 (a + 4))) ha c1.2.1 c4.2.1 (by omega)
  obtain ⟨oa, ob⟩ := ob_act (x2 := (i 1000000 (a + 1))) (x3 := (i 1000000 (a + 3))) (x4 := (i 1000000 (a + 4))) ha c4.2.1 (by omega) c4.2.2.1
  obtain ⟨w1, i1, l1, e1, g0, g1, g2, g3, g4⟩ := StC.act (c_onPaths (m := m) (w := w) (l := l) (e := e) (x1 := (i 1000000 (a + 1))) (x2 := (i 1000000 (a + 2))) (x3 := (i 1000000 (a + 3))) (x4 := (i 1000000 (a + 4))) c1.2.1 c4.2.1 (by omega) c4.2.2.1) c1
  have r1 := c2.kp g2
  have v1 := (c3.kc g2 g3).ko (A := (wAct (aOp 5 3 (i 1000000 (a + 2))) (i 1000000 (a + 1)) (i 1000000 (a + 3)) (i 1000000 (a + 4)) o).1)
  obtain ⟨y, i2, k1, k2, k3, k4⟩ := StR.act (r_onPaths (m := m) (w := w1) (l := lOut ((wAct (aOp 5 3 (i 1000000 (a + 2))) (i 1000000 (a + 1)) (i 1000000 (a + 3)) (i 1000000 (a + 4)) o).1) l1) (e := e1) (x1 := (i 1000000 (a + 1))) (x2 := (i 1000000 (a + 2))) (x3 := (i 1000000 (a + 3))) (x4 := (i 1000000 (a + 4))) r1.2.1 c4.2.1 (by omega)) r1
  have s0 : ∀ j, i1 1000000 j = i 1000000 j := fun j => g2 _ _ (by show ¬ 1000000 < 83; omega)
  have okA := ok_a oa
  rw [mr_360_636, nI_1, nI_p2, nI_p3, nI_p4, if_neg (no_out (by omega) (by omega)), if_neg (no_out (by omega) (by omega)), if_neg (no_out (by omega) (by omega)), if_neg (no_out (by omega) (by omega)), nI_clamp (by omega), nI_clamp (by omega), nI_clamp (by omega), nI_clamp (by omega), wr_346 okA g1, mb_l, mb_v, mr_360_665, nI_1, nI_p2, nI_p3, nI_p4, if_neg (no_out (by omega) (by omega)), if_neg (no_out (by omega) (by omega)), if_neg (no_out (by omega) (by omega)), if_neg (no_out (by omega) (by omega)), nI_clamp (by omega), nI_clamp (by omega), nI_clamp (by omega), nI_clamp (by omega), s0, s0, s0, s0, k1, mb_l, mb_v, mr_360_695, mr_193_0, mb_l, mb_v, mr_360_701, k2.1, if_pos rfl, lw_tail okA k2 f0_ac, mr_360_725]
  exact ⟨w1, i2, _, e1, _, _, _, _, _, g0, rfl, ⟨g4.kp k3, k4, v1.kr k3, ⟨c4.1, ov.up (by omega), ob, c4.2.2.2⟩⟩, fun j => (k3 _ _ (by unfold rG; omega)).trans (s0 j)⟩
theorem lw_9 (h : WD w i l b X o R) (hb : b + 3840 < 2 ^ 29) (ha : a + 5 ≤ m) (hm : m < 2 ^ 30) : LwS m e i b a (mm_V 360 728 [some (.ref 1000000), some (.ref 0), some (.ref 83), some (.ref 146), some (.int (nI a)), u5, u6] [] (mm_Z m w i l e)) := by
  obtain ⟨c1, c2, c3, c4⟩ := h
  have ha : ∀ k, (aOp 9 4 (i 1000000 (a + 2))) = some k → k ≤ 21 := fun k z => by have := aOp_le (by omega) _ z; omega
  obtain ⟨_, _, _, _, ov⟩ := c_act (m := m) (w := w) (i := i) (l := l) (e := e) (x2 := (i 1000000 (a + 1))) (x3 := (i 1000000 (a + 3))) (x4 := 0) ha c1.2.1 c4.2.1 (by omega)
  obtain ⟨oa, ob⟩ := ob_act (x2 := (i 1000000 (a + 1))) (x3 := (i 1000000 (a + 3))) (x4 := 0) ha c4.2.1 (by omega) c4.2.2.1
  obtain ⟨w1, i1, l1, e1, g0, g1, g2, g3, g4⟩ := StC.act (c_onHandle (m := m) (w := w) (l := l) (e := e) (x1 := (i 1000000 (a + 1))) (x2 := (i 1000000 (a + 2))) (x3 := (i 1000000 (a + 3))) c1.2.1 c4.2.1 (by omega) c4.2.2.1) c1
  have r1 := c2.kp g2
  have v1 := (c3.kc g2 g3).ko (A := (wAct (aOp 9 4 (i 1000000 (a + 2))) (i 1000000 (a + 1)) (i 1000000 (a + 3)) 0 o).1)
  obtain ⟨y, i2, k1, k2, k3, k4⟩ := StR.act (r_onHandle (m := m) (w := w1) (l := lOut ((wAct (aOp 9 4 (i 1000000 (a + 2))) (i 1000000 (a + 1)) (i 1000000 (a + 3)) 0 o).1) l1) (e := e1) (x1 := (i 1000000 (a + 1))) (x2 := (i 1000000 (a + 2))) (x3 := (i 1000000 (a + 3))) r1.2.1 c4.2.1 (by omega)) r1
  have s0 : ∀ j, i1 1000000 j = i 1000000 j := fun j => g2 _ _ (by show ¬ 1000000 < 83; omega)
  have okA := ok_a oa
  rw [mr_360_728, nI_1, nI_p2, nI_p3, if_neg (no_out (by omega) (by omega)), if_neg (no_out (by omega) (by omega)), if_neg (no_out (by omega) (by omega)), nI_clamp (by omega), nI_clamp (by omega), nI_clamp (by omega), wr_347 okA g1, mb_l, mb_v, mr_360_751, nI_1, nI_p2, nI_p3, if_neg (no_out (by omega) (by omega)), if_neg (no_out (by omega) (by omega)), if_neg (no_out (by omega) (by omega)), nI_clamp (by omega), nI_clamp (by omega), nI_clamp (by omega), s0, s0, s0, k1, mb_l, mb_v, mr_360_775, mr_193_0, mb_l, mb_v, mr_360_781, k2.1, if_pos rfl, lw_tail okA k2 f0_ac, mr_360_805]
  exact ⟨w1, i2, _, e1, _, _, _, _, _, g0, rfl, ⟨g4.kp k3, k4, v1.kr k3, ⟨c4.1, ov.up (by omega), ob, c4.2.2.2⟩⟩, fun j => (k3 _ _ (by unfold rG; omega)).trans (s0 j)⟩
theorem lw_10 (h : WD w i l b X o R) (hb : b + 3840 < 2 ^ 29) (ha : a + 5 ≤ m) (hm : m < 2 ^ 30) : LwS m e i b a (mm_V 360 808 [some (.ref 1000000), some (.ref 0), some (.ref 83), some (.ref 146), some (.int (nI a)), u5, u6] [] (mm_Z m w i l e)) := by
  obtain ⟨c1, c2, c3, c4⟩ := h
  have ha : ∀ k, (some 14) = some k → k ≤ 21 := fun k z => by cases z; omega
  obtain ⟨_, _, _, _, ov⟩ := c_act (m := m) (w := w) (i := i) (l := l) (e := e) (x2 := (i 1000000 (a + 1))) (x3 := (i 1000000 (a + 2))) (x4 := (i 1000000 (a + 3))) ha c1.2.1 c4.2.1 (by omega)
  obtain ⟨oa, ob⟩ := ob_act (x2 := (i 1000000 (a + 1))) (x3 := (i 1000000 (a + 2))) (x4 := (i 1000000 (a + 3))) ha c4.2.1 (by omega) c4.2.2.1
  obtain ⟨w1, i1, l1, e1, g0, g1, g2, g3, g4⟩ := StC.act (c_write (m := m) (w := w) (l := l) (e := e) (x1 := (i 1000000 (a + 1))) (x2 := (i 1000000 (a + 2))) (x3 := (i 1000000 (a + 3))) c1.2.1 c4.2.1 (by omega) c4.2.2.1) c1
  have r1 := c2.kp g2
  have v1 := (c3.kc g2 g3).ko (A := (wAct (some 14) (i 1000000 (a + 1)) (i 1000000 (a + 2)) (i 1000000 (a + 3)) o).1)
  obtain ⟨y, i2, k1, k2, k3, k4⟩ := StR.act (r_write (m := m) (w := w1) (l := lOut ((wAct (some 14) (i 1000000 (a + 1)) (i 1000000 (a + 2)) (i 1000000 (a + 3)) o).1) l1) (e := e1) (x1 := (i 1000000 (a + 1))) (x2 := (i 1000000 (a + 2))) (x3 := (i 1000000 (a + 3))) r1.2.1 c4.2.1 (by omega)) r1
  have s0 : ∀ j, i1 1000000 j = i 1000000 j := fun j => g2 _ _ (by show ¬ 1000000 < 83; omega)
  have okA := ok_a oa
  rw [mr_360_808, nI_1, nI_p2, nI_p3, if_neg (no_out (by omega) (by omega)), if_neg (no_out (by omega) (by omega)), if_neg (no_out (by omega) (by omega)), nI_clamp (by omega), nI_clamp (by omega), nI_clamp (by omega), wr_348 okA g1, mb_l, mb_v, mr_360_831, nI_1, nI_p2, nI_p3, if_neg (no_out (by omega) (by omega)), if_neg (no_out (by omega) (by omega)), if_neg (no_out (by omega) (by omega)), nI_clamp (by omega), nI_clamp (by omega), nI_clamp (by omega), s0, s0, s0, k1, mb_l, mb_v, mr_360_855, mr_193_0, mb_l, mb_v, mr_360_861, k2.1, if_pos rfl, lw_tail okA k2 f0_ac, mr_360_885]
  exact ⟨w1, i2, _, e1, _, _, _, _, _, g0, rfl, ⟨g4.kp k3, k4, v1.kr k3, ⟨c4.1, ov.up (by omega), ob, c4.2.2.2⟩⟩, fun j => (k3 _ _ (by unfold rG; omega)).trans (s0 j)⟩
theorem lw_11 (h : WD w i l b X o R) (hb : b + 3840 < 2 ^ 29) (ha : a + 5 ≤ m) (hm : m < 2 ^ 30) : LwS m e i b a (mm_V 360 888 [some (.ref 1000000), some (.ref 0), some (.ref 83), some (.ref 146), some (.int (nI a)), u5, u6] [] (mm_Z m w i l e)) := by
  obtain ⟨c1, c2, c3, c4⟩ := h
  have ha : ∀ k, (some 15) = some k → k ≤ 21 := fun k z => by cases z; omega
  obtain ⟨_, _, _, _, ov⟩ := c_act (m := m) (w := w) (i := i) (l := l) (e := e) (x2 := (i 1000000 (a + 1))) (x3 := (i 1000000 (a + 2))) (x4 := (i 1000000 (a + 3))) ha c1.2.1 c4.2.1 (by omega)
  obtain ⟨oa, ob⟩ := ob_act (x2 := (i 1000000 (a + 1))) (x3 := (i 1000000 (a + 2))) (x4 := (i 1000000 (a + 3))) ha c4.2.1 (by omega) c4.2.2.1
  obtain ⟨w1, i1, l1, e1, g0, g1, g2, g3, g4⟩ := StC.act (c_seek (m := m) (w := w) (l := l) (e := e) (x1 := (i 1000000 (a + 1))) (x2 := (i 1000000 (a + 2))) (x3 := (i 1000000 (a + 3))) c1.2.1 c4.2.1 (by omega) c4.2.2.1) c1
  have r1 := c2.kp g2
  have v1 := (c3.kc g2 g3).ko (A := (wAct (some 15) (i 1000000 (a + 1)) (i 1000000 (a + 2)) (i 1000000 (a + 3)) o).1)
  obtain ⟨y, i2, k1, k2, k3, k4⟩ := StR.act (r_seek (m := m) (w := w1) (l := lOut ((wAct (some 15) (i 1000000 (a + 1)) (i 1000000 (a + 2)) (i 1000000 (a + 3)) o).1) l1) (e := e1) (x1 := (i 1000000 (a + 1))) (x2 := (i 1000000 (a + 2))) (x3 := (i 1000000 (a + 3))) r1.2.1 c4.2.1 (by omega)) r1
  have s0 : ∀ j, i1 1000000 j = i 1000000 j := fun j => g2 _ _ (by show ¬ 1000000 < 83; omega)
  have okA := ok_a oa
  rw [mr_360_888, nI_1, nI_p2, nI_p3, if_neg (no_out (by omega) (by omega)), if_neg (no_out (by omega) (by omega)), if_neg (no_out (by omega) (by omega)), nI_clamp (by omega), nI_clamp (by omega), nI_clamp (by omega), wr_349 okA g1, mb_l, mb_v, mr_360_911, nI_1, nI_p2, nI_p3, if_neg (no_out (by omega) (by omega)), if_neg (no_out (by omega) (by omega)), if_neg (no_out (by omega) (by omega)), nI_clamp (by omega), nI_clamp (by omega), nI_clamp (by omega), s0, s0, s0, k1, mb_l, mb_v, mr_360_935, mr_193_0, mb_l, mb_v, mr_360_941, k2.1, if_pos rfl, lw_tail okA k2 f0_ac, mr_360_965]
  exact ⟨w1, i2, _, e1, _, _, _, _, _, g0, rfl, ⟨g4.kp k3, k4, v1.kr k3, ⟨c4.1, ov.up (by omega), ob, c4.2.2.2⟩⟩, fun j => (k3 _ _ (by unfold rG; omega)).trans (s0 j)⟩
theorem lw_12 (h : WD w i l b X o R) (hb : b + 3840 < 2 ^ 29) (ha : a + 5 ≤ m) (hm : m < 2 ^ 30) : LwS m e i b a (mm_V 360 968 [some (.ref 1000000), some (.ref 0), some (.ref 83), some (.ref 146), some (.int (nI a)), u5, u6] [] (mm_Z m w i l e)) := by
  obtain ⟨c1, c2, c3, c4⟩ := h
  have ha : ∀ k, (aOp 16 2 (i 1000000 (a + 2))) = some k → k ≤ 21 := fun k z => by have := aOp_le (by omega) _ z; omega
  obtain ⟨_, _, _, _, ov⟩ := c_act (m := m) (w := w) (i := i) (l := l) (e := e) (x2 := (i 1000000 (a + 1))) (x3 := 0) (x4 := 0) ha c1.2.1 c4.2.1 (by omega)
  obtain ⟨oa, ob⟩ := ob_act (x2 := (i 1000000 (a + 1))) (x3 := 0) (x4 := 0) ha c4.2.1 (by omega) c4.2.2.1
  obtain ⟨w1, i1, l1, e1, g0, g1, g2, g3, g4⟩ := StC.act (c_alone (m := m) (w := w) (l := l) (e := e) (x1 := (i 1000000 (a + 1))) (x2 := (i 1000000 (a + 2))) c1.2.1 c4.2.1 (by omega) c4.2.2.1) c1
  have r1 := c2.kp g2
  have v1 := (c3.kc g2 g3).ko (A := (wAct (aOp 16 2 (i 1000000 (a + 2))) (i 1000000 (a + 1)) 0 0 o).1)
  obtain ⟨y, i2, k1, k2, k3, k4⟩ := StR.act (r_alone (m := m) (w := w1) (l := lOut ((wAct (aOp 16 2 (i 1000000 (a + 2))) (i 1000000 (a + 1)) 0 0 o).1) l1) (e := e1) (x1 := (i 1000000 (a + 1))) (x2 := (i 1000000 (a + 2))) r1.2.1 c4.2.1 (by omega)) r1
  have s0 : ∀ j, i1 1000000 j = i 1000000 j := fun j => g2 _ _ (by show ¬ 1000000 < 83; omega)
  have okA := ok_a oa
  rw [mr_360_968, nI_1, nI_p2, if_neg (no_out (by omega) (by omega)), if_neg (no_out (by omega) (by omega)), nI_clamp (by omega), nI_clamp (by omega), wr_350 okA g1, mb_l, mb_v, mr_360_985, nI_1, nI_p2, if_neg (no_out (by omega) (by omega)), if_neg (no_out (by omega) (by omega)), nI_clamp (by omega), nI_clamp (by omega), s0, s0, k1, mb_l, mb_v, mr_360_1003, mr_193_0, mb_l, mb_v, mr_360_1009, k2.1, if_pos rfl, lw_tail okA k2 f0_ac, mr_360_1033]
  exact ⟨w1, i2, _, e1, _, _, _, _, _, g0, rfl, ⟨g4.kp k3, k4, v1.kr k3, ⟨c4.1, ov.up (by omega), ob, c4.2.2.2⟩⟩, fun j => (k3 _ _ (by unfold rG; omega)).trans (s0 j)⟩
theorem lw_13 (h : WD w i l b X o R) (hb : b + 3840 < 2 ^ 29) (ha : a + 5 ≤ m) (hm : m < 2 ^ 30) : LwS m e i b a (mm_V 360 1036 [some (.ref 1000000), some (.ref 0), some (.ref 83), some (.ref 146), some (.int (nI a)), u5, u6] [] (mm_Z m w i l e)) := by
  obtain ⟨c1, c2, c3, c4⟩ := h
  have ha : ∀ k, (aOp 19 1 (i 1000000 (a + 2))) = some k → k ≤ 21 := fun k z => by have := aOp_le (by omega) _ z; omega
  obtain ⟨_, _, _, _, ov⟩ := c_act (m := m) (w := w) (i := i) (l := l) (e := e) (x2 := (i 1000000 (a + 1))) (x3 := (i 1000000 (a + 3))) (x4 := 0) ha c1.2.1 c4.2.1 (by omega)
  obtain ⟨oa, ob⟩ := ob_act (x2 := (i 1000000 (a + 1))) (x3 := (i 1000000 (a + 3))) (x4 := 0) ha c4.2.1 (by omega) c4.2.2.1
  obtain ⟨w1, i1, l1, e1, g0, g1, g2, g3, g4⟩ := StC.act (c_onProcess (m := m) (w := w) (l := l) (e := e) (x1 := (i 1000000 (a + 1))) (x2 := (i 1000000 (a + 2))) (x3 := (i 1000000 (a + 3))) c1.2.1 c4.2.1 (by omega) c4.2.2.1) c1
  have r1 := c2.kp g2
  have v1 := (c3.kc g2 g3).ko (A := (wAct (aOp 19 1 (i 1000000 (a + 2))) (i 1000000 (a + 1)) (i 1000000 (a + 3)) 0 o).1)
  obtain ⟨y, i2, k1, k2, k3, k4⟩ := StR.act (r_onProcess (m := m) (w := w1) (l := lOut ((wAct (aOp 19 1 (i 1000000 (a + 2))) (i 1000000 (a + 1)) (i 1000000 (a + 3)) 0 o).1) l1) (e := e1) (x1 := (i 1000000 (a + 1))) (x2 := (i 1000000 (a + 2))) (x3 := (i 1000000 (a + 3))) r1.2.1 c4.2.1 (by omega)) r1
  have s0 : ∀ j, i1 1000000 j = i 1000000 j := fun j => g2 _ _ (by show ¬ 1000000 < 83; omega)
  have okA := ok_a oa
  rw [mr_360_1036, nI_1, nI_p2, nI_p3, if_neg (no_out (by omega) (by omega)), if_neg (no_out (by omega) (by omega)), if_neg (no_out (by omega) (by omega)), nI_clamp (by omega), nI_clamp (by omega), nI_clamp (by omega), wr_351 okA g1, mb_l, mb_v, mr_360_1059, nI_1, nI_p2, nI_p3, if_neg (no_out (by omega) (by omega)), if_neg (no_out (by omega) (by omega)), if_neg (no_out (by omega) (by omega)), nI_clamp (by omega), nI_clamp (by omega), nI_clamp (by omega), s0, s0, s0, k1, mb_l, mb_v, mr_360_1083, mr_193_0, mb_l, mb_v, mr_360_1089, k2.1, if_pos rfl, lw_tail okA k2 f0_ac, mr_360_1113]
  exact ⟨w1, i2, _, e1, _, _, _, _, _, g0, rfl, ⟨g4.kp k3, k4, v1.kr k3, ⟨c4.1, ov.up (by omega), ob, c4.2.2.2⟩⟩, fun j => (k3 _ _ (by unfold rG; omega)).trans (s0 j)⟩
theorem lw_14 (h : WD w i l b X o R) (hb : b + 3840 < 2 ^ 29) (ha : a + 5 ≤ m) (hm : m < 2 ^ 30) : LwS m e i b a (mm_V 360 1116 [some (.ref 1000000), some (.ref 0), some (.ref 83), some (.ref 146), some (.int (nI a)), u5, u6] [] (mm_Z m w i l e)) := by
  obtain ⟨c1, c2, c3, c4⟩ := h
  have ha : ∀ k, (some 21) = some k → k ≤ 21 := fun k z => by cases z; omega
  obtain ⟨_, _, _, _, ov⟩ := c_act (m := m) (w := w) (i := i) (l := l) (e := e) (x2 := (i 1000000 (a + 1))) (x3 := (i 1000000 (a + 2))) (x4 := 0) ha c1.2.1 c4.2.1 (by omega)
  obtain ⟨oa, ob⟩ := ob_act (x2 := (i 1000000 (a + 1))) (x3 := (i 1000000 (a + 2))) (x4 := 0) ha c4.2.1 (by omega) c4.2.2.1
  obtain ⟨w1, i1, l1, e1, g0, g1, g2, g3, g4⟩ := StC.act (c_switch (m := m) (w := w) (l := l) (e := e) (x1 := (i 1000000 (a + 1))) (x2 := (i 1000000 (a + 2))) c1.2.1 c4.2.1 (by omega) c4.2.2.1) c1
  have r1 := c2.kp g2
  have v1 := (c3.kc g2 g3).ko (A := (wAct (some 21) (i 1000000 (a + 1)) (i 1000000 (a + 2)) 0 o).1)
  obtain ⟨y, i2, k1, k2, k3, k4⟩ := StR.act (r_switch (m := m) (w := w1) (l := lOut ((wAct (some 21) (i 1000000 (a + 1)) (i 1000000 (a + 2)) 0 o).1) l1) (e := e1) (x1 := (i 1000000 (a + 1))) (x2 := (i 1000000 (a + 2))) r1.2.1 c4.2.1 (by omega)) r1
  have s0 : ∀ j, i1 1000000 j = i 1000000 j := fun j => g2 _ _ (by show ¬ 1000000 < 83; omega)
  have okA := ok_a oa
  rw [mr_360_1116, nI_1, nI_p2, if_neg (no_out (by omega) (by omega)), if_neg (no_out (by omega) (by omega)), nI_clamp (by omega), nI_clamp (by omega), wr_352 okA g1, mb_l, mb_v, mr_360_1133, nI_1, nI_p2, if_neg (no_out (by omega) (by omega)), if_neg (no_out (by omega) (by omega)), nI_clamp (by omega), nI_clamp (by omega), s0, s0, k1, mb_l, mb_v, mr_360_1151, mr_193_0, mb_l, mb_v, mr_360_1157, k2.1, if_pos rfl, lw_tail okA k2 f0_ac, mr_360_1181]
  exact ⟨w1, i2, _, e1, _, _, _, _, _, g0, rfl, ⟨g4.kp k3, k4, v1.kr k3, ⟨c4.1, ov.up (by omega), ob, c4.2.2.2⟩⟩, fun j => (k3 _ _ (by unfold rG; omega)).trans (s0 j)⟩
theorem lw_15 (h : WD w i l b X o R) (hb : b + 3840 < 2 ^ 29) (ha : a + 5 ≤ m) (hm : m < 2 ^ 30) : LwS m e i b a (mm_V 360 1184 [some (.ref 1000000), some (.ref 0), some (.ref 83), some (.ref 146), some (.int (nI a)), u5, u6] [] (mm_Z m w i l e)) := by
  obtain ⟨c1, c2, c3, c4⟩ := h
  obtain ⟨cs0, ov⟩ := cs_label (m := m) (l := l) (e := e) (x1 := (i 1000000 (a + 1))) (x2 := (i 1000000 (a + 2))) c4.2.1 c1
  obtain ⟨w1, i1, l1, e1, g0, g1, g2, g3, g4⟩ := cs0
  have r1 := c2.kp g2
  have v1 := (c3.kc g2 g3).ko (A := aVo (wLab (i 1000000 (a + 1)) (i 1000000 (a + 2)) o).1)
  obtain ⟨i2, k1, k2, k3, k4⟩ := rs_label (m := m) (w := w1) (l := lOut (aVo (wLab (i 1000000 (a + 1)) (i 1000000 (a + 2)) o).1) l1) (e := e1) (x1 := (i 1000000 (a + 1))) (x2 := (i 1000000 (a + 2))) c4.2.1 r1
  have s0 : ∀ j, i1 1000000 j = i 1000000 j := fun j => g2 _ _ (by show ¬ 1000000 < 83; omega)
  rw [mr_360_1184, nI_1, nI_p2, if_neg (no_out (by omega) (by omega)), if_neg (no_out (by omega) (by omega)), nI_clamp (by omega), nI_clamp (by omega), wr_353 (ok_v ok_la) g1, mb_l, mb_v, mr_360_1200, nI_1, nI_p2, if_neg (no_out (by omega) (by omega)), if_neg (no_out (by omega) (by omega)), nI_clamp (by omega), nI_clamp (by omega), s0, s0, k1, mb_l, mb_0, mr_360_1218, mr_193_0, mb_l, mb_v, mr_360_1222, k2, if_pos rfl]
  exact ⟨w1, i2, _, e1, _, _, _, _, _, g0, rfl, ⟨g4.kp k3, k4, v1.kr k3, ⟨c4.1, ov.up (by omega), ob_la c4.2.2.1, c4.2.2.2⟩⟩, fun j => (k3 _ _ (by unfold rG; omega)).trans (s0 j)⟩
theorem lw_16 (h : WD w i l b X o R) (hb : b + 3840 < 2 ^ 29) (ha : a + 5 ≤ m) (hm : m < 2 ^ 30) : LwS m e i b a (mm_V 360 1232 [some (.ref 1000000), some (.ref 0), some (.ref 83), some (.ref 146), some (.int (nI a)), u5, u6] [] (mm_Z m w i l e)) := by
  obtain ⟨c1, c2, c3, c4⟩ := h
  obtain ⟨w1, i1, l1, e1, g0, g1, g2, g3, g4⟩ := StC.see (c_context (m := m) (w := w) (l := l) (e := e) (x1 := (i 1000000 (a + 1))) (x2 := (i 1000000 (a + 2))) c1.2.1 c4.2.1) c1
  have r1 := c2.kp g2
  have v1 := (c3.kc g2 g3).ko (A := wCx (i 1000000 (a + 1)) (i 1000000 (a + 2)) o)
  obtain ⟨y, i2, k1, k2, k3, k4⟩ := StR.see (r_context (m := m) (w := w1) (l := lOut (wCx (i 1000000 (a + 1)) (i 1000000 (a + 2)) o) l1) (e := e1) (x1 := (i 1000000 (a + 1))) (x2 := (i 1000000 (a + 2))) r1.2.1 c4.2.1) r1
  have s0 : ∀ j, i1 1000000 j = i 1000000 j := fun j => g2 _ _ (by show ¬ 1000000 < 83; omega)
  have okA := ok_cx (x1 := (i 1000000 (a + 1))) (x2 := (i 1000000 (a + 2))) (o := o)
  rw [mr_360_1232, nI_1, nI_p2, if_neg (no_out (by omega) (by omega)), if_neg (no_out (by omega) (by omega)), nI_clamp (by omega), nI_clamp (by omega), wr_354 okA g1, mb_l, mb_v, mr_360_1249, nI_1, nI_p2, if_neg (no_out (by omega) (by omega)), if_neg (no_out (by omega) (by omega)), nI_clamp (by omega), nI_clamp (by omega), s0, s0, k1, mb_l, mb_v, mr_360_1267, mr_193_0, mb_l, mb_v, mr_360_1273, k2.1, if_pos rfl, lw_tail okA k2 f0_1, mr_360_1297]
  exact ⟨w1, i2, _, e1, _, _, _, _, _, g0, rfl, ⟨g4.kp k3, k4, v1.kr k3, ⟨c4.1, c4.2.1.up (by omega), c4.2.2⟩⟩, fun j => (k3 _ _ (by unfold rG; omega)).trans (s0 j)⟩
theorem lw_17 (h : WD w i l b X o R) (hb : b + 3840 < 2 ^ 29) (ha : a + 5 ≤ m) (hm : m < 2 ^ 30) : LwS m e i b a (mm_V 360 1300 [some (.ref 1000000), some (.ref 0), some (.ref 83), some (.ref 146), some (.int (nI a)), u5, u6] [] (mm_Z m w i l e)) := by
  obtain ⟨c1, c2, c3, c4⟩ := h
  obtain ⟨w1, i1, l1, e1, g0, g1, g2, g3, g4⟩ := StC.see (c_node (m := m) (w := w) (l := l) (e := e) (x1 := (i 1000000 (a + 1))) (x2 := (i 1000000 (a + 2))) c1.2.1 c4.2.1) c1
  have r1 := c2.kp g2
  have v1 := (c3.kc g2 g3).ko (A := wNo (i 1000000 (a + 1)) (i 1000000 (a + 2)) o)
  obtain ⟨y, i2, k1, k2, k3, k4⟩ := StR.see (r_node (m := m) (w := w1) (l := lOut (wNo (i 1000000 (a + 1)) (i 1000000 (a + 2)) o) l1) (e := e1) (x1 := (i 1000000 (a + 1))) (x2 := (i 1000000 (a + 2))) r1.2.1 c4.2.1) r1
  have s0 : ∀ j, i1 1000000 j = i 1000000 j := fun j => g2 _ _ (by show ¬ 1000000 < 83; omega)
  have okA := ok_no (x1 := (i 1000000 (a + 1))) (x2 := (i 1000000 (a + 2))) (o := o)
  rw [mr_360_1300, nI_1, nI_p2, if_neg (no_out (by omega) (by omega)), if_neg (no_out (by omega) (by omega)), nI_clamp (by omega), nI_clamp (by omega), wr_355 okA g1, mb_l, mb_v, mr_360_1317, nI_1, nI_p2, if_neg (no_out (by omega) (by omega)), if_neg (no_out (by omega) (by omega)), nI_clamp (by omega), nI_clamp (by omega), s0, s0, k1, mb_l, mb_v, mr_360_1335, mr_193_0, mb_l, mb_v, mr_360_1341, k2.1, if_pos rfl, lw_tail okA k2 f0_no, mr_360_1365]
  exact ⟨w1, i2, _, e1, _, _, _, _, _, g0, rfl, ⟨g4.kp k3, k4, v1.kr k3, ⟨c4.1, c4.2.1.up (by omega), c4.2.2⟩⟩, fun j => (k3 _ _ (by unfold rG; omega)).trans (s0 j)⟩
theorem lw_18 (h : WD w i l b X o R) (hb : b + 3840 < 2 ^ 29) (ha : a + 5 ≤ m) (hm : m < 2 ^ 30) : LwS m e i b a (mm_V 360 1368 [some (.ref 1000000), some (.ref 0), some (.ref 83), some (.ref 146), some (.int (nI a)), u5, u6] [] (mm_Z m w i l e)) := by
  obtain ⟨c1, c2, c3, c4⟩ := h
  obtain ⟨w1, i1, l1, e1, g0, g1, g2, g3, g4⟩ := StC.see (c_record (m := m) (w := w) (l := l) (e := e) (x1 := (i 1000000 (a + 1))) (x2 := (i 1000000 (a + 2))) c1.2.1 c4.2.1) c1
  have r1 := c2.kp g2
  have v1 := (c3.kc g2 g3).ko (A := wRc (i 1000000 (a + 1)) (i 1000000 (a + 2)) o)
  obtain ⟨y, i2, k1, k2, k3, k4⟩ := StR.see (r_record (m := m) (w := w1) (l := lOut (wRc (i 1000000 (a + 1)) (i 1000000 (a + 2)) o) l1) (e := e1) (x1 := (i 1000000 (a + 1))) (x2 := (i 1000000 (a + 2))) r1.2.1 c4.2.1) r1
  have s0 : ∀ j, i1 1000000 j = i 1000000 j := fun j => g2 _ _ (by show ¬ 1000000 < 83; omega)
  have okA := ok_rc (x1 := (i 1000000 (a + 1))) (x2 := (i 1000000 (a + 2))) (o := o)
  rw [mr_360_1368, nI_1, nI_p2, if_neg (no_out (by omega) (by omega)), if_neg (no_out (by omega) (by omega)), nI_clamp (by omega), nI_clamp (by omega), wr_356 okA g1, mb_l, mb_v, mr_360_1385, nI_1, nI_p2, if_neg (no_out (by omega) (by omega)), if_neg (no_out (by omega) (by omega)), nI_clamp (by omega), nI_clamp (by omega), s0, s0, k1, mb_l, mb_v, mr_360_1403, mr_193_0, mb_l, mb_v, mr_360_1409, k2.1, if_pos rfl, lw_tail okA k2 f0_re, mr_360_1433]
  exact ⟨w1, i2, _, e1, _, _, _, _, _, g0, rfl, ⟨g4.kp k3, k4, v1.kr k3, ⟨c4.1, c4.2.1.up (by omega), c4.2.2⟩⟩, fun j => (k3 _ _ (by unfold rG; omega)).trans (s0 j)⟩
theorem lw_19 (h : WD w i l b X o R) (hb : b + 3840 < 2 ^ 29) (ha : a + 5 ≤ m) (hm : m < 2 ^ 30) : LwS m e i b a (mm_V 360 1436 [some (.ref 1000000), some (.ref 0), some (.ref 83), some (.ref 146), some (.int (nI a)), u5, u6] [] (mm_Z m w i l e)) := by
  obtain ⟨c1, c2, c3, c4⟩ := h
  obtain ⟨w1, i1, l1, e1, g0, g1, g2, g3, g4⟩ := StC.see (c_about (m := m) (w := w) (l := l) (e := e) (x := (i 1000000 (a + 1))) c1.2.1 c4.2.1) c1
  have r1 := c2.kp g2
  have v1 := (c3.kc g2 g3).ko (A := wAb (i 1000000 (a + 1)) o)
  obtain ⟨y, i2, k1, k2, k3, k4⟩ := StR.see (r_about (m := m) (w := w1) (l := lOut (wAb (i 1000000 (a + 1)) o) l1) (e := e1) (x := (i 1000000 (a + 1))) r1.2.1 c4.2.1) r1
  have s0 : ∀ j, i1 1000000 j = i 1000000 j := fun j => g2 _ _ (by show ¬ 1000000 < 83; omega)
  have okA := ok_ab (x := (i 1000000 (a + 1))) (o := o)
  rw [mr_360_1436, nI_1, if_neg (no_out (by omega) (by omega)), nI_clamp (by omega), wr_357 okA g1, mb_l, mb_v, mr_360_1447, nI_1, if_neg (no_out (by omega) (by omega)), nI_clamp (by omega), s0, k1, mb_l, mb_v, mr_360_1459, mr_193_0, mb_l, mb_v, mr_360_1465, k2.1, if_pos rfl, lw_tail okA k2 f0_1, mr_360_1489]
  exact ⟨w1, i2, _, e1, _, _, _, _, _, g0, rfl, ⟨g4.kp k3, k4, v1.kr k3, ⟨c4.1, c4.2.1.up (by omega), c4.2.2⟩⟩, fun j => (k3 _ _ (by unfold rG; omega)).trans (s0 j)⟩
theorem lw_20 (h : WD w i l b X o R) (hb : b + 3840 < 2 ^ 29) (ha : a + 5 ≤ m) (hm : m < 2 ^ 30) : LwS m e i b a (mm_V 360 1492 [some (.ref 1000000), some (.ref 0), some (.ref 83), some (.ref 146), some (.int (nI a)), u5, u6] [] (mm_Z m w i l e)) := by
  obtain ⟨c1, c2, c3, c4⟩ := h
  obtain ⟨⟨w1, i1, l1, e1, g0, g1, g2, g3, g4⟩, ov, ob, ln, hQ⟩ := cs_events (m := m) (l := l) (e := e) c4.1 c3.2.1 c4.2.1 c4.2.2.1 hb c4.2.2.2 c1
  obtain ⟨v, hv⟩ := ok_es (X := X) (R := R) (o := o)
  have r1 := c2.kp g2
  have v1 := c3.kc g2 g3
  obtain ⟨i2, k1, k3, k4⟩ := rs_events (m := m) (w := w1) (l := l1) (e := e1) c4.1 v1.2.2.2.2 c4.2.1 hb hQ r1
  have s0 : ∀ j, i1 1000000 j = i 1000000 j := fun j => g2 _ _ (by show ¬ 1000000 < 83; omega)
  have g1 : mm_V 179 0 [some (.ref 0), none, none] [] (mm_Z m w i l e) = some (.inl (some (.int v)), mm_Z m w1 i1 l1 e1) := by rw [g1, hv]; rfl
  have k1 : mm_V 332 0 [some (.ref 83), none, none, none, none] [] (mm_Z m w1 i1 l1 e1) = some (.inl (some (.int v)), mm_Z m w1 i2 l1 e1) := by rw [k1, hv]; rfl
  rw [mr_360_1492, g1, mb_l, mb_v, mr_360_1496, k1, mb_l, mb_v, mr_360_1500, if_pos rfl]
  exact ⟨w1, i2, l1, e1, _, _, _, _, _, g0, rfl, ⟨g4.kp k3, k4, v1.kr k3, ⟨xw_0 c4.1, ov, ob, ln⟩⟩, fun j => (k3 _ _ (by unfold rG; omega)).trans (s0 j)⟩
theorem lw_21 (h : WD w i l b X o R) (hb : b + 3840 < 2 ^ 29) (ha : a + 5 ≤ m) (hm : m < 2 ^ 30) : LwS m e i b a (mm_V 360 1505 [some (.ref 1000000), some (.ref 0), some (.ref 83), some (.ref 146), some (.int (nI a)), u5, u6] [] (mm_Z m w i l e)) := by
  obtain ⟨c1, c2, c3, c4⟩ := h
  obtain ⟨w1, i1, l1, e1, g0, g1, g2, g3, g4⟩ := StC.see (c_result (m := m) (w := w) (l := l) (e := e) (x := (i 1000000 (a + 1))) c1.2.2 c4.2.2.2) c1
  have r1 := c2.kp g2
  have v1 := (c3.kc g2 g3).ko (A := wRs (i 1000000 (a + 1)) R)
  obtain ⟨y, i2, k1, k2, k3, k4⟩ := StR.see (r_result (m := m) (w := w1) (l := lOut (wRs (i 1000000 (a + 1)) R) l1) (e := e1) (x := (i 1000000 (a + 1))) r1.2.2 c4.2.2.2) r1
  have s0 : ∀ j, i1 1000000 j = i 1000000 j := fun j => g2 _ _ (by show ¬ 1000000 < 83; omega)
  have okA := ok_rs (x := (i 1000000 (a + 1))) (R := R)
  rw [mr_360_1505, nI_1, if_neg (no_out (by omega) (by omega)), nI_clamp (by omega), wr_358 okA g1, mb_l, mb_v, mr_360_1516, nI_1, if_neg (no_out (by omega) (by omega)), nI_clamp (by omega), s0, k1, mb_l, mb_v, mr_360_1528, mr_193_0, mb_l, mb_v, mr_360_1534, k2.1, if_pos rfl, lw_tail okA k2 f0_1, mr_360_1558]
  exact ⟨w1, i2, _, e1, _, _, _, _, _, g0, rfl, ⟨g4.kp k3, k4, v1.kr k3, ⟨c4.1, c4.2.1.up (by omega), c4.2.2⟩⟩, fun j => (k3 _ _ (by unfold rG; omega)).trans (s0 j)⟩
theorem lw_22 (h : WD w i l b X o R) (hb : b + 3840 < 2 ^ 29) (ha : a + 5 ≤ m) (hm : m < 2 ^ 30) : LwS m e i b a (mm_V 360 1561 [some (.ref 1000000), some (.ref 0), some (.ref 83), some (.ref 146), some (.int (nI a)), u5, u6] [] (mm_Z m w i l e)) := by
  obtain ⟨c1, c2, c3, c4⟩ := h
  obtain ⟨⟨w1, i1, l1, e1, g0, g1, g2, g3, g4⟩, ov⟩ := cs_sync (m := m) (l := l) (e := e) c4.2.1 c1
  have r1 := c2.kp g2
  have v1 := c3.kc g2 g3
  obtain ⟨i2, k1, k2, k3, k4⟩ := rs_sync (m := m) (w := w1) (l := l1) (e := e1) c4.2.1 r1
  have s0 : ∀ j, i1 1000000 j = i 1000000 j := fun j => g2 _ _ (by show ¬ 1000000 < 83; omega)
  have g1 : mm_V 181 0 [some (.ref 0)] [] (mm_Z m w i l e) = some (.inl none, mm_Z m w1 i1 l1 e1) := g1
  rw [mr_360_1561, g1, mb_l, mb_0, mr_360_1565, k1, mb_l, mb_0, mr_360_1569]
  exact ⟨w1, i2, l1, e1, _, _, _, _, _, g0, rfl, ⟨g4.kp k3, k4, v1.kr k3, ⟨c4.1, ov.up (by omega), ob_sy c4.2.2.1, c4.2.2.2⟩⟩, fun j => (k3 _ _ (by unfold rG; omega)).trans (s0 j)⟩
theorem lw_23 (h : WD w i l b X o R) (hb : b + 3840 < 2 ^ 29) (ha : a + 5 ≤ m) (hm : m < 2 ^ 30) : LwS m e i b a (mm_V 360 1572 [some (.ref 1000000), some (.ref 0), some (.ref 83), some (.ref 146), some (.int (nI a)), u5, u6] [] (mm_Z m w i l e)) := by
  obtain ⟨c1, c2, c3, c4⟩ := h
  obtain ⟨cs0, ov⟩ := cs_crash (m := m) (l := l) (e := e) (x := (i 1000000 (a + 1))) c4.2.1 c1
  obtain ⟨w1, i1, l1, e1, g0, g1, g2, g3, g4⟩ := cs0
  have r1 := c2.kp g2
  have v1 := (c3.kc g2 g3).ko (A := aVo (wCra (i 1000000 (a + 1)) o).1)
  obtain ⟨i2, k1, k2, k3, k4⟩ := rs_crash (m := m) (w := w1) (l := lOut (aVo (wCra (i 1000000 (a + 1)) o).1) l1) (e := e1) (x := (i 1000000 (a + 1))) c4.2.1 r1
  have s0 : ∀ j, i1 1000000 j = i 1000000 j := fun j => g2 _ _ (by show ¬ 1000000 < 83; omega)
  rw [mr_360_1572, nI_1, if_neg (no_out (by omega) (by omega)), nI_clamp (by omega), wr_359 (ok_vc) g1, mb_l, mb_v, mr_360_1582, nI_1, if_neg (no_out (by omega) (by omega)), nI_clamp (by omega), s0, k1, mb_l, mb_0, mr_360_1594, mr_193_0, mb_l, mb_v, mr_360_1598, k2, if_pos rfl]
  exact ⟨w1, i2, _, e1, _, _, _, _, _, g0, rfl, ⟨g4.kp k3, k4, v1.kr k3, ⟨c4.1, ov.up (by omega), ob_cr c4.2.2.1, c4.2.2.2⟩⟩, fun j => (k3 _ _ (by unfold rG; omega)).trans (s0 j)⟩
theorem lw_end (hm : m < 2 ^ 30) (h2 : a < 2 ^ 30) (h : m < a + 5) : Int32.ofNat m - 5 < nI a := by
  by_cases z : 5 ≤ m
  · rw [show Int32.ofNat m - 5 = nI (m - 5) from na_sub (a := m) (b := 5) z]
    exact (nI_ltI (by omega) (by omega)).mpr (by omega)
  · have m5 : m = 0 ∨ m = 1 ∨ m = 2 ∨ m = 3 ∨ m = 4 := by omega
    have neg : Int32.ofNat m - 5 < 0 := by
      rcases m5 with q | q | q | q | q <;> rw [q] <;> decide
    rw [Int32.lt_iff_toInt_lt] at neg ⊢
    rw [nI_toInt (by omega)]
    have neg : (Int32.ofNat m - 5).toInt < 0 := neg
    omega
theorem lw_on (hm : m < 2 ^ 30) (h : a + 5 ≤ m) : ¬ Int32.ofNat m - 5 < nI a := by
  rw [show Int32.ofNat m - 5 = nI (m - 5) from na_sub (a := m) (b := 5) (by omega)]
  intro z
  have := (nI_ltI (by omega) (by omega)).mp z
  omega
set_option maxRecDepth 20000 in
theorem lw_loop (sc : Nat → Int32) : ∀ (d a b : Nat) (w : Bool) (i : Nat → Nat → Int32) (l : Nat → Nat → Int64) (e : Bool × Nat × Nat) (X : mX) (o : mOl) (R : List Int32) (u5 u6 : Option Value), m < a + 5 * d + 5 → m < 2 ^ 29 → b + 3840 * d < 2 ^ 29 → WD w i l b X o R → (∀ j, i 1000000 j = sc j) → a ≤ m + 5 → ∃ w' i' l' e', mm_V 360 23 [some (.ref 1000000), some (.ref 0), some (.ref 83), some (.ref 146), some (.int (nI a)), u5, u6] [] (mm_Z m w i l e) = some (.inl (some (.int 1)), mm_Z m w' i' l' e') ∧ e'.2.1 ≤ e.2.1 + d ∧ e'.2.2 ≤ e.2.2 + 6 * d := by
  intro d
  induction d with
  | zero =>
    intro a b w i l e X o R u5 u6 hd hm hb h hs ha
    rw [mr_360_23, if_pos (lw_end (by omega) (by omega) (by omega))]
    exact ⟨_, _, _, _, rfl, by omega, by omega⟩
  | succ d ih =>
    intro a b w i l e X o R u5 u6 hd hm hb h hs ha
    rw [mr_360_23]
    by_cases z : m < a + 5
    · rw [if_pos (lw_end (by omega) (by omega) z)]
      exact ⟨_, _, _, _, rfl, by omega, by omega⟩
    · have hb' : b + 3840 < 2 ^ 29 := by omega
      have ha' : a + 5 ≤ m := by omega
      have hm' : m < 2 ^ 30 := by omega
      rw [if_neg (lw_on hm' (by omega)), if_neg (no_out (by omega) (by omega))]
      simp only [mm_sw]
      have go : ∀ V, LwS m e i b a V → ∃ w' i' l' e', V = some (.inl (some (.int 1)), mm_Z m w' i' l' e') ∧ e'.2.1 ≤ e.2.1 + (d + 1) ∧ e'.2.2 ≤ e.2.2 + 6 * (d + 1) := fun V hV => by
        obtain ⟨w', i', l', e', X', o', R', v5, v6, h0, h1, h2, h3⟩ := hV
        rw [h1, mr_360_1608, nI_p5]
        obtain ⟨w2, i2, l2, e2, k1, k2, k3⟩ := ih (a + 5) (b + 3840) w' i' l' e' X' o' R' v5 v6 (by omega) hm (by omega) h2 (fun j => (h3 j).trans (hs j)) (by omega)
        refine ⟨w2, i2, l2, e2, k1, ?_, ?_⟩
        · rcases h0 with h0 | h0
          · rw [h0] at k2; omega
          · rw [h0] at k2; have k2 : e2.2.1 ≤ e.2.1 + 1 + d := k2; omega
        · rcases h0 with h0 | h0
          · rw [h0] at k3; omega
          · rw [h0] at k3; have k3 : e2.2.2 ≤ e.2.2 + 6 + 6 * d := k3; omega
      generalize i 1000000 (nI a).toNatClampNeg &&& 31 = x
      by_cases z0 : x = 0
      · rw [if_pos z0]; exact go _ (lw_0 h hb' ha' hm')
      rw [if_neg z0]
      by_cases z1 : x = 1
      · rw [if_pos z1]; exact go _ (lw_1 h hb' ha' hm')
      rw [if_neg z1]
      by_cases z2 : x = 2
      · rw [if_pos z2]; exact go _ (lw_2 h hb' ha' hm')
      rw [if_neg z2]
      by_cases z3 : x = 3
      · rw [if_pos z3]; exact go _ (lw_3 h hb' ha' hm')
      rw [if_neg z3]
      by_cases z4 : x = 4
      · rw [if_pos z4]; exact go _ (lw_4 h hb' ha' hm')
      rw [if_neg z4]
      by_cases z5 : x = 5
      · rw [if_pos z5]; exact go _ (lw_5 h hb' ha' hm')
      rw [if_neg z5]
      by_cases z6 : x = 6
      · rw [if_pos z6]; exact go _ (lw_6 h hb' ha' hm')
      rw [if_neg z6]
      by_cases z7 : x = 7
      · rw [if_pos z7]; exact go _ (lw_7 h hb' ha' hm')
      rw [if_neg z7]
      by_cases z8 : x = 8
      · rw [if_pos z8]; exact go _ (lw_8 h hb' ha' hm')
      rw [if_neg z8]
      by_cases z9 : x = 9
      · rw [if_pos z9]; exact go _ (lw_9 h hb' ha' hm')
      rw [if_neg z9]
      by_cases z10 : x = 10
      · rw [if_pos z10]; exact go _ (lw_10 h hb' ha' hm')
      rw [if_neg z10]
      by_cases z11 : x = 11
      · rw [if_pos z11]; exact go _ (lw_11 h hb' ha' hm')
      rw [if_neg z11]
      by_cases z12 : x = 12
      · rw [if_pos z12]; exact go _ (lw_12 h hb' ha' hm')
      rw [if_neg z12]
      by_cases z13 : x = 13
      · rw [if_pos z13]; exact go _ (lw_13 h hb' ha' hm')
      rw [if_neg z13]
      by_cases z14 : x = 14
      · rw [if_pos z14]; exact go _ (lw_14 h hb' ha' hm')
      rw [if_neg z14]
      by_cases z15 : x = 15
      · rw [if_pos z15]; exact go _ (lw_15 h hb' ha' hm')
      rw [if_neg z15]
      by_cases z16 : x = 16
      · rw [if_pos z16]; exact go _ (lw_16 h hb' ha' hm')
      rw [if_neg z16]
      by_cases z17 : x = 17
      · rw [if_pos z17]; exact go _ (lw_17 h hb' ha' hm')
      rw [if_neg z17]
      by_cases z18 : x = 18
      · rw [if_pos z18]; exact go _ (lw_18 h hb' ha' hm')
      rw [if_neg z18]
      by_cases z19 : x = 19
      · rw [if_pos z19]; exact go _ (lw_19 h hb' ha' hm')
      rw [if_neg z19]
      by_cases z20 : x = 20
      · rw [if_pos z20]; exact go _ (lw_20 h hb' ha' hm')
      rw [if_neg z20]
      by_cases z21 : x = 21
      · rw [if_pos z21]; exact go _ (lw_21 h hb' ha' hm')
      rw [if_neg z21]
      by_cases z22 : x = 22
      · rw [if_pos z22]; exact go _ (lw_22 h hb' ha' hm')
      rw [if_neg z22]
      by_cases z23 : x = 23
      · rw [if_pos z23]; exact go _ (lw_23 h hb' ha' hm')
      rw [if_neg z23]
      exact go _ ⟨w, i, l, e, X, o, R, u5, u6, Or.inl rfl, rfl, ⟨h.1, h.2.1, h.2.2.1, h.2.2.2.up (by omega)⟩, fun _ => rfl⟩
end MM218
