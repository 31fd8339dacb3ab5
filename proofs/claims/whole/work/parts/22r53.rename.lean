/-! RENAME -/
section MM112
variable {w : Bool} {l : Nat → Nat → Int64} {e : Bool × Nat × Nat} {π : mP} {m : Nat} {ψ : mS} {b B p n : Nat} {i0 i i' : Nat → Nat → Int32} {s a x y : Int32} {r : Int32 × mS} {L M : List Nat}
def aRen (π : mP) (p : Nat) (L M : List Nat) (ψ : mS) : Int32 × mS := aPl π p L ψ (fun d ψ1 => aMu (decide (tE (yT ψ1) d (pz L) < ts (yT ψ1) d)) (-3) ψ1 (aPl π p M ψ1 (fun c ψ2 => aMu (decide (¬ tE (yT ψ1) c (pz M) < ts (yT ψ1) c)) (-6) ψ2 (aCk π (cP (yH ψ1) p) (cN (yT ψ1) d) 1 8 ψ2 (fun ψ3 => aCk π (cP (yH ψ1) p) (cN (yT ψ1) c) 1 4 ψ3 (fun ψ4 => aCk π (cP (yH ψ1) p) (cN (yT ψ1) (eN ψ1 d (pz L))) (tk (yT ψ1) (eN ψ1 d (pz L)) - 1) 64 ψ4 (fun ψ5 => aMu (decide (ts (yT ψ1) c < 10 ∨ c = d)) (-7) ψ5 (aMu (decide (¬ (tk (yT ψ1) (eN ψ1 d (pz L)) = 2 ∧ eN ψ1 d (pz L) ∈ wN (yT ψ1) M.dropLast 0))) (-14) ψ5 (0, yn ψ5 (7, d, 0, c, pz L, pz M))))))))))
theorem ren_ok (hI : IV π b ψ) {d c : Nat} (hO : pO L) (hL0 : L ≠ []) (hw : wV (yT ψ) L.dropLast 0 d) (h2 : tk (yT ψ) d = 2) (hE : tE (yT ψ) d (pz L) < ts (yT ψ) d) (hM : pO M) (hM0 : M ≠ []) (hw2 : wV (yT ψ) M.dropLast 0 c) (h22 : tk (yT ψ) c = 2) (hE2 : ¬ tE (yT ψ) c (pz M) < ts (yT ψ) c) (hs : ts (yT ψ) c < 10 ∨ c = d) (hi : ¬ (tk (yT ψ) (td (yT ψ) d (tE (yT ψ) d (pz L))) = 2 ∧ td (yT ψ) d (tE (yT ψ) d (pz L)) ∈ wN (yT ψ) M.dropLast 0)) : tOk (yT ψ) (7, d, 0, c, pz L, pz M) ∧ dOk π (yT ψ) (7, d, 0, c, pz L, pz M) := by
  obtain ⟨d1, d2, d3⟩ := hI.wv hw
  obtain ⟨c1, c2, c3⟩ := hI.wv hw2
  obtain ⟨o1, o2, o3, o4⟩ := pO_d hO hL0
  obtain ⟨q1, q2, q3, q4⟩ := pO_d hM hM0
  have a3 : tE (yT ψ) c (pz M) = ts (yT ψ) c := by have := tE_le (yT ψ) c (pz M); omega
  have hn := ((hI.tw d d1).2.2 h2).2 _ hE
  refine ⟨⟨d1, h2, o2, o3, hE, c1, h22, hs.symm, q2, q3, a3⟩, ?_, c3⟩
  intro z
  refine hi ⟨by rw [← z]; exact h22, ?_⟩
  obtain ⟨g1, g2⟩ := wV_ch hI.ti M.dropLast 0 c [] (by omega) rfl trivial hw2 h22
  rw [List.append_nil] at g2
  rw [← List.mem_reverse]
  cases hr : (wN (yT ψ) M.dropLast 0).reverse with
  | nil => rw [hr] at g2; have g2 : 0 = c := g2; omega
  | cons u v => rw [hr] at g2; have g2 : u = c := g2; rw [g2, z]; exact List.mem_cons_self
theorem ca_ren (h : CD w π i0 b i ψ x y) (hb : b + 16 < 2 ^ 29) (hp : p < 8) (hP0 : hP (yH ψ) p ≠ 0) (hO : pO L) (hM : pO M) : CA m w l e π i0 (b + 16) (mm_V 102 0 [some (.ref 80), some (.int (nI p)), some (.int (nI (pc L))), some (.int (nI (pc M))), none, none, none, none] [] (mm_Z m w i l e)) (aRen π p L M ψ) := by
  rw [mr_102_0]; unfold aRen
  refine CA.pl h (by omega) hp hP0 hO (by omega) (fun i1 d κ q0 g1 q1 g2 => ?_) (fun i1 r hr => by rw [mb_l, mb_v, mr_102_6, if_pos hr])
  obtain ⟨n1, n2, n3⟩ := h.iv.wv g1
  obtain ⟨o1, o2, o3, o4⟩ := pO_d hO q0
  have t2 : TC true i1 (yT ψ) := g2.1.1
  have hw := h.iv.tw
  rw [mb_l, mb_v, mr_102_6, if_neg (nI_nn (by omega)), g2.2.2.2.1, tc_nodeNamed t2 hw n1 q1 (by omega), mb_l, mb_v, mr_102_33]
  by_cases q : tE (yT ψ) d (pz L) < ts (yT ψ) d
  · have hn := ((hw d n1).2.2 q1).2 _ q
    have hkn : tk (yT ψ) (td (yT ψ) d (tE (yT ψ) d (pz L))) ≠ 0 := h.iv.ti.2.2.2.2.1 d n1 q1 _ q
    have en : eN (yk ψ κ) d (pz L) = td (yT ψ) d (tE (yT ψ) d (pz L)) := rfl
    refine CA.mt (decide_eq_true q) ?_
    rw [if_pos q, if_neg (na_m1 (by omega)), en]
    generalize hnn : td (yT ψ) d (tE (yT ψ) d (pz L)) = n at *
    refine CA.pl g2 (by omega) hp hP0 hM (by omega) (fun i2 c κ2 q2 g3 q3 g4 => ?_) (fun i1 r hr => by rw [mb_l, mb_v, mr_102_50, if_pos hr])
    have g3 : wV (yT ψ) M.dropLast 0 c := g3
    have q3 : tk (yT ψ) c = 2 := q3
    obtain ⟨c1, c2, c3⟩ := h.iv.wv g3
    obtain ⟨u1, u2, u3, u4⟩ := pO_d hM q2
    have t4 : TC true i2 (yT ψ) := g4.1.1
    rw [mb_l, mb_v, mr_102_50, if_neg (nI_nn (by omega)), g4.2.2.2.1, tc_nodeNamed t4 hw c1 q3 (by omega), mb_l, mb_v, mr_102_73]
    by_cases v : tE (yT ψ) c (pz M) < ts (yT ψ) c
    · have := ((hw c c1).2.2 q3).2 _ v
      refine CA.mf (decide_eq_false (fun z => z v)) ?_
      rw [if_pos v, if_neg (na_m1 (by omega))]
      exact CA.dead g4 (by omega) rfl
    · refine CA.mt (decide_eq_true v) ?_
      have z0 : tk (yT ψ) d - 1 = 1 := by omega
      have z1 : tk (yT ψ) c - 1 = 1 := by omega
      rw [if_neg v, if_pos rfl]
      refine CA.may g4 (by omega) hp hP0 n1 n2 z0 (by omega) (fun i3 κ3 g5 => ?_) (fun i2 => by rw [mb_l, mb_v, mr_102_89, if_bf])
      rw [mb_l, mb_v, mr_102_89, if_bt]
      refine CA.may g5 (by omega) hp hP0 c1 c2 z1 (by omega) (fun i4 κ4 g6 => ?_) (fun i2 => by rw [mb_l, mb_v, mr_102_100, if_bf])
      rw [mb_l, mb_v, mr_102_100, if_bt]
      refine CA.may g6 (by omega) hp hP0 hn.2.2.2 hkn rfl (by omega) (fun i5 κ5 g7 => ?_) (fun i2 => by rw [mb_l, mb_v, mr_102_112, if_bf])
      have t7 : TC true i5 (yT ψ) := g7.1.1
      rw [mb_l, mb_v, mr_102_112, if_bt]
      have rest : (ts (yT ψ) c < 10 ∨ c = d) → CA m w l e π i0 (b + 16) (mm_V 102 140 [some (.ref 80), some (.int (nI p)), some (.int (nI (pc L))), some (.int (nI (pc M))), some (.int (nI d)), some (.int (nI (pz L))), some (.int (nI n)), some (.int (nI c))] [] (mm_Z m w i5 l e)) (aMu (decide (¬ (tk (yT (yk ψ κ)) n = 2 ∧ n ∈ wN (yT (yk ψ κ)) M.dropLast 0))) (-14) (yk (yk (yk (yk (yk ψ κ) κ2) κ3) κ4) κ5) (0, yn (yk (yk (yk (yk (yk ψ κ) κ2) κ3) κ4) κ5) (7, d, 0, c, pz L, pz M))) := fun hs => by
        have wb := wB_in (n := n) h.iv.ti hn.2.2.1 hn.2.2.2 g3 q3
        have fin : ¬ (tk (yT ψ) n = 2 ∧ n ∈ wN (yT ψ) M.dropLast 0) → CA m w l e π i0 (b + 16) (mm_V 102 168 [some (.ref 80), some (.int (nI p)), some (.int (nI (pc L))), some (.int (nI (pc M))), some (.int (nI d)), some (.int (nI (pz L))), some (.int (nI n)), some (.int (nI c))] [] (mm_Z m w i5 l e)) (0, yn (yk (yk (yk (yk (yk ψ κ) κ2) κ3) κ4) κ5) (7, d, 0, c, pz L, pz M)) := fun hi => by
          obtain ⟨k1, k2⟩ := ren_ok h.iv hO q0 g1 q1 q hM q2 g3 q3 v hs (by rw [hnn]; exact hi)
          obtain ⟨i6, f1, f2⟩ := CD.nt (m := m) (l := l) (e := e) (q := (7, d, 0, c, pz L, pz M)) g7 k1 k2 (fun z => absurd (show 7 ≤ 1 from z) (by decide)) (show 7 ≠ 6 by decide)
          have f1 : mm_V 83 0 [some (.ref 56), some (.int 7), some (.int (nI d)), some (.int (nI (pz L))), some (.int (nI c)), some (.int (nI (pz M))), none] [] (mm_Z m w i5 l e) = some (.inl none, mm_Z m w i6 l e) := f1
          rw [mr_102_168, g7.2.2.2.1, f1, mb_l, mb_0, mr_102_187]
          exact CA.dead f2 (by omega) rfl
        rw [mr_102_140, tc_isDirectory t7 hw hn.2.2.2, mb_l, mb_v, mr_102_149]
        by_cases k : tk (yT ψ) n = 2
        · rw [if_pos k, if_neg (by decide), g7.2.2.2.2, mB_if, show wB 1 (wN (yT (yk ψ κ)) M.dropLast 0) = wB 1 (wN (yT ψ) M.dropLast 0) from rfl, wb]
          by_cases z : n ∈ wN (yT ψ) M.dropLast 0
          · refine CA.mf (decide_eq_false (fun y => y ⟨k, z⟩)) ?_
            rw [if_pos (decide_eq_true z)]
            exact CA.dead g7 (by omega) rfl
          · refine CA.mt (decide_eq_true (show ¬ (tk (yT ψ) n = 2 ∧ n ∈ wN (yT ψ) M.dropLast 0) from fun y => z y.2)) ?_
            rw [if_neg (by rw [decide_eq_false z]; decide)]
            exact fin (fun y => z y.2)
        · refine CA.mt (decide_eq_true (show ¬ (tk (yT ψ) n = 2 ∧ n ∈ wN (yT ψ) M.dropLast 0) from fun y => k y.1)) ?_
          rw [if_neg k, if_pos rfl]
          exact fin (fun y => k y.1)
      simp only [nI_eq (show c < 2 ^ 31 by omega) (show d < 2 ^ 31 by omega)]
      by_cases k : c = d
      · refine CA.mt (decide_eq_true (Or.inr k)) ?_
        rw [if_pos k]
        exact rest (Or.inr k)
      · rw [if_neg k, tc_isFull t7 hw c1, mb_l, mb_v, mr_102_134]
        by_cases z : ts (yT ψ) c < 10
        · refine CA.mt (decide_eq_true (Or.inl z)) ?_
          rw [if_pos z, if_pos rfl]
          exact rest (Or.inl z)
        · refine CA.mf (decide_eq_false (fun y => y.elim z k)) ?_
          rw [if_neg z, if_neg (by decide)]
          exact CA.dead g7 (by omega) rfl
  · refine CA.mf (decide_eq_false q) ?_
    rw [if_neg q, if_pos rfl]
    exact CA.dead g2 (by omega) rfl
theorem re_t259 (g : RD π i0 b i ψ s a x) (hs : s < 0) {x1 x2 x3 x4 x5 x6 x7 : Int32} : mm_V 306 259 [some (.ref 83), some (.int x1), some (.int x2), some (.int x3), some (.int x4), some (.int x5), some (.int x6), some (.int x7)] [] (mm_Z m w i l e) = some (.inl (some (.int s)), mm_Z m w i l e) := by
  rw [mr_306_259, g.bd hs, mb_l, mb_v, mr_306_263, if_bf, mr_306_284, g.hs]
theorem re_t226 {c : Nat} (g : RD π i0 b i ψ s (nI c) x) (hs : s < 0) (hn1 : 1 ≤ n) (hn : n < 32) (hc : c < 32) (hA : M.dropLast.length < 31) (hv : wV (yT ψ) M.dropLast 0 c) (h2 : tk (yT ψ) c = 2) {x1 x2 x3 x4 x5 x6 : Int32} : mm_V 306 226 [some (.ref 83), some (.int x1), some (.int x2), some (.int x3), some (.int x4), some (.int x5), some (.int x6), some (.int (nI n))] [] (mm_Z m w i l e) = some (.inl (some (.int s)), mm_Z m w i l e) := by
  rw [mr_306_226, tr_isDirectory g.1.1 g.iv.tw hn, mb_l, mb_v, mr_306_233, tk_dec]
  cases decide (tk (yT ψ) n = 2)
  · rw [if_bf, mr_306_254, g.mn hs, mb_l, mb_0, re_t259 g hs]
  · rw [if_bt, g.ha, tr_isWithin g.1.1 g.iv.ti hn1 hn hc hA hv h2, mb_l, mb_v, mr_306_246]
    split <;> rw [mr_306_254, g.mn hs, mb_l, mb_0, re_t259 g hs]
theorem re_t192 {c : Nat} (g : RD π i0 b i ψ s (nI c) x) (hs : s < 0) (hn1 : 1 ≤ n) (hn : n < 32) (hc : c < 32) (hA : M.dropLast.length < 31) (hv : wV (yT ψ) M.dropLast 0 c) (h2 : tk (yT ψ) c = 2) {x1 x2 x3 x4 x5 x6 : Int32} : mm_V 306 192 [some (.ref 83), some (.int x1), some (.int x2), some (.int x3), some (.int x4), some (.int x5), some (.int x6), some (.int (nI n))] [] (mm_Z m w i l e) = some (.inl (some (.int s)), mm_Z m w i l e) := by
  rw [mr_306_192, g.ha, if_neg (no_out (by omega) (by omega))]
  split
  · rw [mr_306_221, g.mn hs, mb_l, mb_0, re_t226 g hs hn1 hn hc hA hv h2]
  · split <;> rw [mr_306_221, g.mn hs, mb_l, mb_0, re_t226 g hs hn1 hn hc hA hv h2]
theorem re_t167 {c : Nat} (g : RD π i0 b i ψ s (nI c) x) (hs : s < 0) (hp : p < 8) (hn1 : 1 ≤ n) (hn : n < 32) (hk : tk (yT ψ) n ≠ 0) (hc : c < 32) (hA : M.dropLast.length < 31) (hv : wV (yT ψ) M.dropLast 0 c) (h2 : tk (yT ψ) c = 2) {x2 x3 x4 x5 x6 : Int32} : mm_V 306 167 [some (.ref 83), some (.int (nI p)), some (.int x2), some (.int x3), some (.int x4), some (.int x5), some (.int x6), some (.int (nI n))] [] (mm_Z m w i l e) = some (.inl (some (.int s)), mm_Z m w i l e) := by
  rw [mr_306_167, if_neg (no_out (by omega) (by omega)), if_neg (no_out (by omega) (by omega)), tr_classOf g.1.1 g.iv.tw hn hk, mb_l, mb_v, mr_306_187, g.cn hs, mb_l, mb_0, re_t192 g hs hn1 hn hc hA hv h2]
theorem re_t146 {c : Nat} (g : RD π i0 b i ψ s (nI c) x) (hs : s < 0) (hp : p < 8) (hn1 : 1 ≤ n) (hn : n < 32) (hk : tk (yT ψ) n ≠ 0) (hc : c < 32) (hA : M.dropLast.length < 31) (hv : wV (yT ψ) M.dropLast 0 c) (h2 : tk (yT ψ) c = 2) {x2 x3 x4 x5 x6 : Int32} : mm_V 306 146 [some (.ref 83), some (.int (nI p)), some (.int x2), some (.int x3), some (.int x4), some (.int x5), some (.int x6), some (.int (nI n))] [] (mm_Z m w i l e) = some (.inl (some (.int s)), mm_Z m w i l e) := by
  rw [mr_306_146, if_neg (no_out (by omega) (by omega)), g.ha, if_neg (no_out (by omega) (by omega)), g.cn hs, mb_l, mb_0, re_t167 g hs hp hn1 hn hk hc hA hv h2]
theorem ra_ren (h : RD π i0 b i ψ 0 a x) (hb : b + 16 < 2 ^ 29) (hp : p < 8) (hP0 : hP (yH ψ) p ≠ 0) (hO : pO L) (hM : pO M) : RA m w l e π i0 (b + 16) (mm_V 306 0 [some (.ref 83), some (.int (nI p)), some (.int (nI (pc L))), some (.int (nI (pc M))), none, none, none, none] [] (mm_Z m w i l e)) (aRen π p L M ψ) := by
  rw [mr_306_0]; unfold aRen
  refine RA.pl h (by omega) hp hP0 hO (by omega) (fun i1 d κ q0 g1 q1 g2 => ?_) (fun i1 s' hs hi => by rw [mb_l, mb_0, mr_306_6, rs_bd (by rw [hi]; exact hs), mb_l, mb_v, mr_306_10, if_bf, hi])
  obtain ⟨n1, n2, n3⟩ := h.iv.wv g1
  obtain ⟨o1, o2, o3, o4⟩ := pO_d hO q0
  have t2 : TR i1 (yT ψ) := g2.1.1
  have hw := h.iv.tw
  have hs10 := ((hw d n1).2.2 q1).1
  rw [mb_l, mb_0, mr_306_6, g2.gd, mb_l, mb_v, mr_306_10, if_bt, g2.ha, g2.hx, tr_entryOf t2 hw h.iv.tn n1 q1 (by omega), mb_l, mb_v, mr_306_38]
  by_cases q : tE (yT ψ) d (pz L) < ts (yT ψ) d
  · have hn := ((hw d n1).2.2 q1).2 _ q
    have hkn : tk (yT ψ) (td (yT ψ) d (tE (yT ψ) d (pz L))) ≠ 0 := h.iv.ti.2.2.2.2.1 d n1 q1 _ q
    have en : eN (yk ψ κ) d (pz L) = td (yT ψ) d (tE (yT ψ) d (pz L)) := rfl
    rw [if_pos q, if_neg (nI_nn (by omega)), mr_306_51]
    refine RA.mt g2 (decide_eq_true q) (fun i2 g3 => ?_)
    have t3 : TR i2 (yT ψ) := g3.1.1
    rw [mb_l, mb_0, mr_306_56, g3.gd, mb_l, mb_v, mr_306_60, if_bt, na_10, na_mul, nI_add, if_neg (no_out (by omega) (by omega)), nI_clamp (by omega), ((t3 d n1).2.2.2.2 q1 _ q).2, en]
    generalize hnn : td (yT ψ) d (tE (yT ψ) d (pz L)) = n at *
    refine RA.pl g3 (by omega) hp hP0 hM (by omega) (fun i3 c κ3 q2 g4 q3 g5 => ?_) (fun i1 s' hs hi => by rw [mb_l, mb_0, mr_306_89, rs_bd (by rw [hi]; exact hs), mb_l, mb_v, mr_306_93, if_bf, hi])
    have g4 : wV (yT ψ) M.dropLast 0 c := g4
    have q3 : tk (yT ψ) c = 2 := q3
    obtain ⟨c1, c2, c3⟩ := h.iv.wv g4
    obtain ⟨u1, u2, u3, u4⟩ := pO_d hM q2
    have hA : M.dropLast.length < 31 := by have := u1.1; omega
    have t5 : TR i3 (yT ψ) := g5.1.1
    have hc10 := ((hw c c1).2.2 q3).1
    rw [mb_l, mb_0, mr_306_89, g5.gd, mb_l, mb_v, mr_306_93, if_bt, g5.ha, g5.hx, tr_entryOf t5 hw h.iv.tn c1 q3 (by omega), mb_l, mb_v, mr_306_114]
    by_cases v : tE (yT ψ) c (pz M) < ts (yT ψ) c
    · rw [if_pos v, if_neg (nI_nn (by omega)), mr_306_122]
      exact RA.mf g5 (decide_eq_false (fun z => z v)) (fun i4 g6 => RA.dead g6 (by omega) (by rw [mb_l, mb_0, mr_306_127, if_neg (no_out (by omega) (by omega)), if_neg (no_out (by omega) (by omega)), g6.cn (by decide), mb_l, mb_0, re_t146 g6 (by decide) hp hn.2.2.1 hn.2.2.2 hkn c1 hA g4 q3]))
    · rw [if_neg v, if_pos (by decide), mr_306_122]
      refine RA.mt g5 (decide_eq_true v) (fun i4 g6 => ?_)
      rw [mb_l, mb_0, mr_306_127, if_neg (no_out (by omega) (by omega)), if_neg (no_out (by omega) (by omega)), nI_clamp (by omega), nI_clamp (by omega), g6.1.pr hp hP0, g6.1.cn g6.iv n1 n2, show some (Value.int 1) = some (Value.int (nI 1)) from rfl]
      refine RA.ck g6 (by omega) (by decide) (g6.iv.cp hp hP0) (g6.iv.cn n1 n2).1 (by omega) (fun i5 κ5 g7 => ?_) (fun i5 κ5 g7 => RA.dead g7 (by omega) (by rw [mb_l, mb_0, re_t146 g7 (by decide) hp hn.2.2.1 hn.2.2.2 hkn c1 hA g4 q3]))
      rw [mb_l, mb_0, mr_306_146, if_neg (no_out (by omega) (by omega)), g7.ha, if_neg (no_out (by omega) (by omega)), nI_clamp (by omega), nI_clamp (by omega), g7.1.pr hp hP0, g7.1.cn g7.iv c1 c2, show some (Value.int 1) = some (Value.int (nI 1)) from rfl]
      refine RA.ck g7 (by omega) (by decide) (g7.iv.cp hp hP0) (g7.iv.cn c1 c2).1 (by omega) (fun i6 κ6 g8 => ?_) (fun i6 κ6 g8 => RA.dead g8 (by omega) (by rw [mb_l, mb_0, re_t167 g8 (by decide) hp hn.2.2.1 hn.2.2.2 hkn c1 hA g4 q3]))
      have t8 : TR i6 (yT ψ) := g8.1.1
      have hk2 := (hw n hn.2.2.2).1
      rw [mb_l, mb_0, mr_306_167, if_neg (no_out (by omega) (by omega)), if_neg (no_out (by omega) (by omega)), tr_classOf t8 hw hn.2.2.2 hkn, mb_l, mb_v, mr_306_187, nI_clamp (by omega), nI_clamp (by omega), g8.1.pr hp hP0, g8.1.cn g8.iv hn.2.2.2 hkn]
      refine RA.ck g8 (by omega) (by decide) (g8.iv.cp hp hP0) (g8.iv.cn hn.2.2.2 hkn).1 (by omega) (fun i7 κ7 g9 => ?_) (fun i7 κ7 g9 => RA.dead g9 (by omega) (by rw [mb_l, mb_0, re_t192 g9 (by decide) hn.2.2.1 hn.2.2.2 c1 hA g4 q3]))
      have t9 : TR i7 (yT ψ) := g9.1.1
      rw [mb_l, mb_0, mr_306_192, g9.ha, if_neg (no_out (by omega) (by omega)), nI_clamp (by omega), (t9 c c1).2.2.1]
      simp only [na_10, nI_ltI (show ts (yT ψ) c < 2 ^ 31 by omega) (show 10 < 2 ^ 31 by omega), nI_eq (show c < 2 ^ 31 by omega) (show d < 2 ^ 31 by omega)]
      have rest : ∀ i8, (ts (yT ψ) c < 10 ∨ c = d) → RD π i0 (b + 5 + 5 + 1 + 1 + 1) i8 (yk (yk (yk (yk (yk ψ κ) κ3) κ5) κ6) κ7) 0 (nI c) (nI (pz M)) → RA m w l e π i0 (b + 16) (mm_V 306 226 [some (.ref 83), some (.int (nI p)), some (.int (nI (pc L))), some (.int (nI (pc M))), some (.int (nI d)), some (.int (nI (pz L))), some (.int (nI (tE (yT ψ) d (pz L)))), some (.int (nI n))] [] (mm_Z m w i8 l e)) (aMu (decide (¬ (tk (yT (yk ψ κ)) n = 2 ∧ n ∈ wN (yT (yk ψ κ)) M.dropLast 0))) (-14) (yk (yk (yk (yk (yk ψ κ) κ3) κ5) κ6) κ7) (0, yn (yk (yk (yk (yk (yk ψ κ) κ3) κ5) κ6) κ7) (7, d, 0, c, pz L, pz M))) := fun i8 hs k1 => by
        have t10 : TR i8 (yT ψ) := k1.1.1
        have fin : ∀ i9, ¬ (tk (yT ψ) n = 2 ∧ n ∈ wN (yT ψ) M.dropLast 0) → RD π i0 (b + 5 + 5 + 1 + 1 + 1) i9 (yk (yk (yk (yk (yk ψ κ) κ3) κ5) κ6) κ7) 0 (nI c) (nI (pz M)) → RA m w l e π i0 (b + 16) (mm_V 306 259 [some (.ref 83), some (.int (nI p)), some (.int (nI (pc L))), some (.int (nI (pc M))), some (.int (nI d)), some (.int (nI (pz L))), some (.int (nI (tE (yT ψ) d (pz L)))), some (.int (nI n))] [] (mm_Z m w i9 l e)) (0, yn (yk (yk (yk (yk (yk ψ κ) κ3) κ5) κ6) κ7) (7, d, 0, c, pz L, pz M)) := fun i9 hi k2 => by
          obtain ⟨y1, y2⟩ := ren_ok h.iv hO q0 g1 q1 q hM q2 g4 q3 v hs (by rw [hnn]; exact hi)
          obtain ⟨i10, f1, f2⟩ := RD.nt (m := m) (w := w) (l := l) (e := e) (q := (7, d, 0, c, pz L, pz M)) k2 y1 y2 (fun z => absurd (show 7 ≤ 1 from z) (by decide)) (show 7 ≠ 6 by decide)
          have f1 : mm_V 277 0 [some (.ref 83), some (.int 7), some (.int (nI d)), some (.int (nI (pz L))), some (.int (nI c)), some (.int (nI (pz M)))] [] (mm_Z m w i9 l e) = some (.inl none, mm_Z m w i10 l e) := f1
          rw [mr_306_259, k2.gd, mb_l, mb_v, mr_306_263, if_bt, k2.ha, k2.hx, f1, mb_l, mb_0, mr_306_284, f2.hs]
          exact RA.ret (r := (0, _)) f2 (by omega)
        rw [mr_306_226, tr_isDirectory t10 hw hn.2.2.2, mb_l, mb_v, mr_306_233]
        by_cases k : tk (yT ψ) n = 2
        · rw [if_pos k, if_neg (by decide), k1.ha, tr_isWithin t10 h.iv.ti hn.2.2.1 hn.2.2.2 c1 hA g4 q3, mb_l, mb_v, mr_306_246]
          by_cases z : n ∈ wN (yT ψ) M.dropLast 0
          · rw [decide_eq_true z, if_bt, mr_306_254]
            exact RA.mf k1 (decide_eq_false (fun y => y ⟨k, z⟩)) (fun i9 k2 => RA.dead k2 (by omega) (by rw [mb_l, mb_0, re_t259 k2 (by decide)]))
          · rw [decide_eq_false z, if_bf, mr_306_254]
            exact RA.mt k1 (decide_eq_true (show ¬ (tk (yT ψ) n = 2 ∧ n ∈ wN (yT ψ) M.dropLast 0) from fun y => z y.2)) (fun i9 k2 => by rw [mb_l, mb_0]; exact fin i9 (fun y => z y.2) k2)
        · rw [if_neg k, if_pos rfl, mr_306_254]
          exact RA.mt k1 (decide_eq_true (show ¬ (tk (yT ψ) n = 2 ∧ n ∈ wN (yT ψ) M.dropLast 0) from fun y => k y.1)) (fun i9 k2 => by rw [mb_l, mb_0]; exact fin i9 (fun y => k y.1) k2)
      by_cases z : ts (yT ψ) c < 10
      · rw [if_pos z, mr_306_221]
        exact RA.mt g9 (decide_eq_true (Or.inl z)) (fun i8 k1 => by rw [mb_l, mb_0]; exact rest i8 (Or.inl z) k1)
      · by_cases k : c = d
        · rw [if_neg z, if_pos k, mr_306_221]
          exact RA.mt g9 (decide_eq_true (Or.inr k)) (fun i8 k1 => by rw [mb_l, mb_0]; exact rest i8 (Or.inr k) k1)
        · rw [if_neg z, if_neg k, mr_306_221]
          exact RA.mf g9 (decide_eq_false (fun y => y.elim z k)) (fun i8 k1 => RA.dead k1 (by omega) (by rw [mb_l, mb_0, re_t226 k1 (by decide) hn.2.2.1 hn.2.2.2 c1 hA g4 q3]))
  · rw [if_neg q, if_pos (by decide), mr_306_51]
    exact RA.mf g2 (decide_eq_false q) (fun i2 g3 => RA.dead g3 (by omega) (by rw [mb_l, mb_0, mr_306_56, g3.bd (by decide), mb_l, mb_v, mr_306_60, if_bf, g3.hs]))
end MM112
