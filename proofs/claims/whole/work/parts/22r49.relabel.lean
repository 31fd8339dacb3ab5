/-! RELABEL, LINK, RUN -/
section MM108
variable {w : Bool} {l : Nat → Nat → Int64} {e : Bool × Nat × Nat} {π : mP} {m : Nat} {ψ : mS} {b B p n : Nat} {i0 i i' : Nat → Nat → Int32} {s a x y : Int32} {r : Int32 × mS} {L M : List Nat}
theorem tr_classOf {τ : mT} (ht : TR i τ) (hw : TW τ) (hn : n < 32) (h0 : tk τ n ≠ 0) : mm_V 291 0 [some (.ref 83), some (.int (nI n))] [] (mm_Z m w i l e) = some (.inl (some (.int (nI (tk τ n - 1)))), mm_Z m w i l e) := by
  have hk := (hw n hn).1
  rw [mr_291_0, tr_isDirectory ht hw hn, mb_l, mb_v, mr_291_5]
  by_cases q : tk τ n = 2
  · rw [if_pos q, if_neg (by decide), q]; rfl
  · have q1 : tk τ n = 1 := by omega
    rw [if_neg q, if_pos rfl, q1]; rfl
def aRel (π : mP) (p : Nat) (L : List Nat) (v : Int32) (ψ : mS) : Int32 × mS := aWa π p L ψ (fun n ψ1 => aMu (pVal π v) (-11) ψ1 (aCk π (cP (yH ψ1) p) (cN (yT ψ1) n) (tk (yT ψ1) n - 1) 128 ψ1 (fun ψ2 => aCk π (cP (yH ψ1) p) v.toNatClampNeg (tk (yT ψ1) n - 1) 128 ψ2 (fun ψ3 => (0, yn ψ3 (4, n, v, 0, 0, 0))))))
theorem ca_rel (h : CD w π i0 b i ψ x y) (hb : b + 16 < 2 ^ 29) (hp : p < 8) (hP0 : hP (yH ψ) p ≠ 0) (hO : pO L) {v : Int32} : CA m w l e π i0 (b + 16) (mm_V 103 0 [some (.ref 80), some (.int (nI p)), some (.int (nI (pc L))), some (.int v), none] [] (mm_Z m w i l e)) (aRel π p L v ψ) := by
  rw [mr_103_0]; unfold aRel
  refine CA.wa h (by omega) hp hP0 hO (by omega) (fun i1 n κ g1 g2 => ?_) (fun i1 r hr => by rw [mb_l, mb_v, mr_103_7, if_pos hr])
  obtain ⟨n1, n2, n3⟩ := h.iv.wv g1
  have p2 : PC0 w i1 π := g2.1.2.2.2.2.2.1.1
  have hk := (h.iv.tw n n1).1
  rw [mb_l, mb_v, mr_103_7, if_neg (nI_nn (by omega)), pc_isValid p2 h.iv.pw, mb_l, mb_v, mr_103_28]
  refine CA.mu (fun q => ?_) (fun q => ?_)
  · obtain ⟨v1, v2⟩ := pv_ok h.iv.pw q
    rw [q, if_bt]
    refine CA.may g2 (by omega) hp hP0 n1 n2 rfl (by omega) (fun i2 κ2 g3 => ?_) (fun i2 => by rw [mb_l, mb_v, mr_103_44, if_bf])
    have n2' : tk (yT (yk (yk ψ κ) κ2)) n ≠ 0 := n2
    rw [mb_l, mb_v, mr_103_44, if_bt, if_neg (no_out (by omega) (by omega)), if_neg (no_out (by omega) (by omega)), nI_clamp (by omega), nI_clamp (by omega), g3.1.pr hp hP0, g3.1.kd n1 n2', show some (Value.int v) = some (Value.int (nI v.toNatClampNeg)) by rw [← v2]]
    refine CA.gr g3 (by omega) (g3.iv.cp hp hP0) v1 (by show tk (yT ψ) n - 1 < 2 ^ 31; omega) (by omega) (fun i3 κ3 g4 => ?_) (fun i3 => by rw [mb_l, mb_v, mr_103_80, if_bf])
    obtain ⟨i4, c1, c2⟩ := CD.nt (m := m) (l := l) (e := e) (q := (4, n, v, 0, 0, 0)) g4 n1 q (fun z => absurd (show 4 ≤ 1 from z) (by decide)) (show 4 ≠ 6 by decide)
    have c1 : mm_V 83 0 [some (.ref 56), some (.int 4), some (.int (nI n)), some (.int v), some (.int 0), some (.int 0), none] [] (mm_Z m w i3 l e) = some (.inl none, mm_Z m w i4 l e) := c1
    rw [mb_l, mb_v, ← v2, mr_103_80, if_bt, c1, mb_l, mb_0, mr_103_99]
    exact CA.dead c2 (by omega) rfl
  · rw [q, if_bf]
    exact CA.dead g2 (by omega) rfl
theorem rl_t74 (g : RD π i0 b i ψ s a x) (hs : s < 0) {x1 x2 x3 : Int32} : mm_V 307 74 [some (.ref 83), some (.int x1), some (.int x2), some (.int x3)] [] (mm_Z m w i l e) = some (.inl (some (.int s)), mm_Z m w i l e) := by
  rw [mr_307_74, g.bd hs, mb_l, mb_v, mr_307_78, if_bf, mr_307_93, g.hs]
theorem rl_t17 (g : RD π i0 b i ψ s a x) (hs : s < 0) {x1 x2 x3 : Int32} : mm_V 307 17 [some (.ref 83), some (.int x1), some (.int x2), some (.int x3)] [] (mm_Z m w i l e) = some (.inl (some (.int s)), mm_Z m w i l e) := by
  rw [mr_307_17, g.bd hs, mb_l, mb_v, mr_307_21, if_bf, rl_t74 g hs]
theorem ra_rel (h : RD π i0 b i ψ 0 a x) (hb : b + 16 < 2 ^ 29) (hp : p < 8) (hP0 : hP (yH ψ) p ≠ 0) (hO : pO L) {v : Int32} : RA m w l e π i0 (b + 16) (mm_V 307 0 [some (.ref 83), some (.int (nI p)), some (.int (nI (pc L))), some (.int v)] [] (mm_Z m w i l e)) (aRel π p L v ψ) := by
  rw [mr_307_0]; unfold aRel
  refine RA.wa h (by omega) hp hP0 hO (fun i1 n κ x' g1 g2 => ?_) (fun i1 n κ s' x' g0 n1 n2 g3 => RA.dead g3 (by omega) (by rw [mb_l, mb_0, mr_307_6, pr_isValid g3.1.2.2.2.2.2.1.1 h.iv.pw, mb_l, mb_v, mr_307_12, g3.mn g0, mb_l, mb_0, rl_t17 g3 g0]))
  obtain ⟨n1, n2, n3⟩ := h.iv.wv g1
  have hw := h.iv.tw
  have hk := (hw n n1).1
  rw [mb_l, mb_0, mr_307_6, pr_isValid g2.1.2.2.2.2.2.1.1 h.iv.pw, mb_l, mb_v, mr_307_12]
  refine RA.mu g2 (fun i2 g3 q => ?_) (fun i2 g3 q => RA.dead g3 (by omega) (by rw [mb_l, mb_0, rl_t17 g3 (by decide)]))
  obtain ⟨v1, v2⟩ := pv_ok h.iv.pw q
  have t3 : TR i2 (yT ψ) := g3.1.1
  rw [mb_l, mb_0, mr_307_17, g3.gd, mb_l, mb_v, mr_307_21, if_bt, if_neg (no_out (by omega) (by omega)), g3.ha, if_neg (no_out (by omega) (by omega)), tr_classOf t3 hw n1 n2, mb_l, mb_v, mr_307_48, nI_clamp (by omega), nI_clamp (by omega), g3.1.pr hp hP0, g3.1.cn g3.iv n1 n2]
  refine RA.ck g3 (by omega) (by decide) (g3.iv.cp hp hP0) (g3.iv.cn n1 n2).1 (by omega) (fun i3 κ3 g4 => ?_) (fun i3 κ3 g4 => RA.dead g4 (by omega) ?_)
  · have t4 : TR i3 (yT ψ) := g4.1.1
    rw [mb_l, mb_0, mr_307_53, if_neg (no_out (by omega) (by omega)), g4.ha, tr_classOf t4 hw n1 n2, mb_l, mb_v, mr_307_69, nI_clamp (by omega), g4.1.pr hp hP0, show some (Value.int v) = some (Value.int (nI v.toNatClampNeg)) by rw [← v2]]
    refine RA.ck g4 (by omega) (by decide) (g4.iv.cp hp hP0) v1 (by omega) (fun i4 κ4 g5 => ?_) (fun i4 κ4 g5 => RA.dead g5 (by omega) (by rw [mb_l, mb_0, rl_t74 g5 (by decide)]))
    obtain ⟨i5, c1, c2⟩ := RD.nt (m := m) (w := w) (l := l) (e := e) (q := (4, n, v, 0, 0, 0)) g5 n1 q (fun z => absurd (show 4 ≤ 1 from z) (by decide)) (show 4 ≠ 6 by decide)
    have c1 : mm_V 277 0 [some (.ref 83), some (.int 4), some (.int (nI n)), some (.int v), some (.int 0), some (.int 0)] [] (mm_Z m w i4 l e) = some (.inl none, mm_Z m w i5 l e) := c1
    rw [mb_l, mb_0, ← v2, mr_307_74, g5.gd, mb_l, mb_v, mr_307_78, if_bt, g5.ha, c1, mb_l, mb_0, mr_307_93, c2.hs]
    exact RA.ret (r := (0, _)) c2 (by omega)
  · have t4 : TR i3 (yT ψ) := g4.1.1
    rw [mb_l, mb_0, mr_307_53, if_neg (no_out (by omega) (by omega)), g4.ha, tr_classOf t4 hw n1 n2, mb_l, mb_v, mr_307_69, g4.cn (by decide), mb_l, mb_0, rl_t74 g4 (by decide)]
def aLnk (π : mP) (p : Nat) (L M : List Nat) (ψ : mS) : Int32 × mS := aWa π p L ψ (fun n ψ1 => aMu (decide (¬ tk (yT ψ1) n = 2)) (-5) ψ1 (aPl π p M ψ1 (fun d ψ2 => aMu (decide (¬ tE (yT ψ1) d (pz M) < ts (yT ψ1) d)) (-6) ψ2 (aCk π (cP (yH ψ1) p) (cN (yT ψ1) d) 1 4 ψ2 (fun ψ3 => aCk π (cP (yH ψ1) p) (cN (yT ψ1) n) 0 32 ψ3 (fun ψ4 => aMu (decide (ts (yT ψ1) d < 10)) (-7) ψ4 (0, yn ψ4 (5, d, 0, n, pz M, 0))))))))
theorem lnk_ok (hI : IV π b ψ) {d : Nat} (hn1 : n < 32) (hn2 : tk (yT ψ) n ≠ 0) (hn : ¬ tk (yT ψ) n = 2) (hO : pO M) (h0 : M ≠ []) (hw : wV (yT ψ) M.dropLast 0 d) (h2 : tk (yT ψ) d = 2) (hE : ¬ tE (yT ψ) d (pz M) < ts (yT ψ) d) (hs : ts (yT ψ) d < 10) : tOk (yT ψ) (5, d, 0, n, pz M, 0) ∧ dOk π (yT ψ) (5, d, 0, n, pz M, 0) := by
  obtain ⟨d1, d2, d3⟩ := hI.wv hw
  obtain ⟨o1, o2, o3, o4⟩ := pO_d hO h0
  have a3 : tE (yT ψ) d (pz M) = ts (yT ψ) d := by have := tE_le (yT ψ) d (pz M); omega
  have hk := (hI.tw n hn1).1
  have n1 : 1 ≤ n := by
    rcases Nat.eq_zero_or_pos n with z | z
    · rw [z] at hn; exact absurd hI.ti.2.2.2.2.2 hn
    · exact z
  have k1 : tk (yT ψ) n = 1 := by omega
  exact ⟨⟨d1, h2, hs, o2, o3, a3, n1, hn1⟩, k1, d3⟩
theorem ca_lnk (h : CD w π i0 b i ψ x y) (hb : b + 16 < 2 ^ 29) (hp : p < 8) (hP0 : hP (yH ψ) p ≠ 0) (hO : pO L) (hM : pO M) : CA m w l e π i0 (b + 16) (mm_V 101 0 [some (.ref 80), some (.int (nI p)), some (.int (nI (pc L))), some (.int (nI (pc M))), none, none] [] (mm_Z m w i l e)) (aLnk π p L M ψ) := by
  rw [mr_101_0]; unfold aLnk
  refine CA.wa h (by omega) hp hP0 hO (by omega) (fun i1 n κ g1 g2 => ?_) (fun i1 r hr => by rw [mb_l, mb_v, mr_101_7, if_pos hr])
  obtain ⟨n1, n2, n3⟩ := h.iv.wv g1
  have t2 : TC true i1 (yT ψ) := g2.1.1
  have hw := h.iv.tw
  have hk := (hw n n1).1
  rw [mb_l, mb_v, mr_101_7, if_neg (nI_nn (by omega)), tc_isDirectory t2 hw n1, mb_l, mb_v, mr_101_26]
  by_cases q : tk (yT ψ) n = 2
  · refine CA.mf (decide_eq_false (fun z => z q)) ?_
    rw [if_pos q, if_neg (by decide)]
    exact CA.dead g2 (by omega) rfl
  · refine CA.mt (decide_eq_true q) ?_
    rw [if_neg q, if_pos rfl]
    refine CA.pl g2 (by omega) hp hP0 hM (by omega) (fun i2 d κ2 q0 g3 q1 g4 => ?_) (fun i1 r hr => by rw [mb_l, mb_v, mr_101_38, if_pos hr])
    have g3 : wV (yT ψ) M.dropLast 0 d := g3
    have q1 : tk (yT ψ) d = 2 := q1
    obtain ⟨d1, d2, d3⟩ := h.iv.wv g3
    obtain ⟨o1, o2, o3, o4⟩ := pO_d hM q0
    have t4 : TC true i2 (yT ψ) := g4.1.1
    rw [mb_l, mb_v, mr_101_38, if_neg (nI_nn (by omega)), g4.2.2.2.1, tc_nodeNamed t4 hw d1 q1 (by omega), mb_l, mb_v, mr_101_61]
    by_cases v : tE (yT ψ) d (pz M) < ts (yT ψ) d
    · have := ((hw d d1).2.2 q1).2 _ v
      refine CA.mf (decide_eq_false (fun z => z v)) ?_
      rw [if_pos v, if_neg (na_m1 (by omega))]
      exact CA.dead g4 (by omega) rfl
    · refine CA.mt (decide_eq_true v) ?_
      have z1 : tk (yT ψ) n - 1 = 0 := by omega
      have z0 : tk (yT ψ) d - 1 = 1 := by omega
      rw [if_neg v, if_pos rfl]
      refine CA.may g4 (by omega) hp hP0 d1 d2 z0 (by omega) (fun i3 κ3 g5 => ?_) (fun i2 => by rw [mb_l, mb_v, mr_101_76, if_bf])
      rw [mb_l, mb_v, mr_101_76, if_bt]
      refine CA.may g5 (by omega) hp hP0 n1 n2 z1 (by omega) (fun i4 κ4 g6 => ?_) (fun i2 => by rw [mb_l, mb_v, mr_101_88, if_bf])
      have t6 : TC true i4 (yT ψ) := g6.1.1
      rw [mb_l, mb_v, mr_101_88, if_bt, tc_isFull t6 hw d1, mb_l, mb_v, mr_101_103]
      by_cases u : ts (yT ψ) d < 10
      · refine CA.mt (decide_eq_true u) ?_
        obtain ⟨k1, k2⟩ := lnk_ok h.iv n1 n2 q hM q0 g3 q1 v u
        obtain ⟨i5, c1, c2⟩ := CD.nt (m := m) (l := l) (e := e) (q := (5, d, 0, n, pz M, 0)) g6 k1 k2 (fun z => absurd (show 5 ≤ 1 from z) (by decide)) (show 5 ≠ 6 by decide)
        have c1 : mm_V 83 0 [some (.ref 56), some (.int 5), some (.int (nI n)), some (.int (nI d)), some (.int (nI (pz M))), some (.int 0), none] [] (mm_Z m w i4 l e) = some (.inl none, mm_Z m w i5 l e) := c1
        rw [if_pos u, if_pos rfl, g6.2.2.2.1, c1, mb_l, mb_0, mr_101_126]
        exact CA.dead c2 (by omega) rfl
      · refine CA.mf (decide_eq_false u) ?_
        rw [if_neg u, if_neg (by decide)]
        exact CA.dead g6 (by omega) rfl
theorem lk_t155 (g : RD π i0 b i ψ s a x) (hs : s < 0) {x1 x2 x3 x4 : Int32} : mm_V 304 155 [some (.ref 83), some (.int x1), some (.int x2), some (.int x3), some (.int x4)] [] (mm_Z m w i l e) = some (.inl (some (.int s)), mm_Z m w i l e) := by
  rw [mr_304_155, g.bd hs, mb_l, mb_v, mr_304_159, if_bf, mr_304_178, g.hs]
theorem lk_t130 {d : Nat} (g : RD π i0 b i ψ s (nI d) x) (hs : s < 0) (hd : d < 32) {x1 x2 x3 x4 : Int32} : mm_V 304 130 [some (.ref 83), some (.int x1), some (.int x2), some (.int x3), some (.int x4)] [] (mm_Z m w i l e) = some (.inl (some (.int s)), mm_Z m w i l e) := by
  rw [mr_304_130, g.ha, if_neg (no_out (by omega) (by omega))]
  split <;> rw [mr_304_150, g.mn hs, mb_l, mb_0, lk_t155 g hs]
theorem lk_t111 {d : Nat} (g : RD π i0 b i ψ s (nI d) x) (hs : s < 0) (hp : p < 8) (hd : d < 32) (hn : n < 32) {x2 x3 : Int32} : mm_V 304 111 [some (.ref 83), some (.int (nI p)), some (.int x2), some (.int x3), some (.int (nI n))] [] (mm_Z m w i l e) = some (.inl (some (.int s)), mm_Z m w i l e) := by
  rw [mr_304_111, if_neg (no_out (by omega) (by omega)), if_neg (no_out (by omega) (by omega)), g.cn hs, mb_l, mb_0, lk_t130 g hs hd]
theorem lk_t90 {d : Nat} (g : RD π i0 b i ψ s (nI d) x) (hs : s < 0) (hp : p < 8) (hd : d < 32) (hn : n < 32) {x2 x3 : Int32} : mm_V 304 90 [some (.ref 83), some (.int (nI p)), some (.int x2), some (.int x3), some (.int (nI n))] [] (mm_Z m w i l e) = some (.inl (some (.int s)), mm_Z m w i l e) := by
  rw [mr_304_90, if_neg (no_out (by omega) (by omega)), g.ha, if_neg (no_out (by omega) (by omega)), g.cn hs, mb_l, mb_0, lk_t111 g hs hp hd hn]
theorem lk_t28 (g : RD π i0 b i ψ s a x) (hs : s < 0) {x1 x2 x3 : Int32} : mm_V 304 28 [some (.ref 83), some (.int x1), some (.int x2), some (.int x3), none] [] (mm_Z m w i l e) = some (.inl (some (.int s)), mm_Z m w i l e) := by
  rw [mr_304_28, g.bd hs, mb_l, mb_v, mr_304_32, if_bf, g.hs]
theorem ra_lnk (h : RD π i0 b i ψ 0 a x) (hb : b + 16 < 2 ^ 29) (hp : p < 8) (hP0 : hP (yH ψ) p ≠ 0) (hO : pO L) (hM : pO M) : RA m w l e π i0 (b + 16) (mm_V 304 0 [some (.ref 83), some (.int (nI p)), some (.int (nI (pc L))), some (.int (nI (pc M))), none] [] (mm_Z m w i l e)) (aLnk π p L M ψ) := by
  rw [mr_304_0]; unfold aLnk
  refine RA.wa h (by omega) hp hP0 hO (fun i1 n κ x' g1 g2 => ?_) (fun i1 n κ s' x' g0 n1 n2 g3 => RA.dead g3 (by omega) ?_)
  · obtain ⟨n1, n2, n3⟩ := h.iv.wv g1
    have t2 : TR i1 (yT ψ) := g2.1.1
    have hw := h.iv.tw
    have hk := (hw n n1).1
    rw [mb_l, mb_0, mr_304_6, g2.ha, tr_isDirectory t2 hw n1, mb_l, mb_v, mr_304_15]
    by_cases q : tk (yT ψ) n = 2
    · rw [if_pos q, if_neg (by decide), mr_304_23]
      exact RA.mf g2 (decide_eq_false (fun z => z q)) (fun i2 g3 => RA.dead g3 (by omega) (by rw [mb_l, mb_0, lk_t28 g3 (by decide)]))
    · rw [if_neg q, if_pos rfl, mr_304_23]
      refine RA.mt g2 (decide_eq_true q) (fun i2 g3 => ?_)
      rw [mb_l, mb_0, mr_304_28, g3.gd, mb_l, mb_v, mr_304_32, if_bt, g3.ha]
      refine RA.pl g3 (by omega) hp hP0 hM (by omega) (fun i3 d κ3 q0 g4 q1 g5 => ?_) (fun i1 s' hs hi => by rw [mb_l, mb_0, mr_304_52, rs_bd (by rw [hi]; exact hs), mb_l, mb_v, mr_304_56, if_bf, hi])
      have g4 : wV (yT ψ) M.dropLast 0 d := g4
      have q1 : tk (yT ψ) d = 2 := q1
      obtain ⟨d1, d2, d3⟩ := h.iv.wv g4
      obtain ⟨o1, o2, o3, o4⟩ := pO_d hM q0
      have t5 : TR i3 (yT ψ) := g5.1.1
      have hs10 := ((hw d d1).2.2 q1).1
      rw [mb_l, mb_0, mr_304_52, g5.gd, mb_l, mb_v, mr_304_56, if_bt, g5.ha, g5.hx, tr_entryOf t5 hw h.iv.tn d1 q1 (by omega), mb_l, mb_v, mr_304_77]
      by_cases v : tE (yT ψ) d (pz M) < ts (yT ψ) d
      · rw [if_pos v, if_neg (nI_nn (by omega)), mr_304_85]
        exact RA.mf g5 (decide_eq_false (fun z => z v)) (fun i4 g6 => RA.dead g6 (by omega) (by rw [mb_l, mb_0, lk_t90 g6 (by decide) hp d1 n1]))
      · rw [if_neg v, if_pos (by decide), mr_304_85]
        refine RA.mt g5 (decide_eq_true v) (fun i4 g6 => ?_)
        have z1 : tk (yT ψ) n - 1 = 0 := by omega
        rw [mb_l, mb_0, mr_304_90, if_neg (no_out (by omega) (by omega)), g6.ha, if_neg (no_out (by omega) (by omega)), nI_clamp (by omega), nI_clamp (by omega), g6.1.pr hp hP0, g6.1.cn g6.iv d1 d2, show some (Value.int 1) = some (Value.int (nI 1)) from rfl]
        refine RA.ck g6 (by omega) (by decide) (g6.iv.cp hp hP0) (g6.iv.cn d1 d2).1 (by omega) (fun i5 κ5 g7 => ?_) (fun i5 κ5 g7 => RA.dead g7 (by omega) (by rw [mb_l, mb_0, lk_t111 g7 (by decide) hp d1 n1]))
        rw [mb_l, mb_0, mr_304_111, if_neg (no_out (by omega) (by omega)), if_neg (no_out (by omega) (by omega)), nI_clamp (by omega), nI_clamp (by omega), g7.1.pr hp hP0, g7.1.cn g7.iv n1 n2, show some (Value.int 0) = some (Value.int (nI 0)) from rfl]
        refine RA.ck g7 (by omega) (by decide) (g7.iv.cp hp hP0) (g7.iv.cn n1 n2).1 (by omega) (fun i6 κ6 g8 => ?_) (fun i6 κ6 g8 => RA.dead g8 (by omega) (by rw [mb_l, mb_0, lk_t130 g8 (by decide) d1]))
        have t8 : TR i6 (yT ψ) := g8.1.1
        rw [mb_l, mb_0, mr_304_130, g8.ha, if_neg (no_out (by omega) (by omega)), nI_clamp (by omega), (t8 d d1).2.2.1]
        simp only [na_10, nI_ltI (show ts (yT ψ) d < 2 ^ 31 by omega) (show 10 < 2 ^ 31 by omega)]
        by_cases u : ts (yT ψ) d < 10
        · rw [if_pos u, mr_304_150]
          refine RA.mt g8 (decide_eq_true u) (fun i7 g9 => ?_)
          obtain ⟨k1, k2⟩ := lnk_ok h.iv n1 n2 q hM q0 g4 q1 v u
          obtain ⟨i8, c1, c2⟩ := RD.nt (m := m) (w := w) (l := l) (e := e) (q := (5, d, 0, n, pz M, 0)) g9 k1 k2 (fun z => absurd (show 5 ≤ 1 from z) (by decide)) (show 5 ≠ 6 by decide)
          have c1 : mm_V 277 0 [some (.ref 83), some (.int 5), some (.int (nI d)), some (.int (nI (pz M))), some (.int (nI n)), some (.int 0)] [] (mm_Z m w i7 l e) = some (.inl none, mm_Z m w i8 l e) := c1
          rw [mb_l, mb_0, mr_304_155, g9.gd, mb_l, mb_v, mr_304_159, if_bt, g9.ha, g9.hx, c1, mb_l, mb_0, mr_304_178, c2.hs]
          exact RA.ret (r := (0, _)) c2 (by omega)
        · rw [if_neg u, mr_304_150]
          exact RA.mf g8 (decide_eq_false u) (fun i7 g9 => RA.dead g9 (by omega) (by rw [mb_l, mb_0, lk_t155 g9 (by decide)]))
  · have t3 : TR i1 (yT ψ) := g3.1.1
    rw [mb_l, mb_0, mr_304_6, g3.ha, tr_isDirectory t3 h.iv.tw n1, mb_l, mb_v, mr_304_15, tk_dec]
    cases decide (tk (yT ψ) n = 2)
    · rw [if_bf, mr_304_23, g3.mn g0, mb_l, mb_0, lk_t28 g3 g0]
    · rw [if_bt, mr_304_23, g3.mn g0, mb_l, mb_0, lk_t28 g3 g0]
end MM108
