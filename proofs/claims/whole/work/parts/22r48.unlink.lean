/-! RMDIR, UNLINK -/
section MM107
variable {w : Bool} {l : Nat → Nat → Int64} {e : Bool × Nat × Nat} {π : mP} {m : Nat} {ψ : mS} {b B p n : Nat} {i0 i i' : Nat → Nat → Int32} {s a x y : Int32} {r : Int32 × mS} {L : List Nat}
theorem RA.mt (h : RD π i0 b i ψ 0 a x) {g : Bool} (hg : g = true) {x2 : Int32} {F : Option Value → mm_M → Option mm_R} {K : Int32 × mS} (h1 : ∀ i1, RD π i0 b i1 ψ 0 a x → RA m w l e π i0 B (mm_bi true (some (.inl none, mm_Z m w i1 l e)) F) K) : RA m w l e π i0 B (mm_bi true (mm_V 266 0 [some (.ref 83), some (.int 1), some (.int x2)] [] (mm_Z m w i l e)) F) (aMu g x2 ψ K) := by
  subst hg
  exact RA.mu (g := true) h (fun i1 h2 _ => h1 i1 h2) (fun i1 _ q => absurd q (by decide))
theorem RA.mf (h : RD π i0 b i ψ 0 a x) {g : Bool} (hg : g = false) {x2 : Int32} {F : Option Value → mm_M → Option mm_R} {K : Int32 × mS} (h1 : ∀ i1, RD π i0 b i1 ψ x2 a x → RA m w l e π i0 B (mm_bi true (some (.inl none, mm_Z m w i1 l e)) F) (x2, ψ)) : RA m w l e π i0 B (mm_bi true (mm_V 266 0 [some (.ref 83), some (.int 0), some (.int x2)] [] (mm_Z m w i l e)) F) (aMu g x2 ψ K) := by
  subst hg
  exact RA.mu (g := false) h (fun i1 _ q => absurd q (by decide)) (fun i1 h2 _ => h1 i1 h2)
theorem CA.mt {g : Bool} (hg : g = true) {x2 : Int32} {K : Int32 × mS} {X : Option mm_R} (h1 : CA m w l e π i0 B X K) : CA m w l e π i0 B X (aMu g x2 ψ K) := by
  subst hg; exact h1
theorem CA.mf {g : Bool} (hg : g = false) {x2 : Int32} {K : Int32 × mS} {X : Option mm_R} (h1 : CA m w l e π i0 B X (x2, ψ)) : CA m w l e π i0 B X (aMu g x2 ψ K) := by
  subst hg; exact h1
def eN (ψ : mS) (d z : Nat) : Nat := td (yT ψ) d (tE (yT ψ) d z)
def aRmd (π : mP) (p : Nat) (L : List Nat) (ψ : mS) : Int32 × mS := aPl π p L ψ (fun d ψ1 => aMu (decide (tE (yT ψ1) d (pz L) < ts (yT ψ1) d)) (-3) ψ1 (aMu (decide (tk (yT ψ1) (eN ψ1 d (pz L)) = 2)) (-4) ψ1 (aCk π (cP (yH ψ1) p) (cN (yT ψ1) d) 1 8 ψ1 (fun ψ2 => aCk π (cP (yH ψ1) p) (cN (yT ψ1) (eN ψ1 d (pz L))) 1 32 ψ2 (fun ψ3 => aMu (decide (ts (yT ψ1) (eN ψ1 d (pz L)) = 0)) (-8) ψ3 (0, yu ψ3 (6, d, 0, 0, pz L, 0)))))))
def aUnl (π : mP) (p : Nat) (L : List Nat) (ψ : mS) : Int32 × mS := aPl π p L ψ (fun d ψ1 => aMu (decide (tE (yT ψ1) d (pz L) < ts (yT ψ1) d)) (-3) ψ1 (aMu (decide (¬ tk (yT ψ1) (eN ψ1 d (pz L)) = 2)) (-5) ψ1 (aCk π (cP (yH ψ1) p) (cN (yT ψ1) d) 1 8 ψ1 (fun ψ2 => aCk π (cP (yH ψ1) p) (cN (yT ψ1) (eN ψ1 d (pz L))) 0 16 ψ2 (fun ψ3 => (0, yu ψ3 (6, d, 0, 0, pz L, 0)))))))
theorem ca_rmd (h : CD w π i0 b i ψ x y) (hb : b + 16 < 2 ^ 29) (hp : p < 8) (hP0 : hP (yH ψ) p ≠ 0) (hO : pO L) : CA m w l e π i0 (b + 16) (mm_V 98 0 [some (.ref 80), some (.int (nI p)), some (.int (nI (pc L))), none, none] [] (mm_Z m w i l e)) (aRmd π p L ψ) := by
  rw [mr_98_0]; unfold aRmd
  refine CA.pl h (by omega) hp hP0 hO (by omega) (fun i1 d κ q0 g1 q1 g2 => ?_) (fun i1 r hr => by rw [mb_l, mb_v, mr_98_6, if_pos hr])
  obtain ⟨n1, n2, n3⟩ := h.iv.wv g1
  obtain ⟨o1, o2, o3, o4⟩ := pO_d hO q0
  have t2 : TC true i1 (yT ψ) := g2.1.1
  have hw := h.iv.tw
  rw [mb_l, mb_v, mr_98_6, if_neg (nI_nn (by omega)), g2.2.2.2.1, tc_nodeNamed t2 hw n1 q1 (by omega), mb_l, mb_v, mr_98_25]
  by_cases q : tE (yT ψ) d (pz L) < ts (yT ψ) d
  · have hn := ((hw d n1).2.2 q1).2 _ q
    have hkn : tk (yT ψ) (td (yT ψ) d (tE (yT ψ) d (pz L))) ≠ 0 := h.iv.ti.2.2.2.2.1 d n1 q1 _ q
    have en : eN (yk ψ κ) d (pz L) = td (yT ψ) d (tE (yT ψ) d (pz L)) := rfl
    refine CA.mt (decide_eq_true q) ?_
    rw [if_pos q, if_neg (na_m1 (by omega)), tc_isDirectory t2 hw hn.2.2.2, mb_l, mb_v, mr_98_45, en]
    by_cases z : tk (yT ψ) (td (yT ψ) d (tE (yT ψ) d (pz L))) = 2
    · refine CA.mt (decide_eq_true z) ?_
      have z1 : tk (yT ψ) (td (yT ψ) d (tE (yT ψ) d (pz L))) - 1 = 1 := by omega
      have z0 : tk (yT ψ) d - 1 = 1 := by omega
      rw [if_pos z, if_neg (by decide)]
      refine CA.may g2 (by omega) hp hP0 n1 n2 z0 (by omega) (fun i2 κ2 g3 => ?_) (fun i2 => by rw [mb_l, mb_v, mr_98_59, if_bf])
      rw [mb_l, mb_v, mr_98_59, if_bt]
      refine CA.may g3 (by omega) hp hP0 hn.2.2.2 hkn z1 (by omega) (fun i3 κ3 g4 => ?_) (fun i2 => by rw [mb_l, mb_v, mr_98_71, if_bf])
      have t4 : TC true i3 (yT ψ) := g4.1.1
      have hs24 := (hw _ hn.2.2.2).2.1
      rw [mb_l, mb_v, mr_98_71, if_bt, if_neg (no_out (by omega) (by omega)), nI_clamp (by omega), (t4 _ hn.2.2.2).2.2.1]
      simp only [nz_gt (show ts (yT ψ) (td (yT ψ) d (tE (yT ψ) d (pz L))) < 2 ^ 31 by omega)]
      by_cases v : ts (yT ψ) (td (yT ψ) d (tE (yT ψ) d (pz L))) = 0
      · refine CA.mt (decide_eq_true v) ?_
        obtain ⟨i4, c1, c2⟩ := CD.rmv (m := m) (l := l) (e := e) (d := d) (z := pz L) g4 ⟨n1, q1, o2, o3, q⟩ (fun _ => v)
        have c1 : mm_V 100 0 [some (.ref 80), some (.int (nI d)), some (.int (nI (td (yT ψ) d (tE (yT ψ) d (pz L)))))] [] (mm_Z m w i3 l e) = some (.inl (some (.int 0)), mm_Z m w i4 l e) := c1
        rw [if_neg (fun z => z v), c1, mb_l, mb_v, mr_98_100]
        exact CA.dead c2 (by omega) rfl
      · refine CA.mf (decide_eq_false v) ?_
        rw [if_pos v]
        exact CA.dead g4 (by omega) rfl
    · refine CA.mf (decide_eq_false z) ?_
      rw [if_neg z, if_pos rfl]
      exact CA.dead g2 (by omega) rfl
  · refine CA.mf (decide_eq_false q) ?_
    rw [if_neg q, if_pos rfl]
    exact CA.dead g2 (by omega) rfl
theorem ca_unl (h : CD w π i0 b i ψ x y) (hb : b + 16 < 2 ^ 29) (hp : p < 8) (hP0 : hP (yH ψ) p ≠ 0) (hO : pO L) : CA m w l e π i0 (b + 16) (mm_V 99 0 [some (.ref 80), some (.int (nI p)), some (.int (nI (pc L))), none, none] [] (mm_Z m w i l e)) (aUnl π p L ψ) := by
  rw [mr_99_0]; unfold aUnl
  refine CA.pl h (by omega) hp hP0 hO (by omega) (fun i1 d κ q0 g1 q1 g2 => ?_) (fun i1 r hr => by rw [mb_l, mb_v, mr_99_6, if_pos hr])
  obtain ⟨n1, n2, n3⟩ := h.iv.wv g1
  obtain ⟨o1, o2, o3, o4⟩ := pO_d hO q0
  have t2 : TC true i1 (yT ψ) := g2.1.1
  have hw := h.iv.tw
  rw [mb_l, mb_v, mr_99_6, if_neg (nI_nn (by omega)), g2.2.2.2.1, tc_nodeNamed t2 hw n1 q1 (by omega), mb_l, mb_v, mr_99_25]
  by_cases q : tE (yT ψ) d (pz L) < ts (yT ψ) d
  · have hn := ((hw d n1).2.2 q1).2 _ q
    have hkn : tk (yT ψ) (td (yT ψ) d (tE (yT ψ) d (pz L))) ≠ 0 := h.iv.ti.2.2.2.2.1 d n1 q1 _ q
    have hk2 := (hw _ hn.2.2.2).1
    have en : eN (yk ψ κ) d (pz L) = td (yT ψ) d (tE (yT ψ) d (pz L)) := rfl
    refine CA.mt (decide_eq_true q) ?_
    rw [if_pos q, if_neg (na_m1 (by omega)), tc_isDirectory t2 hw hn.2.2.2, mb_l, mb_v, mr_99_45, en]
    by_cases z : tk (yT ψ) (td (yT ψ) d (tE (yT ψ) d (pz L))) = 2
    · refine CA.mf (decide_eq_false (fun y => y z)) ?_
      rw [if_pos z, if_neg (by decide)]
      exact CA.dead g2 (by omega) rfl
    · refine CA.mt (decide_eq_true z) ?_
      have z1 : tk (yT ψ) (td (yT ψ) d (tE (yT ψ) d (pz L))) - 1 = 0 := by omega
      have z0 : tk (yT ψ) d - 1 = 1 := by omega
      rw [if_neg z, if_pos rfl]
      refine CA.may g2 (by omega) hp hP0 n1 n2 z0 (by omega) (fun i2 κ2 g3 => ?_) (fun i2 => by rw [mb_l, mb_v, mr_99_59, if_bf])
      rw [mb_l, mb_v, mr_99_59, if_bt]
      refine CA.may g3 (by omega) hp hP0 hn.2.2.2 hkn z1 (by omega) (fun i3 κ3 g4 => ?_) (fun i2 => by rw [mb_l, mb_v, mr_99_71, if_bf])
      obtain ⟨i4, c1, c2⟩ := CD.rmv (m := m) (l := l) (e := e) (d := d) (z := pz L) g4 ⟨n1, q1, o2, o3, q⟩ (fun y => absurd y z)
      have c1 : mm_V 100 0 [some (.ref 80), some (.int (nI d)), some (.int (nI (td (yT ψ) d (tE (yT ψ) d (pz L)))))] [] (mm_Z m w i3 l e) = some (.inl (some (.int 0)), mm_Z m w i4 l e) := c1
      rw [mb_l, mb_v, mr_99_71, if_bt, c1, mb_l, mb_v, mr_99_84]
      exact CA.dead c2 (by omega) rfl
  · refine CA.mf (decide_eq_false q) ?_
    rw [if_neg q, if_pos rfl]
    exact CA.dead g2 (by omega) rfl
/-- the reference, once its result is a fault -/
theorem rm_t143 (g : RD π i0 b i ψ s a x) (hs : s < 0) {x1 x2 x3 x4 : Int32} : mm_V 294 143 [some (.ref 83), some (.int x1), some (.int x2), some (.int x3), some (.int x4)] [] (mm_Z m w i l e) = some (.inl (some (.int s)), mm_Z m w i l e) := by
  rw [mr_294_143, tka_no g hs, mb_l, mb_v, mr_294_147]
theorem rm_t122 (g : RD π i0 b i ψ s a x) (hs : s < 0) (hn : n < 32) {x1 x2 x3 : Int32} : mm_V 294 122 [some (.ref 83), some (.int x1), some (.int x2), some (.int x3), some (.int (nI n))] [] (mm_Z m w i l e) = some (.inl (some (.int s)), mm_Z m w i l e) := by
  rw [mr_294_122, if_neg (no_out (by omega) (by omega))]
  split <;> rw [mr_294_138, g.mn hs, mb_l, mb_0, rm_t143 g hs]
theorem rm_t103 (g : RD π i0 b i ψ s a x) (hs : s < 0) (hp : p < 8) (hn : n < 32) {x2 x3 : Int32} : mm_V 294 103 [some (.ref 83), some (.int (nI p)), some (.int x2), some (.int x3), some (.int (nI n))] [] (mm_Z m w i l e) = some (.inl (some (.int s)), mm_Z m w i l e) := by
  rw [mr_294_103, if_neg (no_out (by omega) (by omega)), if_neg (no_out (by omega) (by omega)), g.cn hs, mb_l, mb_0, rm_t122 g hs hn]
theorem rm_t82 {d : Nat} (g : RD π i0 b i ψ s (nI d) x) (hs : s < 0) (hp : p < 8) (hd : d < 32) (hn : n < 32) {x2 x3 : Int32} : mm_V 294 82 [some (.ref 83), some (.int (nI p)), some (.int x2), some (.int x3), some (.int (nI n))] [] (mm_Z m w i l e) = some (.inl (some (.int s)), mm_Z m w i l e) := by
  rw [mr_294_82, if_neg (no_out (by omega) (by omega)), g.ha, if_neg (no_out (by omega) (by omega)), g.cn hs, mb_l, mb_0, rm_t103 g hs hp hn]
theorem ul_t130 (g : RD π i0 b i ψ s a x) (hs : s < 0) {x1 x2 x3 x4 : Int32} : mm_V 296 130 [some (.ref 83), some (.int x1), some (.int x2), some (.int x3), some (.int x4)] [] (mm_Z m w i l e) = some (.inl (some (.int s)), mm_Z m w i l e) := by
  rw [mr_296_130, tka_no g hs, mb_l, mb_v, mr_296_134]
theorem ul_t111 (g : RD π i0 b i ψ s a x) (hs : s < 0) (hp : p < 8) (hn : n < 32) {x2 x3 : Int32} : mm_V 296 111 [some (.ref 83), some (.int (nI p)), some (.int x2), some (.int x3), some (.int (nI n))] [] (mm_Z m w i l e) = some (.inl (some (.int s)), mm_Z m w i l e) := by
  rw [mr_296_111, if_neg (no_out (by omega) (by omega)), if_neg (no_out (by omega) (by omega)), g.cn hs, mb_l, mb_0, ul_t130 g hs]
theorem ul_t90 {d : Nat} (g : RD π i0 b i ψ s (nI d) x) (hs : s < 0) (hp : p < 8) (hd : d < 32) (hn : n < 32) {x2 x3 : Int32} : mm_V 296 90 [some (.ref 83), some (.int (nI p)), some (.int x2), some (.int x3), some (.int (nI n))] [] (mm_Z m w i l e) = some (.inl (some (.int s)), mm_Z m w i l e) := by
  rw [mr_296_90, if_neg (no_out (by omega) (by omega)), g.ha, if_neg (no_out (by omega) (by omega)), g.cn hs, mb_l, mb_0, ul_t111 g hs hp hn]
theorem ra_rmd (h : RD π i0 b i ψ 0 a x) (hb : b + 16 < 2 ^ 29) (hp : p < 8) (hP0 : hP (yH ψ) p ≠ 0) (hO : pO L) : RA m w l e π i0 (b + 16) (mm_V 294 0 [some (.ref 83), some (.int (nI p)), some (.int (nI (pc L))), none, none] [] (mm_Z m w i l e)) (aRmd π p L ψ) := by
  rw [mr_294_0]; unfold aRmd
  refine RA.pl h (by omega) hp hP0 hO (by omega) (fun i1 d κ q0 g1 q1 g2 => ?_) (fun i1 s' hs hi => by rw [mb_l, mb_0, mr_294_6, rs_bd (by rw [hi]; exact hs), mb_l, mb_v, mr_294_10, if_bf, hi])
  obtain ⟨n1, n2, n3⟩ := h.iv.wv g1
  obtain ⟨o1, o2, o3, o4⟩ := pO_d hO q0
  have t2 : TR i1 (yT ψ) := g2.1.1
  have hw := h.iv.tw
  have hs10 := ((hw d n1).2.2 q1).1
  rw [mb_l, mb_0, mr_294_6, g2.gd, mb_l, mb_v, mr_294_10, if_bt, g2.ha, g2.hx, tr_entryOf t2 hw h.iv.tn n1 q1 (by omega), mb_l, mb_v, mr_294_30]
  by_cases q : tE (yT ψ) d (pz L) < ts (yT ψ) d
  · have hn := ((hw d n1).2.2 q1).2 _ q
    have hkn : tk (yT ψ) (td (yT ψ) d (tE (yT ψ) d (pz L))) ≠ 0 := h.iv.ti.2.2.2.2.1 d n1 q1 _ q
    have en : eN (yk ψ κ) d (pz L) = td (yT ψ) d (tE (yT ψ) d (pz L)) := rfl
    rw [if_pos q, if_neg (nI_nn (by omega)), mr_294_41]
    refine RA.mt g2 (decide_eq_true q) (fun i2 g3 => ?_)
    have t3 : TR i2 (yT ψ) := g3.1.1
    rw [mb_l, mb_0, mr_294_46, if_neg (nI_nn (by omega)), g3.ha, na_10, na_mul, nI_add, if_neg (no_out (by omega) (by omega)), nI_clamp (by omega), ((t3 d n1).2.2.2.2 q1 _ q).2, mr_294_68, tr_isDirectory t3 hw hn.2.2.2, mb_l, mb_v, mr_294_77, en]
    by_cases z : tk (yT ψ) (td (yT ψ) d (tE (yT ψ) d (pz L))) = 2
    · rw [if_pos z]
      refine RA.mt g3 (decide_eq_true z) (fun i3 g4 => ?_)
      rw [mb_l, mb_0, mr_294_82, if_neg (no_out (by omega) (by omega)), g4.ha, if_neg (no_out (by omega) (by omega)), nI_clamp (by omega), nI_clamp (by omega), g4.1.pr hp hP0, g4.1.cn g4.iv n1 n2, show some (Value.int 1) = some (Value.int (nI 1)) from rfl]
      refine RA.ck g4 (by omega) (by decide) (g4.iv.cp hp hP0) (g4.iv.cn n1 n2).1 (by omega) (fun i4 κ4 g5 => ?_) (fun i4 κ4 g5 => RA.dead g5 (by omega) (by rw [mb_l, mb_0, rm_t103 g5 (by decide) hp hn.2.2.2]))
      rw [mb_l, mb_0, mr_294_103, if_neg (no_out (by omega) (by omega)), if_neg (no_out (by omega) (by omega)), nI_clamp (by omega), nI_clamp (by omega), g5.1.pr hp hP0, g5.1.cn g5.iv hn.2.2.2 hkn, show some (Value.int 1) = some (Value.int (nI 1)) from rfl]
      refine RA.ck g5 (by omega) (by decide) (g5.iv.cp hp hP0) (g5.iv.cn hn.2.2.2 hkn).1 (by omega) (fun i5 κ5 g6 => ?_) (fun i5 κ5 g6 => RA.dead g6 (by omega) (by rw [mb_l, mb_0, rm_t122 g6 (by decide) hn.2.2.2]))
      have t6 : TR i5 (yT ψ) := g6.1.1
      have hs24 := (hw _ hn.2.2.2).2.1
      rw [mb_l, mb_0, mr_294_122, if_neg (no_out (by omega) (by omega)), nI_clamp (by omega), (t6 _ hn.2.2.2).2.2.1]
      simp only [nz_eq (show ts (yT ψ) (td (yT ψ) d (tE (yT ψ) d (pz L))) < 2 ^ 31 by omega)]
      by_cases v : ts (yT ψ) (td (yT ψ) d (tE (yT ψ) d (pz L))) = 0
      · rw [if_pos v, mr_294_138]
        refine RA.mt g6 (decide_eq_true v) (fun i6 g7 => ?_)
        obtain ⟨i7, c1, c2⟩ := RD.tka (m := m) (w := w) (l := l) (e := e) (d := d) (z := pz L) g7 ⟨n1, q1, o2, o3, q⟩ (fun _ => v)
        rw [mb_l, mb_0, mr_294_143, c1, mb_l, mb_v, mr_294_147]
        exact RA.ret (r := (0, _)) c2 (by omega)
      · rw [if_neg v, mr_294_138]
        refine RA.mf g6 (decide_eq_false v) (fun i6 g7 => RA.dead g7 (by omega) (by rw [mb_l, mb_0, rm_t143 g7 (by decide)]))
    · rw [if_neg z]
      refine RA.mf g3 (decide_eq_false z) (fun i3 g4 => RA.dead g4 (by omega) (by rw [mb_l, mb_0, rm_t82 g4 (by decide) hp n1 hn.2.2.2]))
  · rw [if_neg q, if_pos (by decide), mr_294_41]
    refine RA.mf g2 (decide_eq_false q) (fun i2 g3 => RA.dead g3 (by omega) ?_)
    have t3 : TR i2 (yT ψ) := g3.1.1
    rw [mb_l, mb_0, mr_294_46, if_pos (by decide), mr_294_68, na_0, tr_isDirectory t3 hw (by omega), mb_l, mb_v, mr_294_77, g3.mn (by decide), mb_l, mb_0, rm_t82 g3 (by decide) hp n1 (by omega)]
theorem ra_unl (h : RD π i0 b i ψ 0 a x) (hb : b + 16 < 2 ^ 29) (hp : p < 8) (hP0 : hP (yH ψ) p ≠ 0) (hO : pO L) : RA m w l e π i0 (b + 16) (mm_V 296 0 [some (.ref 83), some (.int (nI p)), some (.int (nI (pc L))), none, none] [] (mm_Z m w i l e)) (aUnl π p L ψ) := by
  rw [mr_296_0]; unfold aUnl
  refine RA.pl h (by omega) hp hP0 hO (by omega) (fun i1 d κ q0 g1 q1 g2 => ?_) (fun i1 s' hs hi => by rw [mb_l, mb_0, mr_296_6, rs_bd (by rw [hi]; exact hs), mb_l, mb_v, mr_296_10, if_bf, hi])
  obtain ⟨n1, n2, n3⟩ := h.iv.wv g1
  obtain ⟨o1, o2, o3, o4⟩ := pO_d hO q0
  have t2 : TR i1 (yT ψ) := g2.1.1
  have hw := h.iv.tw
  have hs10 := ((hw d n1).2.2 q1).1
  rw [mb_l, mb_0, mr_296_6, g2.gd, mb_l, mb_v, mr_296_10, if_bt, g2.ha, g2.hx, tr_entryOf t2 hw h.iv.tn n1 q1 (by omega), mb_l, mb_v, mr_296_30]
  by_cases q : tE (yT ψ) d (pz L) < ts (yT ψ) d
  · have hn := ((hw d n1).2.2 q1).2 _ q
    have hkn : tk (yT ψ) (td (yT ψ) d (tE (yT ψ) d (pz L))) ≠ 0 := h.iv.ti.2.2.2.2.1 d n1 q1 _ q
    have en : eN (yk ψ κ) d (pz L) = td (yT ψ) d (tE (yT ψ) d (pz L)) := rfl
    rw [if_pos q, if_neg (nI_nn (by omega)), mr_296_41]
    refine RA.mt g2 (decide_eq_true q) (fun i2 g3 => ?_)
    have t3 : TR i2 (yT ψ) := g3.1.1
    rw [mb_l, mb_0, mr_296_46, if_neg (nI_nn (by omega)), g3.ha, na_10, na_mul, nI_add, if_neg (no_out (by omega) (by omega)), nI_clamp (by omega), ((t3 d n1).2.2.2.2 q1 _ q).2, mr_296_68, tr_isDirectory t3 hw hn.2.2.2, mb_l, mb_v, mr_296_77, en]
    by_cases z : tk (yT ψ) (td (yT ψ) d (tE (yT ψ) d (pz L))) = 2
    · rw [if_pos z, if_neg (by decide), mr_296_85]
      refine RA.mf g3 (decide_eq_false (fun y => y z)) (fun i3 g4 => RA.dead g4 (by omega) (by rw [mb_l, mb_0, ul_t90 g4 (by decide) hp n1 hn.2.2.2]))
    · rw [if_neg z, if_pos rfl, mr_296_85]
      refine RA.mt g3 (decide_eq_true z) (fun i3 g4 => ?_)
      rw [mb_l, mb_0, mr_296_90, if_neg (no_out (by omega) (by omega)), g4.ha, if_neg (no_out (by omega) (by omega)), nI_clamp (by omega), nI_clamp (by omega), g4.1.pr hp hP0, g4.1.cn g4.iv n1 n2, show some (Value.int 1) = some (Value.int (nI 1)) from rfl]
      refine RA.ck g4 (by omega) (by decide) (g4.iv.cp hp hP0) (g4.iv.cn n1 n2).1 (by omega) (fun i4 κ4 g5 => ?_) (fun i4 κ4 g5 => RA.dead g5 (by omega) (by rw [mb_l, mb_0, ul_t111 g5 (by decide) hp hn.2.2.2]))
      rw [mb_l, mb_0, mr_296_111, if_neg (no_out (by omega) (by omega)), if_neg (no_out (by omega) (by omega)), nI_clamp (by omega), nI_clamp (by omega), g5.1.pr hp hP0, g5.1.cn g5.iv hn.2.2.2 hkn, show some (Value.int 0) = some (Value.int (nI 0)) from rfl]
      refine RA.ck g5 (by omega) (by decide) (g5.iv.cp hp hP0) (g5.iv.cn hn.2.2.2 hkn).1 (by omega) (fun i5 κ5 g6 => ?_) (fun i5 κ5 g6 => RA.dead g6 (by omega) (by rw [mb_l, mb_0, ul_t130 g6 (by decide)]))
      obtain ⟨i7, c1, c2⟩ := RD.tka (m := m) (w := w) (l := l) (e := e) (d := d) (z := pz L) g6 ⟨n1, q1, o2, o3, q⟩ (fun y => absurd y z)
      rw [mb_l, mb_0, mr_296_130, c1, mb_l, mb_v, mr_296_134]
      exact RA.ret (r := (0, _)) c2 (by omega)
  · rw [if_neg q, if_pos (by decide), mr_296_41]
    refine RA.mf g2 (decide_eq_false q) (fun i2 g3 => RA.dead g3 (by omega) ?_)
    have t3 : TR i2 (yT ψ) := g3.1.1
    rw [mb_l, mb_0, mr_296_46, if_pos (by decide), mr_296_68, na_0, tr_isDirectory t3 hw (by omega), mb_l, mb_v, mr_296_77, if_pos h.iv.ti.2.2.2.2.2, if_neg (by decide)]
    rw [mr_296_85, g3.mn (by decide), mb_l, mb_0, ul_t90 g3 (by decide) hp n1 (by omega)]
end MM107
