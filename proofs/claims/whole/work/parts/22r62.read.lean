/-! READ -/
section MM121
variable {w : Bool} {l : Nat → Nat → Int64} {e : Bool × Nat × Nat} {π : mP} {m : Nat} {ψ : mS} {b B p n h o k : Nat} {i0 i i' : Nat → Nat → Int32} {s a x y : Int32} {r : Int32 × mS} {η : mH}
def aRp (π : mP) (p k : Nat) (ψ : mS) : Int32 × mS := aCk π (cP (yH ψ) p) (hC (yH ψ) k - 1) 3 1 ψ (fun ψ1 => if hS (yH ψ) k = 0 then (if hEn (yH ψ) k 2 = true then (-12, ψ1) else (256, ψ1)) else (hB (yH ψ) k 0, yh ψ1 (hBy (yH ψ) k (hS (yH ψ) k - 1) (fun j => hB (yH ψ) k (j + 1)))))
theorem IV.pi (hI : IV π b ψ) (hk : k < 4) (hc : hC (yH ψ) k ≠ 0) : xOk (hC (yH ψ) k - 1) := pv_nI hI.pw (by have := (hI.hw.2.2.2 k hk).1; omega) (hI.hv.2.2 k hk hc)
theorem pi_ok (hI : IV π b ψ) (o1 : oO ψ p h < 16) (o2 : hCt (yH ψ) (oO ψ p h) ≠ 0) (q : oF ψ p h = true) : oN ψ p h < 4 ∧ hC (yH ψ) (oN ψ p h) ≠ 0 := by
  have := (hI.hw.2.2.1 _ o1 o2).1 q
  exact ⟨this.1, this.2.1⟩
theorem ca_rp (g : CD w π i0 b i ψ x y) (hb : b < 2 ^ 29) (hB' : b + 1 ≤ B) (hp : p < 8) (hP0 : hP (yH ψ) p ≠ 0) (hk : k < 4) (hc : hC (yH ψ) k ≠ 0) : CA m w l e π i0 B (mm_V 49 0 [some (.ref 81), some (.int (nI p)), some (.int (nI k))] [] (mm_Z m w i l e)) (aRp π p k ψ) := by
  have H : HC i (yH ψ) := g.1.2.2.2.1
  have e77 : i 77 k = nI (hC (yH ψ) k - 1) := by rw [(H.2.2.2 k hk).1, nz_s hc]
  have hs8 := (g.iv.hw.2.2.2 k hk).2.1
  unfold aRp
  rw [mr_49_0, if_neg (no_out (by omega) (by omega)), if_neg (no_out (by omega) (by omega)), nI_clamp (by omega), nI_clamp (by omega), g.1.pr hp hP0, e77, show some (Value.int 3) = some (Value.int (nI 3)) from rfl]
  refine CA.gr g hb (g.iv.cp hp hP0) (g.iv.pi hk hc) (by omega) hB' (fun i1 κ g1 => ?_) (fun i1 => by rw [mb_l, mb_v, mr_49_27, if_bf])
  have H1 : HC i1 (yH ψ) := g1.1.2.2.2.1
  have e78 : i1 78 (nI k).toNatClampNeg = nI (hS (yH ψ) k) := by rw [nI_clamp (by omega), ((H1.2.2.2 k hk).2 hc).1]
  rw [mb_l, mb_v, mr_49_27, if_bt, if_neg (no_out (by omega) (by omega))]
  by_cases q : hS (yH ψ) k = 0
  · rw [if_neg (by rw [e78, nz_gt (by omega)]; exact fun z => z q), if_pos q, show some (Value.int 2) = some (Value.int (nI 2)) from rfl, hc_hasEnd H1 g.iv.hw hk (Or.inr rfl), mb_l, mb_v, mr_49_63]
    cases z : hEn (yH ψ) k 2 with
    | true => rw [if_bt, if_pos rfl]; exact CA.dead g1 hB' rfl
    | false => rw [if_bf, if_neg (by decide)]; exact CA.dead g1 hB' rfl
  · obtain ⟨i2, f1, f2⟩ := CD.tb (m := m) (l := l) (e := e) g1 hk hc q
    have f1 : mm_V 78 0 [some (.ref 68), some (.int (nI k)), none, none, none] [] (mm_Z m w i1 l e) = some (.inl (some (.int (hB (yH ψ) k 0))), mm_Z m w i2 l e) := f1
    rw [if_pos (by rw [e78, nz_gt (by omega)]; exact q), if_neg q, f1, mb_l, mb_v, mr_49_53]
    exact CA.dead f2 hB' rfl
theorem rp_t66 (g : RD π i0 b i ψ s a x) (hs : s < 0) (hk : k < 4) {x1 x2 : Int32} : mm_V 314 66 [some (.ref 83), some (.int x1), some (.int x2), some (.int (nI k)), none, none] [] (mm_Z m w i l e) = some (.inl (some (.int s)), mm_Z m w i l e) := by
  have H : HR i (yH ψ) := g.1.2.2.2.1
  have t90 : ∀ z : Int32, mm_V 314 90 [some (.ref 83), some (.int x1), some (.int x2), some (.int (nI k)), none, none] [.int z, .ref 83] (mm_Z m w i l e) = some (.inl (some (.int s)), mm_Z m w i l e) := fun z => by
    rw [mr_314_90, g.mn hs, mb_l, mb_0, mr_314_95, g.bd hs, mb_l, mb_v, mr_314_99, if_bf, mr_314_111, g.bd hs, mb_l, mb_v, mr_314_115, if_bf, g.hs]
  rw [mr_314_66, if_neg (no_out (by omega) (by omega))]
  split
  · exact t90 1
  · rw [show some (Value.int 1) = some (Value.int (bI true)) from rfl, hr_hasEnd H g.iv.hw hk, mb_l, mb_v, mr_314_82]
    cases hEn (yH ψ) k (if true = true then 2 else 1) with
    | false => rw [if_bf]; exact t90 1
    | true => rw [if_bt]; exact t90 0
theorem ra_rp (g : RD π i0 b i ψ 0 a x) (hb : b < 2 ^ 29) (hB' : b + 1 ≤ B) (hp : p < 8) (hP0 : hP (yH ψ) p ≠ 0) (hk : k < 4) (hc : hC (yH ψ) k ≠ 0) {x2 : Int32} : RA m w l e π i0 B (mm_V 314 47 [some (.ref 83), some (.int (nI p)), some (.int x2), none, none, none] [.int (nI k)] (mm_Z m w i l e)) (aRp π p k ψ) := by
  have H : HR i (yH ψ) := g.1.2.2.2.1
  have e127 : i 127 k = nI (hC (yH ψ) k - 1) := by rw [(H.2.2.2 k hk).1, nz_s hc]
  have hs8 := (g.iv.hw.2.2.2 k hk).2.1
  unfold aRp
  rw [mr_314_47, if_neg (no_out (by omega) (by omega)), if_neg (no_out (by omega) (by omega)), nI_clamp (by omega), nI_clamp (by omega), g.1.pr hp hP0, e127, show some (Value.int 3) = some (Value.int (nI 3)) from rfl]
  refine RA.ck g hb (by decide) (g.iv.cp hp hP0) (g.iv.pi hk hc) (by omega) (fun i1 κ g1 => ?_) (fun i1 κ g1 => RA.dead g1 hB' (by rw [mb_l, mb_0, rp_t66 g1 (by decide) hk]))
  have H1 : HR i1 (yH ψ) := g1.1.2.2.2.1
  have e128 : i1 128 (nI k).toNatClampNeg = nI (hS (yH ψ) k) := by rw [nI_clamp (by omega), ((H1.2.2.2 k hk).2 hc).1]
  rw [mb_l, mb_0, mr_314_66, if_neg (no_out (by omega) (by omega))]
  by_cases q : hS (yH ψ) k = 0
  · rw [if_neg (by rw [e128, nz_gt (by omega)]; exact fun z => z q), if_pos q, show some (Value.int 1) = some (Value.int (bI true)) from rfl, hr_hasEnd H1 g.iv.hw hk, if_pos rfl, mb_l, mb_v, mr_314_82]
    cases z : hEn (yH ψ) k 2 with
    | true =>
      rw [if_bt, if_pos rfl, mr_314_90, show (Value.int 0) = Value.int (bI false) from rfl, rs_must g1.hs, if_neg (by decide), mb_l, mb_0, mr_314_95, g1.st.bd (by decide), mb_l, mb_v, mr_314_99, if_bf, mr_314_111, g1.st.bd (by decide), mb_l, mb_v, mr_314_115, if_bf, mw_s]
      exact RA.ret (r := (-12, yk ψ κ)) g1.st hB'
    | false =>
      have g2 := g1.st (s' := 0)
      have e128' : mm_ww i1 83 81 0 128 (nI k).toNatClampNeg = 0 := by rw [mw_k (by omega), e128, q]; rfl
      rw [if_bf, if_neg (by decide), mr_314_90, show (Value.int 1) = Value.int (bI true) from rfl, rs_must g1.hs, if_pos rfl, mb_l, mb_0, mr_314_95, g2.gd, mb_l, mb_v, mr_314_99, if_bt, if_neg (no_out (by omega) (by omega)), if_pos e128', mr_314_111, g2.gd, mb_l, mb_v, mr_314_115, if_bt]
      exact RA.ret (r := (256, yk ψ κ)) g2 hB'
  · have g2 := g1.st (s' := 0)
    have H2 : HR (mm_ww i1 83 81 0) (yH ψ) := g2.1.2.2.2.1
    obtain ⟨b1, b2⟩ := (H2.2.2.2 k hk).2 hc
    have e128' : mm_ww i1 83 81 0 128 (nI k).toNatClampNeg = nI (hS (yH ψ) k) := by rw [nI_clamp (by omega), b1]
    have e8 : 8 * nI k = nI (8 * k) := by rw [na_8, na_mul]
    have e129 : mm_ww i1 83 81 0 129 (8 * k) = hB (yH ψ) k 0 := b2 0 (by omega)
    rw [if_pos (by rw [e128, nz_gt (by omega)]; exact q), if_neg q, mr_314_90, show (Value.int 1) = Value.int (bI true) from rfl, rs_must g1.hs, if_pos rfl, mb_l, mb_0, mr_314_95, g2.gd, mb_l, mb_v, mr_314_99, if_bt, if_neg (no_out (by omega) (by omega)), if_neg (by rw [e128', nz_eq (by omega)]; exact q), e8, if_neg (no_out (by omega) (by omega)), if_neg (no_out (by omega) (by omega)), if_neg (no_out (by omega) (by omega)), e128', na_1, na_sub (by omega), nI_clamp (by omega), nI_clamp (by omega), e129]
    obtain ⟨i3, f1, f2, f3, f4, f5⟩ := rb_loop (m := m) (w := w) (l := l) (e := e) hk hs8 (v := hB (yH ψ) k 0) (x1 := nI p) (x2 := x2) (hS (yH ψ) k - 1) 0 (mm_ww (mm_ww i1 83 81 0) 128 k (nI (hS (yH ψ) k - 1))) (by omega) (by omega) mw_s
    have f1 : mm_V 314 153 [some (.ref 83), some (.int (nI p)), some (.int x2), some (.int (nI k)), some (.int (hB (yH ψ) k 0)), some (.int 0)] [] (mm_Z m w (mm_ww (mm_ww i1 83 81 0) 128 k (nI (hS (yH ψ) k - 1))) l e) = _ := f1
    rw [f1]
    refine RA.ret (r := (hB (yH ψ) k 0, yh (yk ψ κ) (hBy (yH ψ) k (hS (yH ψ) k - 1) (fun j => hB (yH ψ) k (j + 1))))) (g2.hd (HR_by H2 hk (by rw [f5 _ (by omega), mw_s]) (fun j hj => ?_) (fun y hy z => ⟨by rw [f5 _ (by omega), mw_j z], fun j hj => by rw [f4 _ (by omega), mw_k (by omega)]⟩) g.iv.hw (fun q a1 a2 => by rw [f5 q a2, mw_k a1])) (fun k j z => by rw [f5 _ (by omega), mw_k (by omega)]) (iv_by g2.iv (by omega))) hB'
    rw [f2 j (by omega) (by omega), mw_k (by omega), show 8 * k + j + 1 = 8 * k + (j + 1) by omega]
    exact b2 (j + 1) (by omega)
def aRd (π : mP) (p h : Nat) (ψ : mS) : Int32 × mS := aUs π p h ψ (fun ψ1 => aMu (decide (¬ nI (oM ψ p h) &&& 1 = 0)) (-10) ψ1 (if oF ψ p h = true then aRp π p (oN ψ p h) ψ1 else aMu (decide (¬ tk (yT ψ) (oN ψ p h) = 2)) (-5) ψ1 (aCk π (cP (yH ψ) p) (cN (yT ψ) (oN ψ p h)) 0 1 ψ1 (fun ψ2 => if oP ψ p h < ts (yT ψ) (oN ψ p h) then (tb (yT ψ) (oN ψ p h) (oP ψ p h), yh ψ2 (hPs (yH ψ) (oO ψ p h) (oP ψ p h + 1))) else (256, ψ2)))))
theorem ca_rd (g : CD w π i0 b i ψ x y) (hb : b + 1 < 2 ^ 29) (hB' : b + 2 ≤ B) (hp : p < 8) (hP0 : hP (yH ψ) p ≠ 0) (hh : h < 6) : CA m w l e π i0 B (mm_V 48 0 [some (.ref 81), some (.int (nI p)), some (.int (nI h)), none, none, none] [] (mm_Z m w i l e)) (aRd π p h ψ) := by
  rw [mr_48_0]; unfold aRd
  refine CA.us g (by omega) hp hP0 hh (by omega) (fun i1 κ o1 o2 g1 => ?_) (fun i1 r hr => by rw [mb_l, mb_v, mr_48_6, if_pos hr])
  have H : HC i1 (yH ψ) := g1.1.2.2.2.1
  have em : i1 74 (nI (oO ψ p h)).toNatClampNeg = nI (oM ψ p h) := hc_m H o1 o2
  rw [mb_l, mb_v, mr_48_6, if_neg (nI_nn (by omega)), if_neg (no_out (by omega) (by omega))]
  by_cases z : nI (oM ψ p h) &&& 1 = 0
  · rw [if_pos (by rw [em]; exact z)]
    exact CA.mf (decide_eq_false (fun y => y z)) (CA.dead g1 (by omega) rfl)
  · refine CA.mt (decide_eq_true z) ?_
    rw [if_neg (by rw [em]; exact z), if_neg (no_out (by omega) (by omega))]
    cases q : oF ψ p h with
    | true =>
      obtain ⟨k1, k2⟩ := pi_ok g.iv o1 o2 q
      have e73 : i1 73 (nI (oO ψ p h)).toNatClampNeg = nI (oN ψ p h) := (hc_t H o1 o2 q).2
      rw [if_pos (hc_t H o1 o2 q).1, if_neg (no_out (by omega) (by omega)), if_pos rfl, e73]
      exact CA.bd (ca_rp g1 (by omega) (by omega) hp hP0 k1 k2) (fun i1 z => by rw [mb_l, mb_v, mr_48_61])
    | false =>
      obtain ⟨n1, n2⟩ := nd_ok g.iv o1 o2 q
      have n1 : oN ψ p h < 32 := n1
      have n2 : tk (yT ψ) (oN ψ p h) ≠ 0 := n2
      have hw := g.iv.tw
      have hkk := (hw _ n1).1
      have t1 : TC true i1 (yT ψ) := g1.1.1
      have en : i1 72 (nI (oO ψ p h)).toNatClampNeg = nI (oN ψ p h) := hc_f H o1 o2 q
      rw [if_neg (by rw [en]; exact na_m1 (by omega)), if_neg (by decide), en, tc_isDirectory t1 hw n1, mb_l, mb_v, mr_48_71]
      by_cases v : tk (yT ψ) (oN ψ p h) = 2
      · rw [if_pos v, if_neg (by decide)]
        exact CA.mf (decide_eq_false (fun y => y v)) (CA.dead g1 (by omega) rfl)
      · have k1 : tk (yT ψ) (oN ψ p h) = 1 := by omega
        refine CA.mt (decide_eq_true v) ?_
        rw [if_neg v, if_pos rfl, if_neg (no_out (by omega) (by omega)), if_neg (no_out (by omega) (by omega)), nI_clamp (by omega), nI_clamp (by omega), g1.1.pr hp hP0, g1.1.cn g1.iv n1 n2, show some (Value.int 0) = some (Value.int (nI 0)) from rfl]
        refine CA.gr g1 (by omega) (g.iv.cp hp hP0) (g.iv.cn n1 n2).1 (by omega) (by omega) (fun i2 κ2 g2 => ?_) (fun i2 => by rw [mb_l, mb_v, mr_48_105, if_bf])
        obtain ⟨x1, x2⟩ := CD.nx (m := m) (l := l) (e := e) (n := oN ψ p h) g2 o1 o2 n1
        have x1 : ¬ oP ψ p h < ts (yT ψ) (oN ψ p h) → _ := x1
        have x2 : oP ψ p h < ts (yT ψ) (oN ψ p h) → _ := x2
        have t2 : TC true i2 (yT ψ) := g2.1.1
        rw [mb_l, mb_v, mr_48_105, if_bt]
        by_cases u : oP ψ p h < ts (yT ψ) (oN ψ p h)
        · have hs24 := (hw _ n1).2.1
          have ec : i2 (mm_Tr true + 4) (24 * oN ψ p h + oP ψ p h) = tb (yT ψ) (oN ψ p h) (oP ψ p h) := (t2 _ n1).2.2.2.1 k1 _ u
          have hnb := g.iv.tv.2 (oN ψ p h) (oP ψ p h)
          have x3 := x2 u (by show i2 (mm_Tr true + 4) (24 * oN ψ p h + oP ψ p h) ≠ -1; rw [ec]; exact hnb)
          have x3 : mm_V 50 0 [some (.ref 81), some (.int (nI (oO ψ p h))), some (.int (nI (oN ψ p h))), none] [] (mm_Z m w i2 l e) = some (.inl (some (.int (i2 (mm_Tr true + 4) (24 * oN ψ p h + oP ψ p h)))), mm_Z m w (mm_ww i2 75 (oO ψ p h) (nI (oP ψ p h + 1))) l e) := x3
          rw [x3, mb_l, mb_v, mr_48_118, ec, if_neg hnb, if_pos u]
          exact CA.dead (g2.ps (o := oO ψ p h) (v := oP ψ p h + 1) (by omega)) (by omega) rfl
        · rw [x1 u, mb_l, mb_v, mr_48_118, if_pos rfl, if_neg u]
          exact CA.dead g2 (by omega) rfl
theorem rd_t243 (g : RD π i0 b i ψ s a x) (hs : s < 0) {x1 x2 x3 : Int32} : mm_V 314 243 [some (.ref 83), some (.int x1), some (.int x2), some (.int x3), none, none] [] (mm_Z m w i l e) = some (.inl (some (.int s)), mm_Z m w i l e) := by
  rw [mr_314_243, g.bd hs, mb_l, mb_v, mr_314_247, if_bf, mr_314_265, g.bd hs, mb_l, mb_v, mr_314_269, if_bf, g.hs]
theorem ra_rd (g : RD π i0 b i ψ 0 a x) (hb : b + 1 < 2 ^ 29) (hB' : b + 2 ≤ B) (hp : p < 8) (hP0 : hP (yH ψ) p ≠ 0) (hh : h < 6) : RA m w l e π i0 B (mm_V 317 29 [some (.ref 83), some (.int (nI p)), some (.int 2), some (.int (nI h)), none, none] [.int 0] (mm_Z m w i l e)) (aRd π p h ψ) := by
  rw [mr_317_29, if_pos rfl, if_neg (by decide)]; unfold aRd
  refine RA.us g (by omega) hp hP0 hh (fun i1 κ o1 o2 g1 => ?_) (fun i1 κ s' o' hs ho g1 => RA.dead g1 (by omega) (by rw [mb_l, mb_v, oh_t g1 hs]))
  have H : HR i1 (yH ψ) := g1.1.2.2.2.1
  have eF : (hO (yH ψ) (oO ψ p h)).1 = oF ψ p h := rfl
  have em : i1 124 (nI (oO ψ p h)).toNatClampNeg = nI (oM ψ p h) := hr_m H o1 o2
  rw [mb_l, mb_v, mr_317_97, g1.gd, mb_l, mb_v, mr_317_103, if_bt, if_neg (by decide), if_pos rfl]
  refine RA.bd ?_ (fun i1 z => by rw [mb_l, mb_v, mr_317_185, mr_317_210])
  rw [mr_314_0, if_neg (no_out (by omega) (by omega))]
  by_cases z : nI (oM ψ p h) &&& 1 = 0
  · rw [if_pos (by rw [em]; exact z), mr_314_17]
    exact RA.mf g1 (decide_eq_false (fun y => y z)) (fun i2 g2 => RA.dead g2 (by omega) (by rw [mb_l, mb_0, mr_314_22, g2.bd (by decide), mb_l, mb_v, mr_314_26, if_bf, g2.hs]))
  · rw [if_neg (by rw [em]; exact z), mr_314_17]
    refine RA.mt g1 (decide_eq_true z) (fun i2 g2 => ?_)
    have H2 : HR i2 (yH ψ) := g2.1.2.2.2.1
    rw [mb_l, mb_0, mr_314_22, g2.gd, mb_l, mb_v, mr_314_26, if_bt, hr_isPipe H2 g.iv.hw o1 o2, eF, mb_l, mb_v, mr_314_39]
    cases q : oF ψ p h with
    | true =>
      obtain ⟨k1, k2⟩ := pi_ok g.iv o1 o2 q
      have eN : (hO (yH ψ) (oO ψ p h)).2.1 = oN ψ p h := rfl
      rw [if_bt, hr_pipeOf H2 g.iv.hw o1 o2 q, eN, mb_l, mb_v, if_pos rfl]
      exact ra_rp g2 (by omega) (by omega) hp hP0 k1 k2
    | false =>
      obtain ⟨n1, n2⟩ := nd_ok g.iv o1 o2 q
      have n1 : oN ψ p h < 32 := n1
      have n2 : tk (yT ψ) (oN ψ p h) ≠ 0 := n2
      have hw := g.iv.tw
      have hkk := (hw _ n1).1
      have t2 : TR i2 (yT ψ) := g2.1.1
      have en : i2 123 (nI (oO ψ p h)).toNatClampNeg = nI (oN ψ p h) := hr_f H2 o1 o2 q
      rw [if_bf, if_neg (no_out (by omega) (by omega)), en, tr_isDirectory t2 hw n1, mb_l, mb_v, mr_314_212, if_neg (show ¬ (false = true) by decide)]
      by_cases v : tk (yT ψ) (oN ψ p h) = 2
      · rw [if_pos v, if_neg (by decide), mr_314_220]
        exact RA.mf g2 (decide_eq_false (fun y => y v)) (fun i3 g3 => RA.dead g3 (by omega) (by rw [mb_l, mb_0, mr_314_225, if_neg (no_out (by omega) (by omega)), if_neg (no_out (by omega) (by omega)), g3.cn (by decide), mb_l, mb_0, rd_t243 g3 (by decide)]))
      · have k1 : tk (yT ψ) (oN ψ p h) = 1 := by omega
        rw [if_neg v, if_pos rfl, mr_314_220]
        refine RA.mt g2 (decide_eq_true v) (fun i3 g3 => ?_)
        rw [mb_l, mb_0, mr_314_225, if_neg (no_out (by omega) (by omega)), if_neg (no_out (by omega) (by omega)), nI_clamp (by omega), nI_clamp (by omega), g3.1.pr hp hP0, g3.1.cn g3.iv n1 n2, show [some (Value.ref 83), some (Value.int (nI (cP (yH (yk ψ κ)) p))), some (Value.int (nI (cN (yT (yk ψ κ)) (oN ψ p h)))), some (Value.int 0), some (Value.int 0)] = [some (Value.ref 83), some (Value.int (nI (cP (yH (yk ψ κ)) p))), some (Value.int (nI (cN (yT (yk ψ κ)) (oN ψ p h)))), some (Value.int (nI 0)), some (Value.int 0)] from rfl]
        refine RA.ck g3 (by omega) (by decide) (g.iv.cp hp hP0) (g.iv.cn n1 n2).1 (by omega) (fun i4 κ4 g4 => ?_) (fun i4 κ4 g4 => RA.dead g4 (by omega) (by rw [mb_l, mb_0, rd_t243 g4 (by decide)]))
        have t4 : TR i4 (yT ψ) := g4.1.1
        have H4 : HR i4 (yH ψ) := g4.1.2.2.2.1
        have ep4 : i4 125 (nI (oO ψ p h)).toNatClampNeg = nI (oP ψ p h) := hr_p H4 o1 o2
        have es4 : i4 115 (nI (oN ψ p h)).toNatClampNeg = nI (ts (yT ψ) (oN ψ p h)) := by rw [nI_clamp (by omega), (t4 _ n1).2.2.1]
        have hp24 : oP ψ p h ≤ 24 := (g.iv.hw.2.2.1 _ o1 o2).2.2.2.1
        have hts := (hw _ n1).2.1
        rw [mb_l, mb_0, mr_314_243, g4.gd, mb_l, mb_v, mr_314_247, if_bt, if_neg (no_out (by omega) (by omega)), if_neg (no_out (by omega) (by omega))]
        by_cases u : oP ψ p h < ts (yT ψ) (oN ψ p h)
        · have em := (t4 _ n1).2.2.2.1 k1 _ u
          have ei : 24 * nI (oN ψ p h) + (mm_ww i4 125 (nI (oO ψ p h)).toNatClampNeg (i4 125 (nI (oO ψ p h)).toNatClampNeg + 1)) 125 (nI (oO ψ p h)).toNatClampNeg - 1 = nI (24 * oN ψ p h + oP ψ p h) := by
            rw [mw_s, ep4, nI_1, na_24, na_mul, nI_add, na_1, na_sub (by omega), show 24 * oN ψ p h + (oP ψ p h + 1) - 1 = 24 * oN ψ p h + oP ψ p h by omega]
          rw [if_pos (by rw [ep4, es4, nI_ltI (by omega) (by omega)]; exact u), if_neg (no_out (by omega) (by omega)), if_neg (no_out (by omega) (by omega)), if_neg (no_out (by omega) (by omega)), if_neg (by rw [ei]; exact no_out (by omega) (by omega)), ei, ep4, nI_1, nI_clamp (by omega), nI_clamp (by omega), em, if_pos u]
          exact RA.ret (r := (tb (yT ψ) (oN ψ p h) (oP ψ p h), yh (yk (yk ψ κ) κ4) (hPs (yH ψ) (oO ψ p h) (oP ψ p h + 1)))) (g4.ps (o := oO ψ p h) (v := oP ψ p h + 1) (by omega)) (by omega)
        · rw [if_neg (by rw [ep4, es4, nI_ltI (by omega) (by omega)]; exact u), mr_314_265, g4.gd, mb_l, mb_v, mr_314_269, if_bt, if_neg u]
          exact RA.ret (r := (256, yk (yk ψ κ) κ4)) g4 (by omega)
end MM121
