/-! WRITE -/
section MM122
variable {w : Bool} {l : Nat → Nat → Int64} {e : Bool × Nat × Nat} {π : mP} {m : Nat} {ψ : mS} {b B p n h o k : Nat} {i0 i i' : Nat → Nat → Int32} {s a x y v : Int32} {r : Int32 × mS} {η : mH}
theorem b255 (z : Int32) : z &&& 255 ≠ -1 := fun q => by
  have h1 := mB_and (x := z) (y := 255) (k := 31) (by omega)
  rw [q, show mB (-1) 31 = true by decide, show mB 255 31 = false by decide, Bool.and_false] at h1
  exact absurd h1 (by decide)
def aWp (π : mP) (p k : Nat) (v : Int32) (ψ : mS) : Int32 × mS := aCk π (cP (yH ψ) p) (hC (yH ψ) k - 1) 3 2 ψ (fun ψ1 => aMu (hEn (yH ψ) k 1) (-13) ψ1 (aMu (decide (hS (yH ψ) k < 8)) (-12) ψ1 (0, yh ψ1 (hBy (yH ψ) k (hS (yH ψ) k + 1) (va_up (hB (yH ψ) k) (hS (yH ψ) k) v)))))
theorem HC_add (H : HC i η) (hw : HW η) (hk : k < 4) (hc : hC η k ≠ 0) (hs : hS η k < 8) : HC (mm_ww (mm_ww i 79 (8 * k + hS η k) v) 78 k (nI (hS η k + 1))) (hBy η k (hS η k + 1) (va_up (hB η k) (hS η k) v)) := by
  obtain ⟨b1, b2⟩ := (H.2.2.2 k hk).2 hc
  refine HC_by H hk mw_s (fun j hj => ?_) (fun y hy z => ⟨by rw [mw_j z, mw_k (by omega)], fun j hj => by rw [mw_k (by omega), mw_j (by omega)]⟩) hw (fun q a1 a2 => by rw [mw_k a1, mw_k a2])
  rw [mw_k (by omega)]
  by_cases z : j = hS η k
  · rw [z, mw_s, up_s]
  · rw [mw_j (by omega), up_n z]; exact b2 j (by omega)
theorem HR_add (H : HR i η) (hw : HW η) (hk : k < 4) (hc : hC η k ≠ 0) (hs : hS η k < 8) : HR (mm_ww (mm_ww i 129 (8 * k + hS η k) v) 128 k (nI (hS η k + 1))) (hBy η k (hS η k + 1) (va_up (hB η k) (hS η k) v)) := by
  obtain ⟨b1, b2⟩ := (H.2.2.2 k hk).2 hc
  refine HR_by H hk mw_s (fun j hj => ?_) (fun y hy z => ⟨by rw [mw_j z, mw_k (by omega)], fun j hj => by rw [mw_k (by omega), mw_j (by omega)]⟩) hw (fun q a1 a2 => by rw [mw_k a1, mw_k a2])
  rw [mw_k (by omega)]
  by_cases z : j = hS η k
  · rw [z, mw_s, up_s]
  · rw [mw_j (by omega), up_n z]; exact b2 j (by omega)
theorem ca_wp (g : CD w π i0 b i ψ x y) (hb : b < 2 ^ 29) (hB' : b + 1 ≤ B) (hp : p < 8) (hP0 : hP (yH ψ) p ≠ 0) (hk : k < 4) (hc : hC (yH ψ) k ≠ 0) : CA m w l e π i0 B (mm_V 54 0 [some (.ref 81), some (.int (nI p)), some (.int (nI k)), some (.int v)] [] (mm_Z m w i l e)) (aWp π p k v ψ) := by
  have H : HC i (yH ψ) := g.1.2.2.2.1
  have e77 : i 77 k = nI (hC (yH ψ) k - 1) := by rw [(H.2.2.2 k hk).1, nz_s hc]
  have hs8 := (g.iv.hw.2.2.2 k hk).2.1
  unfold aWp
  rw [mr_54_0, if_neg (no_out (by omega) (by omega)), if_neg (no_out (by omega) (by omega)), nI_clamp (by omega), nI_clamp (by omega), g.1.pr hp hP0, e77, show some (Value.int 3) = some (Value.int (nI 3)) from rfl]
  refine CA.gr g hb (g.iv.cp hp hP0) (g.iv.pi hk hc) (by omega) hB' (fun i1 κ g1 => ?_) (fun i1 => by rw [mb_l, mb_v, mr_54_27, if_bf])
  have H1 : HC i1 (yH ψ) := g1.1.2.2.2.1
  have e78 : i1 78 (nI k).toNatClampNeg = nI (hS (yH ψ) k) := by rw [nI_clamp (by omega), ((H1.2.2.2 k hk).2 hc).1]
  rw [mb_l, mb_v, mr_54_27, if_bt, show some (Value.int 1) = some (Value.int (nI 1)) from rfl, hc_hasEnd H1 g.iv.hw hk (Or.inl rfl), mb_l, mb_v, mr_54_42]
  cases z : hEn (yH ψ) k 1 with
  | false =>
    rw [if_bf]
    exact CA.mf rfl (CA.dead g1 hB' rfl)
  | true =>
    refine CA.mt rfl ?_
    rw [if_bt, if_neg (no_out (by omega) (by omega))]
    by_cases q : hS (yH ψ) k < 8
    · refine CA.mt (decide_eq_true q) ?_
      have e8 : nI k * 8 + i1 78 (nI k).toNatClampNeg = nI (8 * k + hS (yH ψ) k) := by rw [e78, na_8, na_mul, nI_add, Nat.mul_comm]
      rw [if_pos (by rw [e78, na_8, nI_ltI (by omega) (by omega)]; exact q), mr_77_0, if_neg (no_out (by omega) (by omega)), if_pos (by rw [e78, na_8, nI_ltI (by omega) (by omega)]; exact q), if_neg (no_out (by omega) (by omega)), if_neg (by rw [e8]; exact no_out (by omega) (by omega)), if_neg (no_out (by omega) (by omega)), if_neg (no_out (by omega) (by omega)), e8, e78, nI_1, nI_clamp (by omega), nI_clamp (by omega), mb_l, mb_0, mr_54_74]
      exact CA.dead (g1.hd (HC_add H1 g.iv.hw hk hc q) (fun k j z => by rw [mw_k (by omega), mw_k (by omega)]) (iv_by g1.iv (by omega))) hB' rfl
    · rw [if_neg (by rw [e78, na_8, nI_ltI (by omega) (by omega)]; exact q)]
      exact CA.mf (decide_eq_false q) (CA.dead g1 hB' rfl)
theorem wp_t110 (g : RD π i0 b i ψ s a x) (hs : s < 0) (hk : k < 4) {x1 x2 x3 x4 : Int32} : mm_V 318 110 [some (.ref 83), some (.int x1), some (.int x2), some (.int x3), some (.int x4), some (.int (nI k)), none] [] (mm_Z m w i l e) = some (.inl (some (.int s)), mm_Z m w i l e) := by
  rw [mr_318_110, if_neg (no_out (by omega) (by omega))]
  split <;> rw [mr_318_128, g.mn hs, mb_l, mb_0, mr_318_133, g.bd hs, mb_l, mb_v, mr_318_137, if_bf, g.hs]
theorem ra_wp (g : RD π i0 b i ψ 0 a x) (hb : b < 2 ^ 29) (hB' : b + 1 ≤ B) (hp : p < 8) (hP0 : hP (yH ψ) p ≠ 0) (hk : k < 4) (hc : hC (yH ψ) k ≠ 0) {x2 x4 z3 : Int32} (hz : z3 &&& 255 = v) : RA m w l e π i0 B (mm_V 318 76 [some (.ref 83), some (.int (nI p)), some (.int x2), some (.int z3), some (.int x4), none, none] [.int (nI k)] (mm_Z m w i l e)) (aWp π p k v ψ) := by
  have H : HR i (yH ψ) := g.1.2.2.2.1
  have e127 : i 127 k = nI (hC (yH ψ) k - 1) := by rw [(H.2.2.2 k hk).1, nz_s hc]
  have hs8 := (g.iv.hw.2.2.2 k hk).2.1
  unfold aWp
  rw [mr_318_76, if_neg (no_out (by omega) (by omega)), if_neg (no_out (by omega) (by omega)), nI_clamp (by omega), nI_clamp (by omega), g.1.pr hp hP0, e127, show some (Value.int 3) = some (Value.int (nI 3)) from rfl]
  refine RA.ck g hb (by decide) (g.iv.cp hp hP0) (g.iv.pi hk hc) (by omega) (fun i1 κ g1 => ?_) (fun i1 κ g1 => RA.dead g1 hB' ?_)
  · have H1 : HR i1 (yH ψ) := g1.1.2.2.2.1
    rw [mb_l, mb_0, mr_318_97, show some (Value.int 0) = some (Value.int (bI false)) from rfl, hr_hasEnd H1 g.iv.hw hk, if_neg (show ¬ (false = true) by decide), mb_l, mb_v, mr_318_105]
    refine RA.mu g1 (fun i2 g2 z => ?_) (fun i2 g2 z => RA.dead g2 hB' (by rw [mb_l, mb_0, wp_t110 g2 (by decide) hk]))
    have H2 : HR i2 (yH ψ) := g2.1.2.2.2.1
    have e128 : i2 128 (nI k).toNatClampNeg = nI (hS (yH ψ) k) := by rw [nI_clamp (by omega), ((H2.2.2.2 k hk).2 hc).1]
    rw [mb_l, mb_0, mr_318_110, if_neg (no_out (by omega) (by omega))]
    by_cases q : hS (yH ψ) k < 8
    · rw [if_pos (by rw [e128, na_8, nI_ltI (by omega) (by omega)]; exact q), mr_318_128]
      refine RA.mt g2 (decide_eq_true q) (fun i3 g3 => ?_)
      have H3 : HR i3 (yH ψ) := g3.1.2.2.2.1
      have e128' : i3 128 (nI k).toNatClampNeg = nI (hS (yH ψ) k) := by rw [nI_clamp (by omega), ((H3.2.2.2 k hk).2 hc).1]
      have e8 : 8 * nI k + i3 128 (nI k).toNatClampNeg = nI (8 * k + hS (yH ψ) k) := by rw [e128', na_8, na_mul, nI_add]
      rw [mb_l, mb_0, mr_318_133, g3.gd, mb_l, mb_v, mr_318_137, if_bt, if_neg (no_out (by omega) (by omega)), if_neg (by rw [e8]; exact no_out (by omega) (by omega)), if_neg (no_out (by omega) (by omega)), if_neg (no_out (by omega) (by omega)), e8, e128', nI_1, nI_clamp (by omega), nI_clamp (by omega), hz, g3.hs]
      exact RA.ret (r := (0, yh (yk ψ κ) (hBy (yH ψ) k (hS (yH ψ) k + 1) (va_up (hB (yH ψ) k) (hS (yH ψ) k) v)))) (g3.hd (HR_add H3 g.iv.hw hk hc q) (fun k j z => by rw [mw_k (by omega), mw_k (by omega)]) (iv_by g3.iv (by omega))) hB'
    · rw [if_neg (by rw [e128, na_8, nI_ltI (by omega) (by omega)]; exact q), mr_318_128]
      exact RA.mf g2 (decide_eq_false q) (fun i3 g3 => RA.dead g3 hB' (by rw [mb_l, mb_0, mr_318_133, g3.bd (by decide), mb_l, mb_v, mr_318_137, if_bf, g3.hs]))
  · have H1 : HR i1 (yH ψ) := g1.1.2.2.2.1
    rw [mb_l, mb_0, mr_318_97, show some (Value.int 0) = some (Value.int (bI false)) from rfl, hr_hasEnd H1 g.iv.hw hk, mb_l, mb_v, mr_318_105, g1.mn (by decide), mb_l, mb_0, wp_t110 g1 (by decide) hk]
def yw (ψ0 : mS) (p h : Nat) (v : Int32) (ψ : mS) : mS := if nI (oM ψ0 p h) &&& 4 = 0 then yh (yn ψ (3, oN ψ0 p h, v, oP ψ0 p h, 0, 0)) (hPs (yH ψ0) (oO ψ0 p h) (oP ψ0 p h + 1)) else yn ψ (3, oN ψ0 p h, v, ts (yT ψ0) (oN ψ0 p h), 0, 0)
def wPl (ψ : mS) (p h : Nat) : Nat := if nI (oM ψ p h) &&& 4 = 0 then oP ψ p h else ts (yT ψ) (oN ψ p h)
def aWr (π : mP) (p h : Nat) (v : Int32) (ψ : mS) : Int32 × mS := aUs π p h ψ (fun ψ1 => aMu (decide (¬ nI (oM ψ p h) &&& 6 = 0)) (-10) ψ1 (if oF ψ p h = true then aWp π p (oN ψ p h) v ψ1 else aCk π (cP (yH ψ) p) (cN (yT ψ) (oN ψ p h)) 0 (if nI (oM ψ p h) &&& 4 = 0 then 2 else 4) ψ1 (fun ψ2 => aMu (decide (wPl ψ p h < 24)) (-7) ψ2 (0, yw ψ p h v ψ2))))
theorem ca_wr (g : CD w π i0 b i ψ x y) (hb : b + 1 < 2 ^ 29) (hB' : b + 2 ≤ B) (hp : p < 8) (hP0 : hP (yH ψ) p ≠ 0) (hh : h < 6) (hv : v ≠ -1) : CA m w l e π i0 B (mm_V 53 0 [some (.ref 81), some (.int (nI p)), some (.int (nI h)), some (.int v), none, none, none, none, none] [] (mm_Z m w i l e)) (aWr π p h v ψ) := by
  rw [mr_53_0]; unfold aWr
  refine CA.us g (by omega) hp hP0 hh (by omega) (fun i1 κ o1 o2 g1 => ?_) (fun i1 r hr => by rw [mb_l, mb_v, mr_53_6, if_pos hr])
  have H : HC i1 (yH ψ) := g1.1.2.2.2.1
  have em : i1 74 (nI (oO ψ p h)).toNatClampNeg = nI (oM ψ p h) := hc_m H o1 o2
  rw [mb_l, mb_v, mr_53_6, if_neg (nI_nn (by omega)), if_neg (no_out (by omega) (by omega))]
  by_cases z : nI (oM ψ p h) &&& 6 = 0
  · rw [if_pos (by rw [em]; exact z)]
    exact CA.mf (decide_eq_false (fun y => y z)) (CA.dead g1 (by omega) rfl)
  · refine CA.mt (decide_eq_true z) ?_
    rw [if_neg (by rw [em]; exact z), if_neg (no_out (by omega) (by omega))]
    cases q : oF ψ p h with
    | true =>
      obtain ⟨k1, k2⟩ := pi_ok g.iv o1 o2 q
      have e73 : i1 73 (nI (oO ψ p h)).toNatClampNeg = nI (oN ψ p h) := (hc_t H o1 o2 q).2
      rw [if_pos (hc_t H o1 o2 q).1, if_neg (no_out (by omega) (by omega)), if_pos rfl, e73]
      exact CA.bd (ca_wp g1 (by omega) (by omega) hp hP0 k1 k2) (fun i1 z => by rw [mb_l, mb_v, mr_53_73])
    | false =>
      obtain ⟨n1, k1⟩ := file_of g.iv o1 o2 q (m6_1 z)
      have n2 : tk (yT ψ) (oN ψ p h) ≠ 0 := by omega
      have hw := g.iv.tw
      have hs24 := (hw _ n1).2.1
      have hp24 : oP ψ p h ≤ 24 := (g.iv.hw.2.2.1 _ o1 o2).2.2.2.1
      have en : i1 72 (nI (oO ψ p h)).toNatClampNeg = nI (oN ψ p h) := hc_f H o1 o2 q
      rw [if_neg (by rw [en]; exact na_m1 (by omega)), if_neg (show ¬ (false = true) by decide), em, en]
      unfold wPl yw
      by_cases u : nI (oM ψ p h) &&& 4 = 0
      · rw [if_pos u, if_pos u, if_pos u]
        simp only [if_pos u]
        rw [mr_53_86, if_neg (no_out (by omega) (by omega)), if_neg (no_out (by omega) (by omega)), if_pos rfl, mr_53_122, nI_clamp (by omega), nI_clamp (by omega), g1.1.pr hp hP0, g1.1.cn g1.iv n1 n2]
        refine CA.gr (c := 0) g1 (by omega) (g.iv.cp hp hP0) (g.iv.cn n1 n2).1 (by omega) (by omega) (fun i2 κ2 g2 => ?_) (fun i2 => by rw [mb_l, mb_v, mr_53_125, if_bf])
        have H2 : HC i2 (yH ψ) := g2.1.2.2.2.1
        have e75 : i2 75 (nI (oO ψ p h)).toNatClampNeg = nI (oP ψ p h) := hc_p H2 o1 o2
        rw [mb_l, mb_v, mr_53_125, if_bt, if_pos rfl, if_neg (no_out (by omega) (by omega)), e75, mr_53_159]
        by_cases t : oP ψ p h < 24
        · refine CA.mt (decide_eq_true t) ?_
          obtain ⟨i3, f1, f2⟩ := CD.nt (m := m) (l := l) (e := e) (q := (3, oN ψ p h, v, oP ψ p h, 0, 0)) g2 ⟨n1, k1, t⟩ hv (fun z => absurd (show 3 ≤ 1 from z) (by decide)) (show 3 ≠ 6 by decide)
          have f1 : mm_V 83 0 [some (.ref 56), some (.int 3), some (.int (nI (oN ψ p h))), some (.int (nI (oP ψ p h))), some (.int v), some (.int 0), none] [] (mm_Z m w i2 l e) = some (.inl none, mm_Z m w i3 l e) := f1
          have H3 : HC i3 (yH ψ) := f2.1.2.2.2.1
          have e75' : i3 75 (nI (oO ψ p h)).toNatClampNeg = nI (oP ψ p h) := hc_p H3 o1 o2
          rw [if_pos (by rw [na_24, nI_ltI (by omega) (by omega)]; exact t), f1, mb_l, mb_0, mr_53_185, if_neg (no_out (by omega) (by omega)), if_pos rfl, if_neg (no_out (by omega) (by omega)), e75', nI_1, nI_clamp (by omega)]
          exact CA.dead (f2.ps (o := oO ψ p h) (v := oP ψ p h + 1) (by omega)) (by omega) rfl
        · rw [if_neg (by rw [na_24, nI_ltI (by omega) (by omega)]; exact t)]
          exact CA.mf (decide_eq_false t) (CA.dead g2 (by omega) rfl)
      · rw [if_neg u, if_neg u, if_neg u]
        simp only [if_neg u]
        rw [mr_53_86, if_neg (no_out (by omega) (by omega)), if_neg (no_out (by omega) (by omega)), if_neg (by decide), mr_53_122, nI_clamp (by omega), nI_clamp (by omega), g1.1.pr hp hP0, g1.1.cn g1.iv n1 n2]
        refine CA.gr (c := 0) g1 (by omega) (g.iv.cp hp hP0) (g.iv.cn n1 n2).1 (by omega) (by omega) (fun i2 κ2 g2 => ?_) (fun i2 => by rw [mb_l, mb_v, mr_53_125, if_bf])
        have t2 : TC true i2 (yT ψ) := g2.1.1
        have e3 : i2 (mm_Tr true + 3) (nI (oN ψ p h)).toNatClampNeg = nI (ts (yT ψ) (oN ψ p h)) := by rw [nI_clamp (by omega), (t2 _ n1).2.2.1]
        rw [mb_l, mb_v, mr_53_125, if_bt, if_neg (by decide), if_neg (no_out (by omega) (by omega)), e3, mr_53_159]
        by_cases t : ts (yT ψ) (oN ψ p h) < 24
        · refine CA.mt (decide_eq_true t) ?_
          obtain ⟨i3, f1, f2⟩ := CD.nt (m := m) (l := l) (e := e) (q := (3, oN ψ p h, v, ts (yT ψ) (oN ψ p h), 0, 0)) g2 ⟨n1, k1, t⟩ hv (fun z => absurd (show 3 ≤ 1 from z) (by decide)) (show 3 ≠ 6 by decide)
          have f1 : mm_V 83 0 [some (.ref 56), some (.int 3), some (.int (nI (oN ψ p h))), some (.int (nI (ts (yT ψ) (oN ψ p h)))), some (.int v), some (.int 0), none] [] (mm_Z m w i2 l e) = some (.inl none, mm_Z m w i3 l e) := f1
          rw [if_pos (by rw [na_24, nI_ltI (by omega) (by omega)]; exact t), f1, mb_l, mb_0, mr_53_185, if_neg (no_out (by omega) (by omega)), if_neg (by decide), if_neg (no_out (by omega) (by omega)), ad_0, ww_id]
          exact CA.dead f2 (by omega) rfl
        · rw [if_neg (by rw [na_24, nI_ltI (by omega) (by omega)]; exact t)]
          exact CA.mf (decide_eq_false t) (CA.dead g2 (by omega) rfl)
theorem wr_t273 (g : RD π i0 b i ψ s a x) (hs : s < 0) {x1 x2 x3 x4 x5 x6 : Int32} : mm_V 318 273 [some (.ref 83), some (.int x1), some (.int x2), some (.int x3), some (.int x4), some (.int x5), some (.int x6)] [] (mm_Z m w i l e) = some (.inl (some (.int s)), mm_Z m w i l e) := by
  rw [mr_318_273, g.bd hs, mb_l, mb_v, mr_318_277, if_bf, g.hs]
theorem wr_t235 (g : RD π i0 b i ψ s a x) (hs : s < 0) (ho : o < 16) (hn : n < 32) {x1 x2 x3 x6 : Int32} : mm_V 318 235 [some (.ref 83), some (.int x1), some (.int x2), some (.int x3), some (.int (nI o)), some (.int (nI n)), some (.int x6)] [] (mm_Z m w i l e) = some (.inl (some (.int s)), mm_Z m w i l e) := by
  rw [mr_318_235, if_neg (no_out (by omega) (by omega)), if_neg (no_out (by omega) (by omega))]
  split
  · split <;> rw [mr_318_268, g.mn hs, mb_l, mb_0, wr_t273 g hs]
  · split <;> rw [mr_318_268, g.mn hs, mb_l, mb_0, wr_t273 g hs]
theorem ra_wr (g : RD π i0 b i ψ 0 a x) (hb : b + 1 < 2 ^ 29) (hB' : b + 2 ≤ B) (hp : p < 8) (hP0 : hP (yH ψ) p ≠ 0) (hh : h < 6) (hv : v ≠ -1) {z3 : Int32} (hz : z3 &&& 255 = v) : RA m w l e π i0 B (mm_V 318 12 [some (.ref 83), some (.int (nI p)), some (.int (nI h)), some (.int z3), none, none, none] [.int 0] (mm_Z m w i l e)) (aWr π p h v ψ) := by
  rw [mr_318_12, if_pos rfl]; unfold aWr
  refine RA.us g (by omega) hp hP0 hh (fun i1 κ o1 o2 g1 => ?_) (fun i1 κ s' o' hs ho g1 => RA.dead g1 (by omega) ?_)
  · have H : HR i1 (yH ψ) := g1.1.2.2.2.1
    have eF : (hO (yH ψ) (oO ψ p h)).1 = oF ψ p h := rfl
    have em : i1 124 (nI (oO ψ p h)).toNatClampNeg = nI (oM ψ p h) := hr_m H o1 o2
    rw [mb_l, mb_v, mr_318_23, if_neg (no_out (by omega) (by omega))]
    by_cases z : nI (oM ψ p h) &&& 6 = 0
    · rw [if_pos (by rw [em]; exact z), mr_318_44]
      exact RA.mf g1 (decide_eq_false (fun y => y z)) (fun i2 g2 => RA.dead g2 (by omega) (by rw [mb_l, mb_0, mr_318_49, g2.bd (by decide), mb_l, mb_v, mr_318_53, if_bf, g2.hs]))
    · rw [if_neg (by rw [em]; exact z), mr_318_44]
      refine RA.mt g1 (decide_eq_true z) (fun i2 g2 => ?_)
      have H2 : HR i2 (yH ψ) := g2.1.2.2.2.1
      rw [mb_l, mb_0, mr_318_49, g2.gd, mb_l, mb_v, mr_318_53, if_bt, hr_isPipe H2 g.iv.hw o1 o2, eF, mb_l, mb_v, mr_318_67]
      cases q : oF ψ p h with
      | true =>
        obtain ⟨k1, k2⟩ := pi_ok g.iv o1 o2 q
        have eN : (hO (yH ψ) (oO ψ p h)).2.1 = oN ψ p h := rfl
        rw [if_bt, hr_pipeOf H2 g.iv.hw o1 o2 q, eN, mb_l, mb_v, if_pos rfl]
        exact ra_wp g2 (by omega) (by omega) hp hP0 k1 k2 hz
      | false =>
        obtain ⟨n1, k1⟩ := file_of g.iv o1 o2 q (m6_1 z)
        have n2 : tk (yT ψ) (oN ψ p h) ≠ 0 := by omega
        have hw := g.iv.tw
        have hs24 := (hw _ n1).2.1
        have hp24 : oP ψ p h ≤ 24 := (g.iv.hw.2.2.1 _ o1 o2).2.2.2.1
        have en : i2 123 (nI (oO ψ p h)).toNatClampNeg = nI (oN ψ p h) := hr_f H2 o1 o2 q
        have em2 : i2 124 (nI (oO ψ p h)).toNatClampNeg = nI (oM ψ p h) := hr_m H2 o1 o2
        rw [if_bf, if_neg (no_out (by omega) (by omega)), if_neg (no_out (by omega) (by omega)), em2, en, if_neg (show ¬ (false = true) by decide)]
        unfold wPl yw
        by_cases u : nI (oM ψ p h) &&& 4 = 0
        · rw [if_pos u, if_pos u, if_pos u]
          simp only [if_pos u]
          rw [mr_318_205, if_neg (no_out (by omega) (by omega)), if_neg (no_out (by omega) (by omega)), if_pos rfl, mr_318_232, nI_clamp (by omega), nI_clamp (by omega), g2.1.pr hp hP0, g2.1.cn g2.iv n1 n2]
          refine RA.ck (c := 0) g2 (by omega) (by decide) (g.iv.cp hp hP0) (g.iv.cn n1 n2).1 (by omega) (fun i3 κ3 g3 => ?_) (fun i3 κ3 g3 => RA.dead g3 (by omega) (by rw [mb_l, mb_0, wr_t235 g3 (by decide) o1 n1]))
          have H3 : HR i3 (yH ψ) := g3.1.2.2.2.1
          have e125 : i3 125 (nI (oO ψ p h)).toNatClampNeg = nI (oP ψ p h) := hr_p H3 o1 o2
          rw [mb_l, mb_0, mr_318_235, if_pos rfl, if_neg (no_out (by omega) (by omega))]
          by_cases t : oP ψ p h < 24
          · rw [if_pos (by rw [e125, na_24, nI_ltI (by omega) (by omega)]; exact t), mr_318_268]
            refine RA.mt g3 (decide_eq_true t) (fun i4 g4 => ?_)
            have H4 : HR i4 (yH ψ) := g4.1.2.2.2.1
            have e125' : i4 125 (nI (oO ψ p h)).toNatClampNeg = nI (oP ψ p h) := hr_p H4 o1 o2
            obtain ⟨i5, f1, f2⟩ := RD.nt (m := m) (w := w) (l := l) (e := e) (q := (3, oN ψ p h, v, oP ψ p h, 0, 0)) g4 ⟨n1, k1, t⟩ hv (fun z => absurd (show 3 ≤ 1 from z) (by decide)) (show 3 ≠ 6 by decide)
            have f1 : mm_V 277 0 [some (.ref 83), some (.int 3), some (.int (nI (oN ψ p h))), some (.int (nI (oP ψ p h))), some (.int v), some (.int 0)] [] (mm_Z m w i4 l e) = some (.inl none, mm_Z m w i5 l e) := f1
            have H5 : HR i5 (yH ψ) := f2.1.2.2.2.1
            have e125'' : i5 125 (nI (oO ψ p h)).toNatClampNeg = nI (oP ψ p h) := hr_p H5 o1 o2
            rw [mb_l, mb_0, mr_318_273, g4.gd, mb_l, mb_v, mr_318_277, if_bt, if_pos rfl, if_neg (no_out (by omega) (by omega)), e125', mr_318_306, hz, f1, mb_l, mb_0, mr_318_315, if_pos rfl, if_neg (no_out (by omega) (by omega)), if_neg (no_out (by omega) (by omega)), e125'', nI_1, nI_clamp (by omega), f2.hs]
            exact RA.ret (r := (0, yh (yn (yk (yk ψ κ) κ3) (3, oN ψ p h, v, oP ψ p h, 0, 0)) (hPs (yH ψ) (oO ψ p h) (oP ψ p h + 1)))) (f2.ps (o := oO ψ p h) (v := oP ψ p h + 1) (by omega)) (by omega)
          · rw [if_neg (by rw [e125, na_24, nI_ltI (by omega) (by omega)]; exact t), mr_318_268]
            exact RA.mf g3 (decide_eq_false t) (fun i4 g4 => RA.dead g4 (by omega) (by rw [mb_l, mb_0, wr_t273 g4 (by decide)]))
        · rw [if_neg u, if_neg u, if_neg u]
          simp only [if_neg u]
          rw [mr_318_205, if_neg (no_out (by omega) (by omega)), if_neg (no_out (by omega) (by omega)), if_neg (by decide), mr_318_232, nI_clamp (by omega), nI_clamp (by omega), g2.1.pr hp hP0, g2.1.cn g2.iv n1 n2]
          refine RA.ck (c := 0) g2 (by omega) (by decide) (g.iv.cp hp hP0) (g.iv.cn n1 n2).1 (by omega) (fun i3 κ3 g3 => ?_) (fun i3 κ3 g3 => RA.dead g3 (by omega) (by rw [mb_l, mb_0, wr_t235 g3 (by decide) o1 n1]))
          have t3 : TR i3 (yT ψ) := g3.1.1
          have e115 : i3 115 (nI (oN ψ p h)).toNatClampNeg = nI (ts (yT ψ) (oN ψ p h)) := by rw [nI_clamp (by omega), (t3 _ n1).2.2.1]
          rw [mb_l, mb_0, mr_318_235, if_neg (by decide), if_neg (no_out (by omega) (by omega))]
          by_cases t : ts (yT ψ) (oN ψ p h) < 24
          · rw [if_pos (by rw [e115, na_24, nI_ltI (by omega) (by omega)]; exact t), mr_318_268]
            refine RA.mt g3 (decide_eq_true t) (fun i4 g4 => ?_)
            have t4 : TR i4 (yT ψ) := g4.1.1
            have e115' : i4 115 (nI (oN ψ p h)).toNatClampNeg = nI (ts (yT ψ) (oN ψ p h)) := by rw [nI_clamp (by omega), (t4 _ n1).2.2.1]
            obtain ⟨i5, f1, f2⟩ := RD.nt (m := m) (w := w) (l := l) (e := e) (q := (3, oN ψ p h, v, ts (yT ψ) (oN ψ p h), 0, 0)) g4 ⟨n1, k1, t⟩ hv (fun z => absurd (show 3 ≤ 1 from z) (by decide)) (show 3 ≠ 6 by decide)
            have f1 : mm_V 277 0 [some (.ref 83), some (.int 3), some (.int (nI (oN ψ p h))), some (.int (nI (ts (yT ψ) (oN ψ p h)))), some (.int v), some (.int 0)] [] (mm_Z m w i4 l e) = some (.inl none, mm_Z m w i5 l e) := f1
            rw [mb_l, mb_0, mr_318_273, g4.gd, mb_l, mb_v, mr_318_277, if_bt, if_neg (by decide), if_neg (no_out (by omega) (by omega)), e115', mr_318_306, hz, f1, mb_l, mb_0, mr_318_315, if_neg (by decide), if_neg (no_out (by omega) (by omega)), if_neg (no_out (by omega) (by omega)), ww_id, f2.hs]
            exact RA.ret (r := (0, yn (yk (yk ψ κ) κ3) (3, oN ψ p h, v, ts (yT ψ) (oN ψ p h), 0, 0))) f2 (by omega)
          · rw [if_neg (by rw [e115, na_24, nI_ltI (by omega) (by omega)]; exact t), mr_318_268]
            exact RA.mf g3 (decide_eq_false t) (fun i4 g4 => RA.dead g4 (by omega) (by rw [mb_l, mb_0, wr_t273 g4 (by decide)]))
  · rw [mb_l, mb_v, mr_318_23, if_neg (no_out (by omega) (by omega))]
    split <;> rw [mr_318_44, g1.mn hs, mb_l, mb_0, mr_318_49, g1.bd hs, mb_l, mb_v, mr_318_53, if_bf, g1.hs]
end MM122
