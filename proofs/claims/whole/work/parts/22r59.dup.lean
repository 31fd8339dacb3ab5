/-! DUP, SEEK, EMPTY, LIST -/
section MM118
variable {w : Bool} {l : Nat → Nat → Int64} {e : Bool × Nat × Nat} {π : mP} {m : Nat} {ψ : mS} {b B p n h o : Nat} {i0 i i' : Nat → Nat → Int32} {s a x y : Int32} {r : Int32 × mS} {η : mH}
theorem HW_tl {k : Nat} (hw : HW η) (hp : p < 8) (hP0 : hP η p ≠ 0) (hh : h < 6) (hk : k = 6 * p + h) (h0 : hH η k = 0) (ho : o < 16) (hc : hCt η o ≠ 0) : HW (hTl η k o) := by
  have ct : ∀ y, hCt (hTl η k o) y = hCt η y + (if y = o then 1 else 0) := fun y => hTl_ct (by omega) h0
  have nz : ∀ y, hCt (hTl η k o) y ≠ 0 → hCt η y ≠ 0 := fun y z => by
    rw [ct] at z
    by_cases q : y = o
    · rw [q]; exact hc
    · rw [if_neg q] at z; omega
  refine ⟨fun q hq => ⟨(hw.1 q hq).1, fun z h' hh' => ?_⟩, fun j hj => ?_, fun y hy z => hw.2.2.1 y hy (nz y z), fun k4 hk4 => ⟨(hw.2.2.2 k4 hk4).1, (hw.2.2.2 k4 hk4).2.1, fun z => ?_⟩⟩
  · have z : hP η q = 0 := z
    have hne : q ≠ p := fun y => hP0 (by rw [← y]; exact z)
    show va_up (hH η) k (o + 1) (6 * q + h') = 0
    rw [up_n (by omega)]
    exact (hw.1 q hq).2 z h' hh'
  · show va_up (hH η) k (o + 1) j ≤ 16
    by_cases z : j = k
    · rw [z, up_s]; omega
    · rw [up_n z]; exact hw.2.1 j hj
  · obtain ⟨y, y1, y2, y3, y4⟩ := (hw.2.2.2 k4 hk4).2.2 z
    exact ⟨y, y1, by rw [ct]; omega, y3, y4⟩
theorem iv_tl (hI : IV π b ψ) (hp : p < 8) (hP0 : hP (yH ψ) p ≠ 0) (hf : hFh (yH ψ) p < 6) (ho : o < 16) (hc : hCt (yH ψ) o ≠ 0) : IV π b (yh ψ (hTl (yH ψ) (6 * p + hFh (yH ψ) p) o)) := by
  have h0 := hFh_0 hf
  have ct : ∀ y, hCt (hTl (yH ψ) (6 * p + hFh (yH ψ) p) o) y = hCt (yH ψ) y + (if y = o then 1 else 0) := fun y => hTl_ct (by omega) h0
  refine iv_hd hI (HW_tl hI.hw hp hP0 hf rfl h0 ho hc) hI.hv.1 (fun y hy z => ⟨?_, rfl, rfl, rfl, rfl⟩) (fun y hy z => by rw [ct]; omega) hI.hv.2.2
  rw [ct] at z
  by_cases q : y = o
  · rw [q]; exact hc
  · rw [if_neg q] at z; omega
def aDup (π : mP) (p h : Nat) (ψ : mS) : Int32 × mS := aUs π p h ψ (fun ψ1 => aMu (decide (hFh (yH ψ) p < 6)) (-7) ψ1 (nI (hFh (yH ψ) p), yh ψ1 (hTl (yH ψ) (6 * p + hFh (yH ψ) p) (oO ψ p h))))
theorem ca_dup (g : CD w π i0 b i ψ x y) (hb : b < 2 ^ 29) (hB : b + 1 ≤ B) (hp : p < 8) (hP0 : hP (yH ψ) p ≠ 0) (hh : h < 6) : CA m w l e π i0 B (mm_V 47 0 [some (.ref 81), some (.int (nI p)), some (.int (nI h)), none] [] (mm_Z m w i l e)) (aDup π p h ψ) := by
  rw [mr_47_0]; unfold aDup
  refine CA.us g hb hp hP0 hh hB (fun i1 κ o1 o2 g1 => ?_) (fun i1 r hr => by rw [mb_l, mb_v, mr_47_6, if_pos hr, mr_47_24])
  have H : HC i1 (yH ψ) := g1.1.2.2.2.1
  rw [mb_l, mb_v, mr_47_6, if_neg (nI_nn (by omega)), hc_tell H g.iv.hw hp o1]
  by_cases q : hFh (yH ψ) p < 6
  · refine CA.mt (decide_eq_true q) ?_
    rw [if_pos q, mb_l, mb_v, mr_47_24]
    exact CA.dead (g1.hd (HC_tl H (by omega) o1 (hFh_0 q) ((H.2.2.1 _ o1).2 o2)) (fun k j z => by rw [mw_k (by omega), mw_k (by omega)]) (iv_tl g1.iv hp hP0 q o1 o2)) hB rfl
  · refine CA.mf (decide_eq_false q) ?_
    rw [if_neg q, mb_l, mb_v, mr_47_24]
    exact CA.dead g1 hB rfl
theorem oh_t (g : RD π i0 b i ψ s a x) (hs : s < 0) {x1 x2 x3 x4 : Int32} : mm_V 317 97 [some (.ref 83), some (.int x1), some (.int x2), some (.int x3), none, none] [.int x4] (mm_Z m w i l e) = some (.inl (some (.int s)), mm_Z m w i l e) := by
  rw [mr_317_97, g.bd hs, mb_l, mb_v, mr_317_103, if_bf, g.hs]
theorem ra_dup (g : RD π i0 b i ψ 0 a x) (hb : b < 2 ^ 29) (hB : b + 1 ≤ B) (hp : p < 8) (hP0 : hP (yH ψ) p ≠ 0) (hh : h < 6) : RA m w l e π i0 B (mm_V 317 29 [some (.ref 83), some (.int (nI p)), some (.int 1), some (.int (nI h)), none, none] [.int 0] (mm_Z m w i l e)) (aDup π p h ψ) := by
  rw [mr_317_29, if_pos rfl, if_neg (by decide)]; unfold aDup
  refine RA.us g hb hp hP0 hh (fun i1 κ o1 o2 g1 => ?_) (fun i1 κ s' o' hs ho g1 => RA.dead g1 hB (by rw [mb_l, mb_v, oh_t g1 hs]))
  have H : HR i1 (yH ψ) := g1.1.2.2.2.1
  have l1 : hFh (yH ψ) p ≤ 6 := by have := (tFst_le (fun z => hH (yH ψ) (6 * p + z) == 0) 6 0).2; unfold hFh; omega
  rw [mb_l, mb_v, mr_317_97, g1.gd, mb_l, mb_v, mr_317_103, if_bt, if_pos rfl, hr_freeHandle H g.iv.hw hp, mb_l, mb_v, mr_317_122]
  have k1 : (nI (hFh (yH ψ) p) < 6) ↔ hFh (yH ψ) p < 6 := by rw [na_6]; exact nI_ltI (by omega) (by omega)
  by_cases q : hFh (yH ψ) p < 6
  · rw [if_pos (k1.mpr q), mr_317_132]
    refine RA.mt g1 (decide_eq_true q) (fun i2 g2 => ?_)
    have H2 : HR i2 (yH ψ) := g2.1.2.2.2.1
    have e6 : 6 * nI p + nI (hFh (yH ψ) p) = nI (6 * p + hFh (yH ψ) p) := by rw [na_6, na_mul, nI_add]
    have hx := H2.2.2.1 _ o1
    rw [if_neg o2] at hx
    rw [mb_l, mb_0, mr_317_137, g2.gd, mb_l, mb_v, mr_317_141, if_bt, hr_freeHandle H2 g.iv.hw hp, mb_l, mb_v, mr_317_154, e6, if_neg (no_out (by omega) (by omega)), nI_clamp (by omega)]
    exact RA.ret (r := (nI (hFh (yH ψ) p), yh (yk ψ κ) (hTl (yH ψ) (6 * p + hFh (yH ψ) p) (oO ψ p h)))) (g2.hd (HR_tl H2 (by omega) o1 (hFh_0 q) ⟨hx.1, hx.2 o2⟩) (fun k j z => by rw [mw_k (by omega)]) (iv_tl g2.iv hp hP0 q o1 o2)) hB
  · rw [if_neg (fun z => q (k1.mp z)), mr_317_132]
    exact RA.mf g1 (decide_eq_false q) (fun i2 g2 => RA.dead g2 hB (by rw [mb_l, mb_0, mr_317_137, g2.bd (by decide), mb_l, mb_v, mr_317_141, if_bf, g2.hs]))
/-- what a handle tells: a pipe or not, its node or pipe, mode, place -/
def oF (ψ : mS) (p h : Nat) : Bool := (hO (yH ψ) (oO ψ p h)).1
def oN (ψ : mS) (p h : Nat) : Nat := (hO (yH ψ) (oO ψ p h)).2.1
def oM (ψ : mS) (p h : Nat) : Nat := (hO (yH ψ) (oO ψ p h)).2.2.1
def oP (ψ : mS) (p h : Nat) : Nat := (hO (yH ψ) (oO ψ p h)).2.2.2.1
def aSek (π : mP) (p h v : Nat) (ψ : mS) : Int32 × mS := aUs π p h ψ (fun ψ1 => aMu (!oF ψ p h) (-10) ψ1 (nI v, yh ψ1 (hPs (yH ψ) (oO ψ p h) v)))
theorem ca_sek (g : CD w π i0 b i ψ x y) (hb : b < 2 ^ 29) (hB : b + 1 ≤ B) (hp : p < 8) (hP0 : hP (yH ψ) p ≠ 0) (hh : h < 6) {v : Nat} (hv : v ≤ 24) : CA m w l e π i0 B (mm_V 55 0 [some (.ref 81), some (.int (nI p)), some (.int (nI h)), some (.int (nI v)), none] [] (mm_Z m w i l e)) (aSek π p h v ψ) := by
  rw [mr_55_0]; unfold aSek
  refine CA.us g hb hp hP0 hh hB (fun i1 κ o1 o2 g1 => ?_) (fun i1 r hr => by rw [mb_l, mb_v, mr_55_6, if_pos hr])
  have H : HC i1 (yH ψ) := g1.1.2.2.2.1
  rw [mb_l, mb_v, mr_55_6, if_neg (nI_nn (by omega)), if_neg (no_out (by omega) (by omega))]
  cases q : oF ψ p h with
  | true =>
    refine CA.mf rfl ?_
    rw [if_pos (hc_t H o1 o2 q).1]
    exact CA.dead g1 hB rfl
  | false =>
    have n1 := nd_ok g.iv o1 o2 q
    refine CA.mt rfl ?_
    rw [if_neg (by rw [hc_f H o1 o2 q]; exact na_m1 (by omega)), if_neg (no_out (by omega) (by omega)), nI_clamp (by omega)]
    exact CA.dead (g1.ps hv) hB rfl
theorem ra_sek (g : RD π i0 b i ψ 0 a x) (hb : b < 2 ^ 29) (hB : b + 1 ≤ B) (hp : p < 8) (hP0 : hP (yH ψ) p ≠ 0) (hh : h < 6) {v : Nat} (hv : v ≤ 24) : RA m w l e π i0 B (mm_V 319 30 [some (.ref 83), some (.int (nI p)), some (.int (nI h)), some (.int (nI v)), none] [.int 0] (mm_Z m w i l e)) (aSek π p h v ψ) := by
  rw [mr_319_30, if_pos rfl]; unfold aSek
  refine RA.us g hb hp hP0 hh (fun i1 κ o1 o2 g1 => ?_) (fun i1 κ s' o' hs ho g1 => RA.dead g1 hB (by rw [mb_l, mb_v, mr_319_41, g1.bd hs, mb_l, mb_v, mr_319_48, if_bf, mr_319_65, g1.mn hs, mb_l, mb_0, mr_319_70, g1.bd hs, mb_l, mb_v, mr_319_74, if_bf, mr_319_85, g1.bd hs, mb_l, mb_v, mr_319_89, if_bf, g1.hs]))
  have H : HR i1 (yH ψ) := g1.1.2.2.2.1
  have eF : (hO (yH ψ) (oO ψ p h)).1 = oF ψ p h := rfl
  rw [mb_l, mb_v, mr_319_41, g1.gd, mb_l, mb_v, mr_319_48, if_bt, hr_isPipe H g.iv.hw o1 o2, eF, mb_l, mb_v, mr_319_57]
  cases q : oF ψ p h with
  | true =>
    rw [if_bt, mr_319_65]
    exact RA.mf g1 rfl (fun i2 g2 => RA.dead g2 hB (by rw [mb_l, mb_0, mr_319_70, g2.bd (by decide), mb_l, mb_v, mr_319_74, if_bf, mr_319_85, g2.bd (by decide), mb_l, mb_v, mr_319_89, if_bf, g2.hs]))
  | false =>
    rw [if_bf, mr_319_65]
    refine RA.mt g1 rfl (fun i2 g2 => ?_)
    have g3 := g2.ps (o := oO ψ p h) hv
    rw [mb_l, mb_0, mr_319_70, g2.gd, mb_l, mb_v, mr_319_74, if_bt, if_neg (no_out (by omega) (by omega)), nI_clamp (by omega), mr_319_85, g3.gd, mb_l, mb_v, mr_319_89, if_bt]
    exact RA.ret (r := (nI v, yh (yk ψ κ) (hPs (yH ψ) (oO ψ p h) v))) g3 hB
def aEmp (π : mP) (p h : Nat) (ψ : mS) : Int32 × mS := aUs π p h ψ (fun ψ1 => aMu (!oF ψ p h && decide (¬ nI (oM ψ p h) &&& 2 = 0)) (-10) ψ1 (aCk π (cP (yH ψ) p) (cN (yT ψ) (oN ψ p h)) 0 2 ψ1 (fun ψ2 => (0, if ts (yT ψ) (oN ψ p h) = 0 then ψ2 else yn ψ2 (2, oN ψ p h, 0, 0, 0, 0)))))
theorem file_of (hI : IV π b ψ) (o1 : oO ψ p h < 16) (o2 : hCt (yH ψ) (oO ψ p h) ≠ 0) (q : oF ψ p h = false) (hm : oM ψ p h ≠ 1) : oN ψ p h < 32 ∧ tk (yT ψ) (oN ψ p h) = 1 := by
  obtain ⟨n1, n2⟩ := nd_ok hI o1 o2 q
  have hk := (hI.tw _ n1).1
  have h2 : tk (yT ψ) (oN ψ p h) ≠ 2 := fun z => hm (hI.hm _ o1 o2 q z)
  exact ⟨n1, by unfold oN at h2 ⊢; omega⟩
theorem m2_1 {k : Nat} (h : ¬ nI k &&& 2 = 0) : k ≠ 1 := fun z => h (by rw [z]; decide)
theorem m6_1 {k : Nat} (h : ¬ nI k &&& 6 = 0) : k ≠ 1 := fun z => h (by rw [z]; decide)
theorem ca_emp (g : CD w π i0 b i ψ x y) (hb : b + 1 < 2 ^ 29) (hB : b + 2 ≤ B) (hp : p < 8) (hP0 : hP (yH ψ) p ≠ 0) (hh : h < 6) : CA m w l e π i0 B (mm_V 52 0 [some (.ref 81), some (.int (nI p)), some (.int (nI h)), none, none] [] (mm_Z m w i l e)) (aEmp π p h ψ) := by
  rw [mr_52_0]; unfold aEmp
  refine CA.us g (by omega) hp hP0 hh (by omega) (fun i1 κ o1 o2 g1 => ?_) (fun i1 r hr => by rw [mb_l, mb_v, mr_52_6, if_pos hr])
  have H : HC i1 (yH ψ) := g1.1.2.2.2.1
  have em : i1 74 (nI (oO ψ p h)).toNatClampNeg = nI (oM ψ p h) := hc_m H o1 o2
  rw [mb_l, mb_v, mr_52_6, if_neg (nI_nn (by omega)), if_neg (no_out (by omega) (by omega)), if_neg (no_out (by omega) (by omega))]
  by_cases z : nI (oM ψ p h) &&& 2 = 0
  · rw [if_pos (by rw [em]; exact z), decide_eq_false (fun y => y z), Bool.and_false]
    exact CA.mf rfl (CA.dead g1 (by omega) rfl)
  · rw [if_neg (by rw [em]; exact z), decide_eq_true z, Bool.and_true]
    cases q : oF ψ p h with
    | true =>
      rw [if_pos (hc_t H o1 o2 q).1]
      exact CA.mf rfl (CA.dead g1 (by omega) rfl)
    | false =>
      obtain ⟨n1, k1⟩ := file_of g.iv o1 o2 q (m2_1 z)
      have k0 : tk (yT ψ) (oN ψ p h) ≠ 0 := by omega
      have hw := g.iv.tw
      have hs24 := (hw _ n1).2.1
      have en : i1 72 (nI (oO ψ p h)).toNatClampNeg = nI (oN ψ p h) := hc_f H o1 o2 q
      refine CA.mt rfl ?_
      rw [if_neg (by rw [en]; exact na_m1 (by omega)), if_neg (no_out (by omega) (by omega)), en, if_neg (no_out (by omega) (by omega)), nI_clamp (by omega), nI_clamp (by omega), g1.1.pr hp hP0, g1.1.cn g1.iv n1 k0, show [some (Value.ref 30), some (Value.int (nI (cP (yH (yk ψ κ)) p))), some (Value.int (nI (cN (yT (yk ψ κ)) (oN ψ p h)))), some (Value.int 0), some (Value.int 2), none, none, none] = [some (Value.ref 30), some (Value.int (nI (cP (yH (yk ψ κ)) p))), some (Value.int (nI (cN (yT (yk ψ κ)) (oN ψ p h)))), some (Value.int (nI 0)), some (Value.int 2), none, none, none] from rfl]
      refine CA.gr g1 (by omega) (g.iv.cp hp hP0) (g.iv.cn n1 k0).1 (by omega) (by omega) (fun i2 κ2 g2 => ?_) (fun i2 => by rw [mb_l, mb_v, mr_52_75, if_bf])
      have t2 : TC true i2 (yT ψ) := g2.1.1
      have e3 : i2 (mm_Tr true + 3) (nI (oN ψ p h)).toNatClampNeg = nI (ts (yT ψ) (oN ψ p h)) := by rw [nI_clamp (by omega), (t2 _ n1).2.2.1]
      rw [mb_l, mb_v, mr_52_75, if_bt, if_neg (no_out (by omega) (by omega))]
      by_cases v : ts (yT ψ) (oN ψ p h) = 0
      · rw [if_neg (by rw [e3, nz_gt (by omega)]; exact fun y => y v), if_pos v, mr_52_107]
        exact CA.dead g2 (by omega) rfl
      · obtain ⟨i3, f1, f2⟩ := CD.nt (m := m) (l := l) (e := e) (q := (2, oN ψ p h, 0, 0, 0, 0)) g2 ⟨n1, k1⟩ trivial (fun z => absurd (show 2 ≤ 1 from z) (by decide)) (show 2 ≠ 6 by decide)
        have f1 : mm_V 83 0 [some (.ref 56), some (.int 2), some (.int (nI (oN ψ p h))), some (.int 0), some (.int 0), some (.int 0), none] [] (mm_Z m w i2 l e) = some (.inl none, mm_Z m w i3 l e) := f1
        rw [if_pos (by rw [e3, nz_gt (by omega)]; exact v), if_neg v, f1, mb_l, mb_0, mr_52_107]
        exact CA.dead f2 (by omega) rfl
theorem em_t60 (g : RD π i0 b i ψ s a x) (hs : s < 0) {x1 x2 : Int32} : mm_V 316 60 [some (.ref 83), some (.int x1), some (.int x2)] [] (mm_Z m w i l e) = some (.inl (some (.int s)), mm_Z m w i l e) := by
  rw [mr_316_60, g.bd hs, mb_l, mb_v, mr_316_64, if_bf, mr_316_95, g.hs]
theorem em_t30 (g : RD π i0 b i ψ s a x) (hs : s < 0) {x1 x2 : Int32} : mm_V 316 30 [some (.ref 83), some (.int x1), some (.int x2)] [] (mm_Z m w i l e) = some (.inl (some (.int s)), mm_Z m w i l e) := by
  rw [mr_316_30, g.bd hs, mb_l, mb_v, mr_316_34, if_bf, em_t60 g hs]
theorem ra_emp (g : RD π i0 b i ψ 0 a x) (hb : b + 1 < 2 ^ 29) (hB : b + 2 ≤ B) (hp : p < 8) (hP0 : hP (yH ψ) p ≠ 0) (hh : h < 6) : RA m w l e π i0 B (mm_V 317 29 [some (.ref 83), some (.int (nI p)), some (.int 4), some (.int (nI h)), none, none] [.int 0] (mm_Z m w i l e)) (aEmp π p h ψ) := by
  rw [mr_317_29, if_pos rfl, if_neg (by decide)]; unfold aEmp
  refine RA.us g (by omega) hp hP0 hh (fun i1 κ o1 o2 g1 => ?_) (fun i1 κ s' o' hs ho g1 => RA.dead g1 (by omega) (by rw [mb_l, mb_v, oh_t g1 hs]))
  have H : HR i1 (yH ψ) := g1.1.2.2.2.1
  have em : i1 124 (nI (oO ψ p h)).toNatClampNeg = nI (oM ψ p h) := hr_m H o1 o2
  have eF : (hO (yH ψ) (oO ψ p h)).1 = oF ψ p h := rfl
  rw [mb_l, mb_v, mr_317_97, g1.gd, mb_l, mb_v, mr_317_103, if_bt, if_neg (by decide), if_neg (by decide), if_neg (by decide)]
  refine RA.bd ?_ (fun i1 z => by rw [mb_l, mb_v, mr_317_210])
  rw [mr_316_0, hr_isPipe H g.iv.hw o1 o2, eF, mb_l, mb_v, mr_316_6]
  have fail : ∀ G : Bool, G = false → RA m w l e π i0 B (mm_V 316 25 [some (.ref 83), some (.int (nI p)), some (.int (nI (oO ψ p h)))] [.int 0, .ref 83] (mm_Z m w i1 l e)) (aMu G (-10) (yk ψ κ) (aCk π (cP (yH ψ) p) (cN (yT ψ) (oN ψ p h)) 0 2 (yk ψ κ) (fun ψ2 => (0, if ts (yT ψ) (oN ψ p h) = 0 then ψ2 else yn ψ2 (2, oN ψ p h, 0, 0, 0, 0))))) := fun G hG => by
    rw [mr_316_25]
    exact RA.mf g1 hG (fun i2 g2 => RA.dead g2 (by omega) (by rw [mb_l, mb_0, em_t30 g2 (by decide)]))
  cases q : oF ψ p h with
  | true =>
    rw [if_bt]
    exact fail _ rfl
  | false =>
    rw [if_bf, if_neg (no_out (by omega) (by omega))]
    by_cases z : nI (oM ψ p h) &&& 2 = 0
    · rw [if_pos (by rw [em]; exact z)]
      exact fail _ (by rw [decide_eq_false (fun y => y z)]; rfl)
    · obtain ⟨n1, k1⟩ := file_of g.iv o1 o2 q (m2_1 z)
      have k0 : tk (yT ψ) (oN ψ p h) ≠ 0 := by omega
      have hw := g.iv.tw
      have hs24 := (hw _ n1).2.1
      rw [if_neg (by rw [em]; exact z), mr_316_25]
      refine RA.mt g1 (by rw [decide_eq_true z]; rfl) (fun i2 g2 => ?_)
      have H2 : HR i2 (yH ψ) := g2.1.2.2.2.1
      have en : i2 123 (nI (oO ψ p h)).toNatClampNeg = nI (oN ψ p h) := hr_f H2 o1 o2 q
      rw [mb_l, mb_0, mr_316_30, g2.gd, mb_l, mb_v, mr_316_34, if_bt, if_neg (no_out (by omega) (by omega)), if_neg (no_out (by omega) (by omega)), en, if_neg (no_out (by omega) (by omega)), nI_clamp (by omega), nI_clamp (by omega), g2.1.pr hp hP0, g2.1.cn g2.iv n1 k0, show some (Value.int 0) = some (Value.int (nI 0)) from rfl]
      refine RA.ck g2 (by omega) (by decide) (g.iv.cp hp hP0) (g.iv.cn n1 k0).1 (by omega) (fun i3 κ3 g3 => ?_) (fun i3 κ3 g3 => RA.dead g3 (by omega) (by rw [mb_l, mb_0, em_t60 g3 (by decide)]))
      have t3 : TR i3 (yT ψ) := g3.1.1
      have H3 : HR i3 (yH ψ) := g3.1.2.2.2.1
      have en3 : i3 123 (nI (oO ψ p h)).toNatClampNeg = nI (oN ψ p h) := hr_f H3 o1 o2 q
      have e3 : i3 115 (nI (oN ψ p h)).toNatClampNeg = nI (ts (yT ψ) (oN ψ p h)) := by rw [nI_clamp (by omega), (t3 _ n1).2.2.1]
      rw [mb_l, mb_0, mr_316_60, g3.gd, mb_l, mb_v, mr_316_64, if_bt, if_neg (no_out (by omega) (by omega)), en3, if_neg (no_out (by omega) (by omega))]
      by_cases v : ts (yT ψ) (oN ψ p h) = 0
      · rw [if_neg (by rw [e3, nz_gt (by omega)]; exact fun y => y v), if_pos v, mr_316_95, g3.hs]
        exact RA.ret (r := (0, yk (yk ψ κ) κ3)) g3 (by omega)
      · obtain ⟨i4, f1, f2⟩ := RD.nt (m := m) (w := w) (l := l) (e := e) (q := (2, oN ψ p h, 0, 0, 0, 0)) g3 ⟨n1, k1⟩ trivial (fun z => absurd (show 2 ≤ 1 from z) (by decide)) (show 2 ≠ 6 by decide)
        have f1 : mm_V 277 0 [some (.ref 83), some (.int 2), some (.int (nI (oN ψ p h))), some (.int 0), some (.int 0), some (.int 0)] [] (mm_Z m w i3 l e) = some (.inl none, mm_Z m w i4 l e) := f1
        rw [if_pos (by rw [e3, nz_gt (by omega)]; exact v), if_neg v, if_neg (no_out (by omega) (by omega)), f1, mb_l, mb_0, mr_316_95, f2.hs]
        exact RA.ret (r := (0, yn (yk (yk ψ κ) κ3) (2, oN ψ p h, 0, 0, 0, 0))) f2 (by omega)
end MM118
