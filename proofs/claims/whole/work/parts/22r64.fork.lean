/-! FORK, SIGNAL, TRACE, SWITCH -/
section MM123
variable {w : Bool} {l : Nat → Nat → Int64} {e : Bool × Nat × Nat} {π : mP} {m : Nat} {ψ : mS} {b B p n h o k q : Nat} {i0 i i' : Nat → Nat → Int32} {s a x y v : Int32} {r : Int32 × mS} {η : mH}
theorem ct_ex (hz : hCt η o ≠ 0) : ∃ k, k < 48 ∧ hH η k = o + 1 := by
  by_cases q : ∃ k, k < 48 ∧ hH η k = o + 1
  · exact q
  · refine absurd ?_ hz
    unfold hCt
    refine cnt_no 48 0 (fun j _ hj => ?_)
    have : hH η j ≠ o + 1 := fun y => q ⟨j, by omega, y⟩
    simpa using this
/-- the first free process -/
def hFp (η : mH) : Nat := tFst (fun q => hP η q == 0) 8 0
theorem fp_0 (hf : hFp η < 8) : hP η (hFp η) = 0 := by
  have h1 : tFst (fun q => hP η q == 0) 8 0 < 0 + 8 := by have : tFst (fun q => hP η q == 0) 8 0 < 8 := hf; omega
  have h2 : (hP η (hFp η) == 0) = true := tFst_at (fun q => hP η q == 0) 8 0 h1
  simpa using h2
theorem hc_fp_loop (H : HC i η) (hw : HW η) : ∀ (D k : Nat), k + D = 8 → mm_V 79 2 [some (.ref 68), some (.int (nI k))] [] (mm_Z m w i l e) = some (.inl (some (.int (if tFst (fun q => hP η q == 0) D k < 8 then nI (tFst (fun q => hP η q == 0) D k) else -1))), mm_Z m w i l e)
  | 0, k, hk => by
    have e0 : tFst (fun q => hP η q == 0) 0 k = k := rfl
    rw [mr_79_2, if_neg (by rw [na_8, nI_ltI (by omega) (by omega)]; omega), e0, if_neg (by omega)]
  | D + 1, k, hk => by
    have e9 : i 69 (nI k).toNatClampNeg = nI (hP η k) - 1 := by rw [nI_clamp (by omega), H.1 k (by omega)]
    have hb := (hw.1 k (by omega)).1
    rw [mr_79_2, if_pos (by rw [na_8, nI_ltI (by omega) (by omega)]; omega), if_neg (no_out (by omega) (by omega)), tFst]
    by_cases z : hP η k = 0
    · rw [if_pos (by rw [e9, nz_m1 (by omega)]; exact z), if_pos (show (hP η k == 0) = true by simp [z]), if_pos (by omega)]
    · rw [if_neg (by rw [e9, nz_m1 (by omega)]; exact z), if_neg (show ¬ (hP η k == 0) = true by simp [z]), nI_1, hc_fp_loop H hw D (k + 1) (by omega)]
theorem hc_freeProcess (H : HC i η) (hw : HW η) : mm_V 79 0 [some (.ref 68), none] [] (mm_Z m w i l e) = some (.inl (some (.int (if hFp η < 8 then nI (hFp η) else -1))), mm_Z m w i l e) := by
  have e0 := hc_fp_loop (m := m) (w := w) (l := l) (e := e) H hw 8 0 rfl
  have e0 : mm_V 79 2 [some (.ref 68), some (.int 0)] [] (mm_Z m w i l e) = _ := e0
  rw [mr_79_0, e0]
  rfl
theorem hr_fp_loop (H : HR i η) (hw : HW η) {x1 : Int32} : ∀ (D k : Nat), k + D = 8 → mm_V 320 20 [some (.ref 83), some (.int x1), some (.int (nI k)), none] [] (mm_Z m w i l e) = mm_V 320 53 [some (.ref 83), some (.int x1), some (.int (nI (tFst (fun q => hP η q == 0) D k))), none] [.int (bI (decide (tFst (fun q => hP η q == 0) D k < 8))), .ref 83] (mm_Z m w i l e)
  | 0, k, hk => by
    have e0 : tFst (fun q => hP η q == 0) 0 k = k := rfl
    rw [mr_320_20, if_neg (by rw [na_8, nI_ltI (by omega) (by omega)]; omega), e0, if_neg (by rw [na_8, nI_ltI (by omega) (by omega)]; omega), decide_eq_false (by omega)]; rfl
  | D + 1, k, hk => by
    have e9 : i 121 (nI k).toNatClampNeg = nI (hP η k) - 1 := by rw [nI_clamp (by omega), H.1 k (by omega)]
    have hb := (hw.1 k (by omega)).1
    have k8 : nI k < 8 := by rw [na_8, nI_ltI (by omega) (by omega)]; omega
    rw [mr_320_20, if_pos k8, if_neg (no_out (by omega) (by omega)), tFst]
    by_cases z : hP η k = 0
    · rw [if_pos (by rw [e9, nz_ng (by omega)]; exact z), if_pos (show (hP η k == 0) = true by simp [z]), if_pos k8, decide_eq_true (by omega)]; rfl
    · rw [if_neg (by rw [e9, nz_ng (by omega)]; exact z), if_neg (show ¬ (hP η k == 0) = true by simp [z]), nI_1, hr_fp_loop H hw D (k + 1) (by omega)]
theorem hr_fp (H : HR i η) (hw : HW η) {x1 : Int32} : mm_V 320 18 [some (.ref 83), some (.int x1), none, none] [] (mm_Z m w i l e) = mm_V 320 53 [some (.ref 83), some (.int x1), some (.int (nI (hFp η))), none] [.int (bI (decide (hFp η < 8))), .ref 83] (mm_Z m w i l e) := by
  have e0 := hr_fp_loop (m := m) (w := w) (l := l) (e := e) H hw (x1 := x1) 8 0 rfl
  have e0 : mm_V 320 20 [some (.ref 83), some (.int x1), some (.int 0), none] [] (mm_Z m w i l e) = _ := e0
  rw [mr_320_18, e0]
  rfl
theorem fk_h (k : Nat) : hH (hFk η q p) k = if 6 * q ≤ k ∧ k < 6 * q + 6 then hH η (6 * p + (k - 6 * q)) else hH η k := rfl
theorem fk_ct (hw : HW η) (hp : p < 8) (hq : q < 8) (hpq : p ≠ q) (hq0 : hP η q = 0) : hCt (hFk η q p) o ≠ 0 ↔ hCt η o ≠ 0 := by
  constructor
  · intro z
    obtain ⟨k, k1, k2⟩ := ct_ex z
    rw [fk_h] at k2
    by_cases y : 6 * q ≤ k ∧ k < 6 * q + 6
    · rw [if_pos y] at k2; exact told_of (by omega) k2
    · rw [if_neg y] at k2; exact told_of k1 k2
  · intro z
    obtain ⟨k, k1, k2⟩ := ct_ex z
    refine told_of (k := k) k1 ?_
    rw [fk_h]
    by_cases y : 6 * q ≤ k ∧ k < 6 * q + 6
    · have := (hw.1 q hq).2 hq0 (k - 6 * q) (by omega)
      rw [show 6 * q + (k - 6 * q) = k by omega] at this
      omega
    · rw [if_neg y]; exact k2
theorem HW_fk (hw : HW η) (hp : p < 8) (hq : q < 8) (hpq : p ≠ q) (hq0 : hP η q = 0) (hP0 : hP η p ≠ 0) : HW (hFk η q p) := by
  refine ⟨fun r hr => ⟨?_, fun z h hh => ?_⟩, fun k hk => ?_, fun o ho z => hw.2.2.1 o ho ((fk_ct hw hp hq hpq hq0).mp z), fun k hk => ⟨(hw.2.2.2 k hk).1, (hw.2.2.2 k hk).2.1, fun z => ?_⟩⟩
  · show va_up (hP η) q (hP η p) r < 2 ^ 30
    by_cases y : r = q
    · rw [y, up_s]; exact (hw.1 p hp).1
    · rw [up_n y]; exact (hw.1 r hr).1
  · have z : va_up (hP η) q (hP η p) r = 0 := z
    have y : r ≠ q := fun y => by rw [y, up_s] at z; exact hP0 z
    rw [up_n y] at z
    rw [fk_h, if_neg (by omega)]
    exact (hw.1 r hr).2 z h hh
  · rw [fk_h]
    by_cases y : 6 * q ≤ k ∧ k < 6 * q + 6
    · rw [if_pos y]; exact hw.2.1 _ (by omega)
    · rw [if_neg y]; exact hw.2.1 k hk
  · obtain ⟨o, o1, o2, o3, o4⟩ := (hw.2.2.2 k hk).2.2 z
    exact ⟨o, o1, (fk_ct hw hp hq hpq hq0).mpr o2, o3, o4⟩
theorem iv_fk (hI : IV π b ψ) (hp : p < 8) (hq : q < 8) (hpq : p ≠ q) (hq0 : hP (yH ψ) q = 0) (hP0 : hP (yH ψ) p ≠ 0) : IV π b (yh ψ (hFk (yH ψ) q p)) := by
  refine iv_hd hI (HW_fk hI.hw hp hq hpq hq0 hP0) (fun r hr z => ?_) (fun o ho z => ⟨(fk_ct hI.hw hp hq hpq hq0).mp z, rfl, rfl, rfl, rfl⟩) (fun o ho z => (fk_ct hI.hw hp hq hpq hq0).mpr z) hI.hv.2.2
  have z : va_up (hP (yH ψ)) q (hP (yH ψ) p) r ≠ 0 := z
  show pVal π (nI (va_up (hP (yH ψ)) q (hP (yH ψ) p) r - 1)) = true
  by_cases y : r = q
  · rw [y, up_s]; exact hI.hv.1 p hp hP0
  · rw [up_n y] at z ⊢; exact hI.hv.1 r hr z
def aFrk (π : mP) (p : Nat) (ψ : mS) : Int32 × mS := aCk π (cP (yH ψ) p) (cP (yH ψ) p) 2 1 ψ (fun ψ1 => aMu (decide (hFp (yH ψ) < 8)) (-7) ψ1 (nI (hFp (yH ψ)), yh ψ1 (hFk (yH ψ) (hFp (yH ψ)) p)))
theorem ca_frk (g : CD w π i0 b i ψ x y) (hb : b < 2 ^ 29) (hB' : b + 1 ≤ B) (hp : p < 8) (hP0 : hP (yH ψ) p ≠ 0) : CA m w l e π i0 B (mm_V 57 0 [some (.ref 81), some (.int (nI p)), none, none] [] (mm_Z m w i l e)) (aFrk π p ψ) := by
  have hu := g.iv.cp hp hP0
  unfold aFrk
  rw [mr_57_0, if_neg (no_out (by omega) (by omega)), nI_clamp (by omega), g.1.pr hp hP0, show some (Value.int 2) = some (Value.int (nI 2)) from rfl]
  refine CA.gr g hb hu hu (by omega) hB' (fun i1 κ g1 => ?_) (fun i1 => by rw [mb_l, mb_v, mr_57_21, if_bf])
  have H1 : HC i1 (yH ψ) := g1.1.2.2.2.1
  rw [mb_l, mb_v, mr_57_21, if_bt, hc_freeProcess H1 g.iv.hw, mb_l, mb_v, mr_57_34]
  by_cases q : hFp (yH ψ) < 8
  · have q0 := fp_0 q
    have hpq : p ≠ hFp (yH ψ) := fun z => by rw [← z] at q0; exact hP0 q0
    refine CA.mt (decide_eq_true q) ?_
    obtain ⟨i2, f1, f2, f3⟩ := hc_startLike (m := m) (w := w) (l := l) (e := e) H1 g.iv.hw hp q hpq q0
    rw [if_pos q, if_neg (na_m1 (by omega)), f1, mb_l, mb_0, mr_57_52]
    exact CA.dead (g1.hd f2 (fun k j z => by rw [f3 k (by omega) (by omega) (by omega)]) (iv_fk g1.iv hp q hpq q0 hP0)) hB' rfl
  · rw [if_neg q, if_pos rfl]
    exact CA.mf (decide_eq_false q) (CA.dead g1 hB' rfl)
theorem ra_frk (g : RD π i0 b i ψ 0 a x) (hb : b < 2 ^ 29) (hB' : b + 1 ≤ B) (hp : p < 8) (hP0 : hP (yH ψ) p ≠ 0) : RA m w l e π i0 B (mm_V 320 0 [some (.ref 83), some (.int (nI p)), none, none] [] (mm_Z m w i l e)) (aFrk π p ψ) := by
  have hu := g.iv.cp hp hP0
  have t : ∀ (b' : Nat) (i1 : Nat → Nat → Int32) (ψ' : mS) (a' x' s' x2 : Int32), s' < 0 → RD π i0 b' i1 ψ' s' a' x' → mm_V 320 58 [some (.ref 83), some (.int (nI p)), some (.int x2), none] [] (mm_Z m w i1 l e) = some (.inl (some (.int s')), mm_Z m w i1 l e) := fun b' i1 ψ' a' x' s' x2 hs g1 => by
    rw [mr_320_58, g1.bd hs, mb_l, mb_v, mr_320_62, if_bf, g1.hs]
  unfold aFrk
  rw [mr_320_0, if_neg (no_out (by omega) (by omega)), if_neg (no_out (by omega) (by omega)), nI_clamp (by omega), g.1.pr hp hP0, show some (Value.int 2) = some (Value.int (nI 2)) from rfl]
  refine RA.ck g hb (by decide) hu hu (by omega) (fun i1 κ g1 => ?_) (fun i1 κ g1 => RA.dead g1 hB' ?_)
  · have H1 : HR i1 (yH ψ) := g1.1.2.2.2.1
    rw [mb_l, mb_0, hr_fp H1 g.iv.hw, mr_320_53]
    refine RA.mu g1 (fun i2 g2 z => ?_) (fun i2 g2 z => RA.dead g2 hB' (by rw [mb_l, mb_0, t _ _ _ _ _ _ _ (by decide) g2]))
    have q : hFp (yH ψ) < 8 := of_decide_eq_true z
    have q0 := fp_0 q
    have hpq : p ≠ hFp (yH ψ) := fun z => by rw [← z] at q0; exact hP0 q0
    have H2 : HR i2 (yH ψ) := g2.1.2.2.2.1
    have q6 := (g.iv.hw.1 _ q).2 q0
    obtain ⟨i3, f1, f2, f3⟩ := hr_fk_loop (m := m) (w := w) (l := l) (e := e) (η := hSq (yH ψ) (hFp (yH ψ)) (hP (yH ψ) p)) g.iv.hw.2.1 hp q hpq q6 6 0 (mm_ww i2 121 (hFp (yH ψ)) (i2 121 p)) rfl (by rw [hFn_0]; exact HR_sq H2 (H2.1 p hp))
    have f1 : mm_V 320 84 [some (.ref 83), some (.int (nI p)), some (.int (nI (hFp (yH ψ)))), some (.int 0)] [] (mm_Z m w (mm_ww i2 121 (hFp (yH ψ)) (i2 121 p)) l e) = _ := f1
    rw [mb_l, mb_0, mr_320_58, g2.gd, mb_l, mb_v, mr_320_62, if_bt, if_neg (no_out (by omega) (by omega)), if_neg (no_out (by omega) (by omega)), nI_clamp (by omega), nI_clamp (by omega), f1]
    exact RA.ret (r := (nI (hFp (yH ψ)), yh (yk ψ κ) (hFk (yH ψ) (hFp (yH ψ)) p))) (g2.hd f2 (fun k j z => by rw [f3 k (by omega), mw_k (by omega)]) (iv_fk g2.iv hp q hpq q0 hP0)) hB'
  · have H1 : HR i1 (yH ψ) := g1.1.2.2.2.1
    rw [mb_l, mb_0, hr_fp H1 g.iv.hw, mr_320_53, g1.mn (by decide), mb_l, mb_0, t _ _ _ _ _ _ _ (by decide) g1]
/-- signal: kind 0; trace: kind 1 -/
def aSig (π : mP) (p q : Nat) (ψ : mS) : Int32 × mS := aCk π (cP (yH ψ) p) (cP (yH ψ) q) 2 4 ψ (fun ψ1 => (0, yf ψ1 q))
def aTrc (π : mP) (p q : Nat) (ψ : mS) : Int32 × mS := aCk π (cP (yH ψ) p) (cP (yH ψ) q) 2 8 ψ (fun ψ1 => (0, ψ1))
theorem ca_sig (g : CD w π i0 b i ψ x y) (hb : b < 2 ^ 29) (hB' : b + 1 ≤ B) (hp : p < 8) (hP0 : hP (yH ψ) p ≠ 0) (hq : q < 8) (hQ0 : hP (yH ψ) q ≠ 0) : CA m w l e π i0 B (mm_V 58 0 [some (.ref 81), some (.int (nI p)), some (.int (nI q))] [] (mm_Z m w i l e)) (aSig π p q ψ) := by
  unfold aSig
  rw [mr_58_0, if_neg (no_out (by omega) (by omega)), if_neg (no_out (by omega) (by omega)), nI_clamp (by omega), nI_clamp (by omega), g.1.pr hp hP0, g.1.pr hq hQ0, show some (Value.int 2) = some (Value.int (nI 2)) from rfl]
  refine CA.gr g hb (g.iv.cp hp hP0) (g.iv.cp hq hQ0) (by omega) hB' (fun i1 κ g1 => ?_) (fun i1 => by rw [mb_l, mb_v, mr_58_27, if_bf])
  obtain ⟨i2, f1, f2⟩ := CD.fi (m := m) (l := l) (e := e) g1 hq
  rw [mb_l, mb_v, mr_58_27, if_bt, f1, mb_l, mb_0, mr_58_41]
  exact CA.dead f2 hB' rfl
theorem ca_trc (g : CD w π i0 b i ψ x y) (hb : b < 2 ^ 29) (hB' : b + 1 ≤ B) (hp : p < 8) (hP0 : hP (yH ψ) p ≠ 0) (hq : q < 8) (hQ0 : hP (yH ψ) q ≠ 0) {x1 x4 : Int32} : CA m w l e π i0 B (mm_bi true (mm_V 35 0 [some (.ref 30), some (.int (i 69 (nI p).toNatClampNeg)), some (.int (i 69 (nI q).toNatClampNeg)), some (.int 2), some (.int 8), none, none, none] [] (mm_Z m w i l e)) (fun v μ => mm_V 44 178 [some (.ref 81), some (.int x1), some (.int (nI p)), some (.int (nI q)), some (.int x4)] (v.toList ++ []) μ)) (aTrc π p q ψ) := by
  unfold aTrc
  rw [nI_clamp (by omega), nI_clamp (by omega), g.1.pr hp hP0, g.1.pr hq hQ0, show some (Value.int 2) = some (Value.int (nI 2)) from rfl]
  refine CA.gr g hb (g.iv.cp hp hP0) (g.iv.cp hq hQ0) (by omega) hB' (fun i1 κ g1 => ?_) (fun i1 => by rw [mb_l, mb_v, mr_44_178, if_bf])
  rw [mb_l, mb_v, mr_44_178, if_bt]
  exact CA.dead g1 hB' rfl
theorem ra_sig (g : RD π i0 b i ψ 0 a x) (hb : b < 2 ^ 29) (hB' : b + 1 ≤ B) (hp : p < 8) (hP0 : hP (yH ψ) p ≠ 0) (hq : q < 8) (hQ0 : hP (yH ψ) q ≠ 0) : RA m w l e π i0 B (mm_V 324 34 [some (.ref 83), some (.int (nI p)), some (.int 0), some (.int (nI q))] [.int 0] (mm_Z m w i l e)) (aSig π p q ψ) := by
  unfold aSig
  rw [mr_324_34, if_pos rfl, if_neg (no_out (by omega) (by omega)), if_neg (no_out (by omega) (by omega)), if_pos rfl, mr_324_62, nI_clamp (by omega), nI_clamp (by omega), g.1.pr hp hP0, g.1.pr hq hQ0]
  refine RA.ck (c := 2) g hb (by decide) (g.iv.cp hp hP0) (g.iv.cp hq hQ0) (by omega) (fun i1 κ g1 => ?_) (fun i1 κ g1 => RA.dead g1 hB' (by rw [mb_l, mb_0, mr_324_65, g1.bd (by decide), mb_l, mb_v, mr_324_69, if_bf, mr_324_81, g1.hs]))
  obtain ⟨i2, f1, f2⟩ := RD.fi (m := m) (w := w) (l := l) (e := e) g1 hq
  rw [mb_l, mb_0, mr_324_65, g1.gd, mb_l, mb_v, mr_324_69, if_bt, if_pos rfl, f1, mb_l, mb_0, mr_324_81, f2.hs]
  exact RA.ret (r := (0, yf (yk ψ κ) q)) f2 hB'
theorem ra_trc (g : RD π i0 b i ψ 0 a x) (hb : b < 2 ^ 29) (hB' : b + 1 ≤ B) (hp : p < 8) (hP0 : hP (yH ψ) p ≠ 0) (hq : q < 8) (hQ0 : hP (yH ψ) q ≠ 0) : RA m w l e π i0 B (mm_V 324 34 [some (.ref 83), some (.int (nI p)), some (.int 1), some (.int (nI q))] [.int 0] (mm_Z m w i l e)) (aTrc π p q ψ) := by
  unfold aTrc
  rw [mr_324_34, if_pos rfl, if_neg (no_out (by omega) (by omega)), if_neg (no_out (by omega) (by omega)), if_neg (by decide), mr_324_62, nI_clamp (by omega), nI_clamp (by omega), g.1.pr hp hP0, g.1.pr hq hQ0]
  refine RA.ck (c := 2) g hb (by decide) (g.iv.cp hp hP0) (g.iv.cp hq hQ0) (by omega) (fun i1 κ g1 => ?_) (fun i1 κ g1 => RA.dead g1 hB' (by rw [mb_l, mb_0, mr_324_65, g1.bd (by decide), mb_l, mb_v, mr_324_69, if_bf, mr_324_81, g1.hs]))
  rw [mb_l, mb_0, mr_324_65, g1.gd, mb_l, mb_v, mr_324_69, if_bt, if_neg (by decide), mr_324_81, g1.hs]
  exact RA.ret (r := (0, yk ψ κ)) g1 hB'
def aSwi (π : mP) (p : Nat) (v : Int32) (ψ : mS) : Int32 × mS := aMu (pVal π v) (-11) ψ (aCk π (cP (yH ψ) p) v.toNatClampNeg 2 16 ψ (fun ψ1 => (0, yh ψ1 (hSq (yH ψ) p (v.toNatClampNeg + 1)))))
theorem ca_swi (g : CD w π i0 b i ψ x y) (hb : b < 2 ^ 29) (hB' : b + 1 ≤ B) (hp : p < 8) (hP0 : hP (yH ψ) p ≠ 0) : CA m w l e π i0 B (mm_V 59 0 [some (.ref 81), some (.int (nI p)), some (.int v)] [] (mm_Z m w i l e)) (aSwi π p v ψ) := by
  have p2 : PC0 w i π := g.1.2.2.2.2.2.1.1
  unfold aSwi
  rw [mr_59_0, pc_isValid p2 g.iv.pw, mb_l, mb_v, mr_59_11]
  refine CA.mu (fun q => ?_) (fun q => ?_)
  · obtain ⟨v1, v2⟩ := pv_ok g.iv.pw q
    have q' := q
    rw [v2] at q'
    rw [q, if_bt, if_neg (no_out (by omega) (by omega)), nI_clamp (by omega), g.1.pr hp hP0, show some (Value.int v) = some (Value.int (nI v.toNatClampNeg)) by rw [← v2], show some (Value.int 2) = some (Value.int (nI 2)) from rfl]
    refine CA.gr g hb (g.iv.cp hp hP0) v1 (by omega) hB' (fun i1 κ g1 => ?_) (fun i1 => by rw [mb_l, mb_v, mr_59_37, if_bf])
    rw [mb_l, mb_v, mr_59_37, if_bt, if_neg (no_out (by omega) (by omega)), nI_clamp (by omega)]
    exact CA.dead (g1.sp hp v1 q') hB' rfl
  · rw [q, if_bf]
    exact CA.dead g (by omega) rfl
theorem ra_swi (g : RD π i0 b i ψ 0 a x) (hb : b < 2 ^ 29) (hB' : b + 1 ≤ B) (hp : p < 8) (hP0 : hP (yH ψ) p ≠ 0) : RA m w l e π i0 B (mm_V 325 15 [some (.ref 83), some (.int (nI p)), some (.int v)] [.int 0] (mm_Z m w i l e)) (aSwi π p v ψ) := by
  have p2 : PR0 i π := g.1.2.2.2.2.2.1.1
  unfold aSwi
  rw [mr_325_15, if_pos rfl, pr_isValid p2 g.iv.pw, mb_l, mb_v, mr_325_26]
  refine RA.mu g (fun i1 g1 q => ?_) (fun i1 g1 q => RA.dead g1 (by omega) (by rw [mb_l, mb_0, mr_325_31, if_neg (no_out (by omega) (by omega)), g1.cn (by decide), mb_l, mb_0, mr_325_44, g1.bd (by decide), mb_l, mb_v, mr_325_48, if_bf, g1.hs]))
  obtain ⟨v1, v2⟩ := pv_ok g.iv.pw q
  have q' := q
  rw [v2] at q'
  rw [mb_l, mb_0, mr_325_31, if_neg (no_out (by omega) (by omega)), nI_clamp (by omega), g1.1.pr hp hP0, show some (Value.int v) = some (Value.int (nI v.toNatClampNeg)) by rw [← v2], show some (Value.int 2) = some (Value.int (nI 2)) from rfl]
  refine RA.ck g1 hb (by decide) (g.iv.cp hp hP0) v1 (by omega) (fun i2 κ g2 => ?_) (fun i2 κ g2 => RA.dead g2 hB' (by rw [mb_l, mb_0, mr_325_44, g2.bd (by decide), mb_l, mb_v, mr_325_48, if_bf, g2.hs]))
  rw [mb_l, mb_0, mr_325_44, g2.gd, mb_l, mb_v, mr_325_48, if_bt, if_neg (no_out (by omega) (by omega)), nI_clamp (by omega), g2.hs]
  exact RA.ret (r := (0, yh (yk ψ κ) (hSq (yH ψ) p (v.toNatClampNeg + 1)))) (g2.sp hp v1 q') hB'
end MM123
