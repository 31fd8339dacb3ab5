/-! HANDLES: changes of holdings, the use of a handle, dup, seek -/
section MM116
variable {w : Bool} {l : Nat → Nat → Int64} {e : Bool × Nat × Nat} {π : mP} {m : Nat} {ψ : mS} {b B p n h o : Nat} {i0 i i' : Nat → Nat → Int32} {s a x y : Int32} {r : Int32 × mS} {η : mH}
theorem iv_hd {η' : mH} (hI : IV π b ψ) (hw : HW η') (h1 : ∀ p, p < 8 → hP η' p ≠ 0 → pVal π (nI (hP η' p - 1)) = true) (h2 : ∀ o, o < 16 → hCt η' o ≠ 0 → hCt (yH ψ) o ≠ 0 ∧ (hO η' o).1 = (hO (yH ψ) o).1 ∧ (hO η' o).2.1 = (hO (yH ψ) o).2.1 ∧ (hO η' o).2.2.1 = (hO (yH ψ) o).2.2.1 ∧ (hO η' o).2.2.2.2 = (hO (yH ψ) o).2.2.2.2) (h3 : ∀ o, o < 16 → hCt (yH ψ) o ≠ 0 → hCt η' o ≠ 0) (h4 : ∀ k, k < 4 → hC η' k ≠ 0 → pVal π (nI (hC η' k - 1)) = true) : IV π b (yh ψ η') := by
  refine ⟨hI.ti, hI.tv, ⟨fun n' g1 g2 g3 g4 => ?_, fun o g1 g2 g3 => ?_⟩, hw, ⟨h1, fun o g1 g2 => ?_, h4⟩, hI.jv, hI.kv, ⟨hI.pw, hI.po⟩, fun o g1 g2 g3 g4 => ?_⟩
  · have := hI.th.1 n' g1 g2 g3 g4
    rw [he_iff] at this
    obtain ⟨o, o1, o2, o3, o4⟩ := this
    have y1 := h3 o o1 o2
    obtain ⟨-, y2, y3, -, -⟩ := h2 o o1 y1
    exact (he_iff η' n').mpr ⟨o, o1, y1, by rw [y2]; exact o3, by rw [y3]; exact o4⟩
  · have g2 : hCt η' o ≠ 0 := g2
    have g3 : (hO η' o).1 = false := g3
    show tk (yT ψ) (hO η' o).2.1 ≠ 0
    obtain ⟨y1, y2, y3, -, -⟩ := h2 o g1 g2
    rw [y3]; rw [y2] at g3
    exact hI.th.2 o g1 y1 g3
  · have g2 : hCt η' o ≠ 0 := g2
    show pVal π (nI (hO η' o).2.2.2.2) = true
    obtain ⟨y1, -, -, -, y5⟩ := h2 o g1 g2
    rw [y5]; exact hI.hv.2.1 o g1 y1
  · have g2 : hCt η' o ≠ 0 := g2
    have g3 : (hO η' o).1 = false := g3
    have g4 : tk (yT ψ) (hO η' o).2.1 = 2 := g4
    show (hO η' o).2.2.1 = 1
    obtain ⟨y1, y2, y3, y4, -⟩ := h2 o g1 g2
    rw [y2] at g3; rw [y3] at g4; rw [y4]
    exact hI.hm o g1 y1 g3 g4
/-- another place of an opening -/
def hPs (η : mH) (o v : Nat) : mH := hSo η o ((hO η o).1, (hO η o).2.1, (hO η o).2.2.1, v, (hO η o).2.2.2.2)
theorem ps_ct {v y : Nat} : hCt (hPs η o v) y = hCt η y := rfl
theorem ps_o {v y : Nat} : hO (hPs η o v) y = if y = o then ((hO η o).1, (hO η o).2.1, (hO η o).2.2.1, v, (hO η o).2.2.2.2) else hO η y := up_if (f := hO η)
theorem ps_e {v y : Nat} : (hO (hPs η o v) y).1 = (hO η y).1 ∧ (hO (hPs η o v) y).2.1 = (hO η y).2.1 ∧ (hO (hPs η o v) y).2.2.1 = (hO η y).2.2.1 ∧ (hO (hPs η o v) y).2.2.2.2 = (hO η y).2.2.2.2 := by
  rw [ps_o]
  by_cases z : y = o
  · rw [if_pos z, z]; exact ⟨rfl, rfl, rfl, rfl⟩
  · rw [if_neg z]; exact ⟨rfl, rfl, rfl, rfl⟩
theorem ps_p {v y : Nat} : (hO (hPs η o v) y).2.2.2.1 = if y = o then v else (hO η y).2.2.2.1 := by
  rw [ps_o]
  by_cases z : y = o
  · rw [if_pos z, if_pos z]
  · rw [if_neg z, if_neg z]
theorem HW_ps {v : Nat} (hw : HW η) (hv : v ≤ 24) : HW (hPs η o v) := by
  refine ⟨hw.1, hw.2.1, fun y hy hc => ?_, fun k hk => ⟨(hw.2.2.2 k hk).1, (hw.2.2.2 k hk).2.1, fun hc => ?_⟩⟩
  · rw [ps_ct] at hc
    obtain ⟨e1, e2, e3, e4⟩ := ps_e (η := η) (o := o) (v := v) (y := y)
    obtain ⟨a1, a2, a3, a4, a5⟩ := hw.2.2.1 y hy hc
    rw [e1, e2, e3, e4, ps_p]
    refine ⟨a1, a2, a3, ?_, a5⟩
    split
    · exact hv
    · exact a4
  · obtain ⟨y, y1, y2, y3, y4⟩ := (hw.2.2.2 k hk).2.2 hc
    obtain ⟨e1, e2, e3, e4⟩ := ps_e (η := η) (o := o) (v := v) (y := y)
    exact ⟨y, y1, y2, by rw [e1]; exact y3, by rw [e2]; exact y4⟩
theorem HC_ps {v : Nat} (H : HC i η) : HC (mm_ww i 75 o (nI v)) (hPs η o v) := by
  obtain ⟨a1, a2, a3, a4⟩ := H
  refine ⟨fun p hp => by rw [mw_k (by omega)]; exact a1 p hp, fun p hp => by rw [mw_k (by omega)]; exact a2 p hp, fun y hy => ?_, fun k hk => ?_⟩
  · obtain ⟨b1, b2⟩ := a3 y hy
    obtain ⟨e1, e2, e3, e4⟩ := ps_e (η := η) (o := o) (v := v) (y := y)
    rw [ps_ct, e1, e2, e3, e4, ps_p]
    simp only [mw_k (show 71 ≠ 75 by omega), mw_k (show 72 ≠ 75 by omega), mw_k (show 73 ≠ 75 by omega), mw_k (show 74 ≠ 75 by omega), mw_k (show 76 ≠ 75 by omega)]
    refine ⟨b1, fun hc => ⟨(b2 hc).1, (b2 hc).2.1, (b2 hc).2.2.1, ?_, (b2 hc).2.2.2.2⟩⟩
    by_cases z : y = o
    · rw [if_pos z, z, mw_s]
    · rw [if_neg z, mw_j z]; exact (b2 hc).2.2.2.1
  · simp only [mw_k (show 77 ≠ 75 by omega), mw_k (show 78 ≠ 75 by omega), mw_k (show 79 ≠ 75 by omega)]
    exact a4 k hk
theorem HR_ps {v : Nat} (H : HR i η) : HR (mm_ww i 125 o (nI v)) (hPs η o v) := by
  obtain ⟨a1, a2, a3, a4⟩ := H
  refine ⟨fun p hp => by rw [mw_k (by omega)]; exact a1 p hp, fun p hp => by rw [mw_k (by omega)]; exact a2 p hp, fun y hy => ?_, fun k hk => ?_⟩
  · obtain ⟨b1, b2⟩ := a3 y hy
    obtain ⟨e1, e2, e3, e4⟩ := ps_e (η := η) (o := o) (v := v) (y := y)
    have eN : hN (hO (hPs η o v) y) = hN (hO η y) := by unfold hN; rw [e1, e2, e3]
    rw [ps_ct, eN, e3, e4, ps_p]
    simp only [mw_k (show 123 ≠ 125 by omega), mw_k (show 124 ≠ 125 by omega), mw_k (show 126 ≠ 125 by omega)]
    refine ⟨b1, fun hc => ⟨(b2 hc).1, ?_, (b2 hc).2.2⟩⟩
    by_cases z : y = o
    · rw [if_pos z, z, mw_s]
    · rw [if_neg z, mw_j z]; exact (b2 hc).2.1
  · simp only [mw_k (show 127 ≠ 125 by omega), mw_k (show 128 ≠ 125 by omega), mw_k (show 129 ≠ 125 by omega)]
    exact a4 k hk
theorem iv_ps {v : Nat} (hI : IV π b ψ) (hv : v ≤ 24) : IV π b (yh ψ (hPs (yH ψ) o v)) := iv_hd hI (HW_ps hI.hw hv) hI.hv.1 (fun y hy hc => by
  rw [ps_ct] at hc
  obtain ⟨e1, e2, e3, e4⟩ := ps_e (η := yH ψ) (o := o) (v := v) (y := y)
  exact ⟨hc, e1, e2, e3, e4⟩) (fun y hy hc => by rw [ps_ct]; exact hc) hI.hv.2.2
theorem CD.ps {v : Nat} (g : CD w π i0 b i ψ x y) (hv : v ≤ 24) : CD w π i0 b (mm_ww i 75 o (nI v)) (yh ψ (hPs (yH ψ) o v)) x y := g.hd (HC_ps g.1.2.2.2.1) (fun k j z => by rw [mw_k (by omega)]) (iv_ps g.iv hv)
theorem RD.ps {v : Nat} (g : RD π i0 b i ψ s a x) (hv : v ≤ 24) : RD π i0 b (mm_ww i 125 o (nI v)) (yh ψ (hPs (yH ψ) o v)) s a x := g.hd (HR_ps g.1.2.2.2.1) (fun k j z => by rw [mw_k (by omega)]) (iv_ps g.iv hv)
/-- the opening that a handle tells, its opener -/
def oO (ψ : mS) (p h : Nat) : Nat := hH (yH ψ) (6 * p + h) - 1
def oX (ψ : mS) (p h : Nat) : Nat := (hO (yH ψ) (oO ψ p h)).2.2.2.2
def aUs (π : mP) (p h : Nat) (ψ : mS) (K : mS → Int32 × mS) : Int32 × mS := if hH (yH ψ) (6 * p + h) = 0 then (-9, ψ) else if oX ψ p h = cP (yH ψ) p then K ψ else aCk π (cP (yH ψ) p) (oX ψ p h) 4 1 ψ K
theorem us_ok (hI : IV π b ψ) (hp : p < 8) (hh : h < 6) (q : hH (yH ψ) (6 * p + h) ≠ 0) : oO ψ p h < 16 ∧ hCt (yH ψ) (oO ψ p h) ≠ 0 ∧ xOk (oX ψ p h) := by
  have h16 := hI.hw.2.1 (6 * p + h) (by omega)
  have ho : oO ψ p h < 16 := by unfold oO; omega
  have hc : hCt (yH ψ) (oO ψ p h) ≠ 0 := told_of (k := 6 * p + h) (by omega) (by unfold oO; omega)
  have hv := hI.hv.2.1 _ ho hc
  have h30 := (hI.hw.2.2.1 _ ho hc).2.2.2.2
  exact ⟨ho, hc, pv_nI hI.pw (by unfold oX; omega) hv⟩
theorem CA.us (g : CD w π i0 b i ψ x y) (hb : b < 2 ^ 29) (hp : p < 8) (hP0 : hP (yH ψ) p ≠ 0) (hh : h < 6) {F : Option Value → mm_M → Option mm_R} {K : mS → Int32 × mS} (hB : b + 1 ≤ B) (h1 : ∀ i1 κ, oO ψ p h < 16 → hCt (yH ψ) (oO ψ p h) ≠ 0 → CD w π i0 (b + 1) i1 (yk ψ κ) x y → CA m w l e π i0 B (mm_bi true (some (.inl (some (.int (nI (oO ψ p h)))), mm_Z m w i1 l e)) F) (K (yk ψ κ))) (h2 : ∀ i1 r, r < 0 → mm_bi true (some (.inl (some (.int r)), mm_Z m w i1 l e)) F = some (.inl (some (.int r)), mm_Z m w i1 l e)) : CA m w l e π i0 B (mm_bi true (mm_V 45 0 [some (.ref 81), some (.int (nI p)), some (.int (nI h)), none, none] [] (mm_Z m w i l e)) F) (aUs π p h ψ K) := by
  have H : HC i (yH ψ) := g.1.2.2.2.1
  have h16 := g.iv.hw.2.1 (6 * p + h) (by omega)
  unfold aUs
  rw [mr_45_0, mb_as, hc_opening H hp hh, mb_l, mb_v, mr_45_9]
  by_cases q : hH (yH ψ) (6 * p + h) = 0
  · rw [if_pos q, if_pos ((nz_m1 (by omega)).mpr q)]
    exact CA.dead g (by omega) (h2 _ _ (by decide))
  · obtain ⟨o1, o2, o3⟩ := us_ok g.iv hp hh q
    have eo : nI (hH (yH ψ) (6 * p + h)) - 1 = nI (oO ψ p h) := nz_s q
    have e76 : i 76 (nI (oO ψ p h)).toNatClampNeg = nI (oX ψ p h) := by rw [nI_clamp (by omega), ((H.2.2.1 _ o1).2 o2).2.2.2.2]; rfl
    have e69 : i 69 (nI p).toNatClampNeg = nI (cP (yH ψ) p) := by rw [nI_clamp (by omega), g.1.pr hp hP0]
    rw [if_neg q, eo, if_neg (na_m1 (by omega)), if_neg (no_out (by omega) (by omega)), if_neg (no_out (by omega) (by omega))]
    have hxc := xOk_31 o3
    have hxp := xOk_31 (g.iv.cp hp hP0)
    by_cases z : oX ψ p h = cP (yH ψ) p
    · rw [if_pos (by rw [e76, e69, z]), if_pos z]
      exact h1 i (yK ψ) o1 o2 (g.up (by omega))
    · rw [if_neg (by rw [e76, e69, nI_eq hxc hxp]; exact z), if_neg z, if_neg (no_out (by omega) (by omega)), e76, e69, show some (Value.int 4) = some (Value.int (nI 4)) from rfl, mb_as]
      refine CA.gr g hb (g.iv.cp hp hP0) o3 (by omega) hB (fun i1 κ g1 => ?_) (fun i1 => by rw [mb_l, mb_v, mr_45_63, if_bf]; exact h2 _ _ (by decide))
      rw [mb_l, mb_v, mr_45_63, if_bt]
      exact h1 i1 κ o1 o2 g1
theorem RA.us (g : RD π i0 b i ψ 0 a x) (hb : b < 2 ^ 29) (hp : p < 8) (hP0 : hP (yH ψ) p ≠ 0) (hh : h < 6) {F : Option Value → mm_M → Option mm_R} {K : mS → Int32 × mS} (h1 : ∀ i1 κ, oO ψ p h < 16 → hCt (yH ψ) (oO ψ p h) ≠ 0 → RD π i0 (b + 1) i1 (yk ψ κ) 0 a x → RA m w l e π i0 B (mm_bi true (some (.inl (some (.int (nI (oO ψ p h)))), mm_Z m w i1 l e)) F) (K (yk ψ κ))) (h2 : ∀ i1 κ s' o', s' < 0 → o' < 16 → RD π i0 (b + 1) i1 (yk ψ κ) s' a x → RA m w l e π i0 B (mm_bi true (some (.inl (some (.int (nI o'))), mm_Z m w i1 l e)) F) (s', yk ψ κ)) : RA m w l e π i0 B (mm_bi true (mm_V 309 0 [some (.ref 83), some (.int (nI p)), some (.int (nI h)), none] [] (mm_Z m w i l e)) F) (aUs π p h ψ K) := by
  have H : HR i (yH ψ) := g.1.2.2.2.1
  have h16 := g.iv.hw.2.1 (6 * p + h) (by omega)
  have e6 : 6 * nI p + nI h = nI (6 * p + h) := by rw [na_6, na_mul, nI_add]
  have e122 : i 122 (6 * nI p + nI h).toNatClampNeg = nI (hH (yH ψ) (6 * p + h)) - 1 := by rw [e6, nI_clamp (by omega), H.2.1 _ (by omega)]
  unfold aUs
  rw [mr_309_0, if_neg (by rw [e6]; exact no_out (by omega) (by omega))]
  by_cases q : hH (yH ψ) (6 * p + h) = 0
  · rw [if_pos (by rw [e122, nz_ng (by omega)]; exact q), if_pos q, mr_309_22, show (Value.int 0) = Value.int (bI false) from rfl, rs_must g.hs, if_neg (by decide), mb_as, mb_l, mb_0, mr_309_27, g.st.bd (by decide), mb_as, mb_l, mb_v, mr_309_31, if_bf, mr_309_67, if_pos (by rw [e122, nz_ng (by omega)]; exact q), na_0]
    exact h2 _ (yK ψ) _ 0 (by decide) (by omega) (g.st.up (by omega))
  · obtain ⟨o1, o2, o3⟩ := us_ok g.iv hp hh q
    have eo : i 122 (6 * nI p + nI h).toNatClampNeg = nI (oO ψ p h) := by rw [e122]; exact nz_s q
    rw [if_neg (by rw [e122, nz_ng (by omega)]; exact q), eo, if_neg q, mr_309_22, show (Value.int 1) = Value.int (bI true) from rfl, rs_must g.hs, if_pos rfl, mb_as, mb_l, mb_0, mr_309_27, g.st.gd, mb_as, mb_l, mb_v, mr_309_31, if_bt, if_neg (no_out (by omega) (by omega)), if_neg (no_out (by omega) (by omega))]
    have g1 := g.st (s' := 0)
    have H1 : HR (mm_ww i 83 81 0) (yH ψ) := g1.1.2.2.2.1
    have e126 : mm_ww i 83 81 0 126 (nI (oO ψ p h)).toNatClampNeg = nI (oX ψ p h) := by rw [nI_clamp (by omega), ((H1.2.2.1 _ o1).2 o2).2.2]; rfl
    have e121 : mm_ww i 83 81 0 121 (nI p).toNatClampNeg = nI (cP (yH ψ) p) := by rw [nI_clamp (by omega), g1.1.pr hp hP0]
    have hxc := xOk_31 o3
    have hxp := xOk_31 (g.iv.cp hp hP0)
    by_cases z : oX ψ p h = cP (yH ψ) p
    · rw [if_pos (by rw [e126, e121, z]), if_pos z, mr_309_67, if_neg (nI_nn (by omega))]
      exact h1 _ (yK ψ) o1 o2 (g1.up (by omega))
    · rw [if_neg (by rw [e126, e121, nI_eq hxc hxp]; exact z), if_neg z, if_neg (no_out (by omega) (by omega)), if_neg (no_out (by omega) (by omega)), e126, e121, show some (Value.int 4) = some (Value.int (nI 4)) from rfl, mb_as]
      refine RA.ck g1 hb (by decide) (g.iv.cp hp hP0) o3 (by omega) (fun i1 κ g2 => ?_) (fun i1 κ g2 => ?_)
      · rw [mb_l, mb_0, mr_309_67, if_neg (nI_nn (by omega))]
        exact h1 i1 κ o1 o2 g2
      · rw [mb_l, mb_0, mr_309_67, if_neg (nI_nn (by omega))]
        exact h2 i1 κ _ _ (by decide) o1 g2
end MM116
