/-! RUN -/
section MM109
variable {w : Bool} {l : Nat → Nat → Int64} {e : Bool × Nat × Nat} {π : mP} {m : Nat} {ψ : mS} {b B p n : Nat} {i0 i i' : Nat → Nat → Int32} {s a x y : Int32} {r : Int32 × mS} {L M : List Nat}
theorem iv_sq {v : Nat} (hI : IV π b ψ) (hp : p < 8) (hv : xOk v) (hpv : pVal π (nI v) = true) : IV π b (yh ψ (hSq (yH ψ) p (v + 1))) := by
  have h4 := xOk_lt hv
  have hw := hI.hw
  refine ⟨hI.ti, hI.tv, ⟨hI.th.1, hI.th.2⟩, ⟨fun q hq => ?_, hw.2.1, hw.2.2.1, hw.2.2.2⟩, ⟨fun q hq z => ?_, hI.hv.2.1, hI.hv.2.2⟩, hI.jv, hI.kv, ⟨hI.pw, hI.po⟩, hI.hm⟩
  · show va_up (hP (yH ψ)) p (v + 1) q < 2 ^ 30 ∧ (va_up (hP (yH ψ)) p (v + 1) q = 0 → _)
    by_cases z : q = p
    · subst z; rw [up_s]; exact ⟨by omega, fun z => by omega⟩
    · rw [up_n z]; exact hw.1 q hq
  · have z : va_up (hP (yH ψ)) p (v + 1) q ≠ 0 := z
    show pVal π (nI (va_up (hP (yH ψ)) p (v + 1) q - 1)) = true
    by_cases y : q = p
    · subst y; rw [up_s, Nat.add_sub_cancel]; exact hpv
    · rw [up_n y] at z ⊢; exact hI.hv.1 q hq z
theorem CD.sp {v : Nat} (h : CD w π i0 b i ψ x y) (hp : p < 8) (hv : xOk v) (hpv : pVal π (nI v) = true) : CD w π i0 b (mm_ww i 69 p (nI v)) (yh ψ (hSq (yH ψ) p (v + 1))) x y := by
  obtain ⟨⟨h1, h2, h3, h4, h5, h6, h7⟩, hI, hG, hx, hy⟩ := h
  refine ⟨⟨h1.kp (fun k z a1 a2 => by rw [mw_k (by simp only [mm_Tr, cond_true] at a1 a2; omega)]), h2.kp (fun k z a1 a2 => by rw [mw_k (by simp only [mm_Tr, cond_false] at a1 a2; omega)]), h3.kp (by rw [mw_k (by omega)]) (fun z => by rw [mw_k (by omega)]), HC_sq h4 (by rw [nz_s (by omega)]; rfl), h5.kp (fun z a1 => by rw [mw_k (by omega)]) (fun k z a1 a2 => by rw [mw_k (by omega)]), h6.kp (fun k z a1 a2 => by have := pc_far w a1 a2; rw [mw_k (by omega)]), by rw [mw_k (by omega)]; exact h7⟩, iv_sq hI hp hv hpv, hG.tr (mG.ww (by unfold fC; omega)), by rw [mw_k (by omega)]; exact hx, by rw [mw_k (by omega)]; exact hy⟩
theorem RD.sp {v : Nat} (h : RD π i0 b i ψ s a x) (hp : p < 8) (hv : xOk v) (hpv : pVal π (nI v) = true) : RD π i0 b (mm_ww i 121 p (nI v)) (yh ψ (hSq (yH ψ) p (v + 1))) s a x := by
  obtain ⟨⟨h1, h2, h3, h4, h5, h6, h7⟩, hI, hG, hs, ha, hx⟩ := h
  refine ⟨⟨h1.kp (fun k z a1 a2 => by rw [mw_k (by omega)]), h2.kp (fun z => by rw [mw_k (by omega)]), h3.kp (by rw [mw_k (by omega)]) (fun z => by rw [mw_k (by omega)]), HR_sq h4 (by rw [nz_s (by omega)]; rfl), h5.kp (fun z a1 => by rw [mw_k (by omega)]) (fun k z a1 a2 => by rw [mw_k (by omega)]), h6.kp (fun z a1 => by rw [mw_k (by omega)]) (fun k z a1 a2 => by rw [mw_k (by omega)]), by rw [mw_k (by omega)]; exact h7⟩, iv_sq hI hp hv hpv, hG.tr (mG.ww (by unfold fR; omega)), by rw [mw_k (by omega)]; exact hs, by rw [mw_k (by omega)]; exact ha, by rw [mw_k (by omega)]; exact hx⟩
/-- the context that a run leads to -/
def rn (π : mP) (p n : Nat) (ψ : mS) : Nat := pNn π (cP (yH ψ) p) (cN (yT ψ) n % 100) 2 (cP (yH ψ) p % 100)
theorem rn_lt (hI : IV π b ψ) (hp : p < 8) (hP0 : hP (yH ψ) p ≠ 0) : rn π p n ψ < 5000 := pNn_lt hI.pw (xOk_lt (hI.cp hp hP0)) (by omega)
def aFin (p v : Nat) (ψ : mS) : Int32 × mS := (nI (v % 100), yh ψ (hSq (yH ψ) p (v + 1)))
def aRun (π : mP) (p : Nat) (L : List Nat) (ψ : mS) : Int32 × mS := aWa π p L ψ (fun n ψ1 => aMu (decide (¬ tk (yT ψ1) n = 2)) (-5) ψ1 (aCk π (cP (yH ψ1) p) (cN (yT ψ1) n) 0 1 ψ1 (fun ψ2 => aMu (pVal π (nI (rn π p n ψ1))) (-11) ψ2 (if rn π p n ψ1 = cP (yH ψ1) p then aFin p (rn π p n ψ1) ψ2 else aCk π (cP (yH ψ1) p) (rn π p n ψ1) 2 2 ψ2 (fun ψ3 => aCk π (rn π p n ψ1) (cN (yT ψ1) n) 0 512 ψ3 (fun ψ4 => aFin p (rn π p n ψ1) ψ4))))))
theorem ca_run (h : CD w π i0 b i ψ x y) (hb : b + 16 < 2 ^ 29) (hp : p < 8) (hP0 : hP (yH ψ) p ≠ 0) (hO : pO L) : CA m w l e π i0 (b + 16) (mm_V 104 0 [some (.ref 80), some (.int (nI p)), some (.int (nI (pc L))), none, none, none] [] (mm_Z m w i l e)) (aRun π p L ψ) := by
  rw [mr_104_0]; unfold aRun
  refine CA.wa h (by omega) hp hP0 hO (by omega) (fun i1 n κ g1 g2 => ?_) (fun i1 r hr => by rw [mb_l, mb_v, mr_104_7, if_pos hr])
  obtain ⟨n1, n2, n3⟩ := h.iv.wv g1
  have t2 : TC true i1 (yT ψ) := g2.1.1
  have hw := h.iv.tw
  have hk := (hw n n1).1
  have hu := h.iv.cp hp hP0
  have hv := (h.iv.cn n1 n2).1
  have hr := rn_lt (n := n) h.iv hp hP0
  rw [mb_l, mb_v, mr_104_7, if_neg (nI_nn (by omega)), tc_isDirectory t2 hw n1, mb_l, mb_v, mr_104_22]
  by_cases q : tk (yT ψ) n = 2
  · refine CA.mf (decide_eq_false (fun z => z q)) ?_
    rw [if_pos q, if_neg (by decide)]
    exact CA.dead g2 (by omega) rfl
  · refine CA.mt (decide_eq_true q) ?_
    have z0 : tk (yT ψ) n - 1 = 0 := by omega
    rw [if_neg q, if_pos rfl]
    refine CA.may g2 (by omega) hp hP0 n1 n2 z0 (by omega) (fun i2 κ2 g3 => ?_) (fun i2 => by rw [mb_l, mb_v, mr_104_35, if_bf])
    have n2' : tk (yT (yk (yk ψ κ) κ2)) n ≠ 0 := n2
    have e1 : cN (yT (yk (yk ψ κ) κ2)) n = cN (yT ψ) n := rfl
    have e2 : cP (yH (yk (yk ψ κ) κ2)) p = cP (yH ψ) p := rfl
    have e3 : pNn π (cP (yH ψ) p) (cN (yT ψ) n % 100) 2 (cP (yH ψ) p % 100) = rn π p n ψ := rfl
    have e4 : rn π p n (yk ψ κ) = rn π p n ψ := rfl
    have e5 : cN (yT (yk ψ κ)) n = cN (yT ψ) n := rfl
    have e6 : cP (yH (yk ψ κ)) p = cP (yH ψ) p := rfl
    rw [mb_l, mb_v, mr_104_35, if_bt, if_neg (no_out (by omega) (by omega)), if_neg (no_out (by omega) (by omega)), nI_clamp (by omega), nI_clamp (by omega), g3.1.pr hp hP0, g3.1.cn g3.iv n1 n2', e1, e2, show some (Value.int 2) = some (Value.int (nI 2)) from rfl, pc_newContext g3.1.2.2.2.2.2.1.1 h.iv.pw (xOk_lt hu) (xOk_lt hv) (xOk_lt hu) (by omega), e3, mb_l, mb_v, mr_104_76, e4, e5, e6]
    refine CA.mu (fun z => ?_) (fun z => ?_)
    · have hx := pv_nI h.iv.pw (by omega) z
      have fin : ∀ (b' : Nat) (i' : Nat → Nat → Int32) (ψ' : mS), b' ≤ b + 16 → CD w π i0 b' i' ψ' 0 (wB 1 (wN (yT ψ) L 0)) → CA m w l e π i0 (b + 16) (mm_V 104 116 [some (.ref 80), some (.int (nI p)), some (.int (nI (pc L))), some (.int (nI n)), some (.int (nI (cP (yH ψ) p))), some (.int (nI (rn π p n ψ)))] [] (mm_Z m w i' l e)) (aFin p (rn π p n ψ) ψ') := fun b' i' ψ' hb' hc => by
        rw [mr_104_116, if_neg (no_out (by omega) (by omega)), nI_clamp (by omega), na_100, na_re (by omega) (by omega)]
        exact CA.ret (r := aFin p (rn π p n ψ) ψ') (hc.sp hp hx z) hb'
      rw [if_pos z, if_neg (nI_nn (by omega))]
      simp only [nI_eq (show rn π p n ψ < 2 ^ 31 by omega) (xOk_31 hu)]
      by_cases v : rn π p n ψ = cP (yH ψ) p
      · rw [if_pos v, if_pos v]
        exact fin _ _ _ (by omega) g3
      · rw [if_neg v, if_neg v, if_neg (no_out (by omega) (by omega)), nI_clamp (by omega), g3.1.cn g3.iv n1 n2', e1, mr_105_0, mb_as, show some (Value.int 2) = some (Value.int (nI 2)) from rfl]
        refine CA.gr g3 (by omega) hu hx (by omega) (by omega) (fun i3 κ3 g4 => ?_) (fun i3 => by rw [mb_l, mb_v, mr_105_11, if_bf, mb_l, mb_v, mr_104_110, if_pos rfl])
        rw [mb_l, mb_v, mr_105_11, if_bt, mb_as, show some (Value.int 0) = some (Value.int (nI 0)) from rfl]
        refine CA.gr g4 (by omega) hx hv (by omega) (by omega) (fun i4 κ4 g5 => ?_) (fun i4 => by rw [mb_l, mb_v, mr_105_27, if_bf, mb_l, mb_v, mr_104_110, if_pos rfl])
        rw [mb_l, mb_v, mr_105_27, if_bt, mb_l, mb_v, mr_104_110, if_neg (by decide)]
        exact fin _ _ _ (by omega) g5
    · rw [z]
      simp only [Bool.false_eq_true, if_false]
      rw [if_pos (by decide)]
      exact CA.dead g3 (by omega) rfl
theorem rn_t165 (g : RD π i0 b i ψ s a x) (hs : s < 0) {x1 x2 x3 : Int32} : mm_V 297 165 [some (.ref 83), some (.int x1), some (.int x2), some (.int x3)] [] (mm_Z m w i l e) = some (.inl (some (.int s)), mm_Z m w i l e) := by
  rw [mr_297_165, g.bd hs, mb_l, mb_v, mr_297_169, if_bf, g.hs]
theorem rn_t151 (g : RD π i0 b i ψ s a x) (hs : s < 0) {x1 x2 x3 : Int32} : mm_V 297 151 [some (.ref 83), some (.int x1), some (.int x2), some (.int x3)] [] (mm_Z m w i l e) = some (.inl (some (.int s)), mm_Z m w i l e) := by
  rw [mr_297_151, g.bd hs, mb_l, mb_v, mr_297_155, if_bf, rn_t165 g hs]
theorem rn_t28 (g : RD π i0 b i ψ s (nI n) x) (hs : s < 0) (hp : p < 8) (hn : n < 32) {x2 : Int32} : mm_V 297 28 [some (.ref 83), some (.int (nI p)), some (.int x2), none] [] (mm_Z m w i l e) = some (.inl (some (.int s)), mm_Z m w i l e) := by
  rw [mr_297_28, if_neg (no_out (by omega) (by omega)), g.ha, if_neg (no_out (by omega) (by omega)), g.cn hs, mb_l, mb_0, mr_297_49, g.bd hs, mb_l, mb_v, mr_297_53, if_bf, g.hs]
theorem ra_run (h : RD π i0 b i ψ 0 a x) (hb : b + 16 < 2 ^ 29) (hp : p < 8) (hP0 : hP (yH ψ) p ≠ 0) (hO : pO L) : RA m w l e π i0 (b + 16) (mm_V 297 0 [some (.ref 83), some (.int (nI p)), some (.int (nI (pc L))), none] [] (mm_Z m w i l e)) (aRun π p L ψ) := by
  rw [mr_297_0]; unfold aRun
  refine RA.wa h (by omega) hp hP0 hO (fun i1 n κ x' g1 g2 => ?_) (fun i1 n κ s' x' g0 n1 n2 g3 => RA.dead g3 (by omega) ?_)
  · obtain ⟨n1, n2, n3⟩ := h.iv.wv g1
    have t2 : TR i1 (yT ψ) := g2.1.1
    have hw := h.iv.tw
    have hk := (hw n n1).1
    have hu := h.iv.cp hp hP0
    have hv := (h.iv.cn n1 n2).1
    have hu4 := xOk_lt hu
    have hv4 := xOk_lt hv
    have hr := rn_lt (n := n) h.iv hp hP0
    rw [mb_l, mb_0, mr_297_6, g2.ha, tr_isDirectory t2 hw n1, mb_l, mb_v, mr_297_15]
    by_cases q : tk (yT ψ) n = 2
    · rw [if_pos q, if_neg (by decide), mr_297_23]
      exact RA.mf g2 (decide_eq_false (fun z => z q)) (fun i2 g3 => RA.dead g3 (by omega) (by rw [mb_l, mb_0, rn_t28 g3 (by decide) hp n1]))
    · rw [if_neg q, if_pos rfl, mr_297_23]
      refine RA.mt g2 (decide_eq_true q) (fun i2 g3 => ?_)
      rw [mb_l, mb_0, mr_297_28, if_neg (no_out (by omega) (by omega)), g3.ha, if_neg (no_out (by omega) (by omega)), nI_clamp (by omega), nI_clamp (by omega), g3.1.pr hp hP0, g3.1.cn g3.iv n1 n2, show [some (Value.ref 83), some (Value.int (nI (cP (yH (yk ψ κ)) p))), some (Value.int (nI (cN (yT (yk ψ κ)) n))), some (Value.int 0), some (Value.int 0)] = [some (Value.ref 83), some (Value.int (nI (cP (yH (yk ψ κ)) p))), some (Value.int (nI (cN (yT (yk ψ κ)) n))), some (Value.int (nI 0)), some (Value.int 0)] from rfl]
      refine RA.ck g3 (by omega) (by decide) hu hv (by omega) (fun i3 κ3 g4 => ?_) (fun i3 κ3 g4 => RA.dead g4 (by omega) (by rw [mb_l, mb_0, mr_297_49, g4.bd (by decide), mb_l, mb_v, mr_297_53, if_bf, g4.hs]))
      have n2' : tk (yT (yk (yk ψ κ) κ3)) n ≠ 0 := n2
      have e1 : cN (yT (yk (yk ψ κ) κ3)) n = cN (yT ψ) n := rfl
      have e2 : cP (yH (yk (yk ψ κ) κ3)) p = cP (yH ψ) p := rfl
      have e3 : pNn π (cP (yH ψ) p) (cN (yT ψ) n % 100) 2 (cP (yH ψ) p % 100) = rn π p n ψ := rfl
      have e4 : rn π p n (yk ψ κ) = rn π p n ψ := rfl
      have e5 : cN (yT (yk ψ κ)) n = cN (yT ψ) n := rfl
      have e6 : cP (yH (yk ψ κ)) p = cP (yH ψ) p := rfl
      rw [mb_l, mb_0, mr_297_49, g4.gd, mb_l, mb_v, mr_297_53, if_bt, g4.ha, if_neg (no_out (by omega) (by omega)), nI_clamp (by omega), g4.1.cn g4.iv n1 n2', e1, mr_243_0, mb_l, mb_v, na_100, na_re (by omega) (by omega), mr_297_75, if_neg (no_out (by omega) (by omega)), nI_clamp (by omega), g4.1.pr hp hP0, e2, mr_243_0, mb_l, mb_v, na_100, na_re (by omega) (by omega), mr_297_85, show some (Value.int 2) = some (Value.int (nI 2)) from rfl, rs_newContext g4.1 g4.iv hp hP0 (by omega) (by omega) (by omega), e2, e3, mb_l, mb_v, mr_297_88, e4, e5, e6]
      cases z : pVal π (nI (rn π p n ψ)) with
      | false =>
        simp only [Bool.false_eq_true, if_false]
        rw [if_pos (by decide), mr_297_99]
        exact RA.mf g4 rfl (fun i4 g5 => RA.dead g5 (by omega) (by rw [mb_l, mb_0, mr_297_104, g5.bd (by decide), mb_l, mb_v, mr_297_108, if_bf, rn_t151 g5 (by decide)]))
      | true =>
        have hx := pv_nI h.iv.pw (by omega) z
        simp only [if_true]
        rw [if_neg (nI_nn (by omega)), mr_297_99]
        refine RA.mt g4 rfl (fun i4 g5 => ?_)
        have fin : ∀ (b' : Nat) (i' : Nat → Nat → Int32) (ψ' : mS) (x'' : Int32), b' ≤ b + 16 → RD π i0 b' i' ψ' 0 (nI n) x'' → RA m w l e π i0 (b + 16) (mm_V 297 151 [some (.ref 83), some (.int (nI p)), some (.int (nI (pc L))), some (.int (nI (rn π p n ψ)))] [] (mm_Z m w i' l e)) (aFin p (rn π p n ψ) ψ') := fun b' i' ψ' x'' hb' hc => by
          have hc2 := hc.sp hp hx z
          rw [mr_297_151, hc.gd, mb_l, mb_v, mr_297_155, if_bt, if_neg (no_out (by omega) (by omega)), nI_clamp (by omega), mr_297_165, hc2.gd, mb_l, mb_v, mr_297_169, if_bt, mr_243_0, mb_l, mb_v, mr_297_176, na_100, na_re (by omega) (by omega)]
          exact RA.ret (r := aFin p (rn π p n ψ) ψ') hc2 hb'
        rw [mb_l, mb_0, mr_297_104, g5.gd, mb_l, mb_v, mr_297_108, if_bt, if_neg (no_out (by omega) (by omega))]
        simp only [nI_clamp (show p < 2 ^ 31 by omega), g5.1.pr hp hP0, e2, nI_eq (show rn π p n ψ < 2 ^ 31 by omega) (xOk_31 hu)]
        by_cases v : rn π p n ψ = cP (yH ψ) p
        · rw [if_pos v, if_pos v]
          exact fin _ _ _ _ (by omega) g5
        · rw [if_neg v, if_neg v, if_neg (no_out (by omega) (by omega)), show some (Value.int 2) = some (Value.int (nI 2)) from rfl]
          refine RA.ck g5 (by omega) (by decide) hu hx (by omega) (fun i5 κ5 g6 => ?_) (fun i5 κ5 g6 => RA.dead g6 (by omega) (by rw [mb_l, mb_0, mr_297_134, g6.ha, if_neg (no_out (by omega) (by omega)), g6.cn (by decide), mb_l, mb_0, rn_t151 g6 (by decide)]))
          have n2'' : tk (yT (yk (yk (yk ψ κ) κ3) κ5)) n ≠ 0 := n2
          have e7 : cN (yT (yk (yk (yk ψ κ) κ3) κ5)) n = cN (yT ψ) n := rfl
          rw [mb_l, mb_0, mr_297_134, g6.ha, if_neg (no_out (by omega) (by omega)), nI_clamp (by omega), g6.1.cn g6.iv n1 n2'', e7, show some (Value.int 0) = some (Value.int (nI 0)) from rfl]
          refine RA.ck g6 (by omega) (by decide) hx hv (by omega) (fun i6 κ6 g7 => ?_) (fun i6 κ6 g7 => RA.dead g7 (by omega) (by rw [mb_l, mb_0, rn_t151 g7 (by decide)]))
          rw [mb_l, mb_0]
          exact fin _ _ _ _ (by omega) g7
  · have t3 : TR i1 (yT ψ) := g3.1.1
    rw [mb_l, mb_0, mr_297_6, g3.ha, tr_isDirectory t3 h.iv.tw n1, mb_l, mb_v, mr_297_15, tk_dec]
    cases decide (tk (yT ψ) n = 2)
    · rw [if_bf, mr_297_23, g3.mn g0, mb_l, mb_0, rn_t28 g3 g0 hp n1]
    · rw [if_bt, mr_297_23, g3.mn g0, mb_l, mb_0, rn_t28 g3 g0 hp n1]
end MM109
