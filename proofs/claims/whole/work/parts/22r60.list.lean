/-! LIST; what comes next in a file or directory -/
section MM119
variable {w : Bool} {l : Nat → Nat → Int64} {e : Bool × Nat × Nat} {π : mP} {m : Nat} {ψ : mS} {b B p n h o : Nat} {i0 i i' : Nat → Nat → Int32} {s a x y : Int32} {r : Int32 × mS} {η : mH}
theorem ad_0 (z : Int32) : z + 0 = z := by simp
/-- the next content, in the class -/
theorem CD.nx (g : CD w π i0 b i ψ x y) (ho : o < 16) (hc : hCt (yH ψ) o ≠ 0) (hn : n < 32) : (¬ (hO (yH ψ) o).2.2.2.1 < ts (yT ψ) n → mm_V 50 0 [some (.ref 81), some (.int (nI o)), some (.int (nI n)), none] [] (mm_Z m w i l e) = some (.inl (some (.int (-1))), mm_Z m w i l e)) ∧ ((hO (yH ψ) o).2.2.2.1 < ts (yT ψ) n → i (mm_Tr true + 4) (24 * n + (hO (yH ψ) o).2.2.2.1) ≠ -1 → mm_V 50 0 [some (.ref 81), some (.int (nI o)), some (.int (nI n)), none] [] (mm_Z m w i l e) = some (.inl (some (.int (i (mm_Tr true + 4) (24 * n + (hO (yH ψ) o).2.2.2.1)))), mm_Z m w (mm_ww i 75 o (nI ((hO (yH ψ) o).2.2.2.1 + 1))) l e)) := by
  have H : HC i (yH ψ) := g.1.2.2.2.1
  have T : TC true i (yT ψ) := g.1.1
  have e5 := hc_p H ho hc
  have hp24 := (g.iv.hw.2.2.1 o ho hc).2.2.2.1
  have e0 : mm_V 50 0 [some (.ref 81), some (.int (nI o)), some (.int (nI n)), none] [] (mm_Z m w i l e) = mm_V 50 17 [some (.ref 81), some (.int (nI o)), some (.int (nI n)), none] [.int (if (hO (yH ψ) o).2.2.2.1 < ts (yT ψ) n then i (mm_Tr true + 4) (24 * n + (hO (yH ψ) o).2.2.2.1) else -1)] (mm_Z m w i l e) := by
    rw [mr_50_0, if_neg (no_out (by omega) (by omega)), e5, tc_contentAt T g.iv.tw hn (by omega), mb_l, mb_v]
  refine ⟨fun q => ?_, fun q q2 => ?_⟩
  · rw [e0, if_neg q, mr_50_17, if_neg (no_out (by omega) (by omega)), if_pos rfl, if_neg (no_out (by omega) (by omega)), ad_0, ww_id]
  · rw [e0, if_pos q, mr_50_17, if_neg (no_out (by omega) (by omega)), if_neg q2, if_neg (no_out (by omega) (by omega)), e5, nI_1, nI_clamp (by omega)]
def aLst (π : mP) (p h : Nat) (ψ : mS) : Int32 × mS := aUs π p h ψ (fun ψ1 => aMu (!oF ψ p h && decide (tk (yT ψ) (oN ψ p h) = 2)) (-4) ψ1 (aCk π (cP (yH ψ) p) (cN (yT ψ) (oN ψ p h)) 1 1 ψ1 (fun ψ2 => if oP ψ p h < ts (yT ψ) (oN ψ p h) then (nI (tm (yT ψ) (oN ψ p h) (oP ψ p h)), yh ψ2 (hPs (yH ψ) (oO ψ p h) (oP ψ p h + 1))) else (256, ψ2))))
theorem ca_lst (g : CD w π i0 b i ψ x y) (hb : b + 1 < 2 ^ 29) (hB : b + 2 ≤ B) (hp : p < 8) (hP0 : hP (yH ψ) p ≠ 0) (hh : h < 6) : CA m w l e π i0 B (mm_V 51 0 [some (.ref 81), some (.int (nI p)), some (.int (nI h)), none, none, none] [] (mm_Z m w i l e)) (aLst π p h ψ) := by
  rw [mr_51_0]; unfold aLst
  refine CA.us g (by omega) hp hP0 hh (by omega) (fun i1 κ o1 o2 g1 => ?_) (fun i1 r hr => by rw [mb_l, mb_v, mr_51_6, if_pos hr])
  have H : HC i1 (yH ψ) := g1.1.2.2.2.1
  rw [mb_l, mb_v, mr_51_6, if_neg (nI_nn (by omega)), if_neg (no_out (by omega) (by omega))]
  cases q : oF ψ p h with
  | true =>
    rw [if_pos (hc_t H o1 o2 q).1]
    exact CA.mf rfl (CA.dead g1 (by omega) rfl)
  | false =>
    obtain ⟨n1, n2⟩ := nd_ok g.iv o1 o2 q
    have n1 : oN ψ p h < 32 := n1
    have n2 : tk (yT ψ) (oN ψ p h) ≠ 0 := n2
    have en : i1 72 (nI (oO ψ p h)).toNatClampNeg = nI (oN ψ p h) := hc_f H o1 o2 q
    have hw := g.iv.tw
    have t1 : TC true i1 (yT ψ) := g1.1.1
    rw [if_neg (by rw [en]; exact na_m1 (by omega)), en, tc_isDirectory t1 hw n1, mb_l, mb_v, mr_51_39]
    by_cases z : tk (yT ψ) (oN ψ p h) = 2
    · have hk := (hw _ n1).2.2 z
      refine CA.mt (by rw [decide_eq_true z]; rfl) ?_
      rw [if_pos z, if_neg (by decide), if_neg (no_out (by omega) (by omega)), if_neg (no_out (by omega) (by omega)), nI_clamp (by omega), nI_clamp (by omega), g1.1.pr hp hP0, g1.1.cn g1.iv n1 n2, show [some (Value.ref 30), some (Value.int (nI (cP (yH (yk ψ κ)) p))), some (Value.int (nI (cN (yT (yk ψ κ)) (oN ψ p h)))), some (Value.int 1), some (Value.int 1), none, none, none] = [some (Value.ref 30), some (Value.int (nI (cP (yH (yk ψ κ)) p))), some (Value.int (nI (cN (yT (yk ψ κ)) (oN ψ p h)))), some (Value.int (nI 1)), some (Value.int 1), none, none, none] from rfl]
      refine CA.gr g1 (by omega) (g.iv.cp hp hP0) (g.iv.cn n1 n2).1 (by omega) (by omega) (fun i2 κ2 g2 => ?_) (fun i2 => by rw [mb_l, mb_v, mr_51_73, if_bf])
      obtain ⟨x1, x2⟩ := CD.nx (m := m) (l := l) (e := e) (n := oN ψ p h) g2 o1 o2 n1
      have x1 : ¬ oP ψ p h < ts (yT ψ) (oN ψ p h) → _ := x1
      have x2 : oP ψ p h < ts (yT ψ) (oN ψ p h) → _ := x2
      have t2 : TC true i2 (yT ψ) := g2.1.1
      rw [mb_l, mb_v, mr_51_73, if_bt]
      by_cases v : oP ψ p h < ts (yT ψ) (oN ψ p h)
      · have hc := hk.2 _ v
        have ec : i2 (mm_Tr true + 4) (24 * oN ψ p h + oP ψ p h) = nI (tm (yT ψ) (oN ψ p h) (oP ψ p h) + 100 * td (yT ψ) (oN ψ p h) (oP ψ p h)) := (t2 _ n1).2.2.2.2 z _ v
        have x3 := x2 v (by show i2 (mm_Tr true + 4) (24 * oN ψ p h + oP ψ p h) ≠ -1; rw [ec]; exact na_m1 (by omega))
        have x3 : mm_V 50 0 [some (.ref 81), some (.int (nI (oO ψ p h))), some (.int (nI (oN ψ p h))), none] [] (mm_Z m w i2 l e) = some (.inl (some (.int (i2 (mm_Tr true + 4) (24 * oN ψ p h + oP ψ p h)))), mm_Z m w (mm_ww i2 75 (oO ψ p h) (nI (oP ψ p h + 1))) l e) := x3
        rw [x3, mb_l, mb_v, mr_51_86, ec, if_neg (na_m1 (by omega)), na_100, na_re (by omega) (by omega), if_pos v, show (tm (yT ψ) (oN ψ p h) (oP ψ p h) + 100 * td (yT ψ) (oN ψ p h) (oP ψ p h)) % 100 = tm (yT ψ) (oN ψ p h) (oP ψ p h) by omega]
        exact CA.dead (g2.ps (o := oO ψ p h) (v := oP ψ p h + 1) (by omega)) (by omega) rfl
      · rw [x1 v, mb_l, mb_v, mr_51_86, if_pos rfl, if_neg v]
        exact CA.dead g2 (by omega) rfl
    · refine CA.mf (by rw [decide_eq_false z]; rfl) ?_
      rw [if_neg z, if_pos rfl]
      exact CA.dead g1 (by omega) rfl
theorem ls_t51 (g : RD π i0 b i ψ s a x) (hs : s < 0) {x1 x2 : Int32} : mm_V 315 51 [some (.ref 83), some (.int x1), some (.int x2)] [] (mm_Z m w i l e) = some (.inl (some (.int s)), mm_Z m w i l e) := by
  rw [mr_315_51, g.bd hs, mb_l, mb_v, mr_315_55, if_bf, mr_315_81, g.bd hs, mb_l, mb_v, mr_315_85, if_bf, mr_315_108, g.bd hs, mb_l, mb_v, mr_315_112, if_bf, g.hs]
theorem ra_lst (g : RD π i0 b i ψ 0 a x) (hb : b + 1 < 2 ^ 29) (hB : b + 2 ≤ B) (hp : p < 8) (hP0 : hP (yH ψ) p ≠ 0) (hh : h < 6) : RA m w l e π i0 B (mm_V 317 29 [some (.ref 83), some (.int (nI p)), some (.int 3), some (.int (nI h)), none, none] [.int 0] (mm_Z m w i l e)) (aLst π p h ψ) := by
  rw [mr_317_29, if_pos rfl, if_neg (by decide)]; unfold aLst
  refine RA.us g (by omega) hp hP0 hh (fun i1 κ o1 o2 g1 => ?_) (fun i1 κ s' o' hs ho g1 => RA.dead g1 (by omega) (by rw [mb_l, mb_v, oh_t g1 hs]))
  have H : HR i1 (yH ψ) := g1.1.2.2.2.1
  have eF : (hO (yH ψ) (oO ψ p h)).1 = oF ψ p h := rfl
  rw [mb_l, mb_v, mr_317_97, g1.gd, mb_l, mb_v, mr_317_103, if_bt, if_neg (by decide), if_neg (by decide), if_pos rfl]
  refine RA.bd ?_ (fun i1 z => by rw [mb_l, mb_v, mr_317_200, mr_317_210])
  rw [mr_315_0, hr_isPipe H g.iv.hw o1 o2, eF, mb_l, mb_v, mr_315_6]
  cases q : oF ψ p h with
  | true =>
    rw [if_bt, mr_315_14]
    refine RA.mf g1 rfl (fun i2 g2 => RA.dead g2 (by omega) ?_)
    have H2 : HR i2 (yH ψ) := g2.1.2.2.2.1
    rw [mb_l, mb_0, mr_315_19, hr_isPipe H2 g.iv.hw o1 o2, eF, q, mb_l, mb_v, mr_315_25, if_bt, mr_315_46, g2.mn (by decide), mb_l, mb_0, ls_t51 g2 (by decide)]
  | false =>
    obtain ⟨n1, n2⟩ := nd_ok g.iv o1 o2 q
    have n1 : oN ψ p h < 32 := n1
    have n2 : tk (yT ψ) (oN ψ p h) ≠ 0 := n2
    have hw := g.iv.tw
    have g2 := g1.st (s' := 0)
    have H2 : HR (mm_ww i1 83 81 0) (yH ψ) := g2.1.2.2.2.1
    have t2 : TR (mm_ww i1 83 81 0) (yT ψ) := g2.1.1
    have en : (mm_ww i1 83 81 0) 123 (nI (oO ψ p h)).toNatClampNeg = nI (oN ψ p h) := hr_f H2 o1 o2 q
    rw [if_bf, mr_315_14, show (Value.int 1) = Value.int (bI true) from rfl, rs_must g1.hs, if_pos rfl, mb_l, mb_0, mr_315_19, hr_isPipe H2 g.iv.hw o1 o2, eF, q, mb_l, mb_v, mr_315_25, if_bf, if_neg (no_out (by omega) (by omega)), en, tr_isDirectory t2 hw n1, mb_l, mb_v, mr_315_38]
    by_cases z : tk (yT ψ) (oN ψ p h) = 2
    · have hk := (hw _ n1).2.2 z
      rw [if_pos z, if_neg (by decide), mr_315_46]
      refine RA.mt g2 (by rw [decide_eq_true z]; rfl) (fun i3 g3 => ?_)
      have H3 : HR i3 (yH ψ) := g3.1.2.2.2.1
      have en3 : i3 123 (nI (oO ψ p h)).toNatClampNeg = nI (oN ψ p h) := hr_f H3 o1 o2 q
      rw [mb_l, mb_0, mr_315_51, g3.gd, mb_l, mb_v, mr_315_55, if_bt, if_neg (no_out (by omega) (by omega)), if_neg (no_out (by omega) (by omega)), en3, if_neg (no_out (by omega) (by omega)), nI_clamp (by omega), nI_clamp (by omega), g3.1.pr hp hP0, g3.1.cn g3.iv n1 n2, show some (Value.int 1) = some (Value.int (nI 1)) from rfl]
      refine RA.ck g3 (by omega) (by decide) (g.iv.cp hp hP0) (g.iv.cn n1 n2).1 (by omega) (fun i4 κ4 g4 => ?_) (fun i4 κ4 g4 => RA.dead g4 (by omega) (by rw [mb_l, mb_0, mr_315_81, g4.bd (by decide), mb_l, mb_v, mr_315_85, if_bf, mr_315_108, g4.bd (by decide), mb_l, mb_v, mr_315_112, if_bf, g4.hs]))
      have t4 : TR i4 (yT ψ) := g4.1.1
      have H4 : HR i4 (yH ψ) := g4.1.2.2.2.1
      have en4 : i4 123 (nI (oO ψ p h)).toNatClampNeg = nI (oN ψ p h) := hr_f H4 o1 o2 q
      have ep4 : i4 125 (nI (oO ψ p h)).toNatClampNeg = nI (oP ψ p h) := hr_p H4 o1 o2
      have es4 : i4 115 (nI (oN ψ p h)).toNatClampNeg = nI (ts (yT ψ) (oN ψ p h)) := by rw [nI_clamp (by omega), (t4 _ n1).2.2.1]
      have hp24 : oP ψ p h ≤ 24 := (g.iv.hw.2.2.1 _ o1 o2).2.2.2.1
      rw [mb_l, mb_0, mr_315_81, g4.gd, mb_l, mb_v, mr_315_85, if_bt, if_neg (no_out (by omega) (by omega)), if_neg (no_out (by omega) (by omega)), en4, if_neg (no_out (by omega) (by omega))]
      by_cases v : oP ψ p h < ts (yT ψ) (oN ψ p h)
      · have hs10 := hk.1
        have em := ((t4 _ n1).2.2.2.2 z _ v).1
        have ei : 10 * nI (oN ψ p h) + (mm_ww i4 125 (nI (oO ψ p h)).toNatClampNeg (i4 125 (nI (oO ψ p h)).toNatClampNeg + 1)) 125 (nI (oO ψ p h)).toNatClampNeg - 1 = nI (10 * oN ψ p h + oP ψ p h) := by
          rw [mw_s, ep4, nI_1, na_10, na_mul, nI_add, na_1, na_sub (by omega), show 10 * oN ψ p h + (oP ψ p h + 1) - 1 = 10 * oN ψ p h + oP ψ p h by omega]
        rw [if_pos (by rw [ep4, es4, nI_ltI (by omega) (by omega)]; exact v), if_neg (no_out (by omega) (by omega)), if_neg (no_out (by omega) (by omega)), if_neg (no_out (by omega) (by omega)), if_neg (no_out (by omega) (by omega)), if_neg (by rw [ei]; exact no_out (by omega) (by omega)), ei, ep4, nI_1, nI_clamp (by omega), nI_clamp (by omega), em, if_pos v]
        exact RA.ret (r := (nI (tm (yT ψ) (oN ψ p h) (oP ψ p h)), yh (yk (yk ψ κ) κ4) (hPs (yH ψ) (oO ψ p h) (oP ψ p h + 1)))) (g4.ps (o := oO ψ p h) (v := oP ψ p h + 1) (by omega)) (by omega)
      · have hts := (hw _ n1).2.1
        rw [if_neg (by rw [ep4, es4, nI_ltI (by omega) (by omega)]; exact v), mr_315_108, g4.gd, mb_l, mb_v, mr_315_112, if_bt, if_neg v]
        exact RA.ret (r := (256, yk (yk ψ κ) κ4)) g4 (by omega)
    · rw [if_neg z, if_pos rfl, mr_315_46]
      exact RA.mf g2 (by rw [decide_eq_false z]; rfl) (fun i3 g3 => RA.dead g3 (by omega) (by rw [mb_l, mb_0, ls_t51 g3 (by decide)]))
end MM119
