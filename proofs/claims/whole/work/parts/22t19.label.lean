/-! LABEL -/
section MM196
variable {w : Bool} {i i0 i' : Nat → Nat → Int32} {l : Nat → Nat → Int64} {m : Nat} {e : Bool × Nat × Nat} {n k j b B p : Nat} {x y x1 x2 x3 x4 : Int32} {π : mP} {ψ : mS} {o : mOl} {η : mH} {κ : mK} {τ : mT}
theorem c_label (ho : OC w i o) (hv : OV b o) : ∃ i', mm_V 185 0 [some (.ref 0), some (.int 24), some (.int x2), some (.int x3), some (.int x4)] [] (mm_Z m w i l e) = some (.inl (some (.int (aCd (wLab x3 x4 o).1))), mm_Z m w i' l e) ∧ mG fC i i' ∧ OC w i' (wLab x3 x4 o).2 ∧ OV b (wLab x3 x4 o).2 := by
  rw [mr_185_0, if_neg (by decide)]
  cases o with
  | none =>
    rw [if_pos ho.2.2.2.2]
    exact ⟨i, rfl, mG.rf, ho, trivial⟩
  | some q =>
    have ho : CS w q.1 i q.2.2 := ho
    have hI : IV q.1 b q.2.2 := hv.1
    have e1 : mm_V 186 0 [some (.ref 0), some (.int 24), some (.int x2), some (.int x3), some (.int x4)] [] (mm_Z m w i l e) = some (.inl (some (.int (bI (inR x3 31 && pVal q.1 x4)))), mm_Z m w i l e) := by
      rw [mr_186_0, if_neg (by decide), if_pos (by decide), if_inL lt_32]
      cases inR x3 31
      · rfl
      · rw [if_pos rfl, pc_isValid ho.2.2.2.2.2.1.1 hI.pw, mb_l, mb_v, mr_186_55, Bool.true_and]
        cases pVal q.1 x4 <;> rfl
    rw [if_neg (by rw [ho.2.2.2.2.2.2]; decide), e1, mb_l, mb_v, mr_185_33, wLab]
    cases hr : (inR x3 31 && pVal q.1 x4) with
    | false =>
      rw [if_bf, if_pos rfl]
      exact ⟨i, rfl, mG.rf, ho, hv⟩
    | true =>
      obtain ⟨r1, r2⟩ := (Bool.and_eq_true _ _).mp hr
      obtain ⟨n, n1, n2⟩ := inR_n (n := 31) r1 (by omega)
      subst n2
      rw [if_bt, if_tf, if_neg (by decide), if_pos (by decide), mr_190_0, tc_isThere ho.1 hI.tw (by omega), mb_l, mb_v, mr_190_11, nI_clamp (by omega)]
      by_cases z : tk (yT q.2.2) n = 0
      · rw [if_pos z, if_pos rfl, if_pos z, mb_l, mb_v, mr_185_64]
        exact ⟨i, rfl, mG.rf, ho, hv⟩
      · have g : CD w q.1 i b i q.2.2 (i 80 4) (i 80 5) := ⟨ho, hI, mG.rf, rfl, rfl⟩
        obtain ⟨i4, c1, c2⟩ := CD.nt (m := m) (l := l) (e := e) (q := (4, n, x4, 0, 0, 0)) g (show n < 32 by omega) r2 (fun z => absurd (show 4 ≤ 1 from z) (by decide)) (show 4 ≠ 6 by decide)
        have c1 : mm_V 83 0 [some (.ref 56), some (.int 4), some (.int (nI n)), some (.int x4), some (.int 0), some (.int 0), none] [] (mm_Z m w i l e) = some (.inl none, mm_Z m w i4 l e) := c1
        rw [if_neg z, if_neg (by decide), if_neg z, c1, mb_l, mb_0, mr_190_29, mb_l, mb_v, mr_185_64]
        exact ⟨i4, rfl, c2.2.2.1, c2.1, c2.2.1, hv.2⟩
theorem r_label (ho : OR i o) (hv : OV b o) : ∃ i', mm_V 326 0 [some (.ref 83), some (.int x1), some (.int x2), none] [] (mm_Z m w i l e) = some (.inl none, mm_Z m w i' l e) ∧ i' 83 0 = nI (aTh fAc (wLab x1 x2 o).1) ∧ mG fRc i i' ∧ OR i' (wLab x1 x2 o).2 := by
  have ho0 : ∀ c, OR (mm_ww i 83 0 (nI c)) o := fun c => ho.w0
  have f0 : ∀ c, mG fRc i (mm_ww i 83 0 (nI c)) := fun c => mG.ww (by unfold fRc; omega)
  rw [mr_326_0]
  cases o with
  | none =>
    have h4 := ho.2.2.2
    have rf := r_refuse (m := m) (w := w) (i := i) (l := l) (e := e) (a := true) (b := true) (g := false)
    have rf : mm_V 194 0 [some (.ref 83), some (.int 1), some (.int 1), some (.int 0)] [] (mm_Z m w i l e) = some (.inl (some (.int 1)), mm_Z m w (mm_ww i 83 0 (nI 1)) l e) := rf
    rw [if_pos h4, mr_326_30, if_pos h4, if_pos rfl, mr_326_53, if_pos rfl, mr_326_79, rf, mb_l, mb_v, mr_326_82, if_neg (by decide), mr_326_94]
    exact ⟨_, rfl, mw_s, f0 1, ho0 1⟩
  | some q =>
    have h5 : ¬ i 83 5 = 0 := by rw [ho.1.2.2.2.2.2.2]; decide
    have hI : IV q.1 b q.2.2 := hv.1
    have e1 : (mm_bi true (mm_V 195 0 [some (.int x1), some (.int 0), some (.int 31)] [] (mm_Z m w i l e)) (fun v μ => mm_V 326 14 [some (.ref 83), some (.int x1), some (.int x2), none] (v.toList ++ []) μ)) = mm_V 326 30 [some (.ref 83), some (.int x1), some (.int x2), none] [.int (bI (inR x1 31 && pVal q.1 x2))] (mm_Z m w i l e) := by
      rw [rf_in, mb_l, mb_v, mr_326_14]
      show (if bI (inR x1 31) = 0 then _ else _) = _
      cases inR x1 31
      · rw [if_bf]; rfl
      · rw [if_bt, pr_isValid ho.1.2.2.2.2.2.1.1 hI.pw, mb_l, mb_v, mr_326_22, Bool.true_and]
        cases pVal q.1 x2
        · rw [if_bf]; rfl
        · rw [if_bt]; rfl
    rw [if_neg h5, e1, mr_326_30, if_neg h5, wLab]
    cases hr : (inR x1 31 && pVal q.1 x2) with
    | false =>
      have rf := r_refuse (m := m) (w := w) (i := i) (l := l) (e := e) (a := false) (b := true) (g := false)
      have rf : mm_V 194 0 [some (.ref 83), some (.int 0), some (.int 1), some (.int 0)] [] (mm_Z m w i l e) = some (.inl (some (.int 1)), mm_Z m w (mm_ww i 83 0 (nI 2)) l e) := rf
      rw [if_bf, if_pos rfl, mr_326_53, if_bf, mr_326_79, rf, mb_l, mb_v, mr_326_82, if_neg (by decide), mr_326_94]
      exact ⟨_, rfl, mw_s, f0 2, ho0 2⟩
    | true =>
      obtain ⟨r1, r2⟩ := (Bool.and_eq_true _ _).mp hr
      obtain ⟨n, n1, n2⟩ := inR_n (n := 31) r1 (by omega)
      subst n2
      have ek : i 113 (nI n).toNatClampNeg = nI (tk (yT q.2.2) n) := by rw [nI_clamp (by omega)]; exact (ho.1.1 n (by omega)).1
      have tkb := (hI.tw n (by omega)).1
      rw [if_bt, if_tf, mr_326_53, if_bt, if_bt, if_neg (no_out (by omega) (by omega)), nI_clamp (by omega)]
      simp only [nI_clamp (show n < 2 ^ 31 by omega), (ho.1.1 n (show n < 32 by omega)).1]
      by_cases z : tk (yT q.2.2) n = 0
      · have rf := r_refuse (m := m) (w := w) (i := i) (l := l) (e := e) (a := false) (b := false) (g := true)
        have rf : mm_V 194 0 [some (.ref 83), some (.int 0), some (.int 0), some (.int 1)] [] (mm_Z m w i l e) = some (.inl (some (.int 1)), mm_Z m w (mm_ww i 83 0 (nI 3)) l e) := rf
        simp only [if_pos z, z]
        rw [if_pos (by decide), mr_326_79, rf, mb_l, mb_v, mr_326_82, if_neg (by decide), mr_326_94]
        exact ⟨_, rfl, mw_s, f0 3, ho0 3⟩
      · have rf := r_refuse (m := m) (w := w) (i := i) (l := l) (e := e) (a := false) (b := false) (g := false)
        have rf : mm_V 194 0 [some (.ref 83), some (.int 0), some (.int 0), some (.int 0)] [] (mm_Z m w i l e) = some (.inl (some (.int 0)), mm_Z m w (mm_ww i 83 0 (nI 0)) l e) := rf
        have g : RD q.1 (mm_ww i 83 0 (nI 0)) b (mm_ww i 83 0 (nI 0)) q.2.2 (mm_ww i 83 0 (nI 0) 83 81) (mm_ww i 83 0 (nI 0) 83 82) (mm_ww i 83 0 (nI 0) 83 83) := ⟨(ho0 0).1, hI, mG.rf, rfl, rfl, rfl⟩
        obtain ⟨i5, c1, c2⟩ := RD.nt (m := m) (w := w) (l := l) (e := e) (q := (4, n, x2, 0, 0, 0)) g (show n < 32 by omega) r2 (fun z => absurd (show 4 ≤ 1 from z) (by decide)) (show 4 ≠ 6 by decide)
        have c1 : mm_V 277 0 [some (.ref 83), some (.int 4), some (.int (nI n)), some (.int x2), some (.int 0), some (.int 0)] [] (mm_Z m w (mm_ww i 83 0 (nI 0)) l e) = some (.inl none, mm_Z m w i5 l e) := c1
        have f5 : mG fR (mm_ww i 83 0 (nI 0)) i5 := c2.2.2.1
        have f6 : mG fRc i i5 := (f0 0).tr (f5.mo (fun k j z => Or.inl z))
        simp only [if_neg z]
        rw [if_neg (show ¬ nI (tk (yT q.2.2) n) = 0 from fun y => z ((nI_eq (b := 0) (by omega) (by omega)).mp y)), mr_326_79, rf, mb_l, mb_v, mr_326_82, if_pos rfl, c1, mb_l, mb_0, mr_326_94]
        exact ⟨i5, rfl, by rw [f5 _ _ (by unfold fR; omega), mw_s]; rfl, f6, c2.1, ho.2.kp (f6 _ _ (by unfold fRc fR; omega)) (fun j => f6 _ _ (by unfold fRc fR; omega))⟩
end MM196
