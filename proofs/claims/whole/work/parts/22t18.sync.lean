/-! SYNC, CRASH, LABEL -/
section MM195
variable {w : Bool} {i i0 i' : Nat → Nat → Int32} {l : Nat → Nat → Int64} {m : Nat} {e : Bool × Nat × Nat} {n k j b B p : Nat} {x y x1 x2 x3 x4 : Int32} {π : mP} {ψ : mS} {o : mOl} {η : mH} {κ : mK} {τ : mT}
def ySy (ψ : mS) : mS := (yT ψ, yT ψ, [], yH ψ, yK ψ)
def yCg (ψ : mS) (n : Nat) : mT := tGo (fun _ => false) (tRun (yS ψ) ((yQ ψ).take n))
def yCr (ψ : mS) (n : Nat) : mS := (yCg ψ n, yCg ψ n, [], hNew (yH ψ), kE (yK ψ))
def wSyn : mOl → mOl
  | none => none
  | some q => some (q.1, q.2.1, ySy q.2.2)
def wCra (x : Int32) : mOl → mA × mOl
  | none => (.inr 2, none)
  | some q => if inR x (nI (yQ q.2.2).length) = true then (.inl (some 0), some (q.1, q.2.1, yCr q.2.2 x.toNatClampNeg)) else (.inr 0, some q)
def wLab (x3 x4 : Int32) : mOl → mA × mOl
  | none => (.inr 2, none)
  | some q => if (inR x3 31 && pVal q.1 x4) = false then (.inr 0, some q) else if tk (yT q.2.2) x3.toNatClampNeg = 0 then (.inr 3, some q) else (.inl (some 0), some (q.1, q.2.1, yn q.2.2 (4, x3.toNatClampNeg, x4, 0, 0, 0)))
theorem iv_sy (hI : IV π b ψ) : IV π b (ySy ψ) := ⟨hI.ti, hI.tv, hI.th, hI.hw, hI.hv, JV.nil hI.ti hI.tv, hI.kv, ⟨hI.pw, hI.po⟩, hI.hm⟩
theorem iv_cr (hI : IV π b ψ) (h0 : pVal π 0 = true) : IV π b (yCr ψ n) := by
  obtain ⟨h1, h2, h3, h4, h5⟩ := hI.jv
  obtain ⟨r1, r2⟩ := ti_run h1 h2 (dOks_take n h4)
  have t1 : TI (yCg ψ n) := ti_go r1
  have t2 : TV π (yCg ψ n) := tv_go r2
  have c0 : ∀ o, hCt (hNew (yH ψ)) o ≠ 0 → False := fun o z => z (hNew_ct _ _)
  refine ⟨t1, t2, ⟨fun n' n1 n2 n3 n4 => ?_, fun o _ z => (c0 o z).elim⟩, ⟨fun p _ => ⟨?_, fun _ _ _ => rfl⟩, fun k _ => Nat.zero_le _, fun o _ z => (c0 o z).elim, fun k hk => ⟨by show (0 : Nat) < 2 ^ 30; decide, (hI.hw.2.2.2 k hk).2.1, fun z => absurd rfl z⟩⟩, ⟨fun p _ z => ?_, fun o _ z => (c0 o z).elim, fun k _ z => absurd rfl z⟩, JV.nil t1 t2, hI.kv.em, ⟨hI.pw, hI.po⟩, fun o _ z => (c0 o z).elim⟩
  · exfalso
    have n4 : tL (tGo (fun _ => false) (tRun (yS ψ) ((yQ ψ).take n))) n' = 0 := n4
    rw [tL_go r1.2.2.1 r1.1 (by rw [r1.2.2.2.2.2]; omega)] at n4
    have n3 : (if 1 ≤ n' ∧ n' < 32 ∧ tk (tRun (yS ψ) ((yQ ψ).take n)) n' ≠ 0 ∧ tL (tRun (yS ψ) ((yQ ψ).take n)) n' = 0 ∧ false = false then 0 else tk (tRun (yS ψ) ((yQ ψ).take n)) n') ≠ 0 := n3
    by_cases z : tk (tRun (yS ψ) ((yQ ψ).take n)) n' = 0
    · rw [if_neg (fun y => y.2.2.1 z)] at n3
      exact n3 z
    · rw [if_pos ⟨n1, n2, z, n4, rfl⟩] at n3
      exact n3 rfl
  · show (if p = 0 then 1 else 0) < 2 ^ 30
    split <;> decide
  · have z : (if p = 0 then 1 else 0) ≠ 0 := z
    by_cases q : p = 0
    · subst q; exact h0
    · rw [if_neg q] at z; exact absurd rfl z
theorem CS.sy (h : CS w π i ψ) (hw : TW (yT ψ)) : ∃ i', mm_V 84 0 [some (.ref 56)] [] (mm_Z m w i l e) = some (.inl none, mm_Z m w i' l e) ∧ CS w π i' (ySy ψ) ∧ mG fC i i' := by
  obtain ⟨h1, h2, h3, h4, h5, h6, h7⟩ := h
  obtain ⟨i1, e1, g1, g2, g3⟩ := jc_makeSure (m := m) (w := w) (l := l) (e := e) h1 hw
  refine ⟨i1, e1, ⟨h1.kp (fun k j a b => g3 k j (by simp only [mm_Tr, cond_true] at a b; omega)), g1, g2, h4.kp (fun k j a b => g3 k j (by omega)), h5.kp (fun j _ => g3 _ _ (by omega)) (fun k j a b => g3 _ _ (by omega)), h6.kp (fun k j a b => by
      have := pc_far w a b
      exact g3 k j (by omega)), (g3 _ _ (by omega)).trans h7⟩, g3.mo (fun k j z => by unfold fC; omega)⟩
theorem c_sync (ho : OC w i o) (hv : OV b o) : ∃ i', mm_V 185 0 [some (.ref 0), some (.int 22), some (.int x2), some (.int x3), some (.int x4)] [] (mm_Z m w i l e) = some (.inl (some (.int 0)), mm_Z m w i' l e) ∧ mG fC i i' ∧ OC w i' (wSyn o) ∧ OV b (wSyn o) := by
  rw [mr_185_0, if_pos rfl, mr_188_0]
  cases o with
  | none =>
    rw [if_pos ho.2.2.2.2, mr_188_17, mb_l, mb_v, mr_185_10]
    exact ⟨i, rfl, mG.rf, ho, trivial⟩
  | some q =>
    have ho : CS w q.1 i q.2.2 := ho
    obtain ⟨i1, e1, g1, g2⟩ := ho.sy (m := m) (l := l) (e := e) hv.1.tw
    rw [if_neg (by rw [ho.2.2.2.2.2.2]; decide), e1, mb_l, mb_0, mr_188_17, mb_l, mb_v, mr_185_10]
    exact ⟨i1, rfl, g2, g1, iv_sy hv.1, hv.2⟩
theorem r_sync (ho : OR i o) (hv : OV b o) : ∃ i', mm_V 280 0 [some (.ref 83)] [] (mm_Z m w i l e) = some (.inl none, mm_Z m w i' l e) ∧ i' 83 0 = nI 0 ∧ mG fRc i i' ∧ OR i' (wSyn o) := by
  rw [mr_280_0]
  have ho0 : OR (mm_ww i 83 0 0) o := ho.w0
  have f0 : mG fRc i (mm_ww i 83 0 0) := mG.ww (by unfold fRc; omega)
  cases o with
  | none =>
    obtain ⟨h1, h2, h3, h4⟩ := ho0
    obtain ⟨i1, e1, g1, g2, g3⟩ := jr_makeSure (m := m) (w := w) (l := l) (e := e) h1 zTw
    rw [e1, mb_l, mb_0, mr_280_9]
    refine ⟨i1, rfl, by rw [g3 _ _ (by omega), mw_s]; rfl, f0.tr (g3.mo (fun k j z => by unfold fRc fR; omega)), h1.kp (fun k j a b => g3 k j (by omega)), g2, h3.kp (fun j _ => g3 _ _ (by omega)) (fun k j a b => g3 _ _ (by omega)), (g3 _ _ (by omega)).trans h4⟩
  | some q =>
    obtain ⟨⟨h1, h2, h3, h4, h5, h6, h7⟩, h8⟩ := ho0
    obtain ⟨i1, e1, g1, g2, g3⟩ := jr_makeSure (m := m) (w := w) (l := l) (e := e) h1 hv.1.tw
    rw [e1, mb_l, mb_0, mr_280_9]
    exact ⟨i1, rfl, by rw [g3 _ _ (by omega), mw_s]; rfl, f0.tr (g3.mo (fun k j z => by unfold fRc fR; omega)), ⟨h1.kp (fun k j a b => g3 k j (by omega)), g1, g2, h4.kp (fun k j a b => g3 k j (by omega)), h5.kp (fun j _ => g3 _ _ (by omega)) (fun k j a b => g3 _ _ (by omega)), h6.kp (fun j _ => g3 _ _ (by omega)) (fun k j a b => g3 _ _ (by omega)), (g3 _ _ (by omega)).trans h7⟩, h8.kp (g3 _ _ (by omega)) (fun j => g3 _ _ (by omega))⟩
theorem c_crash (ho : OC w i o) (hv : OV b o) : ∃ i', mm_V 185 0 [some (.ref 0), some (.int 23), some (.int x2), some (.int x3), some (.int x4)] [] (mm_Z m w i l e) = some (.inl (some (.int (aCd (wCra x3 o).1))), mm_Z m w i' l e) ∧ mG fC i i' ∧ OC w i' (wCra x3 o).2 ∧ OV b (wCra x3 o).2 := by
  rw [mr_185_0, if_neg (by decide)]
  cases o with
  | none =>
    rw [if_pos ho.2.2.2.2]
    exact ⟨i, rfl, mG.rf, ho, trivial⟩
  | some q =>
    have ho : CS w q.1 i q.2.2 := ho
    obtain ⟨h1, h2, h3, h4, h5, h6, h7⟩ := ho
    have hI : IV q.1 b q.2.2 := hv.1
    obtain ⟨j1, j2, j3, j4, j5⟩ := hI.jv
    rw [if_neg (by rw [h7]; decide), mr_186_0, if_pos (by decide), h3.1, if_inG, if_ret, mb_l, mb_v, mr_185_33, wCra]
    cases hr : inR x3 (nI (yQ q.2.2).length) with
    | false =>
      rw [if_bf, if_neg Bool.false_ne_true]
      exact ⟨i, rfl, mG.rf, ⟨h1, h2, h3, h4, h5, h6, h7⟩, hv⟩
    | true =>
      obtain ⟨n, n1, n2⟩ := inR_n hr (by omega)
      subst n2
      obtain ⟨i1, e1, g1, g2, g3, g4⟩ := jc_fallBack (m := m) (w := w) (l := l) (e := e) j3 n1 j1.1 (dOks_t j4) h2 h3
      obtain ⟨i2, e2, g5, g6⟩ := hc_startAnew (m := m) (w := w) (l := l) (e := e) (η := yH q.2.2) (i := i1)
      have hE : TE (tRun (yS q.2.2) ((yQ q.2.2).take n)) := (ti_run j1 j2 (dOks_take n j4)).1.2.2.1
      rw [swp_eq hE] at g1 g2
      rw [if_bt, if_pos rfl, if_pos rfl, mr_189_0, e1, mb_l, mb_0, mr_189_8, e2, mb_l, mb_0, mr_189_15, mr_34_0, mb_l, mb_0, mr_189_22, mb_l, mb_v, mr_185_50, nI_clamp (by omega)]
      have far1 : ∀ k j, ¬ ((57 ≤ k ∧ k ≤ 67) ∨ (k = 56 ∧ j = 3)) → i1 k j = i k j := g4
      have f2 : ∀ k j, k ≠ 69 → k ≠ 70 → k ≠ 71 → k ≠ 77 → i2 k j = i1 k j := fun k j a b c d => by rw [g6 k a b c d]
      have f3 : ∀ k j, ¬ (k = 30 ∧ j = 8) → mm_ww i2 30 8 0 k j = i2 k j := fun k j a => mw_ne a
      have h71 : i2 30 1 = 1 := by rw [f2 _ _ (by omega) (by omega) (by omega) (by omega), far1 _ _ (by omega), h7]
      have gk : GC i2 (yK q.2.2) := h5.kp (fun j _ => by rw [f2 _ _ (by omega) (by omega) (by omega) (by omega), far1 _ _ (by omega)]) (fun k j a b => by rw [f2 _ _ (by omega) (by omega) (by omega) (by omega), far1 _ _ (by omega)])
      have gk' := gk.em
      rw [mw_self h71] at gk'
      refine ⟨_, rfl, fun k j z => ?_, ⟨g1.kp (fun k j a b => ?_), g2.kp (fun k j a b => ?_), g3.kp ?_ (fun j => ?_), g5.kp (fun k j a b => f3 _ _ (by omega)), gk', h6.kp (fun k j a b => ?_), ?_⟩, iv_cr hI hv.2.2.2, hv.2⟩
      · unfold fC at z
        rw [f3 _ _ (by omega), f2 _ _ (by omega) (by omega) (by omega) (by omega), far1 _ _ (by omega)]
      · simp only [mm_Tr, cond_true] at a b
        rw [f3 _ _ (by omega), f2 _ _ (by omega) (by omega) (by omega) (by omega)]
      · simp only [mm_Tr, cond_false] at a b
        rw [f3 _ _ (by omega), f2 _ _ (by omega) (by omega) (by omega) (by omega)]
      · rw [f3 _ _ (by omega), f2 _ _ (by omega) (by omega) (by omega) (by omega)]
      · rw [f3 _ _ (by omega), f2 _ _ (by omega) (by omega) (by omega) (by omega)]
      · have := pc_far w a b
        rw [f3 _ _ (by omega), f2 _ _ (by omega) (by omega) (by omega) (by omega), far1 _ _ (by omega)]
      · rw [f3 _ _ (by omega), h71]
theorem GR.e1 (h : GR i κ) : GR (mm_ww i 83 86 0) (kE κ) := by
  obtain ⟨h1, h2, h3, h4, h5⟩ := h
  have far : ∀ j, j ≠ 86 → mm_ww i 83 86 0 83 j = i 83 j := fun j b => by rw [mw_j b]
  have far2 : ∀ k, k ≠ 83 → mm_ww i 83 86 0 k = i k := fun k a => by rw [mw_k a]
  refine ⟨⟨(far 79 (by decide)).trans h1.1, fun k hk => by rw [far2 _ (by decide)]; exact h1.2 k hk⟩, ⟨mw_s, fun k hk => absurd hk (by simp [kE, kC])⟩, ⟨(far 91 (by decide)).trans h3.1, fun k hk => ?_⟩, (far 84 (by decide)).trans h4, (far 85 (by decide)).trans h5⟩
  rw [far2 141 (by decide), far2 142 (by decide), far2 143 (by decide), far2 144 (by decide), far2 145 (by decide)]; exact h3.2 k hk
theorem tAny_f {p : Nat → Bool} : ∀ (d k : Nat), (∀ j, k ≤ j → j < k + d → p j = false) → tAny p d k = false
  | 0, _, _ => rfl
  | d + 1, k, h => by
    rw [tAny, h k (by omega) (by omega), tAny_f d (k + 1) (fun j a b => h j (by omega) (by omega))]
    rfl
theorem r_crash (ho : OR i o) (hv : OV b o) : ∃ i', mm_V 281 0 [some (.ref 83), some (.int x1), none] [] (mm_Z m w i l e) = some (.inl none, mm_Z m w i' l e) ∧ i' 83 0 = nI (aTh fAc (wCra x1 o).1) ∧ mG fRc i i' ∧ OR i' (wCra x1 o).2 := by
  have ho0 : ∀ c, OR (mm_ww i 83 0 (nI c)) o := fun c => ho.w0
  have f0 : ∀ c, mG fRc i (mm_ww i 83 0 (nI c)) := fun c => mG.ww (by unfold fRc; omega)
  rw [mr_281_0]
  cases o with
  | none =>
    have rf := r_refuse (m := m) (w := w) (i := i) (l := l) (e := e) (a := true) (b := false) (g := false)
    have rf : mm_V 194 0 [some (.ref 83), some (.int 1), some (.int 0), some (.int 0)] [] (mm_Z m w i l e) = some (.inl (some (.int 1)), mm_Z m w (mm_ww i 83 0 (nI 1)) l e) := rf
    rw [if_pos ho.2.2.2, mr_281_13, if_pos ho.2.2.2, mr_281_37, rf, mb_l, mb_v, mr_281_41, if_neg (by decide)]
    exact ⟨_, rfl, mw_s, f0 1, ho0 1⟩
  | some q =>
    have h5 : ¬ i 83 5 = 0 := by rw [ho.1.2.2.2.2.2.2]; decide
    have hI : IV q.1 b q.2.2 := hv.1
    obtain ⟨j1, j2, j3, j4, j5⟩ := hI.jv
    rw [if_neg h5, mr_281_13, if_neg h5, rf_in, mb_l, mb_v, mr_281_29, ho.1.2.2.1.1, wCra]
    show ∃ i', (if bI (inR x1 (nI (yQ q.2.2).length)) = 0 then _ else _) = _ ∧ _
    cases hr : inR x1 (nI (yQ q.2.2).length) with
    | false =>
      have rf := r_refuse (m := m) (w := w) (i := i) (l := l) (e := e) (a := false) (b := true) (g := false)
      have rf : mm_V 194 0 [some (.ref 83), some (.int 0), some (.int 1), some (.int 0)] [] (mm_Z m w i l e) = some (.inl (some (.int 1)), mm_Z m w (mm_ww i 83 0 (nI 2)) l e) := rf
      rw [if_bf, if_neg Bool.false_ne_true, mr_281_37, rf, mb_l, mb_v, mr_281_41, if_neg (by decide)]
      exact ⟨_, rfl, mw_s, f0 2, ho0 2⟩
    | true =>
      obtain ⟨n, n1, n2⟩ := inR_n hr (by omega)
      subst n2
      have rf := r_refuse (m := m) (w := w) (i := i) (l := l) (e := e) (a := false) (b := false) (g := false)
      have rf : mm_V 194 0 [some (.ref 83), some (.int 0), some (.int 0), some (.int 0)] [] (mm_Z m w i l e) = some (.inl (some (.int 0)), mm_Z m w (mm_ww i 83 0 (nI 0)) l e) := rf
      obtain ⟨⟨h1, h2, h3, h4, h5, h6, h7⟩, h8⟩ := ho0 0
      obtain ⟨i1, e1, g1, g2⟩ := jr_takeSure (m := m) (w := w) (l := l) (e := e) h2 j1.1
      have far1 : ∀ k j, (k < 113 ∨ 118 < k) → i1 k j = mm_ww i 83 0 (nI 0) k j := fun k j z => by rw [g2 k z]
      obtain ⟨i2, e2, g3, g4⟩ := jr_cr_loop (m := m) (w := w) (l := l) (e := e) j3 n1 j1.1 j1.2.1 (dOks_t j4) n 0 i1 (by omega) g1 (h3.kp (far1 _ _ (by omega)) (fun j => far1 _ _ (by omega)))
      have e2 : mm_V 281 51 [some (.ref 83), some (.int (nI n)), some (.int 0)] [] (mm_Z m w i1 l e) = _ := e2
      obtain ⟨i3, e3, g5, g6⟩ := hr_startProcesses (m := m) (w := w) (l := l) (e := e) (η := yH q.2.2) (i := i2)
      have hr1 := ti_run j1 j2 (dOks_take n j4)
      have t3 : TR i3 (tRun (yS q.2.2) ((yQ q.2.2).take n)) := g3.kp (fun k j a b => by rw [g6 k (by omega) (by omega) (by omega) (by omega)])
      have hld : ∀ n', n' < 32 → (fun _ => false : Nat → Bool) n' = tAny (fun o => decide (i3 123 o = nI n')) 16 0 := fun n' hn' => by
        refine (tAny_f 16 0 (fun o _ ho' => decide_eq_false ?_)).symm
        rw [(g5.2.2.1 o (by omega)).1, if_pos (hNew_ct _ _)]
        exact fun z => ne_m1 (by omega) z.symm
      obtain ⟨i4, e4, g7, g8⟩ := tr_sweep (m := m) (w := w) (l := l) (e := e) (held := fun _ => false) hld t3 hr1.1.1
      rw [swp_eq hr1.1.2.2.1] at g7
      have t4 : TR (mm_ww i4 83 86 0) (yCg q.2.2 n) := g7.kp (fun k j a b => by rw [mw_k (by omega)])
      obtain ⟨i5, e5, g9, g10, g11⟩ := jr_makeSure (m := m) (w := w) (l := l) (e := e) t4 (ti_go hr1.1).1
      rw [if_bt, if_pos rfl, mr_281_37, rf, mb_l, mb_v, mr_281_41, if_pos rfl, e1, mb_l, mb_0, mr_281_49, e2, mr_281_51, if_neg (show ¬ nI n < nI n from fun z => Int32.lt_irrefl z), e3, mb_l, mb_0, mr_281_118, e4, mb_l, mb_0, mr_281_122, e5, mb_l, mb_0, mr_281_131, nI_clamp (by omega)]
      have far : ∀ k j, ¬ ((113 ≤ k ∧ k ≤ 127) ∨ (k = 83 ∧ (j = 86 ∨ j = 57))) → i5 k j = mm_ww i 83 0 (nI 0) k j := fun k j z => by
        rw [g11 k j (by omega), mw_ne (by omega), g8 k (by omega), g6 k (by omega) (by omega) (by omega) (by omega), g4 k (by omega), far1 k j (by omega)]
      have k4 : GR i4 (yK q.2.2) := h5.kp (fun j _ => by rw [g8 _ (by omega), g6 _ (by omega) (by omega) (by omega) (by omega), g4 _ (by omega), far1 _ _ (by omega)]) (fun k j a b => by rw [g8 _ (by omega), g6 _ (by omega) (by omega) (by omega) (by omega), g4 _ (by omega), far1 _ _ (by omega)])
      refine ⟨i5, rfl, by rw [far _ _ (by omega), mw_s]; rfl, (f0 0).tr (fun k j z => far k j (by unfold fRc fR at z; omega)), ⟨t4.kp (fun k j a b => g11 _ _ (by omega)), g9, g10, ?_, ?_, h6.kp (fun j _ => far _ _ (by omega)) (fun k j a b => far _ _ (by omega)), (far _ _ (by omega)).trans h7⟩, h8.kp (far _ _ (by omega)) (fun j => far _ _ (by omega))⟩
      · exact g5.kp (fun k j a b => by rw [g11 _ _ (by omega), mw_k (by omega), g8 _ (by omega)])
      · exact k4.e1.kp (fun j _ => g11 _ _ (by omega)) (fun k j a b => g11 _ _ (by omega))
end MM195
