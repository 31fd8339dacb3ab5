/-! CONDITIONS, in the reference: the whole -/
section MM168
variable {X : mX} {t : m3} {w : Bool} {i i' i0 : Nat → Nat → Int32} {l : Nat → Nat → Int64} {δ : mQ} {m : Nat} {e : Bool × Nat × Nat} {n k s a b c p g y d : Nat} {S : List Nat} {O : List mO} {x x1 x2 : Int32}
/-- what a condition gives back -/
def RCo (X : mX) (i0 : Nat → Nat → Int32) (δ : mQ) (i' : Nat → Nat → Int32) (r : mE (m3 × List mO)) : Prop := mG (fCd (dE δ)) i0 i' ∧ (match r with
  | .inl p => i' 83 46 = nI p ∧ p ≤ 1200
  | .inr q => TZ X i' q.1 ∧ qSeg i' (dE δ) q.2 ∧ i' 83 38 = nI (dE δ + q.2.length) ∧ dE δ + q.2.length ≤ q.1.1)
theorem r_c68d (h : RCn X i0 i t δ S O) (hW : WDS l) (hd : DW δ) (hp : sCmp X t δ = .inl p) : ∃ i', mm_V 232 68 [some (.ref 83), some (.int 0), some (.int 1)] [] (mm_Z m w i l e) = some (.inl none, mm_Z m w i' l e) ∧ i' 83 46 = nI p ∧ p ≤ 1200 ∧ mG (fCd (dE δ)) i0 i' := by
  obtain ⟨i1, f1, f2⟩ := r_cmp (m := m) (w := w) (l := l) (e := e) h hW hd
  rw [hp] at f2
  have f2' : RDd i0 i1 δ p := f2
  obtain ⟨a1, a2, S', O', a3⟩ := f2'
  obtain ⟨i2, g1, g2, g3, g4⟩ := r_rls (m := m) (w := w) (l := l) (e := e) (b := 213) (x1 := 0) (x2 := 0) (by omega) rfl rfl S' O' i1 a3
  rw [mr_232_68, if_pos rfl, f1, mb_l, mb_0, mr_232_76, g1, mb_l, mb_0, mr_232_84]
  exact r_cdead ⟨by rw [g3 _ (by omega) (by omega) (by omega)]; exact a1, a2, _, _, g2⟩
theorem sOpn_0 (h : t.2.2 = 0) : sOpn X 11 t S d = .inr (t, S, d) := by
  rw [sOpn, if_neg (by omega)]
theorem sCmp_0 (h : t.2.2 = 0) : sCmp X t δ = .inl t.1 := by
  unfold sCmp
  rw [if_neg (by omega)]
theorem mo_cmp (h : TK X t) (hn : ∀ j, j < dL δ → (dG δ j).1 ≠ []) {r : m3 × mO} (hr : sCmp X t δ = .inr r) : t.1 < r.1.1 := by
  unfold sCmp at hr
  by_cases c1 : 214 ≤ t.2.2 ∧ t.2.2 ≤ 219
  · rw [if_pos c1] at hr
    by_cases c2 : (nx X t).2.2 = 3 ∨ (nx X t).2.2 = 4
    · rw [if_pos c2] at hr
      have h1 := h.nxt (by omega)
      have g1 := h.gt (by omega) (by omega)
      have h2 := h1.nxt (by omega)
      have g2 := h1.gt (by omega) (by omega)
      by_cases c3 : (nx X (nx X t)).2.2 = (if t.2.2 < 217 then t.2.2 + 3 else t.2.2 - 3)
      · rw [if_pos c3] at hr
        have := h2.ge (fun z => by rw [z] at c3; split at c3 <;> omega)
        rw [← Sum.inr.inj hr]
        show t.1 < (nx X (nx X (nx X t))).1
        omega
      · rw [if_neg c3] at hr
        by_cases c4 : (t.2.2 - 214) % 3 = 2 ∧ dI δ (tLt X (nx X (nx X t))) < dL δ ∧ (dG δ (dI δ (tLt X (nx X (nx X t))))).2.1 < 2
        · rw [if_pos c4] at hr
          rw [← Sum.inr.inj hr]
          show t.1 < (nx X (nx X (nx X t))).1
          by_cases q : (nx X (nx X t)).2.2 = 1
          · exfalso
            have e1 : tLt X (nx X (nx X t)) = [] := tLt_no (by omega)
            have z2 := c4.2.1
            rw [e1] at z2
            exact absurd (dI_at z2) (hn _ z2)
          · have := h2.ge q
            omega
        · rw [if_neg c4] at hr
          exact absurd hr (fun z => by cases z)
    · rw [if_neg c2] at hr
      exact absurd hr (fun z => by cases z)
  · rw [if_neg c1] at hr
    exact absurd hr (fun z => by cases z)
/-- the end of a condition -/
theorem r_cend (h : RCn X i0 i t δ S O) : ∃ i', mm_V 232 201 [some (.ref 83), some (.int x1), some (.int x2)] [] (mm_Z m w i l e) = some (.inl none, mm_Z m w i' l e) ∧ RCo X i0 δ i' (if (rls 211 S O (sD S)).1 = [] then .inr (t, (rls 211 S O (sD S)).2.1) else .inl t.1) := by
  have hw := h.2.2.1.2.2.2.1
  obtain ⟨c, c1, c2⟩ := r_has (m := m) (w := w) (l := l) (e := e) h.2.2.1.1 hw
  rw [mr_232_201, r_live h.1.k6, mb_l, mb_v, mr_232_205, if_neg (by decide), c2, mb_l, mb_v, mr_232_212]
  by_cases q : (rls 211 S O (sD S)).1 = []
  · have hc : c = false := by
      cases c
      · rfl
      · exact absurd (c1.mp rfl) ((left_r S O (sD S) hw).mp q)
    obtain ⟨i1, f1, f2⟩ := h.rl (m := m) (w := w) (l := l) (e := e) (b := 211) (x1 := 1) (x2 := 1) (by omega) rfl rfl
    rw [hc, if_bf, mr_232_223, f1, mb_l, mb_0, mr_232_229, if_pos q]
    obtain ⟨b1, b2, b3, b4⟩ := f2
    exact ⟨i1, rfl, b3.2.2.2.2.2.2, b1, b3.2.2.1.2, b3.2.2.1.1, by
      show dE δ + (rls 211 S O (sD S)).2.1.length ≤ t.1
      omega⟩
  · have hc : c = true := by
      cases c
      · exact absurd ((left_r S O (sD S) hw).mpr (fun z => Bool.false_ne_true (c1.mpr z))) q
      · rfl
    obtain ⟨e1, e2, e3, e4⟩ := h.1.fl (m := m) (w := w) (l := l) (e := e)
    obtain ⟨i2, g1, g2, g3, g4⟩ := r_rls (m := m) (w := w) (l := l) (e := e) (b := 211) (x1 := 1) (x2 := 1) (by omega) rfl rfl S O _ (h.2.2.1.tk e2)
    rw [hc, if_bt, e1, mb_l, mb_0, mr_232_223, g1, mb_l, mb_0, mr_232_229, if_neg q]
    exact ⟨i2, rfl, g2.2.2.2.2.2.2, by rw [g3 _ (by omega) (by omega) (by omega)]; exact e3, e4⟩
/-- and, or: the words before are settled, the word waits -/
theorem r_and (h : RCn X i0 i t δ S O) (hW : WDS l) (hk : t.2.2 = 211 ∨ t.2.2 = 212) : ∃ i', mm_V 232 14 [some (.ref 83), some (.int 1), some (.int 1)] [] (mm_Z m w i l e) = mm_V 232 14 [some (.ref 83), some (.int 0), some (.int 1)] [] (mm_Z m w i' l e) ∧ RCn X i0 i' (nx X t) δ (t.2.2 :: (rls t.2.2 S O (sD S)).1) (rls t.2.2 S O (sD S)).2.1 := by
  have hw := h.2.2.1.2.2.2.1
  have hkd := h.1.tk.kd h.1.xw
  have e105 : mm_V 232 14 [some (.ref 83), some (.int 1), some (.int 1)] [] (mm_Z m w i l e) = mm_V 232 121 [some (.ref 83), some (.int 1), some (.int 1)] [.int (bI (decide (t.2.2 ≤ 211))), .int 1, .ref 83] (mm_Z m w i l e) := by
    rw [mr_232_14, if_neg (by decide), r_live h.1.k6, mb_l, mb_v, mr_232_22, if_neg (by decide), if_neg (by decide), mr_232_47, if_neg (by decide), mr_232_68, if_neg (by decide)]
    rcases hk with q | q
    · have z13 : i 83 45 = 13 := (h.1.isW (x := 13) (k := 13) rfl (by omega)).mpr ((rwd_13 hkd).mpr q)
      rw [if_neg (by rw [z13]; decide), if_pos z13, mr_232_105, if_pos z13, decide_eq_true (show t.2.2 ≤ 211 by omega)]
      rfl
    · have z12 : i 83 45 = 12 := (h.1.isW (x := 12) (k := 12) rfl (by omega)).mpr ((rwd_12 hkd).mpr q)
      rw [if_pos z12, mr_232_105, if_neg (by rw [z12]; decide), decide_eq_false (show ¬ t.2.2 ≤ 211 by omega)]
      rfl
  obtain ⟨i1, f1, f2⟩ := h.rl (m := m) (w := w) (l := l) (e := e) (b := t.2.2) (x1 := 1) (x2 := bI (decide (t.2.2 ≤ 211))) (by omega) (by rw [decide_eq_true (show t.2.2 ≤ 212 by omega)]; rfl) rfl
  obtain ⟨r1, r2, r3, r4⟩ := rls_1 (b := t.2.2) (by omega) S O hw
  have rt := rls_top t.2.2 S O (sD S)
  rw [e105, mr_232_121, f1, mb_l, mb_0, mr_232_124]
  generalize (rls t.2.2 S O (sD S)).1 = S1 at f2 r1 r2 r3 r4 rt
  generalize (rls t.2.2 S O (sD S)).2.1 = O1 at f2
  obtain ⟨t1, n1, ⟨b1, b2, b3, b4, b5, b6, b7⟩, l1⟩ := f2
  have sd : sD (t.2.2 :: S1) = sD S1 := by
    show (if t.2.2 = 40 ∨ t.2.2 = 213 then 1 else 0) + sD S1 = sD S1
    rw [if_neg (by omega)]; omega
  have hd0 : S1.headD 0 < t.2.2 := by
    rcases rt with z | z
    · rw [z]; show 0 < t.2.2; omega
    · exact z
  have sw : sW (t.2.2 :: S1) := ⟨by omega, b4⟩
  have l32 : (t.2.2 :: S1).length ≤ 32 := sW_32 sw (by omega)
  have e1 : (t.2.2 :: S1).length = S1.length + 1 := rfl
  have hx : i1 83 45 = rwt t.2.2 := by
    rcases hk with q | q
    · rw [(t1.isW (x := 13) (k := 13) rfl (by omega)).mpr ((rwd_13 hkd).mpr q), q]; rfl
    · rw [(t1.isW (x := 12) (k := 12) rfl (by omega)).mpr ((rwd_12 hkd).mpr q), q]; rfl
  rw [mr_227_0, b1.1, if_neg (no_out (by omega) (by omega)), nI_clamp (by omega), nI_1, mb_l, mb_0, mr_232_132]
  have fr : mG (fun k j => (k = 83 ∧ j = 47) ∨ k = 112) i1 (mm_ww (mm_ww i1 112 S1.length (i1 83 45)) 83 47 (nI (S1.length + 1))) := fun k j z => by rw [mw_ne (by omega), mw_ne (by omega)]
  have sk2 := b1.psh (z := t.2.2) (by omega) hx
  generalize mm_ww (mm_ww i1 112 S1.length (i1 83 45)) 83 47 (nI (S1.length + 1)) = j1 at fr sk2
  have tj : TZ X j1 t := t1.fr (fr.mo (fun a b z y => by unfold fTk at y; omega))
  have g1 := h.1.tk.gt (by omega) (by omega)
  have o2 : t.1 < 1200 := by
    have := h.1.tk.ok.2.2.1 (by omega)
    have := h.1.xw.1
    omega
  obtain ⟨i2, k1, k2, k3⟩ := tj.adv (m := m) (w := w) (e := e) hW (by omega)
  have rb : RBs i0 j1 δ (t.2.2 :: S1) O1 := ⟨sk2, by rw [fr _ _ (by omega), sd]; exact b2, ⟨by rw [fr _ _ (by omega)]; exact b3.1, b3.2.ku (fun k j _ _ _ => fr _ _ (by omega))⟩, sw, by omega, by rw [e1]; omega, b7.tr (fr.mo (fun a b z => by unfold fCd; omega))⟩
  have rn : RN j1 δ := n1.ku (fr _ _ (by omega)) (fun j _ => fr _ _ (by omega)) (fun k j _ _ _ => fr _ _ (by omega))
  rw [k1, mb_l, mb_0, mr_232_136]
  exact ⟨i2, rfl, k2, rn.ku (k3 _ _ (by unfold fTk; omega)) (fun j _ => k3 _ _ (by unfold fTk; omega)) (fun k j _ _ _ => k3 _ _ (by unfold fTk; omega)), rb.tk k3, by rw [e1]; omega⟩
/-- behind a comparison that no word follows -/
theorem r_stop (h : RCn X i0 i t δ S O) (hk : ¬ (t.2.2 = 211 ∨ t.2.2 = 212)) (h41 : t.2.2 = 41 → ¬ 40 ∈ S) : mm_V 232 14 [some (.ref 83), some (.int 1), some (.int 1)] [] (mm_Z m w i l e) = mm_V 232 201 [some (.ref 83), some (.int 1), some (.int 0)] [] (mm_Z m w i l e) := by
  have hw := h.2.2.1.2.2.2.1
  have hkd := h.1.tk.kd h.1.xw
  have e14 : mm_V 232 14 [some (.ref 83), some (.int 1), some (.int 0)] [] (mm_Z m w i l e) = mm_V 232 201 [some (.ref 83), some (.int 1), some (.int 0)] [] (mm_Z m w i l e) := by rw [mr_232_14, if_pos rfl]
  rw [mr_232_14, if_neg (by decide), r_live h.1.k6, mb_l, mb_v, mr_232_22, if_neg (by decide), if_neg (by decide), mr_232_47, if_neg (by decide), mr_232_68, if_neg (by decide), if_neg (fun z => hk (Or.inr ((rwd_12 hkd).mp ((h.1.isW (x := 12) (k := 12) rfl (by omega)).mp z)))), if_neg (fun z => hk (Or.inl ((rwd_13 hkd).mp ((h.1.isW (x := 13) (k := 13) rfl (by omega)).mp z))))]
  by_cases q : t.2.2 = 41
  · obtain ⟨c, c1, c2⟩ := r_has (m := m) (w := w) (l := l) (e := e) h.2.2.1.1 hw
    have hc : c = false := by
      cases c
      · rfl
      · exact absurd (c1.mp rfl) (h41 q)
    rw [if_pos ((h.1.isK (x := 11) (k := 11) rfl (by omega)).mpr (rkk_11.mpr q)), c2, mb_l, mb_v, mr_232_154, hc, if_bf]
    exact e14
  · rw [if_neg (fun z => q (rkk_11.mp ((h.1.isK (x := 11) (k := 11) rfl (by omega)).mp z)))]
    exact e14
theorem r_con (hW : WDS l) (hd : DW δ) : ∀ (f : Nat) (t : m3) (S : List Nat) (O : List mO) (i : Nat → Nat → Int32), RCn X i0 i t δ S O → 1200 ≤ t.1 + f → ∃ i', mm_V 232 14 [some (.ref 83), some (.int 0), some (.int 1)] [] (mm_Z m w i l e) = some (.inl none, mm_Z m w i' l e) ∧ RCo X i0 δ i' (sCon X δ f t (S, O, sD S)) := by
  intro f
  induction f with
  | zero =>
    intro t S O i h hf
    have hz := h.1.xw.1
    have k0 : t.2.2 = 0 := h.1.tk.ok.2.2.2.2.mpr (by omega)
    obtain ⟨i1, o1⟩ := r_opn (m := m) (w := w) (l := l) (e := e) hW 11 t S i h (by omega)
    rw [sOpn_0 k0] at o1
    obtain ⟨o2, o3, -, -⟩ := o1
    obtain ⟨i2, z1, z2, z3, z4⟩ := r_c68d (m := m) (w := w) (l := l) (e := e) o3 hW hd (sCmp_0 k0)
    rw [o2, z1]
    exact ⟨i2, rfl, z4, z2, z3⟩
  | succ f ih =>
    intro t S O i h hf
    obtain ⟨i1, o1⟩ := r_opn (m := m) (w := w) (l := l) (e := e) hW 11 t S i h (by omega)
    rw [sCon_eq]
    show ∃ i', _ ∧ RCo X i0 δ i' (eB (sOpn X 11 t S (sD S)) _)
    cases hr1 : sOpn X 11 t S (sD S) with
    | inl p =>
      rw [hr1] at o1
      obtain ⟨z1, z2, z3, z4⟩ := o1
      exact ⟨i1, z1, z4, z2, z3⟩
    | inr r1 =>
      rw [hr1] at o1
      obtain ⟨o2, o3, o4, o5⟩ := o1
      rw [o2, eB_r]
      clear o2
      cases hr2 : sCmp X r1.1 δ with
      | inl p =>
        obtain ⟨i2, z1, z2, z3, z4⟩ := r_c68d (m := m) (w := w) (l := l) (e := e) o3 hW hd hr2
        exact ⟨i2, z1, z4, z2, z3⟩
      | inr r2 =>
        obtain ⟨i2, f1, f2⟩ := r_cmp (m := m) (w := w) (l := l) (e := e) o3 hW hd
        rw [hr2] at f2
        have f2' : RCn X i0 i2 r2.1 δ r1.2.1 (O ++ [r2.2]) := f2
        have hw := f2'.2.2.1.2.2.2.1
        obtain ⟨i3, g1, g2⟩ := f2'.rl (m := m) (w := w) (l := l) (e := e) (b := 213) (x1 := 0) (x2 := 0) (by omega) rfl rfl
        obtain ⟨u1, u2, u3, u4⟩ := rls_1 (b := 213) (by omega) r1.2.1 (O ++ [r2.2]) hw
        have e68 : mm_V 232 68 [some (.ref 83), some (.int 0), some (.int 1)] [] (mm_Z m w i1 l e) = mm_V 232 14 [some (.ref 83), some (.int 1), some (.int 1)] [] (mm_Z m w i3 l e) := by
          rw [mr_232_68, if_pos rfl, f1, mb_l, mb_0, mr_232_76, g1, mb_l, mb_0, mr_232_84]
        rw [e68, eB_r]
        show ∃ i', _ ∧ RCo X i0 δ i' (if (sClo X 10 r2.1 (rls 213 r1.2.1 (O ++ [r2.2]) r1.2.2)).1.2.2 = 211 ∨ (sClo X 10 r2.1 (rls 213 r1.2.1 (O ++ [r2.2]) r1.2.2)).1.2.2 = 212 then _ else _)
        obtain ⟨i4, S', O', y1, y2, y3, y4, y5⟩ := r_clo (m := m) (w := w) (l := l) (e := e) hW 10 r2.1 (rls 213 r1.2.1 (O ++ [r2.2]) (sD r1.2.1)).1 (rls 213 r1.2.1 (O ++ [r2.2]) (sD r1.2.1)).2.1 i3 g2 g2.2.2.1.2.2.2.2.1
        have eW : ((rls 213 r1.2.1 (O ++ [r2.2]) (sD r1.2.1)).1, (rls 213 r1.2.1 (O ++ [r2.2]) (sD r1.2.1)).2.1, sD (rls 213 r1.2.1 (O ++ [r2.2]) (sD r1.2.1)).1) = rls 213 r1.2.1 (O ++ [r2.2]) (sD r1.2.1) := by rw [← u2]
        rw [eW] at y2 y3 y4 y5
        rw [o4, y1]
        have g3 : r1.1.1 < r2.1.1 := by
          have := mo_cmp o3.1.tk (fun j hj => (hd.1.1 j hj).2.1) hr2
          exact this
        generalize sClo X 10 r2.1 (rls 213 r1.2.1 (O ++ [r2.2]) (sD r1.2.1)) = Q at y2 y3 y4 y5
        obtain ⟨t3, S3, O3, d3⟩ := Q
        have y2' : RCn X i0 i4 t3 δ S' O' := y2
        have y3' : r2.1.1 ≤ t3.1 := y3
        show ∃ i', _ ∧ RCo X i0 δ i' (if t3.2.2 = 211 ∨ t3.2.2 = 212 then sCon X δ f (nx X t3) (t3.2.2 :: (rls t3.2.2 S3 O3 d3).1, (rls t3.2.2 S3 O3 d3).2.1, (rls t3.2.2 S3 O3 d3).2.2) else if (rls 211 S3 O3 d3).1 = [] then .inr (t3, (rls 211 S3 O3 d3).2.1) else .inl t3.1)
        by_cases q : t3.2.2 = 211 ∨ t3.2.2 = 212
        · have eq3 : (S3, O3, d3) = (S', O', sD S') := by
            rcases y5 with z | ⟨z, -⟩
            · exact z
            · have z' : t3.2.2 = 41 := z
              omega
          cases eq3
          have hw' := y2'.2.2.1.2.2.2.1
          obtain ⟨v1, v2, v3, v4⟩ := rls_1 (b := t3.2.2) (by omega) S' O' hw'
          obtain ⟨i5, a1, a2⟩ := r_and (m := m) (w := w) (l := l) (e := e) y2' hW q
          have g4 := y2'.1.tk.gt (by omega) (by omega)
          have sd : sD (t3.2.2 :: (rls t3.2.2 S' O' (sD S')).1) = sD (rls t3.2.2 S' O' (sD S')).1 := by
            show (if t3.2.2 = 40 ∨ t3.2.2 = 213 then 1 else 0) + sD (rls t3.2.2 S' O' (sD S')).1 = sD (rls t3.2.2 S' O' (sD S')).1
            rw [if_neg (by omega)]; omega
          obtain ⟨i6, b1, b2⟩ := ih (nx X t3) _ _ i5 a2 (by omega)
          rw [sd, ← v2] at b2
          rw [a1, if_pos q]
          exact ⟨i6, b1, b2⟩
        · rw [if_neg q, r_stop y2' q y4]
          obtain ⟨i5, a1, a2⟩ := r_cend (m := m) (w := w) (l := l) (e := e) (x1 := 1) (x2 := 0) y2'
          refine ⟨i5, a1, ?_⟩
          rcases y5 with z | ⟨z1, z2⟩
          · have z' : (S3, O3, d3) = (S', O', sD S') := z
            cases z'
            exact a2
          · have z2' : (S3, O3, d3) = rls 211 S' O' (sD S') := z2
            have hw' := y2'.2.2.1.2.2.2.1
            have n40 : ¬ 40 ∈ S' := y4 z1
            have em := (left_r S' O' (sD S') hw').mpr n40
            rw [if_pos em] at a2
            have e1 : S3 = [] := by rw [← em, ← z2']
            have e2 : O3 = (rls 211 S' O' (sD S')).2.1 := by rw [← z2']
            subst e1
            rw [rls_nil, if_pos (show (([], O3, d3) : mW).1 = [] from rfl)]
            rw [← e2] at a2
            exact a2
end MM168
