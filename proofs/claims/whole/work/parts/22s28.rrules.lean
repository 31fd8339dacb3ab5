/-! RULES AND MOVES, in the reference -/
section MM164
variable {X : mX} {t : m3} {w : Bool} {i i' : Nat → Nat → Int32} {l : Nat → Nat → Int64} {δ : mQ} {m : Nat} {e : Bool × Nat × Nat} {n k s a b c p g y : Nat} {L : List Nat} {x : Int32}
theorem RSt.dd {V : Option mm_R} (hv : V = some (.inl none, mm_Z m w i' l e)) (hf : mG fRp i i') (h : i' 83 46 = nI p) (hp : p ≤ 1200) : RSt X m w l e i V (.inl p) := ⟨i', hv, hf, h, hp⟩
theorem rOf_j : ∀ a, a < 7 → ∀ b, b < 7 → a ≠ b → rOf a ≠ rOf b := by decide
/-- a rule more -/
theorem DRf.ru (h : DRf 9 i δ) {x : Nat × Int32 × Int32 × Nat × Int32} (h1 : i 95 (pN (dP δ) 4) = nI (x.1 + 5)) (h2 : i 96 (pN (dP δ) 4) = rvv x.2.1) (h3 : i 97 (pN (dP δ) 4) = rvv x.2.2.1) (h4 : i 98 (pN (dP δ) 4) = nI x.2.2.2.1) (h5 : i 99 (pN (dP δ) 4) = x.2.2.2.2) (h6 : i 100 (pN (dP δ) 4) = nI a) : DRf 9 (mm_ww i 83 21 (nI (pN (dP δ) 4 + 1))) (dRu δ a x) := by
  obtain ⟨a1, a2, a3, a4, a5, a6, a7, a8⟩ := h
  have ep : ∀ j, pN (dP (dRu δ a x)) j = if j = 4 then pN (dP δ) 4 + 1 else pN (dP δ) j := fun j => up_if
  have far : ∀ k j, k ≠ 83 → mm_ww i 83 21 (nI (pN (dP δ) 4 + 1)) k j = i k j := fun k j z => by rw [mw_k z]
  refine ⟨a1.ku (by rw [mw_j (by omega)]) (fun j _ => far _ _ (by omega)) (fun k j _ _ _ => far _ _ (by omega)), fun j hj => ?_, fun c hc => by rw [far _ _ (by omega)]; exact a3 c hc, fun r hr => by rw [far _ _ (by omega)]; exact a4 r hr, fun r hr => by rw [far _ _ (by omega)]; exact a5 r hr, fun k hk => ?_, fun k hk => ?_, a8.ku (fun k j _ _ _ => far _ _ (by omega)) (fun j _ => far _ _ (by omega)) (fun k j _ _ _ => far _ _ (by omega)) (by rw [mw_j (by omega)])⟩
  · rw [cnt9 hj, ep]
    by_cases z : j = 4
    · rw [z, if_pos rfl]; exact mw_s
    · rw [mw_j (show rOf j ≠ 21 from rOf_j j hj 4 (by omega) z), if_neg z, a2 j hj, cnt9 hj]
  · have el : pL (dP (dRu δ a x)) k = if k = pN (dP δ) 4 then x else pL (dP δ) k := up_if
    have er : dR (dRu δ a x) k = if k = pN (dP δ) 4 then a else dR δ k := up_if
    rw [ep, if_pos rfl] at hk
    rw [far _ _ (by omega), far _ _ (by omega), far _ _ (by omega), far _ _ (by omega), far _ _ (by omega), far _ _ (by omega), el, er]
    by_cases z : k = pN (dP δ) 4
    · subst z; rw [if_pos rfl, if_pos rfl]; exact ⟨h1, h2, h3, h4, h5, h6⟩
    · rw [if_neg z, if_neg z]; exact a6 k (by omega)
  · rw [far _ _ (by omega), far _ _ (by omega), far _ _ (by omega), far _ _ (by omega), far _ _ (by omega)]
    exact a7 k hk
theorem DRf.mo (h : DRf 9 i δ) {x : Nat × Nat × Nat × Nat} (h1 : i 101 (pN (dP δ) 5) = nI x.1) (h2 : i 102 (pN (dP δ) 5) = nI x.2.1) (h3 : i 103 (pN (dP δ) 5) = nI x.2.2.1) (h4 : i 104 (pN (dP δ) 5) = nI x.2.2.2) (h6 : i 105 (pN (dP δ) 5) = nI a) : DRf 9 (mm_ww i 83 28 (nI (pN (dP δ) 5 + 1))) (dMo δ a x) := by
  obtain ⟨a1, a2, a3, a4, a5, a6, a7, a8⟩ := h
  have ep : ∀ j, pN (dP (dMo δ a x)) j = if j = 5 then pN (dP δ) 5 + 1 else pN (dP δ) j := fun j => up_if
  have far : ∀ k j, k ≠ 83 → mm_ww i 83 28 (nI (pN (dP δ) 5 + 1)) k j = i k j := fun k j z => by rw [mw_k z]
  refine ⟨a1.ku (by rw [mw_j (by omega)]) (fun j _ => far _ _ (by omega)) (fun k j _ _ _ => far _ _ (by omega)), fun j hj => ?_, fun c hc => by rw [far _ _ (by omega)]; exact a3 c hc, fun r hr => by rw [far _ _ (by omega)]; exact a4 r hr, fun r hr => by rw [far _ _ (by omega)]; exact a5 r hr, fun k hk => ?_, fun k hk => ?_, a8.ku (fun k j _ _ _ => far _ _ (by omega)) (fun j _ => far _ _ (by omega)) (fun k j _ _ _ => far _ _ (by omega)) (by rw [mw_j (by omega)])⟩
  · rw [cnt9 hj, ep]
    by_cases z : j = 5
    · rw [z, if_pos rfl]; exact mw_s
    · rw [mw_j (show rOf j ≠ 28 from rOf_j j hj 5 (by omega) z), if_neg z, a2 j hj, cnt9 hj]
  · rw [far _ _ (by omega), far _ _ (by omega), far _ _ (by omega), far _ _ (by omega), far _ _ (by omega), far _ _ (by omega)]
    exact a6 k hk
  · have el : pM (dP (dMo δ a x)) k = if k = pN (dP δ) 5 then x else pM (dP δ) k := up_if
    have er : dM (dMo δ a x) k = if k = pN (dP δ) 5 then a else dM δ k := up_if
    rw [ep, if_pos rfl] at hk
    rw [far _ _ (by omega), far _ _ (by omega), far _ _ (by omega), far _ _ (by omega), far _ _ (by omega), el, er]
    by_cases z : k = pN (dP δ) 5
    · subst z; rw [if_pos rfl, if_pos rfl]; exact ⟨h1, h2, h3, h4, h6⟩
    · rw [if_neg z, if_neg z]; exact a7 k (by omega)
theorem uRf_ru (hk : 95 ≤ k ∧ k ≤ 100) : ¬ uRf g δ k (pN (dP δ) 4) := by
  intro z
  rcases z with z | z | z | z | z | z | z | z | z | z | z <;> omega
theorem uRf_mo (hk : 101 ≤ k ∧ k ≤ 105) : ¬ uRf g δ k (pN (dP δ) 5) := by
  intro z
  rcases z with z | z | z | z | z | z | z | z | z | z | z <;> omega
theorem fRw (h : mG fRp i i') (hk : (k = 83 ∧ 10 ≤ a ∧ a ≤ 49) ∨ (89 ≤ k ∧ k ≤ 110) ∨ k = 112) : mG fRp i (mm_ww i' k a x) := h.tr (mG.ww (P := fRp) hk)
theorem fRt {i1 : Nat → Nat → Int32} (h : mG fRp i i') (hf : mG fTk i' i1) : mG fRp i i1 := h.tr (hf.mo (fun a b z => fTk_R z))
/-- the rest of a rule, behind a fault -/
theorem r_rul_d124 (h21 : i 83 21 = nI n) (hn : n < 60) (h : i 83 46 = nI p) (hp : p ≤ 1200) {i0 : Nat → Nat → Int32} (hf : mG fRp i0 i) : RSt X m w l e i0 (mm_V 223 111 [some (.ref 83)] [.int x, .int (nI n), .ref 98] (mm_Z m w i l e)) (.inl p) := by
  have h1 : mm_ww i 98 n x 83 46 = nI p := by rw [mw_k (by omega)]; exact h
  have h2 : mm_ww i 98 n x 83 21 = nI n := by rw [mw_k (by omega)]; exact h21
  rw [mr_223_111, if_neg (no_out (by omega) (by omega)), nI_clamp (by omega), r_dead h1 hp, mb_l, mb_v, h21, mr_223_124, if_pos rfl, mr_223_144, if_neg (no_out (by omega) (by omega))]
  exact RSt.dd rfl (fRw (fRw (fRw hf (by omega)) (by omega)) (by omega)) (by rw [mw_j (by omega), mw_k (by omega)]; exact h1) hp
theorem r_rul_d88 (h21 : i 83 21 = nI n) (hn : n < 60) (h : i 83 46 = nI p) (hp : p ≤ 1200) {i0 : Nat → Nat → Int32} (hf : mG fRp i0 i) : RSt X m w l e i0 (mm_V 223 88 [some (.ref 83)] [] (mm_Z m w i l e)) (.inl p) := by
  rw [mr_223_88, r_dead h hp, mb_l, mb_v, h21, mr_223_100, if_pos rfl]
  exact r_rul_d124 h21 hn h hp hf
theorem r_rul_d83 (h21 : i 83 21 = nI n) (hn : n < 60) (h : i 83 46 = nI p) (hp : p ≤ 1200) {i0 : Nat → Nat → Int32} (hf : mG fRp i0 i) : RSt X m w l e i0 (mm_V 223 83 [some (.ref 83)] [] (mm_Z m w i l e)) (.inl p) := by
  rw [mr_223_83, r_needs h hp, mb_l, mb_0]
  exact r_rul_d88 h21 hn h hp hf
/-- a rule -/
theorem r_rul (h : TZ X i t) (hW : WDS l) (hP : PTb i) (hD : DRf 9 i δ) (hd : DW δ) (hk : 204 ≤ t.2.2 ∧ t.2.2 ≤ 207) : RSt X m w l e i (mm_V 223 0 [some (.ref 83)] [] (mm_Z m w i l e)) (sRul X t δ) := by
  have hc : i 83 21 = nI (pN (dP δ) 4) := hD.ct (s := 4) (by omega)
  have h60 : pN (dP δ) 4 ≤ 60 := hd.2.1.2.2.2.2.1
  generalize hN : pN (dP δ) 4 = N at hc h60
  have uN : ∀ k, 95 ≤ k ∧ k ≤ 100 → ¬ uRf 9 δ k N := fun k z => by rw [← hN]; exact uRf_ru z
  rw [mr_223_0, hc]
  unfold sRul
  rw [hN]
  by_cases q : N = 60
  · obtain ⟨e1, e2, e3, e4⟩ := h.fl (m := m) (w := w) (l := l) (e := e)
    rw [if_pos (by rw [q]; rfl), e1, mb_l, mb_0, mr_223_17, if_pos q]
    exact RSt.dd rfl (e2.mo (fun a b y => fTk_R y)) e3 e4
  · have hO : ¬ mm_out (nI N) 61 := no_out (by omega) (by omega)
    rw [if_neg (show ¬ nI N = 60 from fun z => q ((nI_eq (b := 60) (by omega) (by omega)).mp z)), if_neg q, if_neg hO, if_neg hO, nI_clamp (by omega), h.k5, h.k3]
    have ek : rwd t.2.2 = t.2.2 - 204 + 5 := by unfold rwd; rw [if_neg (by omega), if_pos (by omega)]; omega
    rw [ek]
    have hf1 : mG fRp i (mm_ww (mm_ww i 95 N (nI (t.2.2 - 204 + 5))) 100 N (nI t.1)) := fRw (fRw mG.rf (by omega)) (by omega)
    have t1 : TZ X (mm_ww (mm_ww i 95 N (nI (t.2.2 - 204 + 5))) 100 N (nI t.1)) t := (h.ww (by unfold fTk; omega)).ww (by unfold fTk; omega)
    have d1 : DRf 9 (mm_ww (mm_ww i 95 N (nI (t.2.2 - 204 + 5))) 100 N (nI t.1)) δ := (hD.wr (uN _ (by omega))).wr (uN _ (by omega))
    have v95 : mm_ww (mm_ww i 95 N (nI (t.2.2 - 204 + 5))) 100 N (nI t.1) 95 N = nI (t.2.2 - 204 + 5) := by rw [mw_k (by omega), mw_s]
    have v100 : mm_ww (mm_ww i 95 N (nI (t.2.2 - 204 + 5))) 100 N (nI t.1) 100 N = nI t.1 := mw_s
    have p1 : PTb (mm_ww (mm_ww i 95 N (nI (t.2.2 - 204 + 5))) 100 N (nI t.1)) := fun c hc k hk => by rw [mw_k (by omega), mw_k (by omega)]; exact hP c hc k hk
    generalize mm_ww (mm_ww i 95 N (nI (t.2.2 - 204 + 5))) 100 N (nI t.1) = i1 at hf1 t1 d1 v95 v100 p1
    obtain ⟨i2, k1, k2, k3⟩ := t1.adv (m := m) (w := w) (e := e) hW (by omega)
    rw [k1, mb_l, mb_0, mr_223_48]
    have d2 := d1.tk k3
    obtain ⟨x1, i3, f1, f2, f3⟩ := r_sid (m := m) (w := w) (l := l) (e := e) (self := false) (x := 0) k2 hW d2.1 hd rfl
    have c2 : i2 83 21 = nI N := by rw [← hN]; exact d2.ct (s := 4) (by omega)
    rw [c2, f1, mb_l, mb_v, mr_223_61, if_neg hO, nI_clamp (by omega)]
    have d3 : DRf 9 (mm_ww i3 96 N x1) δ := (d2.tk f2).wr (uN _ (by omega))
    have hf3 : mG fRp i (mm_ww i3 96 N x1) := fRw (fRt (fRt hf1 k3) f2) (by omega)
    have c3 : mm_ww i3 96 N x1 83 21 = nI N := by rw [← hN]; exact d3.ct (s := 4) (by omega)
    have w95 : mm_ww i3 96 N x1 95 N = nI (t.2.2 - 204 + 5) := by rw [mw_k (by omega), f2 _ _ (by unfold fTk; omega), k3 _ _ (by unfold fTk; omega)]; exact v95
    have w100 : mm_ww i3 96 N x1 100 N = nI t.1 := by rw [mw_k (by omega), f2 _ _ (by unfold fTk; omega), k3 _ _ (by unfold fTk; omega)]; exact v100
    have w96 : mm_ww i3 96 N x1 96 N = x1 := mw_s
    have p3 : PTb (mm_ww i3 96 N x1) := fun c hc k hk => by rw [mw_k (by omega)]; exact ((p1.tk k3).tk f2) c hc k hk
    cases hr1 : sSid X false (nx X t) δ with
    | inl p =>
      rw [hr1] at f3
      have f3' : i3 83 46 = nI p ∧ p ≤ 1200 := f3
      have z : mm_ww i3 96 N x1 83 46 = nI p := by rw [mw_k (by omega)]; exact f3'.1
      rw [r_dead z f3'.2, mb_l, mb_v, mr_223_66, if_pos rfl]
      exact r_rul_d83 c3 (by omega) z f3'.2 hf3
    | inr r1 =>
      rw [hr1] at f3
      have f3' : x1 = rvv r1.2 ∧ TZ X i3 r1.1 := f3
      have t3 : TZ X (mm_ww i3 96 N x1) r1.1 := f3'.2.ww (by unfold fTk; omega)
      replace w96 := w96.trans f3'.1
      generalize mm_ww i3 96 N x1 = j3 at d3 hf3 c3 w95 w100 w96 t3 p3
      obtain ⟨x2, i4, g1, g2, g3⟩ := r_sid (m := m) (w := w) (l := l) (e := e) (self := true) (x := 1) t3 hW d3.1 hd rfl
      rw [r_live t3.k6, mb_l, mb_v, mr_223_66, if_neg (by decide), c3, g1, mb_l, mb_v, mr_223_82, if_neg hO, nI_clamp (by omega)]
      have d4 : DRf 9 (mm_ww i4 97 N x2) δ := (d3.tk g2).wr (uN _ (by omega))
      have hf4 : mG fRp i (mm_ww i4 97 N x2) := fRw (fRt hf3 g2) (by omega)
      have c4 : mm_ww i4 97 N x2 83 21 = nI N := by rw [← hN]; exact d4.ct (s := 4) (by omega)
      have y95 : mm_ww i4 97 N x2 95 N = nI (t.2.2 - 204 + 5) := by rw [mw_k (by omega), g2 _ _ (by unfold fTk; omega)]; exact w95
      have y100 : mm_ww i4 97 N x2 100 N = nI t.1 := by rw [mw_k (by omega), g2 _ _ (by unfold fTk; omega)]; exact w100
      have y96 : mm_ww i4 97 N x2 96 N = rvv r1.2 := by rw [mw_k (by omega), g2 _ _ (by unfold fTk; omega)]; exact w96
      have y97 : mm_ww i4 97 N x2 97 N = x2 := mw_s
      have p4 : PTb (mm_ww i4 97 N x2) := fun c hc k hk => by rw [mw_k (by omega)]; exact (p3.tk g2) c hc k hk
      rw [eB_r]
      cases hr2 : sSid X true r1.1 δ with
      | inl p =>
        rw [hr2] at g3
        have g3' : i4 83 46 = nI p ∧ p ≤ 1200 := g3
        have z : mm_ww i4 97 N x2 83 46 = nI p := by rw [mw_k (by omega)]; exact g3'.1
        exact r_rul_d83 c4 (by omega) z g3'.2 hf4
      | inr r2 =>
        rw [hr2] at g3
        have g3' : x2 = rvv r2.2 ∧ TZ X i4 r2.1 := g3
        have t4 : TZ X (mm_ww i4 97 N x2) r2.1 := g3'.2.ww (by unfold fTk; omega)
        replace y97 := y97.trans g3'.1
        rw [eB_r]
        generalize mm_ww i4 97 N x2 = j4 at d4 hf4 c4 y95 y100 y96 y97 t4 p4
        obtain ⟨i5, k4, k5, k6⟩ := t4.need (m := m) (w := w) (l := l) (e := e) (x := 4) (k := 4) hW rfl (by omega) rkk_4 (by omega)
        rw [mr_223_83, k4, mb_l, mb_0]
        have d5 := d4.tk k5
        have c5 : i5 83 21 = nI N := by rw [← hN]; exact d5.ct (s := 4) (by omega)
        have hf5 := fRt hf4 k5
        unfold sCol
        by_cases q4 : r2.1.2.2 = 58
        · rw [if_pos q4] at k6 ⊢
          rw [eB_r]
          have t5 : TZ X i5 (nx X r2.1) := k6
          obtain ⟨x5, i6, l1, l2, l3⟩ := r_cls (m := m) (w := w) (l := l) (e := e) t5 hW
          rw [mr_223_88, r_live t5.k6, mb_l, mb_v, c5, mr_223_100, if_neg (by decide), l1, mb_l, mb_v, mr_223_107]
          have d6 := d5.tk l2
          have c6 : i6 83 21 = nI N := by rw [← hN]; exact d6.ct (s := 4) (by omega)
          have hf6 := fRt hf5 l2
          cases hr3 : sCls X (nx X r2.1) with
          | inl p =>
            rw [hr3] at l3
            have l3' : i6 83 46 = nI p ∧ p ≤ 1200 := l3
            exact r_rul_d124 c6 (by omega) l3'.1 l3'.2 hf6
          | inr r4 =>
            rw [hr3] at l3
            have l3' : x5 = nI r4.2 ∧ TZ X i6 r4.1 := l3
            obtain ⟨-, m5⟩ := mo_cls t5.tk hr3
            rw [l3'.1, eB_r, mr_223_111, if_neg hO, nI_clamp (by omega)]
            have d7 : DRf 9 (mm_ww i6 98 N (nI r4.2)) δ := d6.wr (uN _ (by omega))
            have t7 : TZ X (mm_ww i6 98 N (nI r4.2)) r4.1 := l3'.2.ww (by unfold fTk; omega)
            have c7 : mm_ww i6 98 N (nI r4.2) 83 21 = nI N := by rw [← hN]; exact d7.ct (s := 4) (by omega)
            have hf7 : mG fRp i (mm_ww i6 98 N (nI r4.2)) := fRw hf6 (by omega)
            have p7 : PTb (mm_ww i6 98 N (nI r4.2)) := fun c hc k hk => by rw [mw_k (by omega)]; exact ((p4.tk k5).tk l2) c hc k hk
            have o95 : mm_ww i6 98 N (nI r4.2) 95 N = nI (t.2.2 - 204 + 5) := by rw [mw_k (by omega), l2 _ _ (by unfold fTk; omega), k5 _ _ (by unfold fTk; omega)]; exact y95
            have o100 : mm_ww i6 98 N (nI r4.2) 100 N = nI t.1 := by rw [mw_k (by omega), l2 _ _ (by unfold fTk; omega), k5 _ _ (by unfold fTk; omega)]; exact y100
            have o96 : mm_ww i6 98 N (nI r4.2) 96 N = rvv r1.2 := by rw [mw_k (by omega), l2 _ _ (by unfold fTk; omega), k5 _ _ (by unfold fTk; omega)]; exact y96
            have o97 : mm_ww i6 98 N (nI r4.2) 97 N = rvv r2.2 := by rw [mw_k (by omega), l2 _ _ (by unfold fTk; omega), k5 _ _ (by unfold fTk; omega)]; exact y97
            have o98 : mm_ww i6 98 N (nI r4.2) 98 N = nI r4.2 := mw_s
            generalize mm_ww i6 98 N (nI r4.2) = j7 at d7 t7 c7 hf7 p7 o95 o100 o96 o97 o98
            obtain ⟨x8, i8, n1, n2, n3⟩ := r_prm (m := m) (w := w) (l := l) (e := e) t7 m5 p7 hW
            rw [r_live t7.k6, mb_l, mb_v, c6, mr_223_124, if_neg (by decide), c7, if_neg hO, nI_clamp (by omega), o98, n1, mb_l, mb_v, mr_223_140, mr_223_144, if_neg hO, nI_clamp (by omega)]
            have d8 : DRf 9 (mm_ww i8 99 N x8) δ := (d7.tk n2).wr (uN _ (by omega))
            have c8 : i8 83 21 = nI N := by rw [n2 _ _ (by unfold fTk; omega)]; exact c7
            have hf8 : mG fRp i (mm_ww (mm_ww i8 99 N x8) 83 21 (nI (N + 1))) := fRw (fRw (fRt hf7 n2) (by omega)) (by omega)
            rw [c8, nI_1]
            refine ⟨_, rfl, hf8, ?_⟩
            cases hr5 : sPrm X r4.2 r4.1 with
            | inl p =>
              rw [hr5] at n3
              have n3' : i8 83 46 = nI p ∧ p ≤ 1200 := n3
              exact ⟨by rw [mw_j (by omega), mw_k (by omega)]; exact n3'.1, n3'.2⟩
            | inr r5 =>
              rw [hr5] at n3
              have n3' : x8 = nI r5.2 ∧ TZ X i8 r5.1 := n3
              refine ⟨(n3'.2.ww (by unfold fTk; omega)).ww (by unfold fTk; omega), ?_⟩
              have := d8.ru (a := t.1) (x := (t.2.2 - 204, r1.2, r2.2, r4.2, nI r5.2)) (by rw [hN, mw_k (by omega), n2 _ _ (by unfold fTk; omega)]; exact o95) (by rw [hN, mw_k (by omega), n2 _ _ (by unfold fTk; omega)]; exact o96) (by rw [hN, mw_k (by omega), n2 _ _ (by unfold fTk; omega)]; exact o97) (by rw [hN, mw_k (by omega), n2 _ _ (by unfold fTk; omega)]; exact o98) (by rw [hN, mw_s]; exact n3'.1) (by rw [hN, mw_k (by omega), n2 _ _ (by unfold fTk; omega)]; exact o100)
              rw [hN] at this
              exact this
        · rw [if_neg q4] at k6 ⊢
          have k6' : i5 83 46 = nI r2.1.1 ∧ r2.1.1 ≤ 1200 := k6
          exact r_rul_d88 c5 (by omega) k6'.1 k6'.2 hf5
/-- the rest of a move, behind a fault -/
theorem r_mov_d102 (h28 : i 83 28 = nI n) (hn : n < 12) (h : i 83 46 = nI p) (hp : p ≤ 1200) {i0 : Nat → Nat → Int32} (hf : mG fRp i0 i) : RSt X m w l e i0 (mm_V 224 102 [some (.ref 83)] [.int x, .int (nI n), .ref 103] (mm_Z m w i l e)) (.inl p) := by
  have h1 : mm_ww i 103 n x 83 46 = nI p := by rw [mw_k (by omega)]; exact h
  have h2 : mm_ww i 103 n x 83 28 = nI n := by rw [mw_k (by omega)]; exact h28
  rw [mr_224_102, if_neg (no_out (by omega) (by omega)), nI_clamp (by omega), r_dead h1 hp, mb_l, mb_v, h28, mr_224_115, if_pos rfl, mr_224_127, if_neg (no_out (by omega) (by omega))]
  exact RSt.dd rfl (fRw (fRw (fRw hf (by omega)) (by omega)) (by omega)) (by rw [mw_j (by omega), mw_k (by omega)]; exact h1) hp
theorem r_mov_d79 (h28 : i 83 28 = nI n) (hn : n < 12) (h : i 83 46 = nI p) (hp : p ≤ 1200) {i0 : Nat → Nat → Int32} (hf : mG fRp i0 i) : RSt X m w l e i0 (mm_V 224 79 [some (.ref 83)] [] (mm_Z m w i l e)) (.inl p) := by
  rw [mr_224_79, r_dead h hp, mb_l, mb_v, h28, mr_224_91, if_pos rfl]
  exact r_mov_d102 h28 hn h hp hf
theorem r_mov_d73 (h28 : i 83 28 = nI n) (hn : n < 12) (h : i 83 46 = nI p) (hp : p ≤ 1200) {i0 : Nat → Nat → Int32} (hf : mG fRp i0 i) : RSt X m w l e i0 (mm_V 224 73 [some (.ref 83)] [.int x, .int (nI n), .ref 102] (mm_Z m w i l e)) (.inl p) := by
  have h1 : mm_ww i 102 n x 83 46 = nI p := by rw [mw_k (by omega)]; exact h
  have h2 : mm_ww i 102 n x 83 28 = nI n := by rw [mw_k (by omega)]; exact h28
  rw [mr_224_73, if_neg (no_out (by omega) (by omega)), nI_clamp (by omega), r_needs h1 hp, mb_l, mb_0]
  exact r_mov_d79 h2 hn h1 hp (fRw hf (by omega))
/-- a move -/
theorem r_mov (h : TZ X i t) (hW : WDS l) (hD : DRf 9 i δ) (hd : DW δ) (hk : t.2.2 = 208) : RSt X m w l e i (mm_V 224 0 [some (.ref 83)] [] (mm_Z m w i l e)) (sMov X t δ) := by
  have hc : i 83 28 = nI (pN (dP δ) 5) := hD.ct (s := 5) (by omega)
  have h12 : pN (dP δ) 5 ≤ 12 := hd.2.1.2.2.2.2.2.1
  generalize hN : pN (dP δ) 5 = N at hc h12
  have uN : ∀ k, 101 ≤ k ∧ k ≤ 105 → ¬ uRf 9 δ k N := fun k z => by rw [← hN]; exact uRf_mo z
  rw [mr_224_0, hc]
  unfold sMov
  rw [hN]
  by_cases q : N = 12
  · obtain ⟨e1, e2, e3, e4⟩ := h.fl (m := m) (w := w) (l := l) (e := e)
    rw [if_pos (by rw [q]; rfl), e1, mb_l, mb_0, mr_224_17, if_pos q]
    exact RSt.dd rfl (e2.mo (fun a b y => fTk_R y)) e3 e4
  · have hO : ¬ mm_out (nI N) 13 := no_out (by omega) (by omega)
    rw [if_neg (show ¬ nI N = 12 from fun z => q ((nI_eq (b := 12) (by omega) (by omega)).mp z)), if_neg q, if_neg hO, nI_clamp (by omega), h.k3]
    have hf1 : mG fRp i (mm_ww i 105 N (nI t.1)) := fRw mG.rf (by omega)
    have t1 : TZ X (mm_ww i 105 N (nI t.1)) t := h.ww (by unfold fTk; omega)
    have d1 : DRf 9 (mm_ww i 105 N (nI t.1)) δ := hD.wr (uN _ (by omega))
    have v105 : mm_ww i 105 N (nI t.1) 105 N = nI t.1 := mw_s
    generalize mm_ww i 105 N (nI t.1) = i1 at hf1 t1 d1 v105
    obtain ⟨i2, k1, k2, k3⟩ := t1.adv (m := m) (w := w) (e := e) hW (by omega)
    rw [k1, mb_l, mb_0, mr_224_35]
    have d2 := d1.tk k3
    obtain ⟨x1, i3, f1, f2, f3⟩ := r_num (m := m) (w := w) (l := l) (e := e) (s := 0) (x := 1) k2 hW d2.1 hd rfl (by omega)
    have c2 : i2 83 28 = nI N := by rw [← hN]; exact d2.ct (s := 5) (by omega)
    rw [c2, f1, mb_l, mb_v, mr_224_48, if_neg hO, nI_clamp (by omega)]
    have d3 : DRf 9 (mm_ww i3 101 N x1) δ := (d2.tk f2).wr (uN _ (by omega))
    have hf3 : mG fRp i (mm_ww i3 101 N x1) := fRw (fRt (fRt hf1 k3) f2) (by omega)
    have c3 : mm_ww i3 101 N x1 83 28 = nI N := by rw [← hN]; exact d3.ct (s := 5) (by omega)
    have b3 : i3 83 28 = nI N := by rw [f2 _ _ (by unfold fTk; omega)]; exact c2
    have w105 : mm_ww i3 101 N x1 105 N = nI t.1 := by rw [mw_k (by omega), f2 _ _ (by unfold fTk; omega), k3 _ _ (by unfold fTk; omega)]; exact v105
    have w101 : mm_ww i3 101 N x1 101 N = x1 := mw_s
    cases hr1 : sNum X 0 (nx X t) δ with
    | inl p =>
      rw [hr1] at f3
      have f3' : i3 83 46 = nI p ∧ p ≤ 1200 := f3
      have z : mm_ww i3 101 N x1 83 46 = nI p := by rw [mw_k (by omega)]; exact f3'.1
      rw [r_dead z f3'.2, mb_l, mb_v, b3, mr_224_61, if_pos rfl]
      exact r_mov_d73 c3 (by omega) z f3'.2 hf3
    | inr r1 =>
      rw [hr1] at f3
      have f3' : x1 = nI r1.2 ∧ TZ X i3 r1.1 := f3
      have t3 : TZ X (mm_ww i3 101 N x1) r1.1 := f3'.2.ww (by unfold fTk; omega)
      replace w101 := w101.trans f3'.1
      rw [b3]
      generalize mm_ww i3 101 N x1 = j3 at d3 hf3 c3 w105 w101 t3
      obtain ⟨x2, i4, g1, g2, g3⟩ := r_num (m := m) (w := w) (l := l) (e := e) (s := 0) (x := 1) t3 hW d3.1 hd rfl (by omega)
      rw [r_live t3.k6, mb_l, mb_v, mr_224_61, if_neg (by decide), g1, mb_l, mb_v, mr_224_69, eB_r]
      have c4 : i4 83 28 = nI N := by rw [g2 _ _ (by unfold fTk; omega)]; exact c3
      have hf4 := fRt hf3 g2
      cases hr2 : sNum X 0 r1.1 δ with
      | inl p =>
        rw [hr2] at g3
        have g3' : i4 83 46 = nI p ∧ p ≤ 1200 := g3
        exact r_mov_d73 c4 (by omega) g3'.1 g3'.2 hf4
      | inr r2 =>
        rw [hr2] at g3
        have g3' : x2 = nI r2.2 ∧ TZ X i4 r2.1 := g3
        rw [mr_224_73, if_neg hO, nI_clamp (by omega), eB_r]
        have d4 : DRf 9 (mm_ww i4 102 N x2) δ := (d3.tk g2).wr (uN _ (by omega))
        have t4 : TZ X (mm_ww i4 102 N x2) r2.1 := g3'.2.ww (by unfold fTk; omega)
        have hf5 : mG fRp i (mm_ww i4 102 N x2) := fRw hf4 (by omega)
        have y105 : mm_ww i4 102 N x2 105 N = nI t.1 := by rw [mw_k (by omega), g2 _ _ (by unfold fTk; omega)]; exact w105
        have y101 : mm_ww i4 102 N x2 101 N = nI r1.2 := by rw [mw_k (by omega), g2 _ _ (by unfold fTk; omega)]; exact w101
        have y102 : mm_ww i4 102 N x2 102 N = nI r2.2 := mw_s.trans g3'.1
        generalize mm_ww i4 102 N x2 = j4 at d4 t4 hf5 y105 y101 y102
        obtain ⟨i5, k4, k5, k6⟩ := t4.need (m := m) (w := w) (l := l) (e := e) (x := 4) (k := 4) hW rfl (by omega) rkk_4 (by omega)
        rw [k4, mb_l, mb_0]
        have d5 := d4.tk k5
        have c5 : i5 83 28 = nI N := by rw [← hN]; exact d5.ct (s := 5) (by omega)
        have hf6 := fRt hf5 k5
        unfold sCol
        by_cases q4 : r2.1.2.2 = 58
        · rw [if_pos q4] at k6 ⊢
          rw [eB_r]
          have t5 : TZ X i5 (nx X r2.1) := k6
          obtain ⟨x5, i6, l1, l2, l3⟩ := r_cls (m := m) (w := w) (l := l) (e := e) t5 hW
          rw [mr_224_79, r_live t5.k6, mb_l, mb_v, c5, mr_224_91, if_neg (by decide), l1, mb_l, mb_v, mr_224_98]
          have d6 := d5.tk l2
          have c6 : i6 83 28 = nI N := by rw [← hN]; exact d6.ct (s := 5) (by omega)
          have hf7 := fRt hf6 l2
          cases hr3 : sCls X (nx X r2.1) with
          | inl p =>
            rw [hr3] at l3
            have l3' : i6 83 46 = nI p ∧ p ≤ 1200 := l3
            exact r_mov_d102 c6 (by omega) l3'.1 l3'.2 hf7
          | inr r4 =>
            rw [hr3] at l3
            have l3' : x5 = nI r4.2 ∧ TZ X i6 r4.1 := l3
            rw [eB_r, mr_224_102, if_neg hO, nI_clamp (by omega)]
            have d7 : DRf 9 (mm_ww i6 103 N x5) δ := d6.wr (uN _ (by omega))
            have t7 : TZ X (mm_ww i6 103 N x5) r4.1 := l3'.2.ww (by unfold fTk; omega)
            have hf8 : mG fRp i (mm_ww i6 103 N x5) := fRw hf7 (by omega)
            have o105 : mm_ww i6 103 N x5 105 N = nI t.1 := by rw [mw_k (by omega), l2 _ _ (by unfold fTk; omega), k5 _ _ (by unfold fTk; omega)]; exact y105
            have o101 : mm_ww i6 103 N x5 101 N = nI r1.2 := by rw [mw_k (by omega), l2 _ _ (by unfold fTk; omega), k5 _ _ (by unfold fTk; omega)]; exact y101
            have o102 : mm_ww i6 103 N x5 102 N = nI r2.2 := by rw [mw_k (by omega), l2 _ _ (by unfold fTk; omega), k5 _ _ (by unfold fTk; omega)]; exact y102
            have o103 : mm_ww i6 103 N x5 103 N = nI r4.2 := mw_s.trans l3'.1
            have c7 : mm_ww i6 103 N x5 83 28 = nI N := by rw [← hN]; exact d7.ct (s := 5) (by omega)
            rw [c6]
            generalize mm_ww i6 103 N x5 = j7 at d7 t7 hf8 o105 o101 o102 o103 c7
            obtain ⟨x8, i8, n1, n2, n3⟩ := r_num (m := m) (w := w) (l := l) (e := e) (s := 0) (x := 1) t7 hW d7.1 hd rfl (by omega)
            rw [r_live t7.k6, mb_l, mb_v, mr_224_115, if_neg (by decide), n1, mb_l, mb_v, mr_224_123, mr_224_127, if_neg hO, nI_clamp (by omega)]
            have d8 : DRf 9 (mm_ww i8 104 N x8) δ := (d7.tk n2).wr (uN _ (by omega))
            have c8 : i8 83 28 = nI N := by rw [n2 _ _ (by unfold fTk; omega)]; exact c7
            have hf9 : mG fRp i (mm_ww (mm_ww i8 104 N x8) 83 28 (nI (N + 1))) := fRw (fRw (fRt hf8 n2) (by omega)) (by omega)
            rw [c8, nI_1]
            refine ⟨_, rfl, hf9, ?_⟩
            cases hr5 : sNum X 0 r4.1 δ with
            | inl p =>
              rw [hr5] at n3
              have n3' : i8 83 46 = nI p ∧ p ≤ 1200 := n3
              exact ⟨by rw [mw_j (by omega), mw_k (by omega)]; exact n3'.1, n3'.2⟩
            | inr r5 =>
              rw [hr5] at n3
              have n3' : x8 = nI r5.2 ∧ TZ X i8 r5.1 := n3
              refine ⟨(n3'.2.ww (by unfold fTk; omega)).ww (by unfold fTk; omega), ?_⟩
              have := d8.mo (a := t.1) (x := (r1.2, r2.2, r4.2, r5.2)) (by rw [hN, mw_k (by omega), n2 _ _ (by unfold fTk; omega)]; exact o101) (by rw [hN, mw_k (by omega), n2 _ _ (by unfold fTk; omega)]; exact o102) (by rw [hN, mw_k (by omega), n2 _ _ (by unfold fTk; omega)]; exact o103) (by rw [hN, mw_s]; exact n3'.1) (by rw [hN, mw_k (by omega), n2 _ _ (by unfold fTk; omega)]; exact o105)
              rw [hN] at this
              exact this
        · rw [if_neg q4] at k6 ⊢
          have k6' : i5 83 46 = nI r2.1.1 ∧ r2.1.1 ≤ 1200 := k6
          exact r_mov_d79 c5 (by omega) k6'.1 k6'.2 hf6
end MM164
