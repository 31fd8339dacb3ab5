/-! LIMITS, in the reference -/
section MM169
variable {X : mX} {t : m3} {w : Bool} {i i' i0 j0 : Nat → Nat → Int32} {l : Nat → Nat → Int64} {δ : mQ} {m : Nat} {e : Bool × Nat × Nat} {n k s a b c p g y d : Nat} {S : List Nat} {O : List mO} {x x1 x2 : Int32}
/-- a limit more -/
theorem DRf.li (h : DRf 9 j0 δ) (hf : mG (fCd (dE δ)) j0 i') {x : Nat × Int32 × List mO} (h1 : i' 106 (pN (dP δ) 6) = nI x.1) (h2 : i' 107 (pN (dP δ) 6) = x.2.1) (h3 : qSeg i' (dE δ) x.2.2) (h4 : i' 83 38 = nI (dE δ + x.2.2.length)) : DRf 9 (mm_ww (mm_ww i' 83 34 (nI (pN (dP δ) 6 + 1))) 108 (pN (dP δ) 6 + 1) (nI (dE δ + x.2.2.length))) (dLi δ x) := by
  obtain ⟨a1, a2, a3, a4, a5, a6, a7, a8⟩ := h
  have ep : ∀ j, pN (dP (dLi δ x)) j = if j = 6 then pN (dP δ) 6 + 1 else pN (dP δ) j := fun j => up_if
  have far : ∀ k j, k ≠ 83 → k ≠ 108 → k ≠ 112 → ¬ (109 ≤ k ∧ k ≤ 110) → mm_ww (mm_ww i' 83 34 (nI (pN (dP δ) 6 + 1))) 108 (pN (dP δ) 6 + 1) (nI (dE δ + x.2.2.length)) k j = j0 k j := fun k j z1 z2 z3 z4 => by rw [mw_k z2, mw_k z1, hf _ _ (by unfold fCd fTk; omega)]
  have f8 : ∀ j, j ≠ pN (dP δ) 6 + 1 → mm_ww (mm_ww i' 83 34 (nI (pN (dP δ) 6 + 1))) 108 (pN (dP δ) 6 + 1) (nI (dE δ + x.2.2.length)) 108 j = j0 108 j := fun j z => by rw [mw_j z, mw_k (by omega), hf _ _ (by unfold fCd fTk; omega)]
  have f9 : ∀ k j, 109 ≤ k → k ≤ 110 → mm_ww (mm_ww i' 83 34 (nI (pN (dP δ) 6 + 1))) 108 (pN (dP δ) 6 + 1) (nI (dE δ + x.2.2.length)) k j = i' k j := fun k j z1 z2 => by rw [mw_k (by omega), mw_k (by omega)]
  refine ⟨a1.ku (by rw [mw_k (by omega), mw_j (by omega), hf _ _ (by unfold fCd fTk; omega)]) (fun j _ => far _ _ (by omega) (by omega) (by omega) (by omega)) (fun k j _ _ _ => far _ _ (by omega) (by omega) (by omega) (by omega)), fun j hj => ?_, fun c hc => by rw [far _ _ (by omega) (by omega) (by omega) (by omega)]; exact a3 c hc, fun r hr => by rw [far _ _ (by omega) (by omega) (by omega) (by omega)]; exact a4 r hr, fun r hr => by rw [far _ _ (by omega) (by omega) (by omega) (by omega)]; exact a5 r hr, fun k hk => ?_, fun k hk => ?_, fun k hk => ?_, ?_, ?_⟩
  · have hO := @rOf_in j
    rw [cnt9 hj, ep, mw_k (by omega)]
    by_cases z : j = 6
    · rw [z, if_pos rfl]; exact mw_s
    · rw [mw_j (show rOf j ≠ 34 from rOf_j j hj 6 (by omega) z), if_neg z, hf _ _ (by unfold fCd fTk; omega), a2 j hj, cnt9 hj]
  · rw [far _ _ (by omega) (by omega) (by omega) (by omega), far _ _ (by omega) (by omega) (by omega) (by omega), far _ _ (by omega) (by omega) (by omega) (by omega), far _ _ (by omega) (by omega) (by omega) (by omega), far _ _ (by omega) (by omega) (by omega) (by omega), far _ _ (by omega) (by omega) (by omega) (by omega)]
    exact a6 k hk
  · rw [far _ _ (by omega) (by omega) (by omega) (by omega), far _ _ (by omega) (by omega) (by omega) (by omega), far _ _ (by omega) (by omega) (by omega) (by omega), far _ _ (by omega) (by omega) (by omega) (by omega), far _ _ (by omega) (by omega) (by omega) (by omega)]
    exact a7 k hk
  · have el : pT (dP (dLi δ x)) k = if k = pN (dP δ) 6 then x else pT (dP δ) k := up_if
    rw [ep, if_pos rfl] at hk
    rw [el]
    have ee : dE (dLi δ x) = dE δ + x.2.2.length := rfl
    by_cases z : k = pN (dP δ) 6
    · subst z
      rw [if_pos rfl, mw_k (by omega), mw_k (by omega), mw_k (by omega), mw_k (by omega)]
      exact ⟨h1, h2, dE δ, by rw [f8 _ (by omega)]; exact a8.2.1, mw_s, by rw [ee]; omega, h3.ku (fun k j b1 b2 _ => f9 k j b1 b2)⟩
    · rw [if_neg z]
      obtain ⟨b1, b2, s, b3, b4, b5, b6⟩ := a8.1 k (by omega)
      exact ⟨by rw [far _ _ (by omega) (by omega) (by omega) (by omega)]; exact b1, by rw [far _ _ (by omega) (by omega) (by omega) (by omega)]; exact b2, s, by rw [f8 _ (by omega)]; exact b3, by rw [f8 _ (by omega)]; exact b4, by rw [ee]; omega, b6.ku (fun k j c1 c2 c3 => by rw [f9 k j c1 c2, hf _ _ (by unfold fCd fTk; omega)])⟩
  · rw [ep, if_pos rfl]; exact mw_s
  · rw [mw_k (by omega), mw_j (by omega)]; exact h4
theorem uRf_li (hk : 106 ≤ k ∧ k ≤ 107) : ¬ uRf g δ k (pN (dP δ) 6) := by
  intro z
  rcases z with z | z | z | z | z | z | z | z | z | z | z <;> omega
theorem fCd_R {k j : Nat} {E : Nat} (h : fCd E k j) : fRp k j := by unfold fCd fTk at h; unfold fRp; omega
/-- a limit -/
theorem r_lim (h : TZ X i t) (hW : WDS l) (hP : PTb i) (hD : DRf 9 i δ) (hd : DW δ) (hk : t.2.2 = 209) (hE : dE δ ≤ t.1) : RSt X m w l e i (mm_V 233 0 [some (.ref 83)] [] (mm_Z m w i l e)) (sLim X t δ) ∧ (∀ q, sLim X t δ = .inr q → dE q.2 ≤ q.1.1) := by
  have hc : i 83 34 = nI (pN (dP δ) 6) := hD.ct (s := 6) (by omega)
  have h8 : pN (dP δ) 6 ≤ 8 := hd.2.1.2.2.2.2.2.2
  generalize hN : pN (dP δ) 6 = N at hc h8
  have uN : ∀ k, 106 ≤ k ∧ k ≤ 107 → ¬ uRf 9 δ k N := fun k z => by rw [← hN]; exact uRf_li z
  have t1200 := h.ok
  rw [mr_233_0, hc]
  unfold sLim
  rw [hN]
  by_cases q : N = 8
  · obtain ⟨e1, e2, e3, e4⟩ := h.fl (m := m) (w := w) (l := l) (e := e)
    rw [if_pos (by rw [q]; rfl), e1, mb_l, mb_0, mr_233_17, if_pos q]
    exact ⟨RSt.dd rfl (e2.mo (fun a b y => fTk_R y)) e3 e4, fun q z => by cases z⟩
  · have hO : ¬ mm_out (nI N) 9 := no_out (by omega) (by omega)
    have hO' : ¬ mm_out (nI N) 10 := no_out (by omega) (by omega)
    have tail : ∀ (i1 : Nat → Nat → Int32) (p : Nat), mG fRp i i1 → i1 83 34 = nI N → i1 83 46 = nI p → p ≤ 1200 → RSt X m w l e i (mm_V 233 92 [some (.ref 83)] [] (mm_Z m w i1 l e)) (.inl p) := fun i1 p z1 z2 z3 z4 => by
      rw [mr_233_92, z2, nI_1, if_neg (no_out (by omega) (by omega)), nI_clamp (by omega)]
      exact RSt.dd rfl (fRw (fRw z1 (by omega)) (by omega)) (by rw [mw_k (by omega), mw_j (by omega)]; exact z3) z4
    have t67 : ∀ (i1 : Nat → Nat → Int32) (x : Int32) (p : Nat), mG fRp i i1 → i1 83 34 = nI N → i1 83 46 = nI p → p ≤ 1200 → RSt X m w l e i (mm_V 233 67 [some (.ref 83)] [.int x, .int (nI N), .ref 107] (mm_Z m w i1 l e)) (.inl p) := fun i1 x p z1 z2 z3 z4 => by
      have d1 : mm_ww (mm_ww i1 107 N x) 108 N (i1 83 38) 83 46 = nI p := by rw [mw_k (by omega), mw_k (by omega)]; exact z3
      rw [mr_233_67, if_neg hO, z2, if_neg hO', nI_clamp (by omega), r_dead d1 z4, mb_l, mb_v, mr_233_85, if_pos rfl]
      exact tail _ p (fRw (fRw z1 (by omega)) (by omega)) (by rw [mw_k (by omega), mw_k (by omega)]; exact z2) d1 z4
    rw [if_neg (show ¬ nI N = 8 from fun z => q ((nI_eq (b := 8) (by omega) (by omega)).mp z)), if_neg q]
    obtain ⟨i1, k1, k2, k3⟩ := h.adv (m := m) (w := w) (e := e) hW (by omega)
    have g1 := h.tk.gt (by omega) (by omega)
    have d1 := hD.tk k3
    have c1 : i1 83 34 = nI N := by rw [← hN]; exact d1.ct (s := 6) (by omega)
    rw [k1, mb_l, mb_0, mr_233_22, c1]
    obtain ⟨x1, i2, f1, f2, f3⟩ := r_cls (m := m) (w := w) (l := l) (e := e) k2 hW
    have c2 : i2 83 34 = nI N := by rw [f2 _ _ (by unfold fTk; omega)]; exact c1
    have hf2 : mG fRp i i2 := fRt (k3.mo (fun a b z => fTk_R z)) f2
    rw [f1, mb_l, mb_v, mr_233_34, if_neg hO, nI_clamp (by omega), c2]
    cases hr1 : sCls X (nx X t) with
    | inl p =>
      rw [hr1] at f3
      have f3' : i2 83 46 = nI p ∧ p ≤ 1200 := f3
      have z : mm_ww i2 106 N x1 83 46 = nI p := by rw [mw_k (by omega)]; exact f3'.1
      rw [r_dead z f3'.2, mb_l, mb_v, mr_233_47, if_pos rfl]
      exact ⟨t67 _ _ p (fRw hf2 (by omega)) (by rw [mw_k (by omega)]; exact c2) z f3'.2, fun q z => by cases z⟩
    | inr r1 =>
      rw [hr1] at f3
      have f3' : x1 = nI r1.2 ∧ TZ X i2 r1.1 := f3
      obtain ⟨m1, m5⟩ := mo_cls k2.tk hr1
      have t3 : TZ X (mm_ww i2 106 N x1) r1.1 := f3'.2.ww (by unfold fTk; omega)
      have d3 : DRf 9 (mm_ww i2 106 N x1) δ := (d1.tk f2).wr (uN _ (by omega))
      have c3 : mm_ww i2 106 N x1 83 34 = nI N := by rw [mw_k (by omega)]; exact c2
      have hf3 : mG fRp i (mm_ww i2 106 N x1) := fRw hf2 (by omega)
      have v106 : mm_ww i2 106 N x1 106 N = nI r1.2 := mw_s.trans f3'.1
      have p3 : PTb (mm_ww i2 106 N x1) := fun c hc k hk => by rw [mw_k (by omega)]; exact ((hP.tk k3).tk f2) c hc k hk
      generalize mm_ww i2 106 N x1 = j3 at t3 d3 c3 hf3 v106 p3
      obtain ⟨x3, i4, n1, n2, n3⟩ := r_prm (m := m) (w := w) (l := l) (e := e) t3 m5 p3 hW
      have c4 : i4 83 34 = nI N := by rw [n2 _ _ (by unfold fTk; omega)]; exact c3
      have hf4 := fRt hf3 n2
      rw [r_live t3.k6, mb_l, mb_v, mr_233_47, if_neg (by decide), c3, if_neg hO, nI_clamp (by omega), v106, n1, mb_l, mb_v, mr_233_63, eB_r]
      cases hr2 : sPrm X r1.2 r1.1 with
      | inl p =>
        rw [hr2] at n3
        have n3' : i4 83 46 = nI p ∧ p ≤ 1200 := n3
        exact ⟨t67 _ _ p hf4 c4 n3'.1 n3'.2, fun q z => by cases z⟩
      | inr r2 =>
        rw [hr2] at n3
        have n3' : x3 = nI r2.2 ∧ TZ X i4 r2.1 := n3
        have m2 := mo_prm m5 t3.tk hr2
        have d4 : DRf 9 (mm_ww i4 107 N x3) δ := (d3.tk n2).wr (uN _ (by omega))
        have e38 : i4 83 38 = nI (dE δ) := (d3.tk n2).2.2.2.2.2.2.2.2.2
        have e108 : mm_ww i4 107 N x3 108 N = nI (dE δ) := by rw [← hN]; exact d4.2.2.2.2.2.2.2.2.1
        have eid : mm_ww (mm_ww i4 107 N x3) 108 N (nI (dE δ)) = mm_ww i4 107 N x3 := by rw [← e108]; exact ww_id
        have t5 : TZ X (mm_ww i4 107 N x3) r2.1 := n3'.2.ww (by unfold fTk; omega)
        have c5 : mm_ww i4 107 N x3 83 34 = nI N := by rw [mw_k (by omega)]; exact c4
        have hf5 : mG fRp i (mm_ww i4 107 N x3) := fRw hf4 (by omega)
        have v106' : mm_ww i4 107 N x3 106 N = nI r1.2 := by rw [mw_k (by omega), n2 _ _ (by unfold fTk; omega)]; exact v106
        have v107 : mm_ww i4 107 N x3 107 N = nI r2.2 := mw_s.trans n3'.1
        rw [mr_233_67, if_neg hO, c4, if_neg hO', nI_clamp (by omega), e38, eid, r_live t5.k6, mb_l, mb_v, mr_233_85, if_neg (by decide), mr_232_0, eB_r]
        generalize mm_ww i4 107 N x3 = j5 at d4 t5 c5 hf5 v106' v107
        have fr : mG (fun k j => k = 83 ∧ (j = 47 ∨ j = 49)) j5 (mm_ww (mm_ww j5 83 47 0) 83 49 0) := fun k j y => by rw [mw_ne (by omega), mw_ne (by omega)]
        have s47 : mm_ww (mm_ww j5 83 47 0) 83 49 0 83 47 = nI 0 := by rw [mw_j (by omega), mw_s]; rfl
        have s49 : mm_ww (mm_ww j5 83 47 0) 83 49 0 83 49 = nI 0 := mw_s
        generalize mm_ww (mm_ww j5 83 47 0) 83 49 0 = j6 at fr s47 s49
        have dE1 : dE δ ≤ r2.1.1 := by
          have := m1.2
          have := m2.2
          omega
        have dE2 : r2.1.1 ≤ 1200 := t5.ok
        have rc : RCn X j5 j6 r2.1 δ [] [] := ⟨t5.fr (fr.mo (fun a b z y => by unfold fTk at y; omega)), d4.1.ku (fr _ _ (by omega)) (fun j _ => fr _ _ (by omega)) (fun k j _ _ _ => fr _ _ (by omega)), ⟨⟨s47, fun k hk => absurd hk (Nat.not_lt_zero _), by decide⟩, s49, ⟨by rw [fr _ _ (by omega)]; exact d4.2.2.2.2.2.2.2.2.2, fun j o hj => by cases hj⟩, trivial, Nat.zero_le _, by
          show dE δ + 0 + 0 ≤ 1200
          omega, fr.mo (fun a b z => by unfold fCd; omega)⟩, by
          show dE δ + 0 + 0 ≤ r2.1.1
          omega⟩
        obtain ⟨i7, y1, y2, y3⟩ := r_con (m := m) (w := w) (l := l) (e := e) hW hd 1200 r2.1 [] [] j6 rc (by omega)
        have c7 : i7 83 34 = nI N := by rw [y2 _ _ (by unfold fCd fTk; omega)]; exact c5
        have hf7 : mG fRp i i7 := hf5.tr (y2.mo (fun a b z => fCd_R z))
        rw [y1, mb_l, mb_0]
        have eS : sCon X δ 1200 r2.1 ([], [], sD []) = sCon X δ 1200 r2.1 ([], [], 0) := rfl
        rw [eS] at y3
        cases hr3 : sCon X δ 1200 r2.1 ([], [], 0) with
        | inl p =>
          rw [hr3] at y3
          have y3' : i7 83 46 = nI p ∧ p ≤ 1200 := y3
          exact ⟨tail i7 p hf7 c7 y3'.1 y3'.2, fun q z => by cases z⟩
        | inr r3 =>
          rw [hr3] at y3
          have y3' : TZ X i7 r3.1 ∧ qSeg i7 (dE δ) r3.2 ∧ i7 83 38 = nI (dE δ + r3.2.length) ∧ dE δ + r3.2.length ≤ r3.1.1 := y3
          obtain ⟨w1, w2, w3, w4⟩ := y3'
          rw [mr_233_92, c7, nI_1, if_neg (no_out (by omega) (by omega)), nI_clamp (by omega), w3]
          refine ⟨⟨_, rfl, fRw (fRw hf7 (by omega)) (by omega), (w1.ww (by unfold fTk; omega)).ww (by unfold fTk; omega), ?_⟩, fun q z => ?_⟩
          · have := d4.li y2 (x := (r1.2, nI r2.2, r3.2)) (by rw [hN, y2 _ _ (by unfold fCd fTk; omega)]; exact v106') (by rw [hN, y2 _ _ (by unfold fCd fTk; omega)]; exact v107) w2 w3
            rw [hN] at this
            exact this
          · rw [← Sum.inr.inj z]
            exact w4
end MM169
