/-! MOVES in the class -/
section MM142
variable {X : mX} {t : m3} {w p : Bool} {i i' i0 : Nat → Nat → Int32} {l l' l0 : Nat → Nat → Int64} {δ δ' : mQ} {ρ : mP} {m : Nat} {e : Bool × Nat × Nat} {n k s a b c r : Nat} {L : List Nat} {x y v : Int32}
theorem num_v (hd : DW δ) : (sNum X s t δ = .inl t.1 ∧ (if dI δ (tLt X t) < dL δ ∧ (dG δ (dI δ (tLt X t))).2.1 = s then nI (dG δ (dI δ (tLt X t))).2.2 else -1) = -1) ∨ (∃ n, sNum X s t δ = .inr (nx X t, n) ∧ (if dI δ (tLt X t) < dL δ ∧ (dG δ (dI δ (tLt X t))).2.1 = s then nI (dG δ (dI δ (tLt X t))).2.2 else -1) = nI n ∧ n < 24 ∧ n < pN (dP δ) s ∧ t.2.2 ≠ 1) := by
  unfold sNum
  by_cases z : dI δ (tLt X t) < dL δ ∧ (dG δ (dI δ (tLt X t))).2.1 = s
  · right
    rw [if_pos z, if_pos z]
    refine ⟨_, rfl, rfl, (hd.v z.1).2.1, ?_, nm_1k hd z.1⟩
    have := (hd.1.1 _ z.1).2.2.2.2.2
    rw [z.2] at this; exact this
  · left
    rw [if_neg z, if_neg z]
    exact ⟨rfl, rfl⟩
theorem c_mov (h : CQ X w i0 l0 i l t δ) (hk : t.2.2 = 208) (hc : i (mm_P (!w)) 18 = nI (dC δ)) : CG X w i0 l0 m e (mm_V 9 0 [some (.ref 3), none] [] (mm_Z m w i l e)) (sMov X t δ) := by
  have hp := mP_c (!w)
  have hf := h.full (m := m) (e := e) (s := 5) (x := 5) (by omega) (h.dw.2.1.mx 5 (by omega)) rfl
  have h12 : pN (dP δ) 5 ≤ 12 := h.dw.2.1.2.2.2.2.2.1
  have hz : xz X ≤ 1200 := h.xw.le
  have ht := h.tk.ok.2.2.2.1
  rw [mr_9_0, h.dc.1.1 5 (by omega), hf, mb_l, mb_v, mr_9_18]
  unfold sMov
  by_cases q : pN (dP δ) 5 = 12
  · rw [if_pos q, decide_eq_true (show pN (dP δ) 5 = mMx 5 from q), if_bt]
    exact CG.bad rfl h.cf
  · have no12 : ¬ mm_out (nI (pN (dP δ) 5)) 12 := no_out (by omega) (by omega)
    rw [if_neg q, decide_eq_false (show ¬ pN (dP δ) 5 = mMx 5 from q), if_bf, if_neg no12, nI_clamp (by omega), h.kc.1]
    have h1 : CQ X w i0 l0 (mm_ww i 26 (pN (dP δ) 5) (nI t.1)) l t δ := h.jk (by omega) (uC_mo (by omega))
    have v26 : mm_ww i 26 (pN (dP δ) 5) (nI t.1) 26 (pN (dP δ) 5) = nI t.1 := mw_s
    have vc : mm_ww i 26 (pN (dP δ) 5) (nI t.1) (mm_P (!w)) 18 = nI (dC δ) := by rw [mw_k (by omega), hc]
    generalize mm_ww i 26 (pN (dP δ) 5) (nI t.1) = j1 at h1 v26 vc
    obtain ⟨i1, l1, f1, f2, f3, f4⟩ := h1.adv (m := m) (e := e) (by omega)
    rw [f1, mb_l, mb_0, mr_9_43, f2.num (s := 0) (x := 0) (by omega) rfl, mb_l, mb_v, mr_9_56, if_neg no12, if_neg no12, nI_clamp (by omega), mw_s]
    rcases num_v (X := X) (t := nx X t) (s := 0) h.dw with ⟨s1, s2⟩ | ⟨n1, s1, s2, s3, s4, s5⟩
    · rw [s2, if_pos rfl, s1]
      exact CG.bad rfl (f2.cf.wr (by omega))
    rw [s2, if_neg (na_m1 (by omega)), s1]
    have h2 : CQ X w i0 l0 (mm_ww i1 (mm_P (!w) + 10) (pN (dP δ) 5) (nI n1)) l1 (nx X t) δ := f2.jk (by omega) (uC_mo (by omega))
    have w10 : mm_ww i1 (mm_P (!w) + 10) (pN (dP δ) 5) (nI n1) (mm_P (!w) + 10) (pN (dP δ) 5) = nI n1 := mw_s
    have w26 : mm_ww i1 (mm_P (!w) + 10) (pN (dP δ) 5) (nI n1) 26 (pN (dP δ) 5) = nI t.1 := by rw [mw_k (by omega), f3 _ _ (by omega)]; exact v26
    have wc : mm_ww i1 (mm_P (!w) + 10) (pN (dP δ) 5) (nI n1) (mm_P (!w)) 18 = nI (dC δ) := by rw [mw_k (by omega), f3 _ _ (by omega)]; exact vc
    generalize mm_ww i1 (mm_P (!w) + 10) (pN (dP δ) 5) (nI n1) = j2 at h2 w10 w26 wc
    obtain ⟨i2, l2, g1, g2, g3, g4⟩ := h2.adv (m := m) (e := e) s5
    rw [g1, mb_l, mb_0, mr_9_79, g2.num (s := 0) (x := 0) (by omega) rfl, mb_l, mb_v, mr_9_92, if_neg no12, if_neg no12, nI_clamp (by omega), mw_s]
    show CG X w i0 l0 m e _ (eB (sNum X 0 (nx X (nx X t)) δ) _)
    rcases num_v (X := X) (t := nx X (nx X t)) (s := 0) h.dw with ⟨u1, u2⟩ | ⟨n2, u1, u2, u3, u4, u5⟩
    · rw [u2, if_pos rfl, u1]
      exact CG.bad rfl (g2.cf.wr (by omega))
    rw [u2, if_neg (na_m1 (by omega)), u1]
    have h3 : CQ X w i0 l0 (mm_ww i2 (mm_P (!w) + 11) (pN (dP δ) 5) (nI n2)) l2 (nx X (nx X t)) δ := g2.jk (by omega) (uC_mo (by omega))
    have x11 : mm_ww i2 (mm_P (!w) + 11) (pN (dP δ) 5) (nI n2) (mm_P (!w) + 11) (pN (dP δ) 5) = nI n2 := mw_s
    have x10 : mm_ww i2 (mm_P (!w) + 11) (pN (dP δ) 5) (nI n2) (mm_P (!w) + 10) (pN (dP δ) 5) = nI n1 := by rw [mw_k (by omega), g3 _ _ (by omega)]; exact w10
    have x26 : mm_ww i2 (mm_P (!w) + 11) (pN (dP δ) 5) (nI n2) 26 (pN (dP δ) 5) = nI t.1 := by rw [mw_k (by omega), g3 _ _ (by omega)]; exact w26
    have xc : mm_ww i2 (mm_P (!w) + 11) (pN (dP δ) 5) (nI n2) (mm_P (!w)) 18 = nI (dC δ) := by rw [mw_k (by omega), g3 _ _ (by omega)]; exact wc
    generalize mm_ww i2 (mm_P (!w) + 11) (pN (dP δ) 5) (nI n2) = j3 at h3 x11 x10 x26 xc
    obtain ⟨i3, l3, p1, p2, p3, p4⟩ := h3.adv (m := m) (e := e) u5
    obtain ⟨cv, i4, l4, q1, q2, q3⟩ := c_cls (m := m) (e := e) p2
    rw [p1, mb_l, mb_0, mr_9_115, q1, mb_l, mb_v, mr_9_127, if_neg no12, if_neg no12, nI_clamp (by omega), mw_s]
    show CG X w i0 l0 m e _ (eB (sCol X (nx X (nx X (nx X t)))) (fun r3 => eB (sCls X r3) (fun r4 => eB (sNum X 0 r4.1 δ) (fun r5 => .inr (r5.1, dMo δ t.1 (n1, n2, r4.2, r5.2))))))
    rw [← eB_as]
    cases hcl : eB (sCol X (nx X (nx X (nx X t)))) (fun r3 => sCls X r3) with
    | inl z =>
      rw [hcl] at q3
      rw [q3.1, if_pos rfl]
      exact CG.bad rfl (q3.2.wr (by omega))
    | inr z =>
      rw [hcl] at q3
      obtain ⟨q4, q5, q6⟩ := q3
      rw [q4, if_neg (na_m1 (by omega))]
      have h4 : CQ X w i0 l0 (mm_ww i4 (mm_P (!w) + 12) (pN (dP δ) 5) (nI z.2)) l4 z.1 δ := q6.jk (by omega) (uC_mo (by omega))
      have fr : ∀ k, k = mm_P (!w) + 10 ∨ k = mm_P (!w) + 11 ∨ k = 26 ∨ k = mm_P (!w) → ∀ j, mm_ww i4 (mm_P (!w) + 12) (pN (dP δ) 5) (nI z.2) k j = j3 k j := fun k hk j => by rw [mw_k (by omega), q2 _ _ (by unfold f28; omega), p3 _ _ (by omega)]
      have y12 : mm_ww i4 (mm_P (!w) + 12) (pN (dP δ) 5) (nI z.2) (mm_P (!w) + 12) (pN (dP δ) 5) = nI z.2 := mw_s
      generalize mm_ww i4 (mm_P (!w) + 12) (pN (dP δ) 5) (nI z.2) = j4 at h4 fr y12
      rw [h4.num (s := 0) (x := 0) (by omega) rfl, mb_l, mb_v, mr_9_156, if_neg no12, if_neg no12, nI_clamp (by omega), mw_s]
      show CG X w i0 l0 m e _ (eB (sNum X 0 z.1 δ) (fun r5 => .inr (r5.1, dMo δ t.1 (n1, n2, z.2, r5.2))))
      rcases num_v (X := X) (t := z.1) (s := 0) h.dw with ⟨e1, e2⟩ | ⟨n3, e1, e2, e3, e4, e5⟩
      · rw [e2, if_pos rfl, e1]
        exact CG.bad rfl (h4.cf.wr (by omega))
      rw [e2, if_neg (na_m1 (by omega)), e1]
      have h5 : CQ X w i0 l0 (mm_ww j4 (mm_P (!w) + 13) (pN (dP δ) 5) (nI n3)) l4 z.1 δ := h4.jk (by omega) (uC_mo (by omega))
      have fr2 : ∀ k, k = mm_P (!w) + 10 ∨ k = mm_P (!w) + 11 ∨ k = 26 ∨ k = mm_P (!w) → ∀ j, mm_ww j4 (mm_P (!w) + 13) (pN (dP δ) 5) (nI n3) k j = j3 k j := fun k hk j => by rw [mw_k (by omega), fr k hk]
      have z12 : mm_ww j4 (mm_P (!w) + 13) (pN (dP δ) 5) (nI n3) (mm_P (!w) + 12) (pN (dP δ) 5) = nI z.2 := by rw [mw_k (by omega)]; exact y12
      have z13 : mm_ww j4 (mm_P (!w) + 13) (pN (dP δ) 5) (nI n3) (mm_P (!w) + 13) (pN (dP δ) 5) = nI n3 := mw_s
      generalize mm_ww j4 (mm_P (!w) + 13) (pN (dP δ) 5) (nI n3) = j5 at h5 fr2 z12 z13
      obtain ⟨i6, l6, c1, c2, c3, c4⟩ := h5.adv (m := m) (e := e) e5
      have z1 : i6 (mm_P (!w) + 1) 5 = nI (pN (dP δ) 5) := c2.dc.1.1 5 (by omega)
      have fr3 : ∀ k, k = mm_P (!w) + 10 ∨ k = mm_P (!w) + 11 ∨ k = 26 ∨ k = mm_P (!w) → ∀ j, i6 k j = j3 k j := fun k hk j => by rw [c3 _ _ (by omega), fr2 k hk]
      rw [c1, mb_l, mb_0, mr_9_179, z1, nI_1]
      refine CG.ok rfl (c2.wr (by omega) (c2.dc.mo (a := t.1) (x := (n1, n2, z.2, n3)) ?_ ?_ ?_ ?_ ?_) ?_) ?_
      · rw [fr3 _ (by omega)]; exact x26
      · rw [fr3 _ (by omega)]; exact x10
      · rw [fr3 _ (by omega)]; exact x11
      · rw [c3 _ _ (by omega)]; exact z12
      · rw [c3 _ _ (by omega)]; exact z13
      · exact h.dw.mo (by omega) q s4 u4 (by dsimp only; omega) e4
      · rw [mw_k (by omega), fr3 _ (by omega)]; exact xc
end MM142
