/-! LIMITS AND ALL STATEMENTS in the class -/
section MM148
variable {X : mX} {t : m3} {w p : Bool} {i i' i0 i1 : Nat → Nat → Int32} {l l' l0 l1 : Nat → Nat → Int64} {δ δ' : mQ} {ρ : mP} {m : Nat} {e : Bool × Nat × Nat} {n k s a b c r d : Nat} {x y v : Int32}
theorem CQ.re (h : CQ X w i1 l1 i l t δ) (f : mG (fP w) i0 i1) (g : lG fL l0 l1) : CQ X w i0 l0 i l t δ := ⟨h.1, h.2.1, h.2.2.1, h.2.2.2.1, f.tr h.2.2.2.2.1, g.tr h.2.2.2.2.2⟩
theorem CQ.ro (h : CQ X w i0 l0 i l t δ) : CQ X w i l i l t δ := ⟨h.1, h.2.1, h.2.2.1, h.2.2.2.1, mG.rf, lG.rf⟩
theorem CF.re (h : CF w i1 l1 i l n) (f : mG (fP w) i0 i1) (g : lG fL l0 l1) : CF w i0 l0 i l n := ⟨h.1, f.tr h.2.1, g.tr h.2.2.1, h.2.2.2⟩
/-- the next limit's start -/
theorem DC.ls (h : DC w i l δ) : DC w (mm_ww i (mm_P (!w) + 16) (pN (dP δ) 6) (nI (dC δ))) l δ := by
  by_cases q : pN (dP δ) 6 = 0
  · have hp := mP_c (!w)
    obtain ⟨h1, ⟨h2, h2'⟩, h3, h4, h5⟩ := h
    have far : ∀ k j, k ≠ mm_P (!w) + 16 → mm_ww i (mm_P (!w) + 16) (pN (dP δ) 6) (nI (dC δ)) k j = i k j := fun k j z => by rw [mw_k z]
    exact ⟨h1.ku (fun j => far _ _ (by omega)) (fun j _ => far _ _ (by omega)) (fun j _ => far _ _ (by omega)) (fun k j b1 b2 _ => far _ _ (by omega)) (fun k j b1 b2 _ => far _ _ (by omega)), ⟨fun k hk => by omega, fun z => absurd q z⟩, ⟨by rw [far _ _ (by omega)]; exact h3.1, fun j hj => by rw [far _ _ (by omega)]; exact h3.2 j hj⟩, ⟨fun k hk => by rw [far _ _ (by omega)]; exact h4.1 k hk, fun k hk => by rw [far _ _ (by omega)]; exact h4.2 k hk⟩, fun c hc => by rw [far _ _ (by omega)]; exact h5 c hc⟩
  · have e1 : nI (dC δ) = i (mm_P (!w) + 16) (pN (dP δ) 6) := (h.2.1.2 q).symm
    rw [e1, ww_id]
    exact h
/-- a limit more -/
theorem DC.li (h : DC w i l δ) {x : Nat × Int32 × List mO} (h1 : i (mm_P (!w) + 14) (pN (dP δ) 6) = nI x.1) (h2 : i (mm_P (!w) + 15) (pN (dP δ) 6) = x.2.1) (h3 : i (mm_P (!w) + 16) (pN (dP δ) 6) = nI (dC δ)) (h4 : cSeg (!w) i (dC δ) (oCs x.2.2)) : DC w (mm_ww (mm_ww i (mm_P (!w) + 16) (pN (dP δ) 6 + 1) (nI (dC δ + (oCs x.2.2).length))) (mm_P (!w) + 1) 6 (nI (pN (dP δ) 6 + 1))) l (dLi δ x) := by
  have hp := mP_c (!w)
  obtain ⟨⟨a1, a2, a3, a4, a5⟩, b2, b3, b4, b5⟩ := h
  have ep : ∀ j, pN (dP (dLi δ x)) j = if j = 6 then pN (dP δ) 6 + 1 else pN (dP δ) j := fun j => up_if
  have ec : dC (dLi δ x) = dC δ + (oCs x.2.2).length := rfl
  have far : ∀ k j, k ≠ mm_P (!w) + 1 → k ≠ mm_P (!w) + 16 → mm_ww (mm_ww i (mm_P (!w) + 16) (pN (dP δ) 6 + 1) (nI (dC δ + (oCs x.2.2).length))) (mm_P (!w) + 1) 6 (nI (pN (dP δ) 6 + 1)) k j = i k j := fun k j z1 z2 => by rw [mw_k z1, mw_k z2]
  have f16 : ∀ j, j ≠ pN (dP δ) 6 + 1 → mm_ww (mm_ww i (mm_P (!w) + 16) (pN (dP δ) 6 + 1) (nI (dC δ + (oCs x.2.2).length))) (mm_P (!w) + 1) 6 (nI (pN (dP δ) 6 + 1)) (mm_P (!w) + 16) j = i (mm_P (!w) + 16) j := fun j z => by rw [mw_k (by omega), mw_j z]
  have g16 : mm_ww (mm_ww i (mm_P (!w) + 16) (pN (dP δ) 6 + 1) (nI (dC δ + (oCs x.2.2).length))) (mm_P (!w) + 1) 6 (nI (pN (dP δ) 6 + 1)) (mm_P (!w) + 16) (pN (dP δ) 6 + 1) = nI (dC δ + (oCs x.2.2).length) := by rw [mw_k (by omega), mw_s]
  refine ⟨⟨fun j hj => ?_, fun u hu => ?_, fun u hu => ?_, fun k hk => ?_, fun k hk => ?_⟩, ⟨fun k hk => ?_, fun _ => ?_⟩, ⟨?_, fun j hj => ?_⟩, ⟨fun k hk => ?_, fun k hk => ?_⟩, fun c hc => ?_⟩
  · rw [ep]
    by_cases z : j = 6
    · subst z; rw [mw_s, if_pos rfl]
    · rw [mw_j z, mw_k (by omega), if_neg z]; exact a1 j hj
  · rw [far _ _ (by omega) (by omega)]; exact a2 u hu
  · rw [far _ _ (by omega) (by omega)]; exact a3 u hu
  · rw [far _ _ (by omega) (by omega), far _ _ (by omega) (by omega), far _ _ (by omega) (by omega), far _ _ (by omega) (by omega), far _ _ (by omega) (by omega)]; exact a4 k hk
  · rw [far _ _ (by omega) (by omega), far _ _ (by omega) (by omega), far _ _ (by omega) (by omega), far _ _ (by omega) (by omega)]; exact a5 k hk
  · have el : pT (dP (dLi δ x)) k = if k = pN (dP δ) 6 then x else pT (dP δ) k := up_if
    rw [ep, if_pos rfl] at hk
    rw [far _ _ (by omega) (by omega), far _ _ (by omega) (by omega), el, ec]
    by_cases z : k = pN (dP δ) 6
    · subst z
      rw [if_pos rfl]
      exact ⟨h1, h2, dC δ, by rw [f16 _ (by omega)]; exact h3, g16, Nat.le_refl _, h4.ku (fun k j c1 c2 _ => far k j (by omega) (by omega))⟩
    · rw [if_neg z]
      obtain ⟨d1, d2, s, d3, d4, d5, d6⟩ := b2.1 k (by omega)
      exact ⟨d1, d2, s, by rw [f16 _ (by omega)]; exact d3, by rw [f16 _ (by omega)]; exact d4, by omega, d6.ku (fun k j c1 c2 _ => far k j (by omega) (by omega))⟩
  · rw [ep, if_pos rfl, g16, ec]
  · rw [far _ _ (by omega) (by omega)]; exact b3.1
  · rw [far _ _ (by omega) (by omega)]; exact b3.2 j hj
  · rw [far _ _ (by omega) (by omega)]; exact b4.1 k hk
  · rw [far _ _ (by omega) (by omega)]; exact b4.2 k hk
  · rw [far _ _ (by omega) (by omega)]; exact b5 c hc
theorem uC_li {kk : Nat} (hk : mm_P (!w) + 14 ≤ kk ∧ kk ≤ mm_P (!w) + 15) : ¬ uC w δ kk (pN (dP δ) 6) := by
  have hp := mP_c (!w)
  intro z
  rcases z with z | z | z | z | z | z | z | z | z | z | z | z | z <;> omega
/-- a statement, with where its codes end -/
def CG2 (X : mX) (w : Bool) (i0 : Nat → Nat → Int32) (l0 : Nat → Nat → Int64) (m : Nat) (e : Bool × Nat × Nat) (V : Option mm_R) (r : mE (m3 × mQ)) : Prop := ∃ x i' l', V = some (.inl (some (.int x)), mm_Z m w i' l' e) ∧ (match r with
  | .inl p => x = 0 ∧ CF w i0 l0 i' l' p
  | .inr q => x = 1 ∧ CQ X w i0 l0 i' l' q.1 q.2 ∧ i' (mm_P (!w)) 18 = nI (dC q.2) ∧ dC q.2 ≤ q.1.1)
theorem c_lim (h : CQ X w i0 l0 i l t δ) (hk : t.2.2 = 209) (hc : i (mm_P (!w)) 18 = nI (dC δ)) (hpos : dC δ ≤ t.1) : CG2 X w i0 l0 m e (mm_V 10 0 [some (.ref 3), none, none, none] [] (mm_Z m w i l e)) (sLim X t δ) := by
  have hp := mP_c (!w)
  have hf := h.full (m := m) (e := e) (s := 6) (x := 6) (by omega) (h.dw.2.1.mx 6 (by omega)) rfl
  have h8 : pN (dP δ) 6 ≤ 8 := h.dw.2.1.2.2.2.2.2.2
  rw [mr_10_0, h.dc.1.1 6 (by omega), hf, mb_l, mb_v, mr_10_20]
  unfold sLim
  by_cases q : pN (dP δ) 6 = 8
  · rw [if_pos q, decide_eq_true (show pN (dP δ) 6 = mMx 6 from q), if_bt]
    exact ⟨0, i, l, rfl, rfl, h.cf⟩
  · obtain ⟨i1, l1, f1, f2, f3, f4⟩ := h.adv (m := m) (e := e) (by omega)
    have hd := f2.tk.kd f2.xw
    have gt1 := h.tk.gt (by omega) (by omega)
    rw [if_neg q, decide_eq_false (show ¬ pN (dP δ) 6 = mMx 6 from q), if_bf, f1, mb_l, mb_0, mr_10_32, f2.k3, mr_164_0]
    unfold sCls
    have k1 : ∀ v, v < 244 → ((nI v - 220 < 0) ↔ v < 220) := by decide +kernel
    have k2 : ∀ v, v < 244 → ((nI v - 220 < 5) ↔ v < 225) := by decide +kernel
    by_cases q1 : (nx X t).2.2 < 220
    · rw [if_pos ((k1 _ hd).mpr q1), mb_l, mb_v, mr_10_48, if_pos rfl, if_neg (by omega)]
      exact ⟨0, i1, l1, rfl, rfl, f2.cf⟩
    rw [if_neg (fun z => q1 ((k1 _ hd).mp z))]
    by_cases q2 : (nx X t).2.2 < 225
    · obtain ⟨i2, l2, g1, g2, g3, g4⟩ := f2.adv (m := m) (e := e) (by omega)
      have gt2 := f2.tk.gt (by omega) (by omega)
      have no8 : ¬ mm_out (nI (pN (dP δ) 6)) 8 := no_out (by omega) (by omega)
      have no9 : ¬ mm_out (nI (pN (dP δ) 6)) 9 := no_out (by omega) (by omega)
      have ek : nI (nx X t).2.2 - 220 = nI ((nx X t).2.2 - 220) := by rw [show (220 : Int32) = nI 220 by decide, na_sub (by omega)]
      rw [if_pos ((k2 _ hd).mpr q2), mb_l, mb_v, mr_10_48, if_neg (by decide), g1, mb_l, mb_0, mr_10_60, if_neg no8, nI_clamp (by omega), ek, if_pos ⟨by omega, by omega⟩, eB_r]
      dsimp only
      have h3 : CQ X w i0 l0 (mm_ww i2 (mm_P (!w) + 14) (pN (dP δ) 6) (nI ((nx X t).2.2 - 220))) l2 (nx X (nx X t)) δ := g2.jk (by omega) (uC_li (by omega))
      have v14 : mm_ww i2 (mm_P (!w) + 14) (pN (dP δ) 6) (nI ((nx X t).2.2 - 220)) (mm_P (!w) + 14) (pN (dP δ) 6) = nI ((nx X t).2.2 - 220) := mw_s
      have vc : mm_ww i2 (mm_P (!w) + 14) (pN (dP δ) 6) (nI ((nx X t).2.2 - 220)) (mm_P (!w)) 18 = nI (dC δ) := by rw [mw_k (by omega), g3 _ _ (by omega), f3 _ _ (by omega)]; exact hc
      generalize mm_ww i2 (mm_P (!w) + 14) (pN (dP δ) 6) (nI ((nx X t).2.2 - 220)) = j1 at h3 v14 vc
      obtain ⟨pv, i5, l5, r1, r2⟩ := c_prm (m := m) (e := e) (c := (nx X t).2.2 - 220) h3 (by omega)
      rw [r1, mb_l, mb_v, mr_10_83, if_neg no8, if_neg no8, if_neg no9]
      simp only [nI_clamp (show pN (dP δ) 6 < 2 ^ 31 by omega), mw_s]
      cases hpr : sPrm X ((nx X t).2.2 - 220) (nx X (nx X t)) with
      | inl u =>
        rw [hpr] at r2
        obtain ⟨r3, r4, -⟩ := r2
        rw [r3, if_pos rfl]
        exact ⟨0, _, _, rfl, rfl, r4.wr (by omega)⟩
      | inr u =>
        obtain ⟨t5, pb⟩ := u
        have mo5 := (mo_prm (by omega) h3.tk hpr).2
        dsimp only at mo5
        rw [hpr] at r2
        obtain ⟨r3, r4, r5, r6, r7⟩ := r2
        have r3 : pv = nI pb := r3
        have r4 : pb ≠ 0 := r4
        have r5 : pb < 2 ^ 24 := r5
        have r6 : CQ X w i0 l0 i5 l5 t5 δ := r6
        have hc5 : i5 (mm_P (!w)) 18 = nI (dC δ) := by rw [r7 _ _ (by unfold f28; omega)]; exact vc
        rw [r3, if_neg (fun y => r4 ((nz_eq (by omega)).mp y)), hc5, mr_19_0, eB_r]
        dsimp only
        have h5 : CQ X w i0 l0 (mm_ww i5 (mm_P (!w) + 15) (pN (dP δ) 6) (nI pb)) l5 t5 δ := r6.jk (by omega) (uC_li (by omega))
        have h6 : CQ X w i0 l0 (mm_ww (mm_ww i5 (mm_P (!w) + 15) (pN (dP δ) 6) (nI pb)) (mm_P (!w) + 16) (pN (dP δ) 6) (nI (dC δ))) l5 t5 δ := h5.wr (by omega) h5.dc.ls h5.dw
        have h7 : CQ X w i0 l0 (mm_ww (mm_ww (mm_ww (mm_ww i5 (mm_P (!w) + 15) (pN (dP δ) 6) (nI pb)) (mm_P (!w) + 16) (pN (dP δ) 6) (nI (dC δ))) 3 8 0) 3 9 0) l5 t5 δ := (h6.own (by omega)).own (by omega)
        have w14 : mm_ww (mm_ww (mm_ww (mm_ww i5 (mm_P (!w) + 15) (pN (dP δ) 6) (nI pb)) (mm_P (!w) + 16) (pN (dP δ) 6) (nI (dC δ))) 3 8 0) 3 9 0 (mm_P (!w) + 14) (pN (dP δ) 6) = nI ((nx X t).2.2 - 220) := by rw [mw_k (by omega), mw_k (by omega), mw_k (by omega), mw_k (by omega), r7 _ _ (by unfold f28; omega)]; exact v14
        have w15 : mm_ww (mm_ww (mm_ww (mm_ww i5 (mm_P (!w) + 15) (pN (dP δ) 6) (nI pb)) (mm_P (!w) + 16) (pN (dP δ) 6) (nI (dC δ))) 3 8 0) 3 9 0 (mm_P (!w) + 15) (pN (dP δ) 6) = nI pb := by rw [mw_k (by omega), mw_k (by omega), mw_k (by omega), mw_s]
        have w16 : mm_ww (mm_ww (mm_ww (mm_ww i5 (mm_P (!w) + 15) (pN (dP δ) 6) (nI pb)) (mm_P (!w) + 16) (pN (dP δ) 6) (nI (dC δ))) 3 8 0) 3 9 0 (mm_P (!w) + 16) (pN (dP δ) 6) = nI (dC δ) := by rw [mw_k (by omega), mw_k (by omega), mw_s]
        have w38 : mm_ww (mm_ww (mm_ww (mm_ww i5 (mm_P (!w) + 15) (pN (dP δ) 6) (nI pb)) (mm_P (!w) + 16) (pN (dP δ) 6) (nI (dC δ))) 3 8 0) 3 9 0 3 8 = 0 := by rw [mw_j (by omega), mw_s]
        have w39 : mm_ww (mm_ww (mm_ww (mm_ww i5 (mm_P (!w) + 15) (pN (dP δ) 6) (nI pb)) (mm_P (!w) + 16) (pN (dP δ) 6) (nI (dC δ))) 3 8 0) 3 9 0 3 9 = 0 := mw_s
        have wP : mm_ww (mm_ww (mm_ww (mm_ww i5 (mm_P (!w) + 15) (pN (dP δ) 6) (nI pb)) (mm_P (!w) + 16) (pN (dP δ) 6) (nI (dC δ))) 3 8 0) 3 9 0 (mm_P (!w)) 18 = nI (dC δ) := by rw [mw_k (by omega), mw_k (by omega), mw_k (by omega), mw_k (by omega)]; exact hc5
        generalize mm_ww (mm_ww (mm_ww (mm_ww i5 (mm_P (!w) + 15) (pN (dP δ) 6) (nI pb)) (mm_P (!w) + 16) (pN (dP δ) 6) (nI (dC δ))) 3 8 0) 3 9 0 = j7 at h7 w14 w15 w16 w38 w39 wP
        have f07 : mG (fP w) i0 j7 := h7.2.2.2.2.1
        have g07 : lG fL l0 l5 := h7.2.2.2.2.2
        have hN : CN X w j7 l5 j7 l5 t5 δ [] (oCs []) := ⟨h7.ro, ⟨w38, fun k hk => absurd hk (Nat.not_lt_zero k), w39⟩, ⟨wP, fun j c hj => by cases hj⟩, trivial, Nat.zero_le _, by show dC δ + 0 + 0 ≤ t5.1; omega, fun _ _ _ _ => rfl⟩
        obtain ⟨x, i8, l8, s1, s2⟩ := c_con (m := m) (e := e) 1200 0 t5 [] [] j7 l5 none hN rfl
        have s1 : mm_V 19 12 [some (.ref 3), some (.int 0), none] [] (mm_Z m w j7 l5 e) = some (.inl (some (.int x)), mm_Z m w i8 l8 e) := s1
        have s2 : (match sCon X δ 1200 t5 ([], [], 0) with
          | .inl p => x = 0 ∧ CF w j7 l5 i8 l8 p
          | .inr q => x = 1 ∧ CN X w j7 l5 i8 l8 q.1 δ [] (oCs q.2)) := s2
        have no9' : ¬ mm_out (nI (pN (dP δ) 6 + 1)) 9 := no_out (by omega) (by omega)
        rw [s1, mb_l, mb_v, mr_10_118, nI_1, if_neg no9', nI_clamp (by omega)]
        cases hcn : sCon X δ 1200 t5 ([], [], 0) with
        | inl u =>
          rw [hcn] at s2
          rw [s2.1, if_pos (Or.inl rfl)]
          exact ⟨0, _, _, rfl, rfl, (((s2.2.re f07 g07).wr (by omega)).wr (by omega))⟩
        | inr u =>
          obtain ⟨t9, O9⟩ := u
          have hio := IC.co h.dw 1200 t5 ([], [], 0) ⟨trivial, rfl, Nat.zero_le _, rfl, fun o ho => by cases ho⟩ _ hcn
          rw [hcn] at s2
          obtain ⟨s3, s4⟩ := s2
          have s4 : CN X w j7 l5 i8 l8 t9 δ [] (oCs O9) := s4
          obtain ⟨a1, -, ⟨a5, a6⟩, -, -, a9, aF⟩ := s4
          have z6 : i8 (mm_P (!w) + 1) 6 = nI (pN (dP δ) 6) := a1.dc.1.1 6 (by omega)
          have b1 : CQ X w i0 l0 i8 l8 t9 δ := a1.re f07 g07
          have dd := b1.dc.li (x := ((nx X t).2.2 - 220, nI pb, O9)) (by rw [aF _ _ (by omega) (by omega)]; exact w14) (by rw [aF _ _ (by omega) (by omega)]; exact w15) (by rw [aF _ _ (by omega) (by omega)]; exact w16) a6
          have dw := h.dw.li q (x := ((nx X t).2.2 - 220, nI pb, O9)) (by dsimp only; omega) hio.1 hio.2
          rw [s3, if_pos (Or.inr rfl), z6, nI_1, a5, eB_r]
          have fin : CQ X w i0 l0 (mm_ww (mm_ww i8 (mm_P (!w) + 16) (pN (dP δ) 6 + 1) (nI (dC δ + (oCs O9).length))) (mm_P (!w) + 1) 6 (nI (pN (dP δ) 6 + 1))) l8 t9 (dLi δ ((nx X t).2.2 - 220, nI pb, O9)) := by
            have f9 : mG (fP w) i8 (mm_ww (mm_ww i8 (mm_P (!w) + 16) (pN (dP δ) 6 + 1) (nI (dC δ + (oCs O9).length))) (mm_P (!w) + 1) 6 (nI (pN (dP δ) 6 + 1))) := (mG.ww (by unfold fP; omega)).tr (mG.ww (by unfold fP; omega))
            obtain ⟨c1, c2, c3, c4⟩ := b1.kc
            have s28 : ∀ j, mm_ww (mm_ww i8 (mm_P (!w) + 16) (pN (dP δ) 6 + 1) (nI (dC δ + (oCs O9).length))) (mm_P (!w) + 1) 6 (nI (pN (dP δ) 6 + 1)) 28 j = i8 28 j := fun j => by rw [mw_k (by omega), mw_k (by omega)]
            exact ⟨⟨b1.1.1.fr f9, b1.xw, b1.tk, by rw [s28]; exact c1, fun z => by rw [s28]; exact c2 z, by rw [s28]; exact c3, c4⟩, dd, dw, b1.2.2.2.1.fr f9, b1.2.2.2.2.1.tr f9, b1.2.2.2.2.2⟩
          refine ⟨1, _, _, rfl, rfl, fin, ?_, ?_⟩
          · rw [mw_k (by omega), mw_k (by omega), a5]; rfl
          · show dC δ + (oCs O9).length ≤ t9.1
            have : dC δ + (oCs O9).length + 0 ≤ t9.1 := a9
            omega
    · rw [if_neg (fun z => q2 ((k2 _ hd).mp z)), mb_l, mb_v, mr_10_48, if_pos rfl, if_neg (by omega)]
      exact ⟨0, i1, l1, rfl, rfl, f2.cf⟩
theorem CG.two {V : Option mm_R} {r : mE (m3 × mQ)} (h : CG X w i0 l0 m e V r) (hm : ∀ q, r = .inr q → dC q.2 ≤ q.1.1) : CG2 X w i0 l0 m e V r := by
  obtain ⟨x, i', l', h1, h2⟩ := h
  refine ⟨x, i', l', h1, ?_⟩
  cases r with
  | inl p => exact h2
  | inr q => exact ⟨h2.1, h2.2.1, h2.2.2, hm q rfl⟩
end MM148
