/-! ROLES, USERS, SIDES, CLASSES, PERMISSIONS in the class -/
section MM140
variable {X : mX} {t : m3} {w p : Bool} {i i' i0 : Nat → Nat → Int32} {l l' l0 : Nat → Nat → Int64} {δ δ' : mQ} {ρ : mP} {m : Nat} {e : Bool × Nat × Nat} {n k s a b c : Nat} {L : List Nat} {x y v : Int32}
theorem DC.sr (h : DC w i l (dSp δ (pSr ρ k v))) : DC w (mm_ww i (mm_P (!w) + 3) k y) l (dSp δ (pSr ρ k y)) := by
  have hp := mP_c (!w)
  obtain ⟨⟨a1, a2, a3, a4, a5⟩, h2, h3, h4, h5⟩ := h
  refine ⟨⟨fun j hj => by rw [mw_k (by omega)]; exact a1 j hj, fun j hj => by rw [mw_k (by omega)]; exact a2 j hj, fun r hr => ?_, fun j hj => by rw [mw_k (by omega), mw_k (by omega), mw_k (by omega), mw_k (by omega), mw_k (by omega)]; exact a4 j hj, fun j hj => by rw [mw_k (by omega), mw_k (by omega), mw_k (by omega), mw_k (by omega)]; exact a5 j hj⟩, h2.ku (fun k j b1 b2 _ => by rw [mw_k (by omega)]) (fun j _ => by rw [mw_k (by omega)]) (fun k j b1 b2 _ => by rw [mw_k (by omega)]), ⟨by rw [mw_k (by omega)]; exact h3.1, fun j hj => by rw [mw_k (by omega)]; exact h3.2 j hj⟩, ⟨fun k hk => by rw [mw_k (by omega)]; exact h4.1 k hk, fun k hk => by rw [mw_k (by omega)]; exact h4.2 k hk⟩, fun c hc => by rw [mw_k (by omega)]; exact h5 c hc⟩
  have hr' : i (mm_P (!w) + 3) r = va_up (pR ρ) k v r := a3 r hr
  show _ = va_up (pR ρ) k y r
  rw [up_if] at hr' ⊢
  by_cases z : r = k
  · subst z; rw [mw_s, if_pos rfl]
  · rw [if_neg z] at hr' ⊢; rw [mw_j z]; exact hr'
theorem DC.su (h : DC w i l (dSp δ (pSu ρ k v))) : DC w (mm_ww i (mm_P (!w) + 4) k y) l (dSp δ (pSu ρ k y)) := by
  have hp := mP_c (!w)
  obtain ⟨⟨a1, a2, a3, a4, a5⟩, h2, h3, h4, h5⟩ := h
  refine ⟨⟨fun j hj => by rw [mw_k (by omega)]; exact a1 j hj, fun r hr => ?_, fun j hj => by rw [mw_k (by omega)]; exact a3 j hj, fun j hj => by rw [mw_k (by omega), mw_k (by omega), mw_k (by omega), mw_k (by omega), mw_k (by omega)]; exact a4 j hj, fun j hj => by rw [mw_k (by omega), mw_k (by omega), mw_k (by omega), mw_k (by omega)]; exact a5 j hj⟩, h2.ku (fun k j b1 b2 _ => by rw [mw_k (by omega)]) (fun j _ => by rw [mw_k (by omega)]) (fun k j b1 b2 _ => by rw [mw_k (by omega)]), ⟨by rw [mw_k (by omega)]; exact h3.1, fun j hj => by rw [mw_k (by omega)]; exact h3.2 j hj⟩, ⟨fun k hk => by rw [mw_k (by omega)]; exact h4.1 k hk, fun k hk => by rw [mw_k (by omega)]; exact h4.2 k hk⟩, fun c hc => by rw [mw_k (by omega)]; exact h5 c hc⟩
  have hr' : i (mm_P (!w) + 4) r = va_up (pU ρ) k v r := a2 r hr
  show _ = va_up (pU ρ) k y r
  rw [up_if] at hr' ⊢
  by_cases z : r = k
  · subst z; rw [mw_s, if_pos rfl]
  · rw [if_neg z] at hr' ⊢; rw [mw_j z]; exact hr'
/-- a fault stays where it is -/
theorem CF.wr (h : CF w i0 l0 i l n) {kk j : Nat} {v : Int32} (hk : mm_P (!w) ≤ kk ∧ kk ≤ mm_P (!w) + 18 ∨ kk = 25 ∨ kk = 26) : CF w i0 l0 (mm_ww i kk j v) l n := by
  have hp := mP_c (!w)
  exact ⟨by rw [mw_k (by omega)]; exact h.1, h.2.1.tr (mG.ww (by unfold fP; omega)), h.2.2⟩
theorem c_rol (h : CQ X w i0 l0 i l t δ) (hk : t.2.2 = 202) (hc : i (mm_P (!w)) 18 = nI (dC δ)) : CG X w i0 l0 m e (mm_V 6 0 [some (.ref 3), none] [] (mm_Z m w i l e)) (sRol X t δ) := by
  have hp := mP_c (!w)
  have hf := h.full (m := m) (e := e) (s := 2) (x := 2) (by omega) (h.dw.2.1.mx 2 (by omega)) rfl
  have h6 : pN (dP δ) 2 ≤ 6 := h.dw.2.1.2.2.1
  rw [mr_6_0, h.dc.1.1 2 (by omega), hf, mb_l, mb_v, mr_6_18]
  unfold sRol
  by_cases q : pN (dP δ) 2 = 6
  · rw [if_pos q, decide_eq_true (show pN (dP δ) 2 = mMx 2 from q), if_bt]
    exact CG.bad rfl h.cf
  · obtain ⟨i1, l1, f1, f2, f3, f4⟩ := h.adv (m := m) (e := e) (by omega)
    rw [if_neg q, decide_eq_false (show ¬ pN (dP δ) 2 = mMx 2 from q), if_bf, f1, mb_l, mb_0, mr_6_30]
    unfold sDec
    rcases f2.dec (m := m) (e := e) (s := 2) (x1 := 200) (x2 := 2) (by omega) q rfl rfl with ⟨d1, d2, i2, l2, v, g1, g2, g3⟩ | ⟨d1, g1⟩
    · rw [g1, mb_l, mb_v, mr_6_38, if_neg (by decide), if_pos ⟨d1, d2⟩]
      obtain ⟨x, i3, l3, b1, b2⟩ := c_brc (m := m) (e := e) g2 (s := 0) (x1 := 0) (by omega) rfl
      rw [sBrc_cg dJ_n] at b2
      rw [b1, mb_l, mb_v, mr_6_56, if_neg (no_out (by omega) (by omega)), if_neg (no_out (by omega) (by omega)), nI_clamp (by omega), mw_s]
      show CG X w i0 l0 m e _ (eB (sBrc X 0 (nx X (nx X t)) (dAd δ (tLt X (nx X t)) 2)) _)
      cases hb : sBrc X 0 (nx X (nx X t)) (dAd δ (tLt X (nx X t)) 2) with
      | inl z =>
        rw [hb] at b2
        obtain ⟨b3, b4, -⟩ := b2
        rw [b3, if_pos rfl]
        exact CG.bad rfl (b4.wr (by omega))
      | inr z =>
        rw [hb] at b2
        obtain ⟨b3, b4, b5, b6, b7⟩ := b2
        rw [b3, if_neg (fun y => b4 ((nz_eq (by omega)).mp y))]
        have c1 : DC w i3 l3 (dSp (dAd δ (tLt X (nx X t)) 2) (pSr (dP (dAd δ (tLt X (nx X t)) 2)) (pN (dP δ) 2) v)) := b6.dc
        refine CG.ok rfl (b6.wr (by omega) (c1.sr (y := nI z.2)) ?_) ?_
        · have : DW (dSp (dAd δ (tLt X (nx X t)) 2) (pSr (dP (dAd δ (tLt X (nx X t)) 2)) (pN (dP δ) 2) v)) := b6.dw
          exact this
        · rw [mw_k (by omega), fr_P b7, g3, fr_P f3, hc]; rfl
    · rw [g1, mb_l, mb_v, mr_6_38, if_pos rfl, if_neg d1]
      exact CG.bad rfl f2.cf
theorem c_use (h : CQ X w i0 l0 i l t δ) (hk : t.2.2 = 203) (hc : i (mm_P (!w)) 18 = nI (dC δ)) : CG X w i0 l0 m e (mm_V 7 0 [some (.ref 3), none] [] (mm_Z m w i l e)) (sUse X t δ) := by
  have hp := mP_c (!w)
  have hf := h.full (m := m) (e := e) (s := 3) (x := 3) (by omega) (h.dw.2.1.mx 3 (by omega)) rfl
  have h6 : pN (dP δ) 3 ≤ 4 := h.dw.2.1.2.2.2.1
  rw [mr_7_0, h.dc.1.1 3 (by omega), hf, mb_l, mb_v, mr_7_18]
  unfold sUse
  by_cases q : pN (dP δ) 3 = 4
  · rw [if_pos q, decide_eq_true (show pN (dP δ) 3 = mMx 3 from q), if_bt]
    exact CG.bad rfl h.cf
  · obtain ⟨i1, l1, f1, f2, f3, f4⟩ := h.adv (m := m) (e := e) (by omega)
    rw [if_neg q, decide_eq_false (show ¬ pN (dP δ) 3 = mMx 3 from q), if_bf, f1, mb_l, mb_0, mr_7_30]
    unfold sDec
    rcases f2.dec (m := m) (e := e) (s := 3) (x1 := 300) (x2 := 3) (by omega) q rfl rfl with ⟨d1, d2, i2, l2, v, g1, g2, g3⟩ | ⟨d1, g1⟩
    · rw [g1, mb_l, mb_v, mr_7_38, if_neg (by decide), if_pos ⟨d1, d2⟩]
      obtain ⟨x, i3, l3, b1, b2⟩ := c_brc (m := m) (e := e) g2 (s := 2) (x1 := 200) (by omega) rfl
      rw [sBrc_cg dJ_n] at b2
      rw [b1, mb_l, mb_v, mr_7_58, if_neg (no_out (by omega) (by omega)), if_neg (no_out (by omega) (by omega)), nI_clamp (by omega), mw_s]
      show CG X w i0 l0 m e _ (eB (sBrc X 2 (nx X (nx X t)) (dAd δ (tLt X (nx X t)) 3)) _)
      cases hb : sBrc X 2 (nx X (nx X t)) (dAd δ (tLt X (nx X t)) 3) with
      | inl z =>
        rw [hb] at b2
        obtain ⟨b3, b4, -⟩ := b2
        rw [b3, if_pos rfl]
        exact CG.bad rfl (b4.wr (by omega))
      | inr z =>
        rw [hb] at b2
        obtain ⟨b3, b4, b5, b6, b7⟩ := b2
        rw [b3, if_neg (fun y => b4 ((nz_eq (by omega)).mp y))]
        have c1 : DC w i3 l3 (dSp (dAd δ (tLt X (nx X t)) 3) (pSu (dP (dAd δ (tLt X (nx X t)) 3)) (pN (dP δ) 3) v)) := b6.dc
        refine CG.ok rfl (b6.wr (by omega) (c1.su (y := nI z.2)) ?_) ?_
        · have : DW (dSp (dAd δ (tLt X (nx X t)) 3) (pSu (dP (dAd δ (tLt X (nx X t)) 3)) (pN (dP δ) 3) v)) := b6.dw
          exact this
        · rw [mw_k (by omega), fr_P b7, g3, fr_P f3, hc]; rfl
    · rw [g1, mb_l, mb_v, mr_7_38, if_pos rfl, if_neg d1]
      exact CG.bad rfl f2.cf
/-- the words of permissions -/
theorem pWt_s : ∀ c, c < 5 → mm_sx mm_stb (1000100 + c) = some (pWt c) ∧ (pWt c).length < 1000 ∧ wOk (pWt c) 0 = true ∧ wGb (wds (pWt c) []) = true ∧ (pWs c).length ≤ 10 ∧ (pWs c).length ≠ 0 ∧ 2 ^ (pWs c).length - 1 = mAp c := by decide +kernel
theorem c_pw (hc : c < 5) : ∃ z, mm_V 18 0 [some (.int (nI c))] [] (mm_Z m w i l e) = some (.inl (some (.ref z)), mm_Z m w i l e) ∧ mm_sx mm_stb z = some (pWt c) := by
  have h := (pWt_s c hc).1
  rcases (show c = 0 ∨ c = 1 ∨ c = 2 ∨ c = 3 ∨ c = 4 by omega) with z | z | z | z | z <;> subst z
  · exact ⟨1000100, by rw [mr_18_0]; rfl, h⟩
  · exact ⟨1000101, by rw [mr_18_0]; rfl, h⟩
  · exact ⟨1000102, by rw [mr_18_0]; rfl, h⟩
  · exact ⟨1000103, by rw [mr_18_0]; rfl, h⟩
  · exact ⟨1000104, by rw [mr_18_0]; rfl, h⟩
/-- no word is no permission -/
theorem pWs_n : ∀ c, c < 5 → wI (pWs c) [] = (pWs c).length := by decide +kernel
theorem c_pes (hc : c < 5) {sg : Bool} : ∀ (D k : Nat) (t : m3) (b : Nat) (i : Nat → Nat → Int32) (l : Nat → Nat → Int64) (u5 : Option Value), CQ X w i0 l0 i l t δ → b < 2 ^ 24 → k + D = 1200 → (sg = true → b = 0 ∧ 2 ≤ D) → CI X w i0 l0 m e δ i (mm_V 17 41 [some (.ref 3), some (.int (nI c)), some (.int (bI sg)), some (.int (nI b)), some (.int (nI k)), u5] [] (mm_Z m w i l e)) (if sg = true then eB (sPer X c t) (fun r => .inr (r.1, 2 ^ r.2)) else sPes X c D t b)
  | 0, k, t, b, i, l, u5, h, hb, hk, hg => by
    cases sg with
    | true => have := (hg rfl).2; omega
    | false =>
      rw [mr_17_41, na_1200, if_neg (fun z => by have := (nI_ltI (by omega) (by omega)).mp z; omega), if_neg (by decide)]
      exact CI.bad rfl h.cf
  | D + 1, k, t, b, i, l, u5, h, hb, hk, hg => by
    obtain ⟨w1, w2, w3, w4, w5, w6, w7⟩ := pWt_s c hc
    obtain ⟨s, p1, p2⟩ := c_pw (m := m) (w := w) (i := i) (l := l) (e := e) hc
    obtain ⟨g1, g2, g3⟩ := h.tk.lt h.xw
    have t71 : CI X w i0 l0 m e δ i (mm_V 17 71 [some (.ref 3), some (.int (nI c)), some (.int (bI sg)), some (.int (nI b)), some (.int (nI k)), u5] [] (mm_Z m w i l e)) (if sg = true then eB (sPer X c t) (fun r => .inr (r.1, 2 ^ r.2)) else eB (sPer X c t) (fun r => sPes X c D r.1 (b ||| 2 ^ r.2))) := by
      rw [mr_17_71, p1, mb_l, mb_v, mr_17_75, h.kc.2.2.2, xc_word p2 w2 w3 w4 g1 g2, mb_l, mb_v, mr_17_85]
      unfold sPer
      have ew : wds (pWt c) [] = pWs c := rfl
      rw [ew]
      by_cases z : wI (pWs c) (tLt X t) < (pWs c).length
      · have kn : t.2.2 ≠ 1 := by
          intro y1
          have : tLt X t = [] := tLt_no (by omega)
          rw [this, pWs_n c hc] at z
          omega
        obtain ⟨i1, l1, f1, f2, f3, f4⟩ := h.adv (m := m) (e := e) kn
        rw [if_pos z, if_neg (na_m1 (by omega)), f1, mb_l, mb_0, mr_17_109, or_bit (by omega) (by omega), nI_1, if_pos z]
        cases sg with
        | true =>
          obtain ⟨q1, q2⟩ := hg rfl
          subst q1
          rw [if_pos rfl, Nat.zero_or, mr_17_41, na_1200, if_pos ((nI_ltI (by omega) (by omega)).mpr (by omega)), if_neg (fun y => by
            have h1 : 2 ^ wI (pWs c) (tLt X t) < 2 ^ 24 := Nat.pow_lt_pow_right (by decide) (by omega)
            have h2 : 0 < 2 ^ wI (pWs c) (tLt X t) := Nat.pow_pos (by decide)
            have := (nz_eq (by omega)).mp y; omega), if_bt]
          exact ⟨_, i1, l1, rfl, rfl, by have : 0 < 2 ^ wI (pWs c) (tLt X t) := Nat.pow_pos (by decide)
                                         show 2 ^ wI (pWs c) (tLt X t) ≠ 0
                                         omega, Nat.pow_lt_pow_right (by decide) (by omega), f2, f3⟩
        | false =>
          have := c_pes hc (sg := false) D (k + 1) (nx X t) (b ||| 2 ^ wI (pWs c) (tLt X t)) i1 l1 (some (.int (nI (wI (pWs c) (tLt X t))))) f2 (Nat.or_lt_two_pow hb (Nat.pow_lt_pow_right (by decide) (by omega))) (by omega) (fun z => by cases z)
          exact this.tr f3
      · rw [if_neg z, if_pos rfl, if_neg z]
        cases sg <;> exact CI.bad rfl h.cf
    rw [mr_17_41, na_1200, if_pos ((nI_ltI (by omega) (by omega)).mpr (by omega))]
    by_cases q : b = 0
    · rw [if_pos (by rw [q]; rfl)]
      cases sg with
      | true => exact t71
      | false =>
        rw [if_neg (show ¬ false = true by decide)] at t71 ⊢
        rw [sPes, if_neg (fun z => z.1 q)]
        exact t71
    · cases sg with
      | true => exact absurd (hg rfl).1 q
      | false =>
        rw [if_neg (show ¬ false = true by decide)] at t71 ⊢
        rw [if_neg (show ¬ nI b = 0 from fun z => q ((nz_eq (by omega)).mp z)), if_bf, sPes]
        rcases h.takes (m := m) (e := e) (k := 125) (x := 125) (by omega) (by omega) rfl with ⟨d1, i1, l1, f1, f2, f3, f4⟩ | ⟨d1, f1⟩
        · rw [f1, mb_l, mb_v, mr_17_66, if_bt, if_pos ⟨q, d1⟩]
          exact ⟨_, i1, l1, rfl, rfl, q, hb, f2, f3⟩
        · rw [f1, mb_l, mb_v, mr_17_66, if_bf, if_neg (fun z => d1 z.2)]
          exact t71
theorem c_prm (h : CQ X w i0 l0 i l t δ) (hc : c < 5) : CI X w i0 l0 m e δ i (mm_V 17 0 [some (.ref 3), some (.int (nI c)), none, none, none, none] [] (mm_Z m w i l e)) (sPrm X c t) := by
  obtain ⟨w1, w2, w3, w4, w5, w6, w7⟩ := pWt_s c hc
  rw [mr_17_0]
  unfold sPrm
  rcases h.takes (m := m) (e := e) (k := 42) (x := 42) (by omega) (by omega) rfl with ⟨d1, i1, l1, f1, f2, f3, f4⟩ | ⟨d1, f1⟩
  · rw [f1, mb_l, mb_v, mr_17_9, if_bt, if_neg (no_out hc (by omega)), nI_clamp (by omega), f2.2.2.2.1.2 c hc, if_pos d1]
    have h10 : 2 ^ (pWs c).length ≤ 2 ^ 10 := Nat.pow_le_pow_right (by decide) w5
    have h1 : 2 ^ 1 ≤ 2 ^ (pWs c).length := Nat.pow_le_pow_right (by decide) (by omega)
    exact ⟨_, i1, l1, rfl, by rw [w7], by dsimp only; omega, by dsimp only; omega, f2, f3⟩
  · rw [f1, mb_l, mb_v, mr_17_9, if_bf, if_neg d1]
    rcases h.takes (m := m) (e := e) (k := 123) (x := 123) (by omega) (by omega) rfl with ⟨d2, i1, l1, f1, f2, f3, f4⟩ | ⟨d2, f1⟩
    · rw [f1, mb_l, mb_v, mr_17_27, if_bt, if_pos d2]
      have := c_pes (m := m) (e := e) hc (sg := false) 1200 0 (nx X t) 0 i1 l1 none f2 (by omega) rfl (fun z => by cases z)
      exact this.tr f3
    · rw [f1, mb_l, mb_v, mr_17_27, if_bf, if_neg d2]
      exact c_pes (m := m) (e := e) hc (sg := true) 1200 0 t 0 i l none h (by omega) rfl (fun _ => ⟨rfl, by omega⟩)
end MM140
