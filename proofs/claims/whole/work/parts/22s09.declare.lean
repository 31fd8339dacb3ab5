/-! DECLARATIONS in the class -/
section MM138
variable {X : mX} {t : m3} {w p : Bool} {i i' i0 : Nat → Nat → Int32} {l l' l0 : Nat → Nat → Int64} {δ : mQ} {ρ : mP} {m : Nat} {e : Bool × Nat × Nat} {n k s a b c : Nat} {L : List Nat} {x y : Int32}
/-- a name more; what the list of a role or a user then is, is not written yet -/
def dJ (δ : mQ) (L : List Nat) (s : Nat) (x : Int32) : mQ := if s = 2 then dSp (dAd δ L s) (pSr (dP (dAd δ L s)) (pN (dP δ) 2) x) else if s = 3 then dSp (dAd δ L s) (pSu (dP (dAd δ L s)) (pN (dP δ) 3) x) else dAd δ L s
theorem dJ_n : dN (dJ δ L s x) = dN (dAd δ L s) := by unfold dJ; split <;> (try split) <;> rfl
theorem dJ_c : dC (dJ δ L s x) = dC δ ∧ dA (dJ δ L s x) = dA δ ∧ dR (dJ δ L s x) = dR δ ∧ dM (dJ δ L s x) = dM δ ∧ pN (dP (dJ δ L s x)) = pN (pSn (dP δ) s (pN (dP δ) s + 1)) ∧ pL (dP (dJ δ L s x)) = pL (dP δ) ∧ pM (dP (dJ δ L s x)) = pM (dP δ) ∧ pT (dP (dJ δ L s x)) = pT (dP δ) := by unfold dJ; split <;> (try split) <;> exact ⟨rfl, rfl, rfl, rfl, rfl, rfl, rfl, rfl⟩
theorem dJ_w (h : DW (dAd δ L s)) : DW (dJ δ L s x) := by
  unfold dJ
  split
  · exact h.sr
  · split
    · exact h.su
    · exact h
theorem DC.ad (h : DC w i l δ) (hd : DW δ) (hs : s < 4) {v : Int32} (hv : v = if s = 2 then i (mm_P (!w) + 3) (pN (dP δ) 2) else i (mm_P (!w) + 4) (pN (dP δ) 3)) : DC w (mm_ww (mm_ww (mm_ww i 24 (dL δ) (nI (100 * s + pN (dP δ) s))) 3 4 (nI (dL δ + 1))) (mm_P (!w) + 1) s (nI (pN (dP δ) s + 1))) (mm_wl l 23 (dL δ) (lN (pk 0 L))) (dJ δ L s v) := by
  have hp := mP_c (!w)
  obtain ⟨⟨a1, a2, a3, a4, a5⟩, h2, h3, h4, h5⟩ := h
  obtain ⟨j1, j2, j3, j4, j5, j6, j7, j8⟩ := @dJ_c δ s L v
  have far : ∀ k j, k ≠ 24 → k ≠ 3 → k ≠ mm_P (!w) + 1 → mm_ww (mm_ww (mm_ww i 24 (dL δ) (nI (100 * s + pN (dP δ) s))) 3 4 (nI (dL δ + 1))) (mm_P (!w) + 1) s (nI (pN (dP δ) s + 1)) k j = i k j := fun k j z1 z2 z3 => by rw [mw_k z3, mw_k z2, mw_k z1]
  have n4 : pN (dP (dJ δ L s v)) 4 = pN (dP δ) 4 := by rw [j5]; exact pSn_n (by omega)
  have n5 : pN (dP (dJ δ L s v)) 5 = pN (dP δ) 5 := by rw [j5]; exact pSn_n (by omega)
  have n6 : pN (dP (dJ δ L s v)) 6 = pN (dP δ) 6 := by rw [j5]; exact pSn_n (by omega)
  have el : dL (dJ δ L s v) = dL δ + 1 := by unfold dL; rw [dJ_n]; exact dNm_l
  have eg : ∀ j, dG (dJ δ L s v) j = dG (dAd δ L s) j := fun j => by unfold dG; rw [dJ_n]
  refine ⟨⟨fun j hj => ?_, fun u hu => ?_, fun r hr => ?_, fun k hk => ?_, fun k hk => ?_⟩, ?_, ⟨?_, fun j hj => ?_⟩, ⟨fun k hk => ?_, fun k hk => ?_⟩, fun a ha => ?_⟩
  · rw [j5]
    by_cases z : j = s
    · subst z; rw [mw_s, pSn_s]
    · rw [mw_j z, mw_k (by omega), mw_k (by omega), pSn_n z]; exact a1 j hj
  · rw [far _ _ (by omega) (by omega) (by omega)]
    rw [j5] at hu
    by_cases z : s = 3
    · have e1 : pU (dP (dJ δ L s v)) = va_up (pU (dP δ)) (pN (dP δ) 3) v := by unfold dJ; rw [if_neg (by omega), if_pos z]; rfl
      rw [e1, up_if]
      subst z
      rw [pSn_s] at hu
      split
      · rename_i y; rw [hv, if_neg (by omega), y]
      · exact a2 u (by omega)
    · have e1 : pU (dP (dJ δ L s v)) = pU (dP δ) := by unfold dJ; rw [if_neg z]; split <;> rfl
      rw [pSn_n (by omega)] at hu
      rw [e1]; exact a2 u hu
  · rw [far _ _ (by omega) (by omega) (by omega)]
    rw [j5] at hr
    by_cases z : s = 2
    · have e1 : pR (dP (dJ δ L s v)) = va_up (pR (dP δ)) (pN (dP δ) 2) v := by unfold dJ; rw [if_pos z]; rfl
      rw [e1, up_if]
      subst z
      rw [pSn_s] at hr
      split
      · rename_i y; rw [hv, if_pos rfl, y]
      · exact a3 r (by omega)
    · have e1 : pR (dP (dJ δ L s v)) = pR (dP δ) := by unfold dJ; rw [if_neg z]; split <;> rfl
      rw [pSn_n (by omega)] at hr
      rw [e1]; exact a3 r hr
  · rw [far _ _ (by omega) (by omega) (by omega), far _ _ (by omega) (by omega) (by omega), far _ _ (by omega) (by omega) (by omega), far _ _ (by omega) (by omega) (by omega), far _ _ (by omega) (by omega) (by omega), j6]
    rw [n4] at hk; exact a4 k hk
  · rw [far _ _ (by omega) (by omega) (by omega), far _ _ (by omega) (by omega) (by omega), far _ _ (by omega) (by omega) (by omega), far _ _ (by omega) (by omega) (by omega), j7]
    rw [n5] at hk; exact a5 k hk
  · rw [j1]
    have q := h2.ku (i' := mm_ww (mm_ww (mm_ww i 24 (dL δ) (nI (100 * s + pN (dP δ) s))) 3 4 (nI (dL δ + 1))) (mm_P (!w) + 1) s (nI (pN (dP δ) s + 1))) (fun k j b1 b2 _ => far k j (by omega) (by omega) (by omega)) (fun j _ => far _ _ (by omega) (by omega) (by omega)) (fun k j b1 b2 _ => far k j (by omega) (by omega) (by omega))
    unfold LC at q ⊢
    rw [n6, j8]
    exact q
  · rw [mw_k (by omega), mw_s, el]
  · rw [el] at hj
    have ev : dV (dJ δ L s v) j = dV (dAd δ L s) j := by unfold dV; rw [eg]
    rw [mw_k (by omega), mw_k (by omega), eg, ev]
    by_cases z : j < dL δ
    · have e2 : dV (dAd δ L s) j = dV δ j := by unfold dV; rw [show dG (dAd δ L s) j = dG δ j from dNm_o z]
      rw [ml_n (by omega), mw_j (by omega), show dG (dAd δ L s) j = dG δ j from dNm_o z, e2]
      exact h3.2 j z
    · have ej : j = dL δ := by omega
      subst ej
      have e3 : dG (dAd δ L s) (dL δ) = (L, s, pN (dP δ) s) := dNm_e
      have e2 : dV (dAd δ L s) (dL δ) = 100 * s + pN (dP δ) s := by unfold dV; rw [e3]
      rw [ml_s, mw_s, e3, e2]
      exact ⟨rfl, rfl⟩
  · rw [far _ _ (by omega) (by omega) (by omega), j3]
    rw [n4] at hk; exact h4.1 k hk
  · rw [far _ _ (by omega) (by omega) (by omega), j4]
    rw [n5] at hk; exact h4.2 k hk
  · rw [far _ _ (by omega) (by omega) (by omega), j2]
    exact h5 a ha
theorem CQ.dec (h : CQ X w i0 l0 i l t δ) (hs : s < 4) (hn : pN (dP δ) s ≠ mMx s) {x1 x2 : Int32} (h1 : x1 = nI (100 * s)) (h2 : x2 = nI s) : (t.2.2 = 2 ∧ dI δ (tLt X t) = dL δ ∧ ∃ i' l' v, mm_V 11 0 [some (.ref 3), some (.int x1), some (.int x2)] [] (mm_Z m w i l e) = some (.inl (some (.int 1)), mm_Z m w i' l' e) ∧ CQ X w i0 l0 i' l' (nx X t) (dJ δ (tLt X t) s v) ∧ i' (mm_P (!w)) 18 = i (mm_P (!w)) 18) ∨ (¬ (t.2.2 = 2 ∧ dI δ (tLt X t) = dL δ) ∧ mm_V 11 0 [some (.ref 3), some (.int x1), some (.int x2)] [] (mm_Z m w i l e) = some (.inl (some (.int 0)), mm_Z m w i l e)) := by
  have hp := mP_c (!w)
  have hd := h.tk.kd h.xw
  have e2 : (nI t.2.2 = 2) ↔ t.2.2 = 2 := nI_eq (by omega) (by decide : 2 < 2 ^ 31)
  have h42 := h.dw.l42
  have hm := mMx_le s
  have hc := h.dw.2.1.mx s (by omega)
  subst h1 h2
  rw [mr_11_0, h.k3]
  by_cases q : t.2.2 = 2
  · rw [if_pos (e2.mpr q), h.mean, mb_l, mb_v, mr_11_22]
    by_cases y : dI δ (tLt X t) < dL δ
    · right
      refine ⟨fun z => by omega, ?_⟩
      have := (h.dw.v y).2.2
      rw [if_pos y, if_neg (na_m1 (by omega))]
    · left
      have ye : dI δ (tLt X t) = dL δ := by have := dI_le δ (tLt X t); omega
      have l42 : dL δ < 42 := by
        obtain ⟨⟨-, -, n3⟩, ⟨c0, c1, c2, c3, -⟩, -⟩ := h.dw
        rcases (show s = 0 ∨ s = 1 ∨ s = 2 ∨ s = 3 by omega) with z | z | z | z <;> subst z
        · have : pN (dP δ) 0 ≠ 24 := hn
          omega
        · have : pN (dP δ) 1 ≠ 8 := hn
          omega
        · have : pN (dP δ) 2 ≠ 6 := hn
          omega
        · have : pN (dP δ) 3 ≠ 4 := hn
          omega
      refine ⟨q, ye, ?_⟩
      obtain ⟨g1, g2, g3⟩ := h.tk.lt h.xw
      obtain ⟨g4, g5, -⟩ := g3 (Or.inl q)
      have hdw := h.dw.ad hs hn g1 g4 g2 (by rw [g5, q]) ye
      have hdc := h.dc.ad (L := tLt X t) h.dw hs rfl
      have f1 : mG (fP w) i (mm_ww (mm_ww (mm_ww i 24 (dL δ) (nI (100 * s + pN (dP δ) s))) 3 4 (nI (dL δ + 1))) (mm_P (!w) + 1) s (nI (pN (dP δ) s + 1))) := ((mG.ww (by unfold fP; omega)).tr (mG.ww (by unfold fP; omega))).tr (mG.ww (by unfold fP; omega))
      have hq1 : CQ X w i0 l0 (mm_ww (mm_ww (mm_ww i 24 (dL δ) (nI (100 * s + pN (dP δ) s))) 3 4 (nI (dL δ + 1))) (mm_P (!w) + 1) s (nI (pN (dP δ) s + 1))) (mm_wl l 23 (dL δ) (lN (pk 0 (tLt X t)))) t (dJ δ (tLt X t) s (if s = 2 then i (mm_P (!w) + 3) (pN (dP δ) 2) else i (mm_P (!w) + 4) (pN (dP δ) 3))) := by
        refine ⟨⟨h.1.1.fr f1, h.xw, h.tk, ?_⟩, hdc, dJ_w hdw, h.2.2.2.1.fr f1, h.2.2.2.2.1.tr f1, h.2.2.2.2.2.tr (lG.wl (Or.inr rfl))⟩
        obtain ⟨k1, k2, k3, k4⟩ := h.kc
        have s28 : ∀ j, mm_ww (mm_ww (mm_ww i 24 (dL δ) (nI (100 * s + pN (dP δ) s))) 3 4 (nI (dL δ + 1))) (mm_P (!w) + 1) s (nI (pN (dP δ) s + 1)) 28 j = i 28 j := fun j => by rw [mw_k (by omega), mw_k (by omega), mw_k (by omega)]
        exact ⟨by rw [s28]; exact k1, fun z => by rw [s28]; exact k2 z, by rw [s28]; exact k3, by rw [ml_n (by omega)]; exact k4⟩
      obtain ⟨i2, l2, f2, f3, f4, f5⟩ := hq1.adv (m := m) (e := e) (by omega)
      refine ⟨i2, l2, _, ?_, f3, by rw [f4 _ _ (by omega), mw_k (by omega), mw_k (by omega), mw_k (by omega)]⟩
      rw [if_neg y, if_pos rfl, h.dc.2.2.1.1, show Int32.ofNat 42 = nI 42 from rfl, if_pos ((nI_ltI (by omega) (by omega)).mpr l42), if_neg (no_out l42 (by omega)), if_neg (no_out (by omega) (by omega)), if_neg (no_out l42 (by omega)), if_neg (no_out (by omega) (by omega)), if_neg (no_out (by omega) (by omega)), nI_clamp (by omega), nI_clamp (by omega), h.dc.1.1 s (by omega), nI_add, nI_1, nI_1, h.kc.2.2.2, f2, mb_l, mb_0, mr_11_106]
  · right
    refine ⟨fun z => q z.1, ?_⟩
    rw [if_neg (fun z => q (e2.mp z))]
end MM138
