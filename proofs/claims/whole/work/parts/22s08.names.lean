/-! NAMES in the class; drafts stay well-formed -/
section MM137
variable {X : mX} {t : m3} {w p : Bool} {i i' i0 : Nat → Nat → Int32} {l l' l0 : Nat → Nat → Int64} {δ : mQ} {ρ : mP} {m : Nat} {e : Bool × Nat × Nat} {n k s a b c : Nat} {L : List Nat}
theorem DW.l42 (h : DW δ) : dL δ ≤ 42 := by
  obtain ⟨⟨-, -, h1⟩, ⟨h2, h3, h4, h5, -⟩, -⟩ := h
  omega
theorem DW.v (h : DW δ) {j : Nat} (hj : j < dL δ) : (dG δ j).2.1 ≤ 3 ∧ (dG δ j).2.2 < 24 ∧ dV δ j < 400 := by
  obtain ⟨⟨h0, -, h1⟩, ⟨h2, h3, h4, h5, -⟩, -⟩ := h
  obtain ⟨-, -, -, -, a1, a2⟩ := h0 j hj
  have : (dG δ j).2.2 < 24 := by
    rcases (show (dG δ j).2.1 = 0 ∨ (dG δ j).2.1 = 1 ∨ (dG δ j).2.1 = 2 ∨ (dG δ j).2.1 = 3 by omega) with z | z | z | z <;> rw [z] at a2 <;> omega
  refine ⟨a1, this, ?_⟩
  unfold dV
  omega
theorem c_mean_loop (h : NC i l δ) (hd : DW δ) (hL : wG L) (h9 : L.length ≤ 9) : ∀ (D k : Nat), k + D = dL δ → mm_V 12 2 [some (.ref 3), some (.long (lN (pk 0 L))), none, some (.int (nI k))] [] (mm_Z m w i l e) = some (.inl (some (.int (if tFst (fun j => (dG δ j).1 == L) D k < dL δ then nI (dV δ (tFst (fun j => (dG δ j).1 == L) D k)) else -1))), mm_Z m w i l e)
  | 0, k, hk => by
    have h42 := hd.l42
    have e0 : tFst (fun j => (dG δ j).1 == L) 0 k = k := rfl
    rw [mr_12_2, h.1, if_neg (fun z => by have := (nI_ltI (by omega) (by omega)).mp z; omega), e0, if_neg (by omega)]
  | D + 1, k, hk => by
    have h42 := hd.l42
    obtain ⟨a1, a2, a3, -⟩ := hd.1.1 k (by omega)
    rw [mr_12_2, h.1, if_pos ((nI_ltI (by omega) (by omega)).mpr (by omega)), if_neg (no_out (by omega) (by omega)), if_neg (no_out (by omega) (by omega)), nI_clamp (by omega), (h.2 k (by omega)).1, (h.2 k (by omega)).2, tFst]
    by_cases q : (dG δ k).1 = L
    · rw [if_pos (cmp_0.mpr (by rw [q])), if_pos (show ((dG δ k).1 == L) = true by simpa using q), if_pos (by omega)]
    · have b1 := pkk_lt a1 a3
      have b2 := pkk_lt hL h9
      rw [if_neg (fun z => q (pkk_inj a1 hL ((lN_inj (by omega) (by omega)).mp (cmp_0.mp z)))), if_neg (show ¬ ((dG δ k).1 == L) = true by simpa using q), nI_1, c_mean_loop h hd hL h9 D (k + 1) (by omega)]
theorem CQ.mean (h : CQ X w i0 l0 i l t δ) : mm_V 12 0 [some (.ref 3), some (.long (l 28 4)), none, none] [] (mm_Z m w i l e) = some (.inl (some (.int (if dI δ (tLt X t) < dL δ then nI (dV δ (dI δ (tLt X t))) else -1))), mm_Z m w i l e) := by
  have e0 := c_mean_loop (m := m) (w := w) (e := e) h.dc.2.2.1 h.dw (h.tk.lt h.xw).1 (h.tk.lt h.xw).2.1 (dL δ) 0 (by omega)
  rw [h.kc.2.2.2, mr_12_0]
  exact e0
theorem nv_1 : ∀ v, v < 400 → ∀ s, s < 4 → ((nI v - nI (100 * s) < 0) ↔ v < 100 * s) := by decide +kernel
theorem nv_2 : ∀ s, s < 4 → ((-1 : Int32) - nI (100 * s) < 0) := by decide +kernel
theorem CQ.num (h : CQ X w i0 l0 i l t δ) (hs : s < 4) {x : Int32} (hx : x = nI (100 * s)) : mm_V 13 0 [some (.ref 3), some (.int x), none] [] (mm_Z m w i l e) = some (.inl (some (.int (if dI δ (tLt X t) < dL δ ∧ (dG δ (dI δ (tLt X t))).2.1 = s then nI (dG δ (dI δ (tLt X t))).2.2 else -1))), mm_Z m w i l e) := by
  rw [mr_13_0, h.mean, mb_l, mb_v, mr_13_11, hx]
  by_cases q : dI δ (tLt X t) < dL δ
  · obtain ⟨v1, v2, v3⟩ := h.dw.v q
    have ev : dV δ (dI δ (tLt X t)) = 100 * (dG δ (dI δ (tLt X t))).2.1 + (dG δ (dI δ (tLt X t))).2.2 := rfl
    rw [if_pos q]
    by_cases y : (dG δ (dI δ (tLt X t))).2.1 = s
    · have e1 : nI (dV δ (dI δ (tLt X t))) - nI (100 * s) = nI (dG δ (dI δ (tLt X t))).2.2 := by rw [na_sub (by omega), ev, y]; congr 1; omega
      rw [e1, if_neg (nI_pos (by omega)), na_100, if_pos ((nI_ltI (by omega) (by omega)).mpr (by omega)), if_pos ⟨q, y⟩]
    · rw [if_neg (show ¬ (dI δ (tLt X t) < dL δ ∧ (dG δ (dI δ (tLt X t))).2.1 = s) from fun z => y z.2)]
      by_cases y2 : dV δ (dI δ (tLt X t)) < 100 * s
      · rw [if_pos ((nv_1 _ v3 s hs).mpr y2)]
      · rw [if_neg (fun z => y2 ((nv_1 _ v3 s hs).mp z)), na_sub (by omega), na_100, if_neg (fun z => by have := (nI_ltI (by omega) (by omega)).mp z; omega)]
  · rw [if_neg q, if_neg (show ¬ (dI δ (tLt X t) < dL δ ∧ (dG δ (dI δ (tLt X t))).2.1 = s) from fun z => q z.1), if_pos (nv_2 s hs)]
theorem CQ.types (h : CQ X w i0 l0 i l t δ) : mm_V 14 0 [some (.ref 3), none] [] (mm_Z m w i l e) = some (.inl (some (.int (if t.2.2 = 42 then 400 else if dI δ (tLt X t) < dL δ ∧ (dG δ (dI δ (tLt X t))).2.1 < 2 then nI (dV δ (dI δ (tLt X t))) else -1))), mm_Z m w i l e) := by
  have hd := h.tk.kd h.xw
  have e42 : (nI t.2.2 = 42) ↔ t.2.2 = 42 := nI_eq (by omega) (by decide : 42 < 2 ^ 31)
  rw [mr_14_0, h.k3]
  by_cases q : t.2.2 = 42
  · rw [if_pos (e42.mpr q), if_pos q]
  · rw [if_neg (fun z => q (e42.mp z)), if_neg q, h.mean, mb_l, mb_v, mr_14_27]
    by_cases y : dI δ (tLt X t) < dL δ
    · obtain ⟨v1, v2, v3⟩ := h.dw.v y
      have ev : dV δ (dI δ (tLt X t)) = 100 * (dG δ (dI δ (tLt X t))).2.1 + (dG δ (dI δ (tLt X t))).2.2 := rfl
      have e200 : (nI (dV δ (dI δ (tLt X t))) < 200) ↔ dV δ (dI δ (tLt X t)) < 200 := nI_ltI (by omega) (by decide : 200 < 2 ^ 31)
      rw [if_pos y]
      by_cases y2 : (dG δ (dI δ (tLt X t))).2.1 < 2
      · rw [if_pos (e200.mpr (by omega)), if_pos ⟨y, y2⟩]
      · rw [if_neg (fun z => by have := e200.mp z; omega), if_neg (show ¬ (dI δ (tLt X t) < dL δ ∧ (dG δ (dI δ (tLt X t))).2.1 < 2) from fun z => y2 z.2)]
    · rw [if_neg y, if_neg (show ¬ (dI δ (tLt X t) < dL δ ∧ (dG δ (dI δ (tLt X t))).2.1 < 2) from fun z => y z.1), if_pos (by decide)]
theorem mMx_le (s : Nat) : mMx s ≤ 60 := by unfold mMx; split <;> (try split) <;> (try split) <;> (try split) <;> (try split) <;> (try split) <;> omega
theorem CQ.full (h : CQ X w i0 l0 i l t δ) (hs : s < 7) (hc : pN (dP δ) s ≤ mMx s) {x : Int32} (hx : x = nI s) : mm_V 108 0 [some (.ref (mm_P (!w))), some (.int x)] [] (mm_Z m w i l e) = some (.inl (some (.int (bI (decide (pN (dP δ) s = mMx s))))), mm_Z m w i l e) := by
  have hm := mMx_le s
  rw [hx, mr_108_0, if_neg (no_out (by omega) (by omega)), if_neg (no_out (by omega) (by omega)), nI_clamp (by omega), h.dc.1.1 s hs, h.2.2.2.1.1 s hs]
  by_cases q : pN (dP δ) s = mMx s
  · rw [if_neg (fun z => by have := (nI_ltI (by omega) (by omega)).mp z; omega), decide_eq_true q]; rfl
  · rw [if_pos ((nI_ltI (by omega) (by omega)).mpr (by omega)), decide_eq_false q]; rfl
/-- a name more -/
theorem dNm_l : dL (dNm δ L s) = dL δ + 1 := by
  show (dN δ ++ [(L, s, pN (dP δ) s)]).length = _
  rw [List.length_append]; rfl
theorem dNm_o {j : Nat} (h : j < dL δ) : dG (dNm δ L s) j = dG δ j := by
  show (dN δ ++ [(L, s, pN (dP δ) s)]).getD j z3 = _
  exact gd_app h
theorem dNm_e : dG (dNm δ L s) (dL δ) = (L, s, pN (dP δ) s) := by
  show (dN δ ++ [(L, s, pN (dP δ) s)]).getD (dN δ).length z3 = _
  exact gd_end
theorem dI_all (h : dI δ L = dL δ) {j : Nat} (hj : j < dL δ) : (dG δ j).1 ≠ L := dI_no (by rw [h]; exact hj)
theorem pSn_s {n : Nat} : pN (pSn ρ s n) s = n := up_s
theorem pSn_n {n j : Nat} (h : j ≠ s) : pN (pSn ρ s n) j = pN ρ j := up_n h
theorem pSn_ge {j : Nat} : pN ρ j ≤ pN (pSn ρ s (pN ρ s + 1)) j := by
  by_cases z : j = s
  · subst z; rw [pSn_s]; omega
  · rw [pSn_n z]; omega
theorem vW.mo {ρ' : mP} {x : Int32} (h : vW ρ x) (h0 : pN ρ 0 ≤ pN ρ' 0) (h1 : pN ρ 1 ≤ pN ρ' 1) : vW ρ' x := by
  rcases h with ⟨a, a1, a2⟩ | ⟨a, a1, a2⟩
  · exact Or.inl ⟨a, by omega, a2⟩
  · exact Or.inr ⟨a, by omega, a2⟩
theorem RW.mo {ρ' : mP} (h : RW ρ) (h0 : pN ρ 0 ≤ pN ρ' 0) (h1 : pN ρ 1 ≤ pN ρ' 1) (h4 : pN ρ' 4 = pN ρ 4) (h5 : pN ρ' 5 = pN ρ 5) (h6 : pN ρ' 6 = pN ρ 6) (hl : pL ρ' = pL ρ) (hm : pM ρ' = pM ρ) (ht : pT ρ' = pT ρ) : RW ρ' := by
  obtain ⟨a1, a2, a3⟩ := h
  refine ⟨fun k hk => ?_, fun k hk => ?_, fun k hk => ?_⟩
  · rw [hl]; rw [h4] at hk
    obtain ⟨b1, b2, b3, b4⟩ := a1 k hk
    exact ⟨b1, b2, b3.imp id (fun z => z.mo h0 h1), b4.imp id (fun z => z.imp id (fun y => y.mo h0 h1))⟩
  · rw [hm]; rw [h5] at hk
    obtain ⟨b1, b2, b3, b4⟩ := a2 k hk
    exact ⟨by omega, by omega, b3, by omega⟩
  · rw [ht]; rw [h6] at hk
    obtain ⟨b1, b2, b3⟩ := a3 k hk
    exact ⟨b1, b2, fun op ho h6 => (b3 op ho h6).mo h0 h1⟩
theorem CW.mx (h : CW ρ) : ∀ s, s < 7 → pN ρ s ≤ mMx s := by
  intro s hs
  obtain ⟨c0, c1, c2, c3, c4, c5, c6⟩ := h
  rcases (show s = 0 ∨ s = 1 ∨ s = 2 ∨ s = 3 ∨ s = 4 ∨ s = 5 ∨ s = 6 by omega) with rfl | rfl | rfl | rfl | rfl | rfl | rfl
  · exact c0
  · exact c1
  · exact c2
  · exact c3
  · exact c4
  · exact c5
  · exact c6
theorem CW.of (h : ∀ s, s < 7 → pN ρ s ≤ mMx s) : CW ρ := ⟨h 0 (by omega), h 1 (by omega), h 2 (by omega), h 3 (by omega), h 4 (by omega), h 5 (by omega), h 6 (by omega)⟩
theorem CW.in (h : CW ρ) (hs : s < 7) (hn : pN ρ s ≠ mMx s) : CW (pSn ρ s (pN ρ s + 1)) := by
  have hm := h.mx
  refine CW.of (fun j hj => ?_)
  by_cases z : j = s
  · subst z; rw [pSn_s]; have := hm j hj; omega
  · rw [pSn_n z]; exact hm j hj
theorem DW.ad (h : DW δ) (hs : s < 4) (hn : pN (dP δ) s ≠ mMx s) (hL : wG L) (h0 : L ≠ []) (h9 : L.length ≤ 9) (hk : kW L = 2) (hI : dI δ L = dL δ) : DW (dAd δ L s) := by
  obtain ⟨⟨n1, n2, n3⟩, hC, hR, hA, hE⟩ := h
  have el : dL (dAd δ L s) = dL δ + 1 := dNm_l
  have eo : ∀ j, j < dL δ → dG (dAd δ L s) j = dG δ j := fun j hj => dNm_o hj
  have ee : dG (dAd δ L s) (dL δ) = (L, s, pN (dP δ) s) := dNm_e
  have ep : dP (dAd δ L s) = pSn (dP δ) s (pN (dP δ) s + 1) := rfl
  have ge := @pSn_ge (dP δ) s
  refine ⟨⟨fun j hj => ?_, fun a b ha hb hab => ?_, ?_⟩, ?_, ?_, fun a => ?_, hE.1, fun k hk => hE.2.1 k (by rw [ep, pSn_n (by omega)] at hk; exact hk), fun k hk => hE.2.2 k (by rw [ep, pSn_n (by omega)] at hk; exact hk)⟩
  · rw [ep]
    by_cases z : j < dL δ
    · rw [eo j z]
      obtain ⟨b1, b2, b3, b4, b5, b6⟩ := n1 j z
      exact ⟨b1, b2, b3, b4, b5, Nat.lt_of_lt_of_le b6 ge⟩
    · rw [show j = dL δ by omega, ee]
      refine ⟨hL, h0, h9, hk, by dsimp only; omega, ?_⟩
      dsimp only
      rw [pSn_s]; omega
  · rw [el] at ha hb
    by_cases za : a < dL δ
    · by_cases zb : b < dL δ
      · rw [eo a za, eo b zb] at hab; exact n2 a b za zb hab
      · rw [show b = dL δ by omega, eo a za, ee] at hab
        exact absurd hab (dI_all hI za)
    · by_cases zb : b < dL δ
      · rw [show a = dL δ by omega, eo b zb, ee] at hab
        exact absurd hab.symm (dI_all hI zb)
      · omega
  · rw [el, ep, n3]
    rcases (show s = 0 ∨ s = 1 ∨ s = 2 ∨ s = 3 by omega) with z | z | z | z <;> subst z
    · rw [pSn_s, pSn_n (by omega), pSn_n (by omega), pSn_n (by omega)]; omega
    · rw [pSn_s, pSn_n (by omega), pSn_n (by omega), pSn_n (by omega)]; omega
    · rw [pSn_s, pSn_n (by omega), pSn_n (by omega), pSn_n (by omega)]; omega
    · rw [pSn_s, pSn_n (by omega), pSn_n (by omega), pSn_n (by omega)]; omega
  · rw [ep]; exact hC.in (by omega) hn
  · rw [ep]
    exact hR.mo ge ge (pSn_n (by omega)) (pSn_n (by omega)) (pSn_n (by omega)) rfl rfl rfl
  · have h1 := hA a
    have e1 : dA (dAd δ L s) a = dA δ a := rfl
    rw [e1, ep]
    refine ⟨Nat.lt_of_lt_of_le h1.1 (Nat.pow_le_pow_right (by decide) ge), fun z => h1.2 ?_⟩
    have : pN (dP δ) 1 ≤ pN (pSn (dP δ) s (pN (dP δ) s + 1)) 1 := ge
    omega
theorem DW.sa (h : DW δ) {y : Nat} (hy : y < pN (dP δ) 0) (ha : a < pN (dP δ) 1) : DW (dSa δ a (dA δ a ||| 2 ^ y)) := by
  obtain ⟨hN, hC, hR, hA, hE⟩ := h
  refine ⟨hN, hC, hR, fun b => ?_, hE⟩
  show va_up (dA δ) a (dA δ a ||| 2 ^ y) b < 2 ^ pN (dP δ) 0 ∧ (pN (dP δ) 1 ≤ b → va_up (dA δ) a (dA δ a ||| 2 ^ y) b = 0)
  rw [up_if]
  split
  · rename_i z
    refine ⟨Nat.or_lt_two_pow (hA a).1 (Nat.pow_lt_pow_right (by decide) hy), fun q => by omega⟩
  · exact hA b
theorem NW.cg {δ' : mQ} (h : NW δ) (h1 : dN δ' = dN δ) (h2 : ∀ s, s ≤ 3 → pN (dP δ') s = pN (dP δ) s) : NW δ' := by
  have e1 : dL δ' = dL δ := by unfold dL; rw [h1]
  have e2 : ∀ j, dG δ' j = dG δ j := fun j => by unfold dG; rw [h1]
  obtain ⟨n1, n2, n3⟩ := h
  refine ⟨fun j hj => ?_, fun a b ha hb => ?_, ?_⟩
  · rw [e1] at hj
    obtain ⟨b1, b2, b3, b4, b5, b6⟩ := n1 j hj
    rw [e2, h2 _ b5]
    exact ⟨b1, b2, b3, b4, b5, b6⟩
  · rw [e1] at ha hb
    rw [e2, e2]
    exact n2 a b ha hb
  · rw [e1, h2 0 (by omega), h2 1 (by omega), h2 2 (by omega), h2 3 (by omega)]; exact n3
theorem AW.cg {δ' : mQ} (h : AW δ) (h1 : dA δ' = dA δ) (h2 : ∀ s, s ≤ 3 → pN (dP δ') s = pN (dP δ) s) : AW δ' := by
  intro a
  rw [h1, h2 0 (by omega), h2 1 (by omega)]
  exact h a
theorem DW.sr (h : DW δ) {x : Int32} : DW (dSp δ (pSr (dP δ) k x)) := ⟨h.1, h.2.1, h.2.2.1, h.2.2.2.1, h.2.2.2.2⟩
theorem DW.su (h : DW δ) {x : Int32} : DW (dSp δ (pSu (dP δ) k x)) := ⟨h.1, h.2.1, h.2.2.1, h.2.2.2.1, h.2.2.2.2⟩
theorem DW.ru (h : DW δ) (h12 : a ≤ 1200) (hn : pN (dP δ) 4 ≠ 60) {x : Nat × Int32 × Int32 × Nat × Int32} (h1 : x.1 ≤ 3) (h2 : x.2.2.2.1 ≤ 4) (h3 : x.2.1 = 400 ∨ vW (dP δ) x.2.1) (h4 : x.2.2.1 = -1 ∨ x.2.2.1 = 400 ∨ vW (dP δ) x.2.2.1) : DW (dRu δ a x) := by
  obtain ⟨hN, hC, ⟨r1, r2, r3⟩, hA, hE⟩ := h
  have ep : dP (dRu δ a x) = pSn (pSl (dP δ) (pN (dP δ) 4) x) 4 (pN (dP δ) 4 + 1) := rfl
  have v : ∀ y, vW (dP δ) y → vW (dP (dRu δ a x)) y := fun y hy => hy.mo (by rw [ep, pSn_n (by omega)]; exact Nat.le_refl _) (by rw [ep, pSn_n (by omega)]; exact Nat.le_refl _)
  have h03 : ∀ s, s ≤ 3 → pN (dP (dRu δ a x)) s = pN (dP δ) s := fun s hs => by rw [ep, pSn_n (by omega)]; rfl
  refine ⟨hN.cg rfl h03, CW.in (ρ := pSl (dP δ) (pN (dP δ) 4) x) (s := 4) hC (by omega) hn, ⟨fun k hk => ?_, fun k hk => ?_, fun k hk => ?_⟩, hA.cg rfl h03, hE.1, fun k hk => by
    rw [ep, pSn_s] at hk
    have er : dR (dRu δ a x) k = if k = pN (dP δ) 4 then a else dR δ k := up_if
    rw [er]
    split
    · exact h12
    · exact hE.2.1 k (by omega), fun k hk => hE.2.2 k hk⟩
  · rw [ep, pSn_s] at hk
    have el : pL (dP (dRu δ a x)) k = if k = pN (dP δ) 4 then x else pL (dP δ) k := up_if
    rw [el]
    by_cases z : k = pN (dP δ) 4
    · rw [if_pos z]
      exact ⟨h1, h2, h3.imp id (v _), h4.imp id (fun y => y.imp id (v _))⟩
    · rw [if_neg z]
      obtain ⟨b1, b2, b3, b4⟩ := r1 k (by omega)
      exact ⟨b1, b2, b3.imp id (v _), b4.imp id (fun y => y.imp id (v _))⟩
  · exact r2 k hk
  · obtain ⟨b1, b2, b3⟩ := r3 k hk
    exact ⟨b1, b2, fun op ho h6 => v _ (b3 op ho h6)⟩
theorem DW.mo (h : DW δ) (h12 : a ≤ 1200) (hn : pN (dP δ) 5 ≠ 12) {x : Nat × Nat × Nat × Nat} (h1 : x.1 < pN (dP δ) 0) (h2 : x.2.1 < pN (dP δ) 0) (h3 : x.2.2.1 ≤ 4) (h4 : x.2.2.2 < pN (dP δ) 0) : DW (dMo δ a x) := by
  obtain ⟨hN, hC, ⟨r1, r2, r3⟩, hA, hE⟩ := h
  have ep : dP (dMo δ a x) = pSn (pSm (dP δ) (pN (dP δ) 5) x) 5 (pN (dP δ) 5 + 1) := rfl
  have v : ∀ y, vW (dP δ) y → vW (dP (dMo δ a x)) y := fun y hy => hy.mo (by rw [ep, pSn_n (by omega)]; exact Nat.le_refl _) (by rw [ep, pSn_n (by omega)]; exact Nat.le_refl _)
  have h03 : ∀ s, s ≤ 3 → pN (dP (dMo δ a x)) s = pN (dP δ) s := fun s hs => by rw [ep, pSn_n (by omega)]; rfl
  refine ⟨hN.cg rfl h03, CW.in (ρ := pSm (dP δ) (pN (dP δ) 5) x) (s := 5) hC (by omega) hn, ⟨fun k hk => ?_, fun k hk => ?_, fun k hk => ?_⟩, hA.cg rfl h03, hE.1, fun k hk => hE.2.1 k hk, fun k hk => by
    rw [ep, pSn_s] at hk
    have er : dM (dMo δ a x) k = if k = pN (dP δ) 5 then a else dM δ k := up_if
    rw [er]
    split
    · exact h12
    · exact hE.2.2 k (by omega)⟩
  · obtain ⟨b1, b2, b3, b4⟩ := r1 k hk
    exact ⟨b1, b2, b3.imp id (v _), b4.imp id (fun y => y.imp id (v _))⟩
  · rw [ep, pSn_s] at hk
    have el : pM (dP (dMo δ a x)) k = if k = pN (dP δ) 5 then x else pM (dP δ) k := up_if
    rw [el]
    by_cases z : k = pN (dP δ) 5
    · rw [if_pos z]; exact ⟨h1, h2, h3, h4⟩
    · rw [if_neg z]; exact r2 k (by omega)
  · obtain ⟨b1, b2, b3⟩ := r3 k hk
    exact ⟨b1, b2, fun op ho h6 => v _ (b3 op ho h6)⟩
theorem oC_ge (op : mO) : 1 ≤ (oC op).length := by
  unfold oC
  split <;> (try split) <;> simp
theorem oCs_ge : ∀ (O : List mO), O.length ≤ (oCs O).length
  | [] => Nat.le_refl _
  | op :: O => by
    have h1 := oCs_ge O
    have h2 := oC_ge op
    show _ ≤ (oC op ++ oCs O).length
    rw [List.length_append, List.length_cons]; omega
theorem DW.li (h : DW δ) (hn : pN (dP δ) 6 ≠ 8) {x : Nat × Int32 × List mO} (h1 : x.1 ≤ 4) (h2 : oOk 0 x.2.2) (h3 : ∀ op, op ∈ x.2.2 → 6 ≤ op.1 → vW (dP δ) op.2.2) : DW (dLi δ x) := by
  obtain ⟨hN, hC, ⟨r1, r2, r3⟩, hA, hE⟩ := h
  have ep : dP (dLi δ x) = pSn (pSt (dP δ) (pN (dP δ) 6) x) 6 (pN (dP δ) 6 + 1) := rfl
  have v : ∀ y, vW (dP δ) y → vW (dP (dLi δ x)) y := fun y hy => hy.mo (by rw [ep, pSn_n (by omega)]; exact Nat.le_refl _) (by rw [ep, pSn_n (by omega)]; exact Nat.le_refl _)
  have h03 : ∀ s, s ≤ 3 → pN (dP (dLi δ x)) s = pN (dP δ) s := fun s hs => by rw [ep, pSn_n (by omega)]; rfl
  refine ⟨hN.cg rfl h03, CW.in (ρ := pSt (dP δ) (pN (dP δ) 6) x) (s := 6) hC (by omega) hn, ⟨fun k hk => ?_, fun k hk => ?_, fun k hk => ?_⟩, hA.cg rfl h03, ?_⟩
  · obtain ⟨b1, b2, b3, b4⟩ := r1 k hk
    exact ⟨b1, b2, b3.imp id (v _), b4.imp id (fun y => y.imp id (v _))⟩
  · exact r2 k hk
  · rw [ep, pSn_s] at hk
    have el : pT (dP (dLi δ x)) k = if k = pN (dP δ) 6 then x else pT (dP δ) k := up_if
    rw [el]
    by_cases z : k = pN (dP δ) 6
    · rw [if_pos z]; exact ⟨h1, h2, fun op ho h6 => v _ (h3 op ho h6)⟩
    · rw [if_neg z]
      obtain ⟨b1, b2, b3⟩ := r3 k (by omega)
      exact ⟨b1, b2, fun op ho h6 => v _ (b3 op ho h6)⟩
  · refine ⟨?_, fun k hk => hE.2.1 k hk, fun k hk => hE.2.2 k hk⟩
    show dE δ + x.2.2.length ≤ dC δ + (oCs x.2.2).length
    have := oCs_ge x.2.2
    have := hE.1
    omega
end MM137
