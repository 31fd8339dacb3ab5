/-! READING A POLICY, in the reference -/
section MM175
variable {X : mX} {t : m3} {w : Bool} {i i' : Nat → Nat → Int32} {l : Nat → Nat → Int64} {δ : mQ} {m : Nat} {e : Bool × Nat × Nat} {n k s a b c p q : Nat} {x v : Int32}
theorem r_mv1 (h : RPd i δ) (hb : b < pN (dP δ) 5) (ha : a < b) : mm_V 240 12 [some (.ref 83), some (.int (nI b)), some (.int (nI a))] [] (mm_Z m w i l e) = if pCt (dSe δ) b a = true then mm_bi true (mm_V 206 0 [some (.ref 83), some (.int (nI (dM δ b)))] [] (mm_Z m w i l e)) (fun v μ => mm_V 240 87 [some (.ref 83), some (.int (nI b)), some (.int (nI a))] (v.toList ++ []) μ) else mm_V 240 87 [some (.ref 83), some (.int (nI b)), some (.int (nI a))] [] (mm_Z m w i l e) := by
  have hd := h.2.1
  have h12 : pN (dP δ) 5 ≤ 12 := hd.2.1.2.2.2.2.2.1
  have h24 := hd.2.1.1
  obtain ⟨a1, a2, a3, a4, a5⟩ := h.1.2.2.2.2.2.2.1 a (by omega)
  obtain ⟨b1, b2, b3, b4, b5⟩ := h.1.2.2.2.2.2.2.1 b hb
  have ka := hd.2.2.1.2.1 a (by omega)
  have kb := hd.2.2.1.2.1 b hb
  have oa : ¬ mm_out (nI a) 13 := no_out (by omega) (by omega)
  have ob : ¬ mm_out (nI b) 13 := no_out (by omega) (by omega)
  rw [mr_240_12, if_pos ((nI_ltI (by omega) (by omega)).mpr ha)]
  simp only [if_neg oa, if_neg ob, nI_clamp (show a < 2 ^ 31 by omega), nI_clamp (show b < 2 ^ 31 by omega), a1, a2, a3, a4, b1, b2, b3, b4, b5]
  have no : ∀ {A B : Option mm_R}, ¬ ((pM (dP δ) b).1 = (pM (dP δ) a).1 ∧ (pM (dP δ) b).2.1 = (pM (dP δ) a).2.1 ∧ (pM (dP δ) b).2.2.1 = (pM (dP δ) a).2.2.1 ∧ (pM (dP δ) b).2.2.2 ≠ (pM (dP δ) a).2.2.2) → (if pCt (dSe δ) b a = true then A else B) = B := fun {A B} z => if_neg (fun y => z (of_decide_eq_true y))
  by_cases z1 : (pM (dP δ) a).1 = (pM (dP δ) b).1
  · rw [if_pos (by rw [z1])]
    by_cases z2 : (pM (dP δ) a).2.1 = (pM (dP δ) b).2.1
    · rw [if_pos (by rw [z2])]
      by_cases z3 : (pM (dP δ) a).2.2.1 = (pM (dP δ) b).2.2.1
      · rw [if_pos (by rw [z3])]
        by_cases z4 : (pM (dP δ) a).2.2.2 = (pM (dP δ) b).2.2.2
        · rw [if_pos (by rw [z4]), no (fun y => y.2.2.2 z4.symm)]
        · rw [if_neg (fun y => z4 ((nI_eq (by omega) (by omega)).mp y)), if_pos (show pCt (dSe δ) b a = true from decide_eq_true ⟨z1.symm, z2.symm, z3.symm, fun y => z4 y.symm⟩)]
      · rw [if_neg (fun y => z3 ((nI_eq (by omega) (by omega)).mp y)), no (fun y => z3 y.2.2.1.symm)]
    · rw [if_neg (fun y => z2 ((nI_eq (by omega) (by omega)).mp y)), no (fun y => z2 y.2.1.symm)]
  · rw [if_neg (fun y => z1 ((nI_eq (by omega) (by omega)).mp y)), no (fun y => z1 y.1.symm)]
theorem r_mv_dead (h : RPd i δ) (hp : i 83 46 = nI p) (hp2 : p ≤ 1200) (hb : b < pN (dP δ) 5) : ∀ (d a : Nat), a + d = b → ∃ u, mm_V 240 12 [some (.ref 83), some (.int (nI b)), some (.int (nI a))] [] (mm_Z m w i l e) = mm_V 240 2 [some (.ref 83), some (.int (nI (b + 1))), u] [] (mm_Z m w i l e) := by
  have h12 : pN (dP δ) 5 ≤ 12 := h.2.1.2.1.2.2.2.2.2.1
  intro d
  induction d with
  | zero =>
    intro a ha
    exact ⟨some (.int (nI a)), by rw [mr_240_12, if_neg (fun z => by have := (nI_ltI (by omega) (by omega)).mp z; omega), nI_1]⟩
  | succ d ih =>
    intro a ha
    obtain ⟨u, e1⟩ := ih (a + 1) (by omega)
    refine ⟨u, ?_⟩
    rw [r_mv1 h hb (by omega)]
    split
    · rw [r_fails hp hp2, mb_l, mb_0, mr_240_87, nI_1, e1]
    · rw [mr_240_87, nI_1, e1]
theorem r_mv_live (h : RPd i δ) (hl : i 83 46 = -1) (hb : b < pN (dP δ) 5) : ∀ (d a : Nat), a + d = b → ∃ u, mm_V 240 12 [some (.ref 83), some (.int (nI b)), some (.int (nI a))] [] (mm_Z m w i l e) = mm_V 240 2 [some (.ref 83), some (.int (nI (b + 1))), u] [] (mm_Z m w (if tAny (fun a => pCt (dSe δ) b a) d a = true then mm_ww i 83 46 (nI (dM δ b)) else i) l e) := by
  have h12 : pN (dP δ) 5 ≤ 12 := h.2.1.2.1.2.2.2.2.2.1
  have hR := h.2.1.2.2.2.2.2.2 b hb
  intro d
  induction d with
  | zero =>
    intro a ha
    rw [show tAny (fun a => pCt (dSe δ) b a) 0 a = false from rfl, if_neg Bool.false_ne_true]
    exact ⟨some (.int (nI a)), by rw [mr_240_12, if_neg (fun z => by have := (nI_ltI (by omega) (by omega)).mp z; omega), nI_1]⟩
  | succ d ih =>
    intro a ha
    rw [r_mv1 h hb (by omega), tAny_s]
    cases z : pCt (dSe δ) b a
    · obtain ⟨u, e2⟩ := ih (a + 1) (by omega)
      refine ⟨u, ?_⟩
      rw [if_neg Bool.false_ne_true, mr_240_87, nI_1, e2, Bool.false_or]
    · obtain ⟨u, e2⟩ := r_mv_dead (m := m) (w := w) (l := l) (e := e) (h.fl (x := nI (dM δ b))) mw_s hR hb d (a + 1) (by omega)
      refine ⟨u, ?_⟩
      rw [if_pos rfl, r_fail hl, mb_l, mb_0, mr_240_87, nI_1, e2, Bool.true_or, if_pos rfl]
theorem r_mvd (h : RPd i δ) (hp : i 83 46 = nI p) (hp2 : p ≤ 1200) : ∀ (d n : Nat) (u : Option Value), n + d = pN (dP δ) 5 → mm_V 240 2 [some (.ref 83), some (.int (nI n)), u] [] (mm_Z m w i l e) = some (.inl none, mm_Z m w i l e) := by
  have h12 : pN (dP δ) 5 ≤ 12 := h.2.1.2.1.2.2.2.2.2.1
  have c5 : i 83 28 = nI (pN (dP δ) 5) := h.1.ct (s := 5) (by omega)
  intro d
  induction d with
  | zero =>
    intro n u hn
    rw [mr_240_2, c5, if_neg (fun z => by have := (nI_ltI (by omega) (by omega)).mp z; omega)]
  | succ d ih =>
    intro n u hn
    obtain ⟨u', e1⟩ := r_mv_dead (m := m) (w := w) (l := l) (e := e) h hp hp2 (show n < pN (dP δ) 5 by omega) n 0 (by omega)
    rw [show nI 0 = (0 : Int32) from rfl] at e1
    rw [mr_240_2, c5, if_pos ((nI_ltI (by omega) (by omega)).mpr (by omega)), e1, ih (n + 1) u' (by omega)]
theorem r_mv (h : RPd i δ) (hl : i 83 46 = -1) : ∀ (d n : Nat) (u : Option Value), n + d = pN (dP δ) 5 → mm_V 240 2 [some (.ref 83), some (.int (nI n)), u] [] (mm_Z m w i l e) = some (.inl none, mm_Z m w (if tFst (fun b => tAny (fun a => pCt (dSe δ) b a) b 0) d n < pN (dP δ) 5 then mm_ww i 83 46 (nI (dM δ (tFst (fun b => tAny (fun a => pCt (dSe δ) b a) b 0) d n))) else i) l e) := by
  have h12 : pN (dP δ) 5 ≤ 12 := h.2.1.2.1.2.2.2.2.2.1
  have c5 : i 83 28 = nI (pN (dP δ) 5) := h.1.ct (s := 5) (by omega)
  intro d
  induction d with
  | zero =>
    intro n u hn
    have e0 : tFst (fun b => tAny (fun a => pCt (dSe δ) b a) b 0) 0 n = n := rfl
    rw [mr_240_2, c5, if_neg (fun z => by have := (nI_ltI (by omega) (by omega)).mp z; omega), e0, if_neg (by omega)]
  | succ d ih =>
    intro n u hn
    have hn' : n < pN (dP δ) 5 := by omega
    have hR := h.2.1.2.2.2.2.2.2 n hn'
    obtain ⟨u', e1⟩ := r_mv_live (m := m) (w := w) (l := l) (e := e) h hl hn' n 0 (by omega)
    have e1 : mm_V 240 12 [some (.ref 83), some (.int (nI n)), some (.int 0)] [] (mm_Z m w i l e) = _ := e1
    rw [mr_240_2, c5, if_pos ((nI_ltI (by omega) (by omega)).mpr (by omega)), e1, tFst]
    by_cases z : tAny (fun a => pCt (dSe δ) n a) n 0 = true
    · rw [if_pos z, if_pos z, if_pos hn', r_mvd (h.fl (x := nI (dM δ n))) mw_s hR d (n + 1) u' (by omega)]
    · rw [if_neg z, if_neg z, ih (n + 1) u' (by omega)]
theorem DRf_0 (h10 : i 83 10 = 0) (h14 : i 83 14 = 0) (h15 : i 83 15 = 0) (h16 : i 83 16 = 0) (h17 : i 83 17 = 0) (h21 : i 83 21 = 0) (h28 : i 83 28 = 0) (h34 : i 83 34 = 0) (h38 : i 83 38 = 0) (h108 : i 108 0 = 0) : DRf 9 i d0 := by
  refine ⟨⟨h10, fun j hj => absurd hj (Nat.not_lt_zero _)⟩, fun s hs => ?_, fun a ha => absurd ha (Nat.not_lt_zero _), fun a ha => absurd ha (Nat.not_lt_zero _), fun a ha => absurd ha (Nat.not_lt_zero _), fun a ha => absurd ha (Nat.not_lt_zero _), fun a ha => absurd ha (Nat.not_lt_zero _), fun a ha => absurd ha (Nat.not_lt_zero _), h108, h38⟩
  rw [cnt9 hs]
  show i 83 (rOf s) = nI 0
  rcases (show s = 0 ∨ s = 1 ∨ s = 2 ∨ s = 3 ∨ s = 4 ∨ s = 5 ∨ s = 6 by omega) with z | z | z | z | z | z | z <;> subst z
  · exact h14
  · exact h15
  · exact h16
  · exact h17
  · exact h21
  · exact h28
  · exact h34
/-- the reference reads what the text says -/
theorem r_read (hX : XR X i) (hw : XW X) (hW : WDS l) (hP : PTb i) : ∃ i', mm_V 235 0 [some (.ref 83)] [] (mm_Z m w i l e) = some (.inl none, mm_Z m w i' l e) ∧ mG fRp i i' ∧ (match sPol X with
  | .inl p => i' 83 46 = nI p ∧ p ≤ 1200
  | .inr π => i' 83 46 = -1 ∧ PR i' π ∧ PW π ∧ PO π) := by
  rw [mr_235_0]
  have fr : mG (fun k j => (k = 83 ∧ 10 ≤ j ∧ j ≤ 49) ∨ k = 108) i (mm_ww (mm_ww (mm_ww (mm_ww (mm_ww (mm_ww (mm_ww (mm_ww (mm_ww (mm_ww (mm_ww (mm_ww i 83 46 (-1)) 83 10 0) 83 14 0) 83 15 0) 83 16 0) 83 17 0) 83 21 0) 83 28 0) 83 34 0) 83 38 0) 108 0 0) 83 44 0) := fun k j z => by
    rw [mw_ne (by omega), mw_ne (by omega), mw_ne (by omega), mw_ne (by omega), mw_ne (by omega), mw_ne (by omega), mw_ne (by omega), mw_ne (by omega), mw_ne (by omega), mw_ne (by omega), mw_ne (by omega), mw_ne (by omega)]
  generalize hj : mm_ww (mm_ww (mm_ww (mm_ww (mm_ww (mm_ww (mm_ww (mm_ww (mm_ww (mm_ww (mm_ww (mm_ww i 83 46 (-1)) 83 10 0) 83 14 0) 83 15 0) 83 16 0) 83 17 0) 83 21 0) 83 28 0) 83 34 0) 83 38 0) 108 0 0) 83 44 0 = j1 at fr
  have v44 : j1 83 44 = nI 0 := by rw [← hj, mw_s]; rfl
  have v108 : j1 108 0 = 0 := by rw [← hj, mw_k (by omega), mw_s]
  have v38 : j1 83 38 = 0 := by rw [← hj, mw_j (by omega), mw_k (by omega), mw_s]
  have v34 : j1 83 34 = 0 := by rw [← hj, mw_j (by omega), mw_k (by omega), mw_j (by omega), mw_s]
  have v28 : j1 83 28 = 0 := by rw [← hj, mw_j (by omega), mw_k (by omega), mw_j (by omega), mw_j (by omega), mw_s]
  have v21 : j1 83 21 = 0 := by rw [← hj, mw_j (by omega), mw_k (by omega), mw_j (by omega), mw_j (by omega), mw_j (by omega), mw_s]
  have v17 : j1 83 17 = 0 := by rw [← hj, mw_j (by omega), mw_k (by omega), mw_j (by omega), mw_j (by omega), mw_j (by omega), mw_j (by omega), mw_s]
  have v16 : j1 83 16 = 0 := by rw [← hj, mw_j (by omega), mw_k (by omega), mw_j (by omega), mw_j (by omega), mw_j (by omega), mw_j (by omega), mw_j (by omega), mw_s]
  have v15 : j1 83 15 = 0 := by rw [← hj, mw_j (by omega), mw_k (by omega), mw_j (by omega), mw_j (by omega), mw_j (by omega), mw_j (by omega), mw_j (by omega), mw_j (by omega), mw_s]
  have v14 : j1 83 14 = 0 := by rw [← hj, mw_j (by omega), mw_k (by omega), mw_j (by omega), mw_j (by omega), mw_j (by omega), mw_j (by omega), mw_j (by omega), mw_j (by omega), mw_j (by omega), mw_s]
  have v10 : j1 83 10 = 0 := by rw [← hj, mw_j (by omega), mw_k (by omega), mw_j (by omega), mw_j (by omega), mw_j (by omega), mw_j (by omega), mw_j (by omega), mw_j (by omega), mw_j (by omega), mw_j (by omega), mw_s]
  have v46 : j1 83 46 = -1 := by rw [← hj, mw_j (by omega), mw_k (by omega), mw_j (by omega), mw_j (by omega), mw_j (by omega), mw_j (by omega), mw_j (by omega), mw_j (by omega), mw_j (by omega), mw_j (by omega), mw_j (by omega), mw_s]
  clear hj
  have hX1 : XR X j1 := hX.kp (fr _ _ (by omega)) (fun j => fr _ _ (by omega))
  obtain ⟨i2, k1, k2, k3⟩ := xr_adv (m := m) (w := w) (e := e) hX1 hw hW v44 (Nat.zero_le _)
  have t2 : TZ X i2 (lx X 0) := ⟨hX1.kp (k3 _ _ (by omega)) (fun j => k3 _ _ (by omega)), hw, ⟨0, Nat.zero_le _, rfl⟩, k2, by rw [k3 _ _ (by omega)]; exact v46⟩
  have d2 : DRf 9 i2 d0 := (DRf_0 v10 v14 v15 v16 v17 v21 v28 v34 v38 v108).ku (fun k j z => k3 k j (fun y => uRf_no z ⟨y.1, y.2.1, by omega⟩))
  have f2 : mG fRp i i2 := (fr.mo (fun a b z => by unfold fRp; omega)).tr (k3.mo (fun a b z => by unfold fRp; omega))
  obtain ⟨i3, e1, e2, e3⟩ := r_all (m := m) (w := w) (l := l) (e := e) hW 1200 (lx X 0) d0 i2 t2 (hP.fr f2) d2 DW_0 (Nat.zero_le _) (by omega)
  rw [k1, mb_l, mb_0, e1, mr_235_87]
  have dead : ∀ (i4 : Nat → Nat → Int32) (p : Nat), i4 83 46 = nI p → p ≤ 1200 → mm_V 235 98 [some (.ref 83)] [] (mm_Z m w i4 l e) = some (.inl none, mm_Z m w i4 l e) := fun i4 p z1 z2 => by
    rw [mr_235_98, r_dead z1 z2, mb_l, mb_v, mr_235_102, if_pos rfl, mr_235_109]
  unfold sPol
  cases hr : sAll X 1200 (lx X 0) d0 with
  | inl p =>
    rw [hr] at e3
    have e3' : i3 83 46 = nI p ∧ p ≤ 1200 := e3
    rw [r_dead e3'.1 e3'.2, mb_l, mb_v, mr_235_91, if_pos rfl, dead i3 p e3'.1 e3'.2]
    exact ⟨i3, rfl, f2.tr e2, e3'⟩
  | inr δ =>
    rw [hr] at e3
    have e3' : i3 83 46 = -1 ∧ DRf 9 i3 δ ∧ DW δ ∧ dE δ ≤ 1200 := e3
    obtain ⟨a1, a2, a3, a4⟩ := e3'
    have rp : RPd i3 δ := ⟨a2, a3, a4⟩
    have nv := r_nv (m := m) (w := w) (l := l) (e := e) rp a1 (pN (dP δ) 4) 0 none (by omega)
    have nv : mm_V 239 2 [some (.ref 83), some (.int 0), none] [] (mm_Z m w i3 l e) = some (.inl none, mm_Z m w (if pNv (dSe δ) < pN (dP δ) 4 then mm_ww i3 83 46 (nI (dR δ (pNv (dSe δ)))) else i3) l e) := nv
    rw [r_live a1, mb_l, mb_v, mr_235_91, if_neg (by decide), mr_239_0, nv, mb_l, mb_0, eB_r]
    by_cases z1 : pNv (dSe δ) < pN (dP δ) 4
    · have hR := a3.2.2.2.2.2.1 _ z1
      have ed : dCt δ (dSe δ) = .inl (dR δ (pNv (dSe δ))) := by unfold dCt; rw [if_pos (show pNv (dSe δ) < pN (dSe δ) 4 from z1)]
      rw [if_pos z1, dead _ _ mw_s hR, ed]
      exact ⟨_, rfl, (f2.tr e2).tr (mG.ww (P := fRp) (by unfold fRp; omega)), mw_s, hR⟩
    · have mv := r_mv (m := m) (w := w) (l := l) (e := e) rp a1 (pN (dP δ) 5) 0 none (by omega)
      have mv : mm_V 240 2 [some (.ref 83), some (.int 0), none] [] (mm_Z m w i3 l e) = some (.inl none, mm_Z m w (if pCv (dSe δ) < pN (dP δ) 5 then mm_ww i3 83 46 (nI (dM δ (pCv (dSe δ)))) else i3) l e) := mv
      rw [if_neg z1, mr_235_98, r_live a1, mb_l, mb_v, mr_235_102, if_neg (by decide), mr_240_0, mv, mb_l, mb_0, mr_235_109]
      by_cases z2 : pCv (dSe δ) < pN (dP δ) 5
      · have hR := a3.2.2.2.2.2.2 _ z2
        have ed : dCt δ (dSe δ) = .inl (dM δ (pCv (dSe δ))) := by unfold dCt; rw [if_neg (show ¬ pNv (dSe δ) < pN (dSe δ) 4 from z1), if_pos (show pCv (dSe δ) < pN (dSe δ) 5 from z2)]
        rw [if_pos z2, ed]
        exact ⟨_, rfl, (f2.tr e2).tr (mG.ww (P := fRp) (by unfold fRp; omega)), mw_s, hR⟩
      · have ed : dCt δ (dSe δ) = .inr (dSe δ) := by unfold dCt; rw [if_neg (show ¬ pNv (dSe δ) < pN (dSe δ) 4 from z1), if_neg (show ¬ pCv (dSe δ) < pN (dSe δ) 5 from z2)]
        obtain ⟨-, pw, po⟩ := PW_se a3 ed
        rw [if_neg z2, ed]
        exact ⟨i3, rfl, f2.tr e2, a1, a2.pr a3 a4, pw, po⟩
end MM175
