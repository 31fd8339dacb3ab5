/-! DRAFTS of the reference; names declared and named -/
section MM161
variable {X : mX} {t : m3} {w : Bool} {i i' : Nat → Nat → Int32} {l : Nat → Nat → Int64} {δ : mQ} {m : Nat} {e : Bool × Nat × Nat} {n k s a b c p g : Nat} {L : List Nat} {x y : Int32}
/-- how many of sort s the reference counts, while sort g is being declared -/
def cnt7 (δ : mQ) (g s : Nat) : Nat := if s = g then pN (dP δ) s - 1 else pN (dP δ) s
def rOf (s : Nat) : Nat := if s < 4 then 14 + s else if s = 4 then 21 else if s = 5 then 28 else 34
/-- how the reference names types -/
def rvv (x : Int32) : Int32 := if x = 400 then -1 else if x = -1 then -2 else x
def qT (i : Nat → Nat → Int32) (k : Nat) (o : mO) : Prop := (o.1 = 0 ∧ i 109 k = -1) ∨ (o.1 = 1 ∧ i 109 k = -2) ∨ (o.1 = 2 ∧ i 109 k = -3) ∨ (3 ≤ o.1 ∧ o.1 ≤ 5 ∧ (∃ t, (t = o.1 - 3 ∨ t = o.1) ∧ i 109 k = nI (t + (if o.2.1 = true then 1000 else 0))) ∧ i 110 k = -1) ∨ (6 ≤ o.1 ∧ o.1 ≤ 7 ∧ i 109 k = nI ((if o.1 = 6 then 2 else 5) + (if o.2.1 = true then 1000 else 0)) ∧ i 110 k = o.2.2)
def qSeg (i : Nat → Nat → Int32) (s : Nat) (ops : List mO) : Prop := ∀ j o, ops[j]? = some o → qT i (s + j) o
def RDr (i : Nat → Nat → Int32) (δ : mQ) : Prop := ∀ k, k < pN (dP δ) 4 → i 95 k = nI ((pL (dP δ) k).1 + 5) ∧ i 96 k = rvv (pL (dP δ) k).2.1 ∧ i 97 k = rvv (pL (dP δ) k).2.2.1 ∧ i 98 k = nI (pL (dP δ) k).2.2.2.1 ∧ i 99 k = (pL (dP δ) k).2.2.2.2 ∧ i 100 k = nI (dR δ k)
def RDm (i : Nat → Nat → Int32) (δ : mQ) : Prop := ∀ k, k < pN (dP δ) 5 → i 101 k = nI (pM (dP δ) k).1 ∧ i 102 k = nI (pM (dP δ) k).2.1 ∧ i 103 k = nI (pM (dP δ) k).2.2.1 ∧ i 104 k = nI (pM (dP δ) k).2.2.2 ∧ i 105 k = nI (dM δ k)
def RDl (i : Nat → Nat → Int32) (δ : mQ) : Prop := (∀ k, k < pN (dP δ) 6 → i 106 k = nI (pT (dP δ) k).1 ∧ i 107 k = (pT (dP δ) k).2.1 ∧ ∃ s, i 108 k = nI s ∧ i 108 (k + 1) = nI (s + (pT (dP δ) k).2.2.length) ∧ s + (pT (dP δ) k).2.2.length ≤ dE δ ∧ qSeg i s (pT (dP δ) k).2.2) ∧ i 108 (pN (dP δ) 6) = nI (dE δ) ∧ i 83 38 = nI (dE δ)
def DRf (g : Nat) (i : Nat → Nat → Int32) (δ : mQ) : Prop := RN i δ ∧ (∀ s, s < 7 → i 83 (rOf s) = nI (cnt7 δ g s)) ∧ (∀ a, a < pN (dP δ) 1 → i 92 a = nI (dA δ a)) ∧ (∀ r, r < cnt7 δ g 2 → i 93 r = pR (dP δ) r) ∧ (∀ u, u < cnt7 δ g 3 → i 94 u = pU (dP δ) u) ∧ RDr i δ ∧ RDm i δ ∧ RDl i δ
/-- the cells of a draft -/
def uRf (g : Nat) (δ : mQ) (k j : Nat) : Prop := (k = 83 ∧ (j = 10 ∨ (14 ≤ j ∧ j ≤ 17) ∨ j = 21 ∨ j = 28 ∨ j = 34 ∨ j = 38)) ∨ (k = 89 ∧ j < 9 * dL δ) ∨ (90 ≤ k ∧ k ≤ 91 ∧ j < dL δ) ∨ (k = 92 ∧ j < pN (dP δ) 1) ∨ (k = 93 ∧ j < cnt7 δ g 2) ∨ (k = 94 ∧ j < cnt7 δ g 3) ∨ (95 ≤ k ∧ k ≤ 100 ∧ j < pN (dP δ) 4) ∨ (101 ≤ k ∧ k ≤ 105 ∧ j < pN (dP δ) 5) ∨ (106 ≤ k ∧ k ≤ 107 ∧ j < pN (dP δ) 6) ∨ (k = 108 ∧ j ≤ pN (dP δ) 6) ∨ (109 ≤ k ∧ k ≤ 110 ∧ j < dE δ)
theorem rOf_in : rOf s = 14 ∨ rOf s = 15 ∨ rOf s = 16 ∨ rOf s = 17 ∨ rOf s = 21 ∨ rOf s = 28 ∨ rOf s = 34 := by unfold rOf; split <;> (try split) <;> (try split) <;> omega
theorem RN.ku (h : RN i δ) (h0 : i' 83 10 = i 83 10) (h1 : ∀ j, j < 9 * dL δ → i' 89 j = i 89 j) (h2 : ∀ k j, 90 ≤ k → k ≤ 91 → j < dL δ → i' k j = i k j) : RN i' δ := by
  refine ⟨by rw [h0]; exact h.1, fun j hj => ?_⟩
  obtain ⟨a1, a2, a3⟩ := h.2 j hj
  exact ⟨fun k hk => by rw [h1 _ (by omega)]; exact a1 k hk, by rw [h2 _ _ (by omega) (by omega) hj]; exact a2, by rw [h2 _ _ (by omega) (by omega) hj]; exact a3⟩
theorem qT.ku {o : mO} (h : qT i k o) (h1 : i' 109 k = i 109 k) (h2 : i' 110 k = i 110 k) : qT i' k o := by unfold qT at h ⊢; rw [h1, h2]; exact h
theorem qSeg.ku {O : List mO} (h : qSeg i s O) (h1 : ∀ k j, 109 ≤ k → k ≤ 110 → j < s + O.length → i' k j = i k j) : qSeg i' s O := by
  intro j o hj
  have hl : j < O.length := by
    rcases Nat.lt_or_ge j O.length with z | z
    · exact z
    · rw [List.getElem?_eq_none z] at hj; cases hj
  exact (h j o hj).ku (h1 _ _ (by omega) (by omega) (by omega)) (h1 _ _ (by omega) (by omega) (by omega))
theorem RDl.ku (h : RDl i δ) (h1 : ∀ k j, 106 ≤ k → k ≤ 107 → j < pN (dP δ) 6 → i' k j = i k j) (h2 : ∀ j, j ≤ pN (dP δ) 6 → i' 108 j = i 108 j) (h3 : ∀ k j, 109 ≤ k → k ≤ 110 → j < dE δ → i' k j = i k j) (h4 : i' 83 38 = i 83 38) : RDl i' δ := by
  refine ⟨fun k hk => ?_, by rw [h2 _ (Nat.le_refl _)]; exact h.2.1, by rw [h4]; exact h.2.2⟩
  obtain ⟨a1, a2, s, a3, a4, a5, a6⟩ := h.1 k hk
  exact ⟨by rw [h1 _ _ (by omega) (by omega) hk]; exact a1, by rw [h1 _ _ (by omega) (by omega) hk]; exact a2, s, by rw [h2 _ (by omega)]; exact a3, by rw [h2 _ (by omega)]; exact a4, a5, a6.ku (fun k j b1 b2 b3 => h3 k j b1 b2 (by omega))⟩
theorem DRf.ku (h : DRf g i δ) (hu : ∀ k j, uRf g δ k j → i' k j = i k j) : DRf g i' δ := by
  obtain ⟨h1, h2, h3, h4, h5, h6, h7, h8⟩ := h
  have u0 : ∀ j, (j = 10 ∨ (14 ≤ j ∧ j ≤ 17) ∨ j = 21 ∨ j = 28 ∨ j = 34 ∨ j = 38) → i' 83 j = i 83 j := fun j z => hu _ _ (Or.inl ⟨rfl, z⟩)
  have u1 : ∀ j, j < 9 * dL δ → i' 89 j = i 89 j := fun j z => hu _ _ (Or.inr (Or.inl ⟨rfl, z⟩))
  have u2 : ∀ k j, 90 ≤ k → k ≤ 91 → j < dL δ → i' k j = i k j := fun k j a b z => hu _ _ (Or.inr (Or.inr (Or.inl ⟨a, b, z⟩)))
  have u3 : ∀ j, j < pN (dP δ) 1 → i' 92 j = i 92 j := fun j z => hu _ _ (Or.inr (Or.inr (Or.inr (Or.inl ⟨rfl, z⟩))))
  have u4 : ∀ j, j < cnt7 δ g 2 → i' 93 j = i 93 j := fun j z => hu _ _ (Or.inr (Or.inr (Or.inr (Or.inr (Or.inl ⟨rfl, z⟩)))))
  have u5 : ∀ j, j < cnt7 δ g 3 → i' 94 j = i 94 j := fun j z => hu _ _ (Or.inr (Or.inr (Or.inr (Or.inr (Or.inr (Or.inl ⟨rfl, z⟩))))))
  have u6 : ∀ k j, 95 ≤ k → k ≤ 100 → j < pN (dP δ) 4 → i' k j = i k j := fun k j a b z => hu _ _ (Or.inr (Or.inr (Or.inr (Or.inr (Or.inr (Or.inr (Or.inl ⟨a, b, z⟩)))))))
  have u7 : ∀ k j, 101 ≤ k → k ≤ 105 → j < pN (dP δ) 5 → i' k j = i k j := fun k j a b z => hu _ _ (Or.inr (Or.inr (Or.inr (Or.inr (Or.inr (Or.inr (Or.inr (Or.inl ⟨a, b, z⟩))))))))
  have u8 : ∀ k j, 106 ≤ k → k ≤ 107 → j < pN (dP δ) 6 → i' k j = i k j := fun k j a b z => hu _ _ (Or.inr (Or.inr (Or.inr (Or.inr (Or.inr (Or.inr (Or.inr (Or.inr (Or.inl ⟨a, b, z⟩)))))))))
  have u9 : ∀ j, j ≤ pN (dP δ) 6 → i' 108 j = i 108 j := fun j z => hu _ _ (Or.inr (Or.inr (Or.inr (Or.inr (Or.inr (Or.inr (Or.inr (Or.inr (Or.inr (Or.inl ⟨rfl, z⟩))))))))))
  have v1 : ∀ k j, 109 ≤ k → k ≤ 110 → j < dE δ → i' k j = i k j := fun k j a b z => hu _ _ (Or.inr (Or.inr (Or.inr (Or.inr (Or.inr (Or.inr (Or.inr (Or.inr (Or.inr (Or.inr ⟨a, b, z⟩))))))))))
  clear hu
  refine ⟨h1.ku (u0 _ (by omega)) u1 u2, fun s hs => ?_, fun a ha => ?_, fun r hr => ?_, fun u hu' => ?_, fun k hk => ?_, fun k hk => ?_, h8.ku u8 u9 v1 (u0 _ (by omega))⟩
  · have := @rOf_in s
    rw [u0 _ (by omega)]; exact h2 s hs
  · rw [u3 _ ha]; exact h3 a ha
  · rw [u4 _ hr]; exact h4 r hr
  · rw [u5 _ hu']; exact h5 u hu'
  · rw [u6 _ _ (by omega) (by omega) hk, u6 _ _ (by omega) (by omega) hk, u6 _ _ (by omega) (by omega) hk, u6 _ _ (by omega) (by omega) hk, u6 _ _ (by omega) (by omega) hk, u6 _ _ (by omega) (by omega) hk]
    exact h6 k hk
  · rw [u7 _ _ (by omega) (by omega) hk, u7 _ _ (by omega) (by omega) hk, u7 _ _ (by omega) (by omega) hk, u7 _ _ (by omega) (by omega) hk, u7 _ _ (by omega) (by omega) hk]
    exact h7 k hk
theorem uRf_no {j : Nat} (h : uRf g δ k j) : ¬ fTk k j := by
  unfold fTk
  rcases h with h | h | h | h | h | h | h | h | h | h | h <;> omega
theorem DRf.tk (h : DRf g i δ) (hf : mG fTk i i') : DRf g i' δ := h.ku (fun k j z => hf k j (uRf_no z))
/-- what reading may write -/
def fRp (k j : Nat) : Prop := (k = 83 ∧ 10 ≤ j ∧ j ≤ 49) ∨ (89 ≤ k ∧ k ≤ 110) ∨ k = 112
theorem fTk_R {k j : Nat} (h : fTk k j) : fRp k j := by unfold fTk at h; unfold fRp; omega
theorem cnt9 (hs : s < 7) : cnt7 δ 9 s = pN (dP δ) s := if_neg (by omega)
theorem DRf.ct (h : DRf 9 i δ) (hs : s < 7) : i 83 (rOf s) = nI (pN (dP δ) s) := by rw [h.2.1 s hs, cnt9 hs]
/-- the letters of a new name -/
theorem r_let_loop {N : Nat} (hN : N < 49) (h2 : t.2.2 = 2) : ∀ (d k : Nat) (i : Nat → Nat → Int32), k + d = 9 → TZ X i t → i 83 10 = nI N → (∀ c, c < k → i 89 (9 * N + c) = nI ((tLt X t).getD c 0)) → ∃ i', mm_V 211 25 [some (.ref 83), some (.int x), some (.int y), some (.int (nI k))] [] (mm_Z m w i l e) = mm_V 211 25 [some (.ref 83), some (.int x), some (.int y), some (.int (nI 9))] [] (mm_Z m w i' l e) ∧ mG (fun k j => k = 89 ∧ 9 * N ≤ j) i i' ∧ ∀ c, c < 9 → i' 89 (9 * N + c) = nI ((tLt X t).getD c 0) := by
  intro d
  induction d with
  | zero =>
    intro k i hk h h10 hc
    have : k = 9 := by omega
    subst this
    exact ⟨i, rfl, mG.rf, hc⟩
  | succ d ih =>
    intro k i hk h h10 hc
    have o1 := h.tk.ok
    have o2 := o1.2.1 (by omega)
    have hz := h.xw.1
    obtain ⟨-, -, hl⟩ := h.tk.lt h.xw
    obtain ⟨-, -, l3⟩ := hl (Or.inl h2)
    have eL : tLt X t = sg X t.1 (t.2.1 - t.1) := if_pos (Or.inl h2)
    have step : ∀ v, v = nI ((tLt X t).getD k 0) → ∃ i', mm_V 211 25 [some (.ref 83), some (.int x), some (.int y), some (.int (nI (k + 1)))] [] (mm_Z m w (mm_ww i 89 (9 * N + k) v) l e) = mm_V 211 25 [some (.ref 83), some (.int x), some (.int y), some (.int (nI 9))] [] (mm_Z m w i' l e) ∧ mG (fun k j => k = 89 ∧ 9 * N ≤ j) i i' ∧ ∀ c, c < 9 → i' 89 (9 * N + c) = nI ((tLt X t).getD c 0) := fun v hv => by
      obtain ⟨i1, e1, e2, e3⟩ := ih (k + 1) (mm_ww i 89 (9 * N + k) v) (by omega) (h.ww (by unfold fTk; omega)) (by rw [mw_k (by omega)]; exact h10) (fun c hc' => by
        rw [mw_r]
        split
        · rename_i z; rw [hv, show c = k by omega]
        · exact hc c (by omega))
      exact ⟨i1, e1, (mG.ww ⟨rfl, by omega⟩).tr e2, e3⟩
    rw [mr_211_25, if_pos (by rw [na_9]; exact (nI_ltI (by omega) (by omega)).mpr (by omega)), h.k3, h.k4 (by omega), nI_add, h10, na_9, na_mul, nI_add, nI_1]
    by_cases q : t.1 + k < t.2.1
    · rw [if_pos ((nI_ltI (by omega) (by omega)).mpr q), if_neg (no_out (by omega) (by omega)), if_neg (no_out (by omega) (by omega)), nI_clamp (by omega), nI_clamp (by omega), h.1.2 _ (by omega)]
      exact step _ (by rw [eL, sg_get X _ _ _ (by omega)])
    · rw [if_neg (fun z => q ((nI_ltI (by omega) (by omega)).mp z)), if_neg (no_out (by omega) (by omega)), nI_clamp (by omega)]
      exact step _ (by rw [List.getD_eq_getElem?_getD, List.getElem?_eq_none (by omega)]; rfl)
theorem DRf.ad (h : DRf 9 i δ) (hs : s < 4) (h42 : dL δ ≤ 42) (hA : AW δ) (h1 : ∀ c, c < 9 → i' 89 (9 * dL δ + c) = nI (L.getD c 0)) (h2 : i' 90 (dL δ) = nI (s + 1)) (h3 : i' 91 (dL δ) = nI (pN (dP δ) s)) (h4 : i' 83 10 = nI (dL δ + 1)) (h5 : s = 1 → i' 92 (pN (dP δ) 1) = 0) (hf : mG (fun k j => (k = 89 ∧ 9 * dL δ ≤ j) ∨ (90 ≤ k ∧ k ≤ 91 ∧ dL δ ≤ j) ∨ (k = 83 ∧ j = 10) ∨ fTk k j) i i') : DRf s i' (dAd δ L s) := by
  obtain ⟨a1, a2, a3, a4, a5, a6, a7, a8⟩ := h
  have el : dL (dAd δ L s) = dL δ + 1 := dNm_l
  have ep : ∀ j, pN (dP (dAd δ L s)) j = if j = s then pN (dP δ) s + 1 else pN (dP δ) j := fun j => up_if
  have e7 : ∀ j, j < 7 → cnt7 (dAd δ L s) s j = cnt7 δ 9 j := fun j hj => by
    rw [cnt9 hj]; unfold cnt7; rw [ep]
    split
    · rename_i z; rw [z]; omega
    · rfl
  have far : ∀ k j, 92 ≤ k → i' k j = i k j := fun k j z => hf _ _ (by unfold fTk; omega)
  refine ⟨⟨by rw [el]; exact h4, fun j hj => ?_⟩, fun j hj => ?_, fun a ha => ?_, fun r hr => ?_, fun r hr => ?_, fun k hk => ?_, fun k hk => ?_, ?_⟩
  · by_cases z : j < dL δ
    · rw [show dG (dAd δ L s) j = dG δ j from dNm_o z]
      obtain ⟨b1, b2, b3⟩ := a1.2 j z
      exact ⟨fun k hk => by rw [hf _ _ (by unfold fTk; omega)]; exact b1 k hk, by rw [hf _ _ (by unfold fTk; omega)]; exact b2, by rw [hf _ _ (by unfold fTk; omega)]; exact b3⟩
    · rw [show j = dL δ by omega, show dG (dAd δ L s) (dL δ) = (L, s, pN (dP δ) s) from dNm_e]
      exact ⟨h1, h2, h3⟩
  · have := @rOf_in j
    rw [hf _ _ (by unfold fTk; omega), e7 j hj]; exact a2 j hj
  · rw [ep] at ha
    show i' 92 a = nI (dA δ a)
    by_cases z : a < pN (dP δ) 1
    · rw [far _ _ (by omega)]; exact a3 a z
    · have z1 : s = 1 := by
        rcases Nat.lt_or_ge s 1 with y | y
        · rw [if_neg (by omega)] at ha; omega
        · rcases Nat.lt_or_ge 1 s with y2 | y2
          · rw [if_neg (by omega)] at ha; omega
          · omega
      rw [if_pos z1.symm, z1] at ha
      have z2 : a = pN (dP δ) 1 := by omega
      rw [z2, h5 z1, (hA (pN (dP δ) 1)).2 (Nat.le_refl _)]; rfl
  · rw [e7 2 (by omega)] at hr
    rw [far _ _ (by omega)]; exact a4 r hr
  · rw [e7 3 (by omega)] at hr
    rw [far _ _ (by omega)]; exact a5 r hr
  · rw [ep, if_neg (by omega)] at hk
    rw [far _ _ (by omega), far _ _ (by omega), far _ _ (by omega), far _ _ (by omega), far _ _ (by omega), far _ _ (by omega)]
    exact a6 k hk
  · rw [ep, if_neg (by omega)] at hk
    rw [far _ _ (by omega), far _ _ (by omega), far _ _ (by omega), far _ _ (by omega), far _ _ (by omega)]
    exact a7 k hk
  · have q := a8.ku (i' := i') (fun k j _ _ _ => far _ _ (by omega)) (fun j _ => far _ _ (by omega)) (fun k j _ _ _ => far _ _ (by omega)) (hf _ _ (by unfold fTk; omega))
    unfold RDl at q ⊢
    rw [ep, if_neg (by omega)]
    exact q
def fDc (N k j : Nat) : Prop := (k = 89 ∧ 9 * N ≤ j) ∨ (90 ≤ k ∧ k ≤ 91 ∧ N ≤ j) ∨ (k = 83 ∧ j = 10)
/-- a name is declared -/
theorem r_dec (h : TZ X i t) (hW : WDS l) (hD : DRf 9 i δ) (hd : DW δ) (hs : s < 4) (h9 : s = 1 → i 92 (pN (dP δ) 1) = 0) {x y : Int32} (hx : x = nI (s + 1)) (hy : y = nI (pN (dP δ) s)) : ∃ i', mm_V 211 0 [some (.ref 83), some (.int x), some (.int y), none] [] (mm_Z m w i l e) = some (.inl none, mm_Z m w i' l e) ∧ mG fRp i i' ∧ i' 83 (rOf s) = i 83 (rOf s) ∧ (match sDec X s t δ with
  | .inl p => i' 83 46 = nI p ∧ p ≤ 1200
  | .inr r => TZ X i' r.1 ∧ DRf s i' r.2) := by
  have h42 := hd.l42
  have hle := dI_le δ (tLt X t)
  have hO := @rOf_in s
  obtain ⟨e1, e2, e3, e4⟩ := h.fl (m := m) (w := w) (l := l) (e := e)
  have bad : ¬ (t.2.2 = 2 ∧ dI δ (tLt X t) = dL δ) → ∃ i', mm_V 211 14 [some (.ref 83), some (.int x), some (.int y), none] [] (mm_Z m w i l e) = some (.inl none, mm_Z m w i' l e) ∧ mG fRp i i' ∧ i' 83 (rOf s) = i 83 (rOf s) ∧ (match sDec X s t δ with
  | .inl p => i' 83 46 = nI p ∧ p ≤ 1200
  | .inr r => TZ X i' r.1 ∧ DRf s i' r.2) := fun z => by
    rw [mr_211_14, e1, mb_l, mb_0, mr_211_22]
    unfold sDec
    rw [if_neg z]
    exact ⟨_, rfl, e2.mo (fun a b y => fTk_R y), by rw [mw_j (by omega)], e3, e4⟩
  rw [mr_211_0, h.free, mb_l, mb_v, mr_211_4]
  by_cases q1 : t.2.2 = 2
  · rw [decide_eq_true q1, if_bt, h.name hD.1 hd, mb_l, mb_v, mr_211_11]
    by_cases q2 : dI δ (tLt X t) = dL δ
    · rw [if_neg (show ¬ dI δ (tLt X t) < dL δ by omega), if_pos (by decide)]
      obtain ⟨i1, f1, f2, f3⟩ := r_let_loop (m := m) (w := w) (l := l) (e := e) (x := x) (y := y) (X := X) (show dL δ < 49 by omega) q1 9 0 i (by omega) h hD.1.1 (fun c hc => by omega)
      have g10 : i1 83 10 = nI (dL δ) := by rw [f2 _ _ (by omega)]; exact hD.1.1
      rw [show (0 : Int32) = nI 0 from rfl, f1, mr_211_25, if_neg (by decide), g10, if_neg (no_out (by omega) (by omega)), if_neg (no_out (by omega) (by omega)), nI_clamp (by omega), nI_1]
      have hg : mG (fDc (dL δ)) i (mm_ww (mm_ww (mm_ww i1 90 (dL δ) x) 91 (dL δ) y) 83 10 (nI (dL δ + 1))) := (((f2.mo (Q := fDc (dL δ)) (fun a b z => Or.inl z)).tr (mG.ww (P := fDc (dL δ)) (by unfold fDc; omega))).tr (mG.ww (P := fDc (dL δ)) (by unfold fDc; omega))).tr (mG.ww (P := fDc (dL δ)) (by unfold fDc; omega))
      have w1 : ∀ c, c < 9 → mm_ww (mm_ww (mm_ww i1 90 (dL δ) x) 91 (dL δ) y) 83 10 (nI (dL δ + 1)) 89 (9 * dL δ + c) = nI ((tLt X t).getD c 0) := fun c hc => by rw [mw_k (by omega), mw_k (by omega), mw_k (by omega)]; exact f3 c hc
      have w2 : mm_ww (mm_ww (mm_ww i1 90 (dL δ) x) 91 (dL δ) y) 83 10 (nI (dL δ + 1)) 90 (dL δ) = nI (s + 1) := by rw [mw_k (by omega), mw_k (by omega), mw_s, hx]
      have w3 : mm_ww (mm_ww (mm_ww i1 90 (dL δ) x) 91 (dL δ) y) 83 10 (nI (dL δ + 1)) 91 (dL δ) = nI (pN (dP δ) s) := by rw [mw_k (by omega), mw_s, hy]
      have w4 : mm_ww (mm_ww (mm_ww i1 90 (dL δ) x) 91 (dL δ) y) 83 10 (nI (dL δ + 1)) 83 10 = nI (dL δ + 1) := mw_s
      generalize mm_ww (mm_ww (mm_ww i1 90 (dL δ) x) 91 (dL δ) y) 83 10 (nI (dL δ + 1)) = i2 at hg w1 w2 w3 w4
      have h2 : TZ X i2 t := h.fr (hg.mo (fun a b z y => by unfold fTk at y; unfold fDc at z; omega))
      obtain ⟨i3, k1, k2, k3⟩ := h2.adv (m := m) (w := w) (e := e) hW (by omega)
      rw [k1, mb_l, mb_0, mr_211_113]
      unfold sDec
      rw [if_pos ⟨q1, q2⟩]
      have tk : ∀ k j, ¬ fTk k j → i3 k j = i2 k j := k3
      refine ⟨i3, rfl, (hg.mo (fun a b z => by unfold fRp; unfold fDc at z; omega)).tr (k3.mo (fun a b z => fTk_R z)), ?_, k2, ?_⟩
      · rw [tk _ _ (by unfold fTk; omega), hg _ _ (by unfold fDc; omega)]
      · exact hD.ad hs h42 hd.2.2.2.1 (fun c hc => by rw [tk _ _ (by unfold fTk; omega)]; exact w1 c hc) (by rw [tk _ _ (by unfold fTk; omega)]; exact w2) (by rw [tk _ _ (by unfold fTk; omega)]; exact w3) (by rw [tk _ _ (by unfold fTk; omega)]; exact w4) (fun z => by rw [tk _ _ (by unfold fTk; omega), hg _ _ (by unfold fDc; omega)]; exact h9 z) ((hg.mo (fun a b z => by unfold fDc at z; omega)).tr (k3.mo (fun a b z => Or.inr (Or.inr (Or.inr z)))))
    · rw [if_pos (show dI δ (tLt X t) < dL δ by omega), if_neg (nI_nn (by omega))]
      exact bad (fun z => q2 z.2)
  · rw [decide_eq_false q1, if_bf]
    exact bad (fun z => q1 z.1)
/-- a name of sort s -/
def eI (r : mE (m3 × Nat)) : mE (m3 × Int32) := eB r (fun q => .inr (q.1, nI q.2))
theorem dI_k (hd : DW δ) (hw : XW X) (ht : TK X t) (h : dI δ (tLt X t) < dL δ) : t.2.2 = 2 := by
  rcases Nat.lt_or_ge t.2.2 2 with z | z
  · have := nf_2 hd hw ht (by omega); omega
  · rcases Nat.lt_or_ge 2 t.2.2 with y | y
    · have := nf_2 hd hw ht (by omega); omega
    · omega
theorem r_num (h : TZ X i t) (hW : WDS l) (hn : RN i δ) (hd : DW δ) {x : Int32} (hx : x = nI (s + 1)) (hs : s < 4) : RI X m w l e i (mm_V 212 0 [some (.ref 83), some (.int x), none] [] (mm_Z m w i l e)) (eI (sNum X s t δ)) := by
  have h42 := hd.l42
  obtain ⟨e1, e2, e3, e4⟩ := h.fl (m := m) (w := w) (l := l) (e := e)
  have bad : ∀ v, ¬ (dI δ (tLt X t) < dL δ ∧ (dG δ (dI δ (tLt X t))).2.1 = s) → RI X m w l e i (mm_V 212 19 [some (.ref 83), some (.int x), some (.int v)] [] (mm_Z m w i l e)) (eI (sNum X s t δ)) := fun v z => by
    rw [mr_212_19, e1, mb_l, mb_0, mr_212_27]
    unfold sNum
    rw [if_neg z]
    exact ⟨0, _, rfl, e2, e3, e4⟩
  rw [mr_212_0, h.name hn hd, mb_l, mb_v, mr_212_4]
  by_cases q : dI δ (tLt X t) < dL δ
  · obtain ⟨a1, a2, a3⟩ := hn.2 _ q
    have a4 := (hd.v q).1
    rw [if_pos q, if_neg (nI_nn (by omega)), if_neg (no_out (by omega) (by omega)), nI_clamp (by omega), a2, hx]
    by_cases q2 : (dG δ (dI δ (tLt X t))).2.1 = s
    · obtain ⟨i1, k1, k2, k3⟩ := h.adv (m := m) (w := w) (e := e) hW (by rw [dI_k hd h.xw h.tk q]; omega)
      rw [if_pos (by rw [q2]), k1, mb_l, mb_0, mr_212_33, if_neg (no_out (by omega) (by omega)), nI_clamp (by omega), k3 _ _ (by unfold fTk; omega), a3]
      unfold sNum
      rw [if_pos ⟨q, q2⟩]
      exact ⟨_, i1, rfl, k3, rfl, k2⟩
    · rw [if_neg (fun z => q2 (by have := (nI_eq (by omega) (by omega)).mp z; omega)), ← hx]
      exact bad _ (fun z => q2 z.2)
  · rw [if_neg q, if_pos (by decide)]
    exact bad _ (fun z => q z.1)
end MM161
