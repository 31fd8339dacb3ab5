/-! FRAMES; THE JOURNAL -/
section MM67
/-- nothing but the places P has changed -/
def mG (P : Nat → Nat → Prop) (i i' : Nat → Nat → Int32) : Prop := ∀ k j, ¬ P k j → i' k j = i k j
theorem mG.rf {P : Nat → Nat → Prop} {i : Nat → Nat → Int32} : mG P i i := fun _ _ _ => rfl
theorem mG.tr {P : Nat → Nat → Prop} {i j k : Nat → Nat → Int32} (h1 : mG P i j) (h2 : mG P j k) : mG P i k := fun a b h => (h2 a b h).trans (h1 a b h)
theorem mG.mo {P Q : Nat → Nat → Prop} {i j : Nat → Nat → Int32} (h : mG P i j) (hm : ∀ a b, P a b → Q a b) : mG Q i j := fun a b hq => h a b (fun q => hq (hm a b q))
theorem mG.ww {P : Nat → Nat → Prop} {i : Nat → Nat → Int32} {k j : Nat} {x : Int32} (h : P k j) : mG P i (mm_ww i k j x) := by
  intro a b hq
  by_cases z : a = k
  · subst z
    exact mw_j (fun q => hq (by rw [q]; exact h))
  · rw [mw_k z]
theorem mG.up {P : Nat → Nat → Prop} {i : Nat → Nat → Int32} {k : Nat} {f : Nat → Int32} (h : ∀ j, P k j ∨ f j = i k j) : mG P i (va_up i k f) := by
  intro a b hq
  by_cases z : a = k
  · subst z
    rw [mu_s]
    exact (h b).resolve_left hq
  · rw [mu_k z]
theorem mG.of {P : Nat → Nat → Prop} {a b : Nat} {i j : Nat → Nat → Int32} (h : mF a b i j) (hp : ∀ k x, a ≤ k → k ≤ b → P k x) : mG P i j := by
  intro k x hq
  rw [h k]
  rcases Nat.lt_or_ge k a with z | z
  · exact Or.inl z
  · rcases Nat.lt_or_ge b k with y | y
    · exact Or.inr y
    · exact absurd (hp k x z y) hq
theorem TC.kp {t : Bool} {i i' : Nat → Nat → Int32} {τ : mT} (h : TC t i τ) (hf : ∀ k j, mm_Tr t + 1 ≤ k → k ≤ mm_Tr t + 4 → i' k j = i k j) : TC t i' τ := by
  intro n hn
  rw [hf _ n (by omega) (by omega), hf _ n (by omega) (by omega), hf _ n (by omega) (by omega)]
  refine ⟨(h n hn).1, (h n hn).2.1, (h n hn).2.2.1, fun z k hk => ?_, fun z k hk => ?_⟩
  · rw [hf _ _ (by omega) (by omega)]; exact (h n hn).2.2.2.1 z k hk
  · rw [hf _ _ (by omega) (by omega)]; exact (h n hn).2.2.2.2 z k hk
theorem TR.kp {i i' : Nat → Nat → Int32} {τ : mT} (h : TR i τ) (hf : ∀ k j, 113 ≤ k → k ≤ 118 → i' k j = i k j) : TR i' τ := by
  intro n hn
  rw [hf _ n (by omega) (by omega), hf _ n (by omega) (by omega), hf _ n (by omega) (by omega)]
  refine ⟨(h n hn).1, (h n hn).2.1, (h n hn).2.2.1, fun z k hk => ?_, fun z k hk => ?_⟩
  · rw [hf _ _ (by omega) (by omega)]; exact (h n hn).2.2.2.1 z k hk
  · rw [hf _ _ (by omega) (by omega), hf _ _ (by omega) (by omega)]; exact (h n hn).2.2.2.2 z k hk
theorem TS.kp {i i' : Nat → Nat → Int32} {τ : mT} (h : TS i τ) (hf : ∀ j, i' 119 j = i 119 j) : TS i' τ := by
  intro n hn
  simp only [hf]
  exact h n hn
variable {t w : Bool} {i : Nat → Nat → Int32} {l : Nat → Nat → Int64} {e : Bool × Nat × Nat} {τ σ : mT} {m : Nat}
theorem cl_0 : (0 : Int32).toNatClampNeg = 0 := by decide
theorem cl_32 : (Int32.ofNat 32).toNatClampNeg = 32 := by decide
theorem cl_768 : (Int32.ofNat 768).toNatClampNeg = 768 := by decide
theorem cp_at {f g : Nat → Int32} {n j : Nat} (h : j < n) : va_cpy f g 0 0 n j = f j := by
  rw [pk_cpy_in (by omega) (by omega)]
  congr 1
  omega
theorem tc_copyFrom (h : TC (!t) i τ) (hw : TW τ) : ∃ i', mm_V 154 0 [some (.ref (mm_Tr t)), some (.ref (mm_Tr (!t)))] [] (mm_Z m w i l e) = some (.inl none, mm_Z m w i' l e) ∧ TC t i' τ ∧ mG (fun k _ => mm_Tr t + 1 ≤ k ∧ k ≤ mm_Tr t + 4) i i' := by
  have n1 : ∀ a b, a ≤ 4 → b ≤ 4 → mm_Tr (!t) + a ≠ mm_Tr t + b := fun a b ha hb => mt_two ha hb
  have e0 := mr_154_0 m w t (!t) i l e
  rw [if_pos (by decide), if_pos (by decide), if_pos (by decide), if_pos (by decide), cl_0, cl_32, cl_768] at e0
  refine ⟨_, e0, ?_, ?_⟩
  · intro n hn
    obtain ⟨h1, h2, h3, h4, h5⟩ := h n hn
    have hs := (hw n hn).2.1
    refine ⟨?_, ?_, ?_, ?_, ?_⟩
    · rw [mu_k (by omega), mu_k (by omega), mu_k (by omega), mu_s, cp_at hn]; exact h1
    · rw [mu_k (by omega), mu_k (by omega), mu_s, cp_at hn, mu_k (n1 _ _ (by omega) (by omega))]; exact h2
    · rw [mu_k (by omega), mu_s, cp_at hn, mu_k (n1 _ _ (by omega) (by omega)), mu_k (n1 _ _ (by omega) (by omega))]; exact h3
    · intro z k hk
      rw [mu_s, cp_at (by omega), mu_k (n1 _ _ (by omega) (by omega)), mu_k (n1 _ _ (by omega) (by omega)), mu_k (n1 _ _ (by omega) (by omega))]; exact h4 z k hk
    · intro z k hk
      rw [mu_s, cp_at (by omega), mu_k (n1 _ _ (by omega) (by omega)), mu_k (n1 _ _ (by omega) (by omega)), mu_k (n1 _ _ (by omega) (by omega))]; exact h5 z k hk
  · intro k j hq
    rw [mu_k (by omega), mu_k (by omega), mu_k (by omega), mu_k (by omega)]
/-- deeds behind what is sure: the class's, the reference's -/
def JC (i : Nat → Nat → Int32) (Q : List mD) : Prop := i 56 3 = nI Q.length ∧ ∀ k q, Q[k]? = some q → ∀ j, j < 5 → i 67 (5 * k + j) = mDc q j
def JR (i : Nat → Nat → Int32) (Q : List mD) : Prop := i 83 57 = nI Q.length ∧ ∀ k q, Q[k]? = some q → ∀ j, j < 5 → i 120 (5 * k + j) = mDr q j
theorem JC.kp {i i' : Nat → Nat → Int32} {Q : List mD} (h : JC i Q) (h1 : i' 56 3 = i 56 3) (h2 : ∀ j, i' 67 j = i 67 j) : JC i' Q := ⟨h1.trans h.1, fun k q hq j hj => (h2 _).trans (h.2 k q hq j hj)⟩
theorem JR.kp {i i' : Nat → Nat → Int32} {Q : List mD} (h : JR i Q) (h1 : i' 83 57 = i 83 57) (h2 : ∀ j, i' 120 j = i 120 j) : JR i' Q := ⟨h1.trans h.1, fun k q hq j hj => (h2 _).trans (h.2 k q hq j hj)⟩
theorem JC_nil {i : Nat → Nat → Int32} (h : i 56 3 = 0) : JC i [] := ⟨h, fun k q hq => by simp at hq⟩
theorem JR_nil {i : Nat → Nat → Int32} (h : i 83 57 = 0) : JR i [] := ⟨h, fun k q hq => by simp at hq⟩
theorem jc_makeSure (h : TC true i τ) (hw : TW τ) : ∃ i', mm_V 84 0 [some (.ref 56)] [] (mm_Z m w i l e) = some (.inl none, mm_Z m w i' l e) ∧ TC false i' τ ∧ JC i' [] ∧ mG (fun k j => (63 ≤ k ∧ k ≤ 66) ∨ (k = 56 ∧ j = 3)) i i' := by
  obtain ⟨i1, e1, e2, e3⟩ := tc_copyFrom (t := false) (m := m) (w := w) (l := l) (e := e) h hw
  have e1 : mm_V 154 0 [some (.ref (mm_Tr false)), some (.ref (mm_Tr true))] [] (mm_Z m w i l e) = some (.inl none, mm_Z m w i1 l e) := e1
  refine ⟨mm_ww i1 56 3 0, ?_, ?_, JC_nil mw_s, ?_⟩
  · rw [mr_84_0, e1, mb_l, mb_0, mr_84_11]
  · exact e2.kp (fun k j h1 h2 => by rw [mw_k (by simp only [mm_Tr, cond_false] at h1; omega)])
  · exact (e3.mo (fun a b z => Or.inl (by simp only [mm_Tr, cond_false] at z; omega))).tr (mG.ww (Or.inr ⟨rfl, rfl⟩))
theorem jc_note {Q : List mD} {q : mD} (h : TC true i τ) (hs : TC false i σ) (hw : TW τ) (hj : JC i Q) (hQ : Q.length < 200) (ho : tOk τ q) : ∃ i', mm_V 83 0 [some (.ref 56), some (.int (mDc q 0)), some (.int (mDc q 1)), some (.int (mDc q 2)), some (.int (mDc q 3)), some (.int (mDc q 4)), none] [] (mm_Z m w i l e) = some (.inl none, mm_Z m w i' l e) ∧ TC true i' (tDo τ q) ∧ (if Q.length + 1 < 200 then TC false i' σ ∧ JC i' (Q ++ [q]) else TC false i' (tDo τ q) ∧ JC i' []) ∧ mG (fun k j => (57 ≤ k ∧ k ≤ 67) ∨ (k = 56 ∧ j = 3)) i i' := by
  obtain ⟨i1, e1, e2, e3⟩ := tc_change (m := m) (w := w) (l := l) (e := e) h hw ho
  have e3 : mF 58 61 i i1 := e3
  have h56 : i1 56 3 = nI Q.length := by rw [e3 56 (by omega)]; exact hj.1
  have f1 : mG (fun k j => (57 ≤ k ∧ k ≤ 67) ∨ (k = 56 ∧ j = 3)) i i1 := mG.of e3 (fun k x a b => Or.inl (by omega))
  rw [mr_83_0, e1, mb_l, mb_0, mr_83_14]
  simp only [h56, na_5, na_mul, na_1, na_2, na_3, na_4, nI_add, na_200, nI_ltI (show Q.length + 1 < 2 ^ 31 by omega) (show 200 < 2 ^ 31 by omega), nI_clamp (show Q.length * 5 < 2 ^ 31 by omega), nI_clamp (show Q.length * 5 + 1 < 2 ^ 31 by omega), nI_clamp (show Q.length * 5 + 2 < 2 ^ 31 by omega), nI_clamp (show Q.length * 5 + 3 < 2 ^ 31 by omega), nI_clamp (show Q.length * 5 + 4 < 2 ^ 31 by omega)]
  rw [if_neg (by rw [na_out (by omega)]; omega), if_neg (by rw [na_out (by omega)]; omega), if_neg (by rw [na_out (by omega)]; omega), if_neg (by rw [na_out (by omega)]; omega), if_neg (by rw [na_out (by omega)]; omega)]
  generalize hM : mm_ww (mm_ww (mm_ww (mm_ww (mm_ww (mm_ww i1 67 (Q.length * 5) (mDc q 0)) 67 (Q.length * 5 + 1) (mDc q 1)) 67 (Q.length * 5 + 2) (mDc q 2)) 67 (Q.length * 5 + 3) (mDc q 3)) 67 (Q.length * 5 + 4) (mDc q 4)) 56 3 (nI (Q.length + 1)) = i2
  have f2 : mG (fun k j => (57 ≤ k ∧ k ≤ 67) ∨ (k = 56 ∧ j = 3)) i1 i2 := by
    rw [← hM]
    exact (((((mG.ww (Or.inl ⟨by omega, by omega⟩)).tr (mG.ww (Or.inl ⟨by omega, by omega⟩))).tr (mG.ww (Or.inl ⟨by omega, by omega⟩))).tr (mG.ww (Or.inl ⟨by omega, by omega⟩))).tr (mG.ww (Or.inl ⟨by omega, by omega⟩))).tr (mG.ww (Or.inr ⟨rfl, rfl⟩))
  have f3 : mF 56 67 i1 i2 ∧ ∀ k, 57 ≤ k → k ≤ 66 → i2 k = i1 k := by
    rw [← hM]
    refine ⟨fun k hk => ?_, fun k h1 h2 => ?_⟩
    · rw [mw_k (by omega), mw_k (by omega), mw_k (by omega), mw_k (by omega), mw_k (by omega), mw_k (by omega)]
    · rw [mw_k (by omega), mw_k (by omega), mw_k (by omega), mw_k (by omega), mw_k (by omega), mw_k (by omega)]
  have hT : TC true i2 (tDo τ q) := e2.kp (fun k j h1 h2 => by
    simp only [mm_Tr, cond_true] at h1 h2
    rw [f3.2 k (by omega) (by omega)])
  have hS1 : TC false i1 σ := hs.kp (fun k j h1 h2 => by
    simp only [mm_Tr, cond_false] at h1 h2
    rw [e3 k (by omega)])
  have hS : TC false i2 σ := hS1.kp (fun k j h1 h2 => by
    simp only [mm_Tr, cond_false] at h1 h2
    rw [f3.2 k (by omega) (by omega)])
  by_cases hl : Q.length + 1 < 200
  · refine ⟨i2, ?_, hT, ?_, f1.tr f2⟩
    · rw [if_pos hl, mr_83_96]
    · rw [if_pos hl]
      refine ⟨hS, ?_, ?_⟩
      · rw [← hM, mw_s, List.length_append]; rfl
      · intro k p hp j hjj
        have hk : k < Q.length + 1 := by
          have := (List.getElem?_eq_some_iff.mp hp).1
          simpa using this
        by_cases z : k = Q.length
        · subst z
          have e : p = q := by simpa using hp.symm
          subst e
          rw [← hM, mw_k (by omega)]
          rcases (show j = 0 ∨ j = 1 ∨ j = 2 ∨ j = 3 ∨ j = 4 by omega) with rfl | rfl | rfl | rfl | rfl
          · rw [mw_j (by omega), mw_j (by omega), mw_j (by omega), mw_j (by omega), show 5 * Q.length + 0 = Q.length * 5 by omega, mw_s]
          · rw [mw_j (by omega), mw_j (by omega), mw_j (by omega), show 5 * Q.length + 1 = Q.length * 5 + 1 by omega, mw_s]
          · rw [mw_j (by omega), mw_j (by omega), show 5 * Q.length + 2 = Q.length * 5 + 2 by omega, mw_s]
          · rw [mw_j (by omega), show 5 * Q.length + 3 = Q.length * 5 + 3 by omega, mw_s]
          · rw [show 5 * Q.length + 4 = Q.length * 5 + 4 by omega, mw_s]
        · have hp : Q[k]? = some p := by rw [List.getElem?_append_left (by omega)] at hp; exact hp
          rw [← hM, mw_k (by omega), mw_j (by omega), mw_j (by omega), mw_j (by omega), mw_j (by omega), mw_j (by omega), e3 67 (by omega)]
          exact hj.2 k p hp j hjj
  · obtain ⟨i3, g1, g2, g3, g4⟩ := jc_makeSure (m := m) (w := w) (l := l) (e := e) hT (tw_do hw ho)
    refine ⟨i3, ?_, ?_, ?_, (f1.tr f2).tr (g4.mo (fun a b z => by omega))⟩
    · rw [if_neg hl, g1, mb_l, mb_0, mr_83_96]
    · exact hT.kp (fun k j h1 h2 => g4 k j (by simp only [mm_Tr, cond_true] at h1 h2; omega))
    · rw [if_neg hl]; exact ⟨g2, g3⟩
end MM67
