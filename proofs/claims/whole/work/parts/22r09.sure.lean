/-! WHAT IS SURE, in the reference; the sweep -/
section MM68
variable {t w : Bool} {l : Nat → Nat → Int64} {e : Bool × Nat × Nat} {τ σ : mT} {m : Nat}
theorem no_out {a len : Nat} (h : a < len) (h2 : len < 2 ^ 30) : ¬ mm_out (nI a) len := by rw [na_out (by omega)]; omega
theorem ms_1 : ∀ (D k : Nat) (i : Nat → Nat → Int32), k + D = 32 → (∀ n, n < k → i 119 n = i 113 n ∧ i 119 (32 + n) = i 114 n ∧ i 119 (64 + n) = i 115 n) → ∃ i', mm_V 278 2 [some (.ref 83), some (.int (nI k))] [] (mm_Z m w i l e) = mm_V 278 58 [some (.ref 83), some (.int (nI 0))] [] (mm_Z m w i' l e) ∧ (∀ n, n < 32 → i' 119 n = i 113 n ∧ i' 119 (32 + n) = i 114 n ∧ i' 119 (64 + n) = i 115 n) ∧ (∀ q, q ≠ 119 → i' q = i q)
  | 0, k, i, hk, h => by
    refine ⟨i, ?_, fun n hn => h n (by omega), fun _ _ => rfl⟩
    rw [mr_278_2, na_32, if_neg (by rw [nI_ltI (by omega) (by omega)]; omega)]
    rfl
  | D + 1, k, i, hk, h => by
    have hI : ∀ n, n < k + 1 → (mm_ww (mm_ww (mm_ww i 119 k (i 113 k)) 119 (32 + k) (i 114 k)) 119 (64 + k) (i 115 k)) 119 n = i 113 n ∧ (mm_ww (mm_ww (mm_ww i 119 k (i 113 k)) 119 (32 + k) (i 114 k)) 119 (64 + k) (i 115 k)) 119 (32 + n) = i 114 n ∧ (mm_ww (mm_ww (mm_ww i 119 k (i 113 k)) 119 (32 + k) (i 114 k)) 119 (64 + k) (i 115 k)) 119 (64 + n) = i 115 n := by
      intro n hn
      by_cases z : n = k
      · subst z
        refine ⟨?_, ?_, ?_⟩
        · rw [mw_j (by omega), mw_j (by omega), mw_s]
        · rw [mw_j (by omega), mw_s]
        · rw [mw_s]
      · obtain ⟨a1, a2, a3⟩ := h n (by omega)
        refine ⟨?_, ?_, ?_⟩
        · rw [mw_j (by omega), mw_j (by omega), mw_j (by omega), a1]
        · rw [mw_j (by omega), mw_j (by omega), mw_j (by omega), a2]
        · rw [mw_j (by omega), mw_j (by omega), mw_j (by omega), a3]
    obtain ⟨i', e1, e2, e3⟩ := ms_1 D (k + 1) _ (by omega) hI
    refine ⟨i', ?_, e2, fun q hq => by rw [e3 q hq, mw_k hq, mw_k hq, mw_k hq]⟩
    rw [mr_278_2]
    simp only [na_32, na_64, nI_ltI (show k < 2 ^ 31 by omega) (show 32 < 2 ^ 31 by omega), nI_add, nI_1, nI_clamp (show k < 2 ^ 31 by omega), nI_clamp (show 32 + k < 2 ^ 31 by omega), nI_clamp (show 64 + k < 2 ^ 31 by omega)]
    rw [if_pos (by omega), if_neg (no_out (by omega) (by omega)), if_neg (no_out (by omega) (by omega)), if_neg (no_out (by omega) (by omega)), if_neg (no_out (by omega) (by omega)), if_neg (no_out (by omega) (by omega)), if_neg (no_out (by omega) (by omega))]
    exact e1
theorem ms_2 : ∀ (D k : Nat) (i : Nat → Nat → Int32), k + D = 768 → (∀ n, n < k → i 119 (96 + n) = i 116 n) → ∃ i', mm_V 278 58 [some (.ref 83), some (.int (nI k))] [] (mm_Z m w i l e) = mm_V 278 88 [some (.ref 83), some (.int (nI 0))] [] (mm_Z m w i' l e) ∧ (∀ n, n < 768 → i' 119 (96 + n) = i 116 n) ∧ (∀ n, n < 96 → i' 119 n = i 119 n) ∧ (∀ q, q ≠ 119 → i' q = i q)
  | 0, k, i, hk, h => by
    refine ⟨i, ?_, fun n hn => h n (by omega), fun _ _ => rfl, fun _ _ => rfl⟩
    rw [mr_278_58, na_768, if_neg (by rw [nI_ltI (by omega) (by omega)]; omega)]
    rfl
  | D + 1, k, i, hk, h => by
    obtain ⟨i', e1, e2, e3, e4⟩ := ms_2 D (k + 1) (mm_ww i 119 (96 + k) (i 116 k)) (by omega) (fun n hn => by
      rw [mw_k (show 116 ≠ 119 by omega)]
      by_cases z : n = k
      · subst z; rw [mw_s]
      · rw [mw_j (by omega), h n (by omega)])
    refine ⟨i', ?_, fun n hn => by rw [e2 n hn, mw_k (by omega)], fun n hn => by rw [e3 n hn, mw_j (by omega)], fun q hq => by rw [e4 q hq, mw_k hq]⟩
    rw [mr_278_58]
    simp only [na_768, na_96, nI_ltI (show k < 2 ^ 31 by omega) (show 768 < 2 ^ 31 by omega), nI_add, nI_1, nI_clamp (show k < 2 ^ 31 by omega), nI_clamp (show 96 + k < 2 ^ 31 by omega)]
    rw [if_pos (by omega), if_neg (no_out (by omega) (by omega)), if_neg (no_out (by omega) (by omega))]
    exact e1
theorem ms_3 : ∀ (D k : Nat) (i : Nat → Nat → Int32), k + D = 320 → (∀ n, n < k → i 119 (864 + n) = i 117 n ∧ i 119 (1184 + n) = i 118 n) → ∃ i', mm_V 278 88 [some (.ref 83), some (.int (nI k))] [] (mm_Z m w i l e) = some (.inl none, mm_Z m w (mm_ww i' 83 57 0) l e) ∧ (∀ n, n < 320 → i' 119 (864 + n) = i 117 n ∧ i' 119 (1184 + n) = i 118 n) ∧ (∀ n, n < 864 → i' 119 n = i 119 n) ∧ (∀ q, q ≠ 119 → i' q = i q)
  | 0, k, i, hk, h => by
    refine ⟨i, ?_, fun n hn => h n (by omega), fun _ _ => rfl, fun _ _ => rfl⟩
    rw [mr_278_88, na_320, if_neg (by rw [nI_ltI (by omega) (by omega)]; omega)]
  | D + 1, k, i, hk, h => by
    obtain ⟨i', e1, e2, e3, e4⟩ := ms_3 D (k + 1) (mm_ww (mm_ww i 119 (864 + k) (i 117 k)) 119 (1184 + k) (i 118 k)) (by omega) (fun n hn => by
      rw [mw_k (show 117 ≠ 119 by omega), mw_k (show 117 ≠ 119 by omega), mw_k (show 118 ≠ 119 by omega), mw_k (show 118 ≠ 119 by omega)]
      by_cases z : n = k
      · subst z; rw [mw_s, mw_j (by omega), mw_s]; exact ⟨rfl, rfl⟩
      · rw [mw_j (by omega), mw_j (by omega), mw_j (by omega), mw_j (by omega)]; exact h n (by omega))
    refine ⟨i', ?_, fun n hn => by rw [(e2 n hn).1, (e2 n hn).2, mw_k (by omega), mw_k (by omega), mw_k (by omega), mw_k (by omega)]; exact ⟨rfl, rfl⟩, fun n hn => by rw [e3 n hn, mw_j (by omega), mw_j (by omega)], fun q hq => by rw [e4 q hq, mw_k hq, mw_k hq]⟩
    rw [mr_278_88]
    simp only [na_320, na_864, na_1184, nI_ltI (show k < 2 ^ 31 by omega) (show 320 < 2 ^ 31 by omega), nI_add, nI_1, nI_clamp (show k < 2 ^ 31 by omega), nI_clamp (show 864 + k < 2 ^ 31 by omega), nI_clamp (show 1184 + k < 2 ^ 31 by omega)]
    rw [if_pos (by omega), if_neg (no_out (by omega) (by omega)), if_neg (no_out (by omega) (by omega)), if_neg (no_out (by omega) (by omega)), if_neg (no_out (by omega) (by omega))]
    exact e1
theorem jr_makeSure {i : Nat → Nat → Int32} (h : TR i τ) (hw : TW τ) : ∃ i', mm_V 278 0 [some (.ref 83), none] [] (mm_Z m w i l e) = some (.inl none, mm_Z m w i' l e) ∧ TS i' τ ∧ JR i' [] ∧ mG (fun k j => k = 119 ∨ (k = 83 ∧ j = 57)) i i' := by
  obtain ⟨i1, a1, a2, a3⟩ := ms_1 (m := m) (w := w) (l := l) (e := e) 32 0 i rfl (fun n hn => by omega)
  obtain ⟨i2, b1, b2, b3, b4⟩ := ms_2 (m := m) (w := w) (l := l) (e := e) 768 0 i1 rfl (fun n hn => by omega)
  obtain ⟨i3, c1, c2, c3, c4⟩ := ms_3 (m := m) (w := w) (l := l) (e := e) 320 0 i2 rfl (fun n hn => by omega)
  refine ⟨mm_ww i3 83 57 0, ?_, ?_, JR_nil mw_s, ?_⟩
  · rw [mr_278_0, na_0, a1, b1, c1]; rfl
  · intro n hn
    obtain ⟨h1, h2, h3, h4, h5⟩ := h n hn
    obtain ⟨g0, g1, g2⟩ := hw n hn
    obtain ⟨p1, p2, p3⟩ := a2 n hn
    simp only [mw_k (show 119 ≠ 83 by omega)]
    refine ⟨?_, ?_, ?_, ?_, ?_⟩
    · rw [c3 _ (by omega), b3 _ (by omega), p1, h1]
    · rw [c3 _ (by omega), b3 _ (by omega), p2, h2]
    · rw [c3 _ (by omega), b3 _ (by omega), p3, h3]
    · intro z k hk
      rw [c3 _ (by omega), b2 _ (by omega), a3 _ (by omega)]; exact h4 z k hk
    · intro z k hk
      have := (g2 z).1
      rw [(c2 _ (by omega)).1, (c2 _ (by omega)).2, b4 _ (by omega), b4 _ (by omega), a3 _ (by omega), a3 _ (by omega)]; exact h5 z k hk
  · intro k j hq
    by_cases z : k = 83
    · subst z
      rw [mw_j (fun q => hq (Or.inr ⟨rfl, q⟩)), c4 _ (by omega), b4 _ (by omega), a3 _ (by omega)]
    · rw [mw_k z, c4 _ (fun q => hq (Or.inl q)), b4 _ (fun q => hq (Or.inl q)), a3 _ (fun q => hq (Or.inl q))]
theorem jr_act {i : Nat → Nat → Int32} {Q : List mD} {q : mD} (h : TR i τ) (hs : TS i σ) (hw : TW τ) (hN : TN τ) (hj : JR i Q) (hQ : Q.length < 200) (ho : tOk τ q) : ∃ i', mm_V 277 0 [some (.ref 83), some (.int (mDr q 0)), some (.int (mDr q 1)), some (.int (mDr q 2)), some (.int (mDr q 3)), some (.int (mDr q 4))] [] (mm_Z m w i l e) = some (.inl none, mm_Z m w i' l e) ∧ TR i' (tDo τ q) ∧ (if Q.length + 1 < 200 then TS i' σ ∧ JR i' (Q ++ [q]) else TS i' (tDo τ q) ∧ JR i' []) ∧ mG (fun k j => (113 ≤ k ∧ k ≤ 120) ∨ (k = 83 ∧ j = 57)) i i' := by
  obtain ⟨i1, e1, e2, e3⟩ := tr_perform (m := m) (w := w) (l := l) (e := e) h hw hN ho
  have h83 : i1 83 57 = nI Q.length := by rw [e3 83 (by omega)]; exact hj.1
  have f1 : mG (fun k j => (113 ≤ k ∧ k ≤ 120) ∨ (k = 83 ∧ j = 57)) i i1 := mG.of e3 (fun k x a b => Or.inl (by omega))
  rw [mr_277_0, e1, mb_l, mb_0, mr_277_11]
  simp only [h83, na_5, na_mul, na_1, na_2, na_3, na_4, nI_add, na_200, nI_eq (show Q.length + 1 < 2 ^ 31 by omega) (show 200 < 2 ^ 31 by omega), nI_clamp (show 5 * Q.length < 2 ^ 31 by omega), nI_clamp (show 5 * Q.length + 1 < 2 ^ 31 by omega), nI_clamp (show 5 * Q.length + 2 < 2 ^ 31 by omega), nI_clamp (show 5 * Q.length + 3 < 2 ^ 31 by omega), nI_clamp (show 5 * Q.length + 4 < 2 ^ 31 by omega)]
  rw [if_neg (no_out (by omega) (by omega)), if_neg (no_out (by omega) (by omega)), if_neg (no_out (by omega) (by omega)), if_neg (no_out (by omega) (by omega)), if_neg (no_out (by omega) (by omega))]
  generalize hM : mm_ww (mm_ww (mm_ww (mm_ww (mm_ww (mm_ww i1 120 (5 * Q.length) (mDr q 0)) 120 (5 * Q.length + 1) (mDr q 1)) 120 (5 * Q.length + 2) (mDr q 2)) 120 (5 * Q.length + 3) (mDr q 3)) 120 (5 * Q.length + 4) (mDr q 4)) 83 57 (nI (Q.length + 1)) = i2
  have f2 : mG (fun k j => (113 ≤ k ∧ k ≤ 120) ∨ (k = 83 ∧ j = 57)) i1 i2 := by
    rw [← hM]
    exact (((((mG.ww (Or.inl ⟨by omega, by omega⟩)).tr (mG.ww (Or.inl ⟨by omega, by omega⟩))).tr (mG.ww (Or.inl ⟨by omega, by omega⟩))).tr (mG.ww (Or.inl ⟨by omega, by omega⟩))).tr (mG.ww (Or.inl ⟨by omega, by omega⟩))).tr (mG.ww (Or.inr ⟨rfl, rfl⟩))
  have f3 : ∀ k, 113 ≤ k → k ≤ 119 → i2 k = i1 k := by
    rw [← hM]
    intro k h1 h2
    rw [mw_k (by omega), mw_k (by omega), mw_k (by omega), mw_k (by omega), mw_k (by omega), mw_k (by omega)]
  have hT : TR i2 (tDo τ q) := e2.kp (fun k j h1 h2 => by rw [f3 k (by omega) (by omega)])
  have hS : TS i2 σ := hs.kp (fun j => by rw [f3 119 (by omega) (by omega), e3 119 (by omega)])
  by_cases hl : Q.length + 1 < 200
  · refine ⟨i2, ?_, hT, ?_, f1.tr f2⟩
    · rw [if_neg (by omega), mr_277_105]
    · rw [if_pos hl]
      refine ⟨hS, ?_, ?_⟩
      · rw [← hM, mw_s, List.length_append]; rfl
      · intro k p hp j hjj
        have hk : k < Q.length + 1 := by
          have := (List.getElem?_eq_some_iff.mp hp).1
          simpa using this
        by_cases z : k = Q.length
        · subst z
          have e : p = q := by simpa using hp.symm
          subst e
          rw [← hM, mw_k (by omega)]
          rcases (show j = 0 ∨ j = 1 ∨ j = 2 ∨ j = 3 ∨ j = 4 by omega) with rfl | rfl | rfl | rfl | rfl
          · rw [mw_j (by omega), mw_j (by omega), mw_j (by omega), mw_j (by omega), Nat.add_zero, mw_s]
          · rw [mw_j (by omega), mw_j (by omega), mw_j (by omega), mw_s]
          · rw [mw_j (by omega), mw_j (by omega), mw_s]
          · rw [mw_j (by omega), mw_s]
          · rw [mw_s]
        · have hp : Q[k]? = some p := by rw [List.getElem?_append_left (by omega)] at hp; exact hp
          rw [← hM, mw_k (by omega), mw_j (by omega), mw_j (by omega), mw_j (by omega), mw_j (by omega), mw_j (by omega), e3 120 (by omega)]
          exact hj.2 k p hp j hjj
  · obtain ⟨i3, g1, g2, g3, g4⟩ := jr_makeSure (m := m) (w := w) (l := l) (e := e) hT (tw_do hw ho)
    refine ⟨i3, ?_, ?_, ?_, (f1.tr f2).tr (g4.mo (fun a b z => by omega))⟩
    · rw [if_pos (by omega), g1, mb_l, mb_0, mr_277_105]
    · exact hT.kp (fun k j h1 h2 => g4 k j (by omega))
    · rw [if_neg hl]; exact ⟨g2, g3⟩
end MM68
