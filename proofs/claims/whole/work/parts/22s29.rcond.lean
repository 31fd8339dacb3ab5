/-! CODES AND WAITING WORDS, in the reference -/
section MM165
variable {X : mX} {t : m3} {w : Bool} {i i' i0 : Nat → Nat → Int32} {l : Nat → Nat → Int64} {δ : mQ} {m : Nat} {e : Bool × Nat × Nat} {n k s a b c p g y : Nat} {S : List Nat} {O : List mO} {x x1 x2 : Int32}
def rwt (z : Nat) : Int32 := if z = 213 then 14 else if z = 212 then 12 else if z = 211 then 13 else -1
def fCd (E k j : Nat) : Prop := fTk k j ∨ (k = 83 ∧ (j = 38 ∨ j = 47 ∨ j = 49)) ∨ k = 112 ∨ (109 ≤ k ∧ k ≤ 110 ∧ E ≤ j)
def SKs (i : Nat → Nat → Int32) (S : List Nat) : Prop := i 83 47 = nI S.length ∧ (∀ k, k < S.length → i 112 k = rwt (S.getD (S.length - 1 - k) 0)) ∧ S.length ≤ 32
def RBs (i0 i : Nat → Nat → Int32) (δ : mQ) (S : List Nat) (O : List mO) : Prop := SKs i S ∧ i 83 49 = nI (sD S) ∧ (i 83 38 = nI (dE δ + O.length) ∧ qSeg i (dE δ) O) ∧ sW S ∧ sD S ≤ 10 ∧ dE δ + O.length + S.length ≤ 1200 ∧ mG (fCd (dE δ)) i0 i
def topv : List Nat → Int32
  | [] => 0
  | z :: _ => rwt z
theorem r_top (h : SKs i S) : mm_V 226 0 [some (.ref 83)] [] (mm_Z m w i l e) = some (.inl (some (.int (topv S))), mm_Z m w i l e) := by
  obtain ⟨h1, h2, h3⟩ := h
  rw [mr_226_0, h1]
  cases S with
  | nil => rfl
  | cons z S =>
    have e1 : (z :: S).length = S.length + 1 := rfl
    rw [e1] at h3 ⊢
    have := h2 S.length (by rw [e1]; omega)
    rw [if_neg (show ¬ nI (S.length + 1) = 0 from fun y => by have := (nI_eq (b := 0) (by omega) (by omega)).mp y; omega), na_1, na_sub (by omega), show S.length + 1 - 1 = S.length by omega, if_neg (no_out (by omega) (by omega)), nI_clamp (by omega), this, e1, show S.length + 1 - 1 - S.length = 0 by omega]
    rfl
theorem r_code (h : i 83 38 = nI n) (hn : n < 1300) : mm_V 225 0 [some (.ref 83), some (.int x1), some (.int x2)] [] (mm_Z m w i l e) = some (.inl none, mm_Z m w (mm_ww (mm_ww (mm_ww i 109 n x1) 110 n x2) 83 38 (nI (n + 1))) l e) := by
  rw [mr_225_0, h, if_neg (no_out (by omega) (by omega)), if_neg (no_out (by omega) (by omega)), nI_clamp (by omega), nI_1]
theorem SKs.kp (h : SKs i S) (h1 : i' 83 47 = i 83 47) (h2 : ∀ k, i' 112 k = i 112 k) : SKs i' S := ⟨by rw [h1]; exact h.1, fun k hk => by rw [h2]; exact h.2.1 k hk, h.2.2⟩
theorem RBs.tk (h : RBs i0 i δ S O) (hf : mG fTk i i') : RBs i0 i' δ S O := by
  obtain ⟨h1, h2, ⟨h3, h4⟩, h5, h6, h7, h8⟩ := h
  exact ⟨h1.kp (hf _ _ (by unfold fTk; omega)) (fun k => hf _ _ (by unfold fTk; omega)), by rw [hf _ _ (by unfold fTk; omega)]; exact h2, ⟨by rw [hf _ _ (by unfold fTk; omega)]; exact h3, h4.ku (fun k j _ _ _ => hf _ _ (by unfold fTk; omega))⟩, h5, h6, h7, h8.tr (hf.mo (fun a b z => Or.inl z))⟩
theorem qSeg.sn {o : mO} (h : qSeg i s O) (ho : qT i (s + O.length) o) : qSeg i s (O ++ [o]) := by
  intro j o' hj
  rcases Nat.lt_or_ge j O.length with z | z
  · rw [List.getElem?_append_left z] at hj; exact h j o' hj
  · rw [List.getElem?_append_right z] at hj
    have z2 : j - O.length = 0 := by
      rcases Nat.eq_zero_or_pos (j - O.length) with y | y
      · exact y
      · rw [List.getElem?_eq_none (by simp; omega)] at hj; cases hj
    rw [z2] at hj
    cases hj
    rw [show j = O.length by omega]; exact ho
/-- an operation more -/
theorem RBs.co {o : mO} (h : RBs i0 i δ S O) (h12 : dE δ + O.length + 1 + S.length ≤ 1200) (ho : qT (mm_ww (mm_ww (mm_ww i 109 (dE δ + O.length) x1) 110 (dE δ + O.length) x2) 83 38 (nI (dE δ + O.length + 1))) (dE δ + O.length) o) : RBs i0 (mm_ww (mm_ww (mm_ww i 109 (dE δ + O.length) x1) 110 (dE δ + O.length) x2) 83 38 (nI (dE δ + O.length + 1))) δ S (O ++ [o]) := by
  obtain ⟨h1, h2, ⟨h3, h4⟩, h5, h6, h7, h8⟩ := h
  have el : (O ++ [o]).length = O.length + 1 := by simp
  refine ⟨h1.kp (by rw [mw_j (by omega), mw_k (by omega), mw_k (by omega)]) (fun k => by rw [mw_k (by omega), mw_k (by omega), mw_k (by omega)]), by rw [mw_j (by omega), mw_k (by omega), mw_k (by omega)]; exact h2, ⟨by rw [mw_s, el]; rfl, (h4.ku (fun k j b1 b2 b3 => ?_)).sn ho⟩, h5, h6, by rw [el]; omega, ((h8.tr (mG.ww (P := fCd (dE δ)) ?_)).tr (mG.ww (P := fCd (dE δ)) ?_)).tr (mG.ww (P := fCd (dE δ)) ?_)⟩
  · rw [mw_k (by omega), mw_ne (by omega), mw_ne (by omega)]
  · unfold fCd; omega
  · unfold fCd; omega
  · unfold fCd; omega
theorem SKs.pop {z : Nat} (h : SKs i (z :: S)) : SKs (mm_ww i 83 47 (nI (z :: S).length - 1)) S := by
  obtain ⟨h1, h2, h3⟩ := h
  have e1 : (z :: S).length = S.length + 1 := rfl
  rw [e1] at h3
  refine ⟨by rw [mw_s, e1, na_1, na_sub (by omega)]; rfl, fun k hk => ?_, by omega⟩
  rw [mw_k (by omega), h2 k (by rw [e1]; omega), e1, show S.length + 1 - 1 - k = S.length - 1 - k + 1 by omega]
  rfl
theorem SKs.psh {z : Nat} (h : SKs i S) (h32 : S.length < 32) {x : Int32} (hx : x = rwt z) : SKs (mm_ww (mm_ww i 112 S.length x) 83 47 (nI (S.length + 1))) (z :: S) := by
  obtain ⟨h1, h2, h3⟩ := h
  have e1 : (z :: S).length = S.length + 1 := rfl
  refine ⟨by rw [mw_s, e1], fun k hk => ?_, by rw [e1]; omega⟩
  rw [e1] at hk
  rw [mw_k (by omega), mw_r, e1]
  split
  · rename_i q; rw [q, show S.length + 1 - 1 - S.length = 0 by omega, hx]; rfl
  · rw [h2 k (by omega), show S.length + 1 - 1 - k = S.length - 1 - k + 1 by omega]
    rfl
/-- waiting words are settled -/
theorem r_rls (hb : b = 211 ∨ b = 212 ∨ b = 213) (hx1 : x1 = bI (decide (b ≤ 212))) (hx2 : x2 = bI (decide (b ≤ 211))) : ∀ (S : List Nat) (O : List mO) (i : Nat → Nat → Int32), RBs i0 i δ S O → ∃ i', mm_V 228 0 [some (.ref 83), some (.int x1), some (.int x2)] [] (mm_Z m w i l e) = some (.inl none, mm_Z m w i' l e) ∧ RBs i0 i' δ (rls b S O (sD S)).1 (rls b S O (sD S)).2.1 ∧ (∀ j, j ≠ 38 → j ≠ 47 → j ≠ 49 → i' 83 j = i 83 j) ∧ (∀ k j, k ≠ 83 → ¬ (109 ≤ k ∧ k ≤ 110) → i' k j = i k j)
  | [], O, i, h => by
    refine ⟨i, ?_, h, fun _ _ _ _ => rfl, fun _ _ _ _ => rfl⟩
    rw [mr_228_0, r_top h.1, mb_l, mb_v, mr_228_4, if_neg (by decide)]
    rcases hb with z | z | z <;> subst z <;> subst hx1 <;> subst hx2
    · rw [if_neg (by decide), r_top h.1, mb_l, mb_v, mr_228_17, if_neg (by decide), mr_228_22, if_neg (by decide), r_top h.1, mb_l, mb_v, mr_228_30, if_neg (by decide)]
    · rw [if_neg (by decide), r_top h.1, mb_l, mb_v, mr_228_17, if_neg (by decide), mr_228_22, if_pos (by decide)]
    · rw [if_pos (by decide), mr_228_22, if_pos (by decide)]
  | z :: S, O, i, h => by
    have hz := sW_el _ h.2.2.2.1 z (List.mem_cons_self ..)
    have nz : ∀ v, v = z → ¬ b ≤ v → mm_V 228 0 [some (.ref 83), some (.int x1), some (.int x2)] [] (mm_Z m w i l e) = some (.inl none, mm_Z m w i l e) := by
      intro v hv q
      subst hv
      rw [mr_228_0, r_top h.1, mb_l, mb_v, mr_228_4]
      have et : topv (v :: S) = rwt v := rfl
      rw [et]
      rcases hz with y | y | y | y <;> subst y
      · rw [if_neg (by decide)]
        rcases hb with z | z | z <;> subst z <;> subst hx1 <;> subst hx2
        · rw [if_neg (by decide), r_top h.1, mb_l, mb_v, mr_228_17, et, if_neg (by decide), mr_228_22, if_neg (by decide), r_top h.1, mb_l, mb_v, mr_228_30, et, if_neg (by decide)]
        · rw [if_neg (by decide), r_top h.1, mb_l, mb_v, mr_228_17, et, if_neg (by decide), mr_228_22, if_pos (by decide)]
        · rw [if_pos (by decide), mr_228_22, if_pos (by decide)]
      · omega
      · rw [if_neg (by decide)]
        rcases hb with z | z | z <;> subst z <;> subst hx1 <;> subst hx2
        · omega
        · omega
        · rw [if_pos (by decide), mr_228_22, if_pos (by decide)]
      · rw [if_neg (by decide)]
        rcases hb with z | z | z <;> subst z <;> subst hx1 <;> subst hx2
        · omega
        · rw [if_neg (by decide), r_top h.1, mb_l, mb_v, mr_228_17, et, if_neg (by decide), mr_228_22, if_pos (by decide)]
        · rw [if_pos (by decide), mr_228_22, if_pos (by decide)]
    have yz : b ≤ z → mm_V 228 0 [some (.ref 83), some (.int x1), some (.int x2)] [] (mm_Z m w i l e) = mm_V 228 35 [some (.ref 83), some (.int x1), some (.int x2)] [] (mm_Z m w i l e) := by
      intro q
      rw [mr_228_0, r_top h.1, mb_l, mb_v, mr_228_4]
      have et : topv (z :: S) = rwt z := rfl
      rw [et]
      rcases hz with y | y | y | y <;> subst y
      · omega
      · rw [if_pos (by decide)]
      · rw [if_neg (by decide)]
        rcases hb with z | z | z <;> subst z <;> subst hx1 <;> subst hx2
        · rw [if_neg (by decide), r_top h.1, mb_l, mb_v, mr_228_17, et, if_pos (by decide)]
        · rw [if_neg (by decide), r_top h.1, mb_l, mb_v, mr_228_17, et, if_pos (by decide)]
        · omega
      · rw [if_neg (by decide)]
        rcases hb with z | z | z <;> subst z <;> subst hx1 <;> subst hx2
        · rw [if_neg (by decide), r_top h.1, mb_l, mb_v, mr_228_17, et, if_neg (by decide), mr_228_22, if_neg (by decide), r_top h.1, mb_l, mb_v, mr_228_30, et, if_pos (by decide)]
        · omega
        · omega
    by_cases q : b ≤ z
    · obtain ⟨hS, h2, ⟨h3, h4⟩, h5, h6, h7, h8⟩ := id h
      have e1 : (z :: S).length = S.length + 1 := rfl
      rw [e1] at h7
      have et : topv (z :: S) = rwt z := rfl
      have zv : z = 213 ∨ z = 212 ∨ z = 211 := by omega
      have cv : ∃ cv : Int32, qT (mm_ww (mm_ww (mm_ww i 109 (dE δ + O.length) cv) 110 (dE δ + O.length) 0) 83 38 (nI (dE δ + O.length + 1))) (dE δ + O.length) (213 - z, false, 0) ∧ mm_V 228 35 [some (.ref 83), some (.int x1), some (.int x2)] [] (mm_Z m w i l e) = mm_V 228 65 [some (.ref 83), some (.int x1), some (.int x2)] [.int cv, .ref 83] (mm_Z m w i l e) := by
        have v9 : ∀ cv : Int32, mm_ww (mm_ww (mm_ww i 109 (dE δ + O.length) cv) 110 (dE δ + O.length) 0) 83 38 (nI (dE δ + O.length + 1)) 109 (dE δ + O.length) = cv := fun cv => by rw [mw_k (by omega), mw_k (by omega), mw_s]
        rw [mr_228_35, r_top hS, mb_l, mb_v, mr_228_40, et]
        rcases zv with y | y | y <;> subst y
        · exact ⟨-1, Or.inl ⟨rfl, v9 _⟩, by rw [if_pos (by decide)]⟩
        · exact ⟨-2, Or.inr (Or.inl ⟨rfl, v9 _⟩), by rw [if_neg (by decide), r_top hS, mb_l, mb_v, mr_228_53, et, if_pos (by decide)]⟩
        · exact ⟨-3, Or.inr (Or.inr (Or.inl ⟨rfl, v9 _⟩)), by rw [if_neg (by decide), r_top hS, mb_l, mb_v, mr_228_53, et, if_neg (by decide)]⟩
      obtain ⟨cv, c1, c2⟩ := cv
      have sk1 : SKs (mm_ww (mm_ww (mm_ww i 109 (dE δ + O.length) cv) 110 (dE δ + O.length) 0) 83 38 (nI (dE δ + O.length + 1))) (z :: S) := hS.kp (by rw [mw_j (by omega), mw_k (by omega), mw_k (by omega)]) (fun k => by rw [mw_k (by omega), mw_k (by omega), mw_k (by omega)])
      have d49 : mm_ww (mm_ww (mm_ww i 109 (dE δ + O.length) cv) 110 (dE δ + O.length) 0) 83 38 (nI (dE δ + O.length + 1)) 83 49 = nI (sD (z :: S)) := by rw [mw_j (by omega), mw_k (by omega), mw_k (by omega)]; exact h2
      have q38 : mm_ww (mm_ww (mm_ww i 109 (dE δ + O.length) cv) 110 (dE δ + O.length) 0) 83 38 (nI (dE δ + O.length + 1)) 83 38 = nI (dE δ + O.length + 1) := mw_s
      have qs : qSeg (mm_ww (mm_ww (mm_ww i 109 (dE δ + O.length) cv) 110 (dE δ + O.length) 0) 83 38 (nI (dE δ + O.length + 1))) (dE δ) (O ++ [(213 - z, false, 0)]) := (h4.ku (fun k j b1 b2 b3 => by rw [mw_k (by omega), mw_ne (by omega), mw_ne (by omega)])).sn c1
      have fr : mG (fCd (dE δ)) i0 (mm_ww (mm_ww (mm_ww i 109 (dE δ + O.length) cv) 110 (dE δ + O.length) 0) 83 38 (nI (dE δ + O.length + 1))) := ((h8.tr (mG.ww (P := fCd (dE δ)) (by unfold fCd; omega))).tr (mG.ww (P := fCd (dE δ)) (by unfold fCd; omega))).tr (mG.ww (P := fCd (dE δ)) (by unfold fCd; omega))
      have o1 : ∀ j, j ≠ 38 → mm_ww (mm_ww (mm_ww i 109 (dE δ + O.length) cv) 110 (dE δ + O.length) 0) 83 38 (nI (dE δ + O.length + 1)) 83 j = i 83 j := fun j z1 => by rw [mw_j z1, mw_k (by omega), mw_k (by omega)]
      have o2 : ∀ k j, k ≠ 83 → ¬ (109 ≤ k ∧ k ≤ 110) → mm_ww (mm_ww (mm_ww i 109 (dE δ + O.length) cv) 110 (dE δ + O.length) 0) 83 38 (nI (dE δ + O.length + 1)) k j = i k j := fun k j z1 z2 => by rw [mw_k z1, mw_k (by omega), mw_k (by omega)]
      rw [yz q, c2, mr_228_65, r_code h3 (by omega), mb_l, mb_0, mr_228_69]
      generalize mm_ww (mm_ww (mm_ww i 109 (dE δ + O.length) cv) 110 (dE δ + O.length) 0) 83 38 (nI (dE δ + O.length + 1)) = j1 at sk1 d49 q38 qs fr o1 o2
      rw [r_top sk1, mb_l, mb_v, mr_228_73, et]
      have el : (O ++ [((213 - z, false, 0) : mO)]).length = O.length + 1 := by simp
      have go : ∀ j2, SKs j2 (z :: S) → j2 83 49 = nI (sD S) → j2 83 38 = nI (dE δ + O.length + 1) → qSeg j2 (dE δ) (O ++ [(213 - z, false, 0)]) → mG (fCd (dE δ)) i0 j2 → (∀ j, j ≠ 38 → j ≠ 49 → j2 83 j = i 83 j) → (∀ k j, k ≠ 83 → ¬ (109 ≤ k ∧ k ≤ 110) → j2 k j = i k j) → ∃ i', mm_V 228 88 [some (.ref 83), some (.int x1), some (.int x2)] [] (mm_Z m w j2 l e) = some (.inl none, mm_Z m w i' l e) ∧ RBs i0 i' δ (rls b (z :: S) O (sD (z :: S))).1 (rls b (z :: S) O (sD (z :: S))).2.1 ∧ (∀ j, j ≠ 38 → j ≠ 47 → j ≠ 49 → i' 83 j = i 83 j) ∧ (∀ k j, k ≠ 83 → ¬ (109 ≤ k ∧ k ≤ 110) → i' k j = i k j) := by
        intro j2 g1 g2 g3 g4 g5 g6 g7
        rw [mr_228_88, g1.1]
        have rb : RBs i0 (mm_ww j2 83 47 (nI (z :: S).length - 1)) δ S (O ++ [(213 - z, false, 0)]) := ⟨g1.pop, by rw [mw_j (by omega)]; exact g2, ⟨by rw [mw_j (by omega), el]; exact g3, g4.ku (fun k j _ _ _ => by rw [mw_k (by omega)])⟩, h5.2, by
          have : sD S ≤ sD (z :: S) := by
            show sD S ≤ (if z = 40 ∨ z = 213 then 1 else 0) + sD S
            omega
          omega, by rw [el]; omega, g5.tr (mG.ww (P := fCd (dE δ)) (by unfold fCd; omega))⟩
        obtain ⟨i3, r1, r2, r3, r4⟩ := r_rls hb hx1 hx2 S (O ++ [(213 - z, false, 0)]) _ rb
        have ed : (if z = 213 then sD (z :: S) - 1 else sD (z :: S)) = sD S := by
          show (if z = 213 then (if z = 40 ∨ z = 213 then 1 else 0) + sD S - 1 else (if z = 40 ∨ z = 213 then 1 else 0) + sD S) = sD S
          split
          · rw [if_pos (by omega)]; omega
          · rw [if_neg (by omega)]; omega
        rw [rls_yes q, ed]
        exact ⟨i3, r1, r2, fun j y1 y2 y3 => by rw [r3 j y1 y2 y3, mw_j y2]; exact g6 j y1 y3, fun k j y1 y2 => by rw [r4 k j y1 y2, mw_k y1]; exact g7 k j y1 y2⟩
      by_cases q2 : z = 213
      · have sd : sD (z :: S) = sD S + 1 := by
          show (if z = 40 ∨ z = 213 then 1 else 0) + sD S = sD S + 1
          rw [if_pos (Or.inr q2)]; omega
        have d49' : j1 83 49 - 1 = nI (sD S) := by rw [d49, sd, na_1, na_sub (by omega), show sD S + 1 - 1 = sD S by omega]
        rw [if_pos (by rw [q2]; rfl), d49']
        exact go _ (sk1.kp (by rw [mw_j (by omega)]) (fun k => by rw [mw_k (by omega)])) mw_s (by rw [mw_j (by omega)]; exact q38) (qs.ku (fun k j _ _ _ => by rw [mw_k (by omega)])) (fr.tr (mG.ww (P := fCd (dE δ)) (by unfold fCd; omega))) (fun j y1 y2 => by rw [mw_j y2]; exact o1 j y1) (fun k j y1 y2 => by rw [mw_k y1]; exact o2 k j y1 y2)
      · have sd : sD (z :: S) = sD S := by
          show (if z = 40 ∨ z = 213 then 1 else 0) + sD S = sD S
          rw [if_neg (by omega)]; omega
        rw [if_neg (show ¬ rwt z = 14 by
          rcases zv with y | y | y
          · exact absurd y q2
          · rw [y]; decide
          · rw [y]; decide)]
        exact go j1 sk1 (by rw [d49, sd]) q38 qs fr (fun j y1 _ => o1 j y1) o2
    · rw [rls_not q]
      exact ⟨i, nz z rfl q, h, fun _ _ _ _ => rfl, fun _ _ _ _ => rfl⟩
end MM165
