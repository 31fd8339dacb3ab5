/-! A DEED, in the class and in the reference -/
section MM66
theorem sw_hit {k : Int32} {X d : Option mm_R} {t : List (Int32 × Option mm_R)} : mm_sw k ((k, X) :: t) d = X := if_pos rfl
theorem sw_mis {k j : Int32} {X d : Option mm_R} {t : List (Int32 × Option mm_R)} (h : ¬ k = j) : mm_sw k ((j, X) :: t) d = mm_sw k t d := if_neg h
theorem sw_nil {k : Int32} {d : Option mm_R} : mm_sw k [] d = d := rfl
variable {t w : Bool} {i : Nat → Nat → Int32} {l : Nat → Nat → Int64} {e : Bool × Nat × Nat} {τ : mT} {m : Nat}
set_option maxHeartbeats 1000000 in
theorem tc_change (h : TC t i τ) (hw : TW τ) {q : mD} (ho : tOk τ q) : ∃ i', mm_V 150 0 [some (.ref (mm_Tr t)), some (.int (mDc q 0)), some (.int (mDc q 1)), some (.int (mDc q 2)), some (.int (mDc q 3)), some (.int (mDc q 4)), none] [] (mm_Z m w i l e) = some (.inl none, mm_Z m w i' l e) ∧ TC t i' (tDo τ q) ∧ mF (mm_Tr t + 1) (mm_Tr t + 4) i i' := by
  unfold tOk at ho
  split at ho
  · rename_i a x c d e'
    obtain ⟨p1, p2, p3, p4, p5, p6, p7, p8, p9⟩ := ho
    have hm := tc_make (m := m) (w := w) (l := l) (e := e) (c := 1) (y := x) h p2
    rw [show (nI 1 - 1 : Int32) = 0 by decide] at hm
    have hT := TC_mk (c := 1) (y := x) h p2
    rw [show (nI 1 - 1 : Int32) = 0 by decide] at hT
    have k2 : tk (tMk τ a 1 x) c = 2 := by rw [tk_tMk, up_n (Ne.symm p5)]; exact p4
    have k3 : ts (tMk τ a 1 x) c < 10 := by rw [ts_tMk, up_n (Ne.symm p5)]; exact p6
    refine ⟨_, ?_, TC_ad (name := d) (n := a) hT (tw_mk hw (by omega)) p3 k2 k3, ?_⟩
    · show mm_V 150 0 [some (.ref (mm_Tr t)), some (.int 0), some (.int (nI a)), some (.int (nI c)), some (.int (nI d)), some (.int x), none] [] _ = _
      rw [mr_150_0, sw_hit, hm, mb_l, mb_0, mr_150_52, tc_addEntry hT (tw_mk hw (by omega)) p3 k3, mb_l, mb_0, mr_150_60, mr_150_157]
    · exact ((((mF.ww i _ _ (by omega) (by omega)).tr (mF.ww _ _ _ (by omega) (by omega))).tr (mF.ww _ _ _ (by omega) (by omega))).tr (mF.ww _ _ _ (by omega) (by omega))).tr (mF.ww _ _ _ (by omega) (by omega))
  · rename_i a x c d e'
    obtain ⟨p1, p2, p3, p4, p5, p6, p7, p8, p9⟩ := ho
    have hm := tc_make (m := m) (w := w) (l := l) (e := e) (c := 2) (y := x) h p2
    rw [show (nI 2 - 1 : Int32) = 1 by decide] at hm
    have hT := TC_mk (c := 2) (y := x) h p2
    rw [show (nI 2 - 1 : Int32) = 1 by decide] at hT
    have k2 : tk (tMk τ a 2 x) c = 2 := by rw [tk_tMk, up_n (Ne.symm p5)]; exact p4
    have k3 : ts (tMk τ a 2 x) c < 10 := by rw [ts_tMk, up_n (Ne.symm p5)]; exact p6
    refine ⟨_, ?_, TC_ad (name := d) (n := a) hT (tw_mk hw (by omega)) p3 k2 k3, ?_⟩
    · show mm_V 150 0 [some (.ref (mm_Tr t)), some (.int 1), some (.int (nI a)), some (.int (nI c)), some (.int (nI d)), some (.int x), none] [] _ = _
      rw [mr_150_0, sw_mis (by decide), sw_hit, hm, mb_l, mb_0, mr_150_71, tc_addEntry hT (tw_mk hw (by omega)) p3 k3, mb_l, mb_0, mr_150_79, mr_150_157]
    · exact ((((mF.ww i _ _ (by omega) (by omega)).tr (mF.ww _ _ _ (by omega) (by omega))).tr (mF.ww _ _ _ (by omega) (by omega))).tr (mF.ww _ _ _ (by omega) (by omega))).tr (mF.ww _ _ _ (by omega) (by omega))
  · rename_i a x c d e'
    have hx : ¬ mm_out (nI a) 32 := by rw [na_out (by omega)]; omega
    refine ⟨_, ?_, TC_sz (a := a) h, mF.ww i _ _ (by omega) (by omega)⟩
    show mm_V 150 0 [some (.ref (mm_Tr t)), some (.int 2), some (.int (nI a)), some (.int 0), some (.int 0), some (.int 0), none] [] _ = _
    rw [mr_150_0, sw_mis (by decide), sw_mis (by decide), sw_hit, if_neg hx, mr_150_157, nI_clamp (by omega)]
  · rename_i a x c d e'
    obtain ⟨p1, p2, p3⟩ := ho
    refine ⟨_, ?_, TC_wr (y := x) h hw p1 p2 p3, ?_⟩
    · show mm_V 150 0 [some (.ref (mm_Tr t)), some (.int 3), some (.int (nI a)), some (.int (nI c)), some (.int x), some (.int 0), none] [] _ = _
      rw [mr_150_0, sw_mis (by decide), sw_mis (by decide), sw_mis (by decide), sw_hit, tc_setByte h hw p1 p3, mb_l, mb_0, mr_150_100, mr_150_157]
    · exact ((mF.up i _ (by omega) (by omega)).tr (mF.ww _ _ _ (by omega) (by omega))).tr (mF.ww _ _ _ (by omega) (by omega))
  · rename_i a x c d e'
    have hx : ¬ mm_out (nI a) 32 := by rw [na_out (by omega)]; omega
    refine ⟨_, ?_, TC_rl (a := a) (y := x) h, mF.ww i _ _ (by omega) (by omega)⟩
    show mm_V 150 0 [some (.ref (mm_Tr t)), some (.int 4), some (.int (nI a)), some (.int x), some (.int 0), some (.int 0), none] [] _ = _
    rw [mr_150_0, sw_mis (by decide), sw_mis (by decide), sw_mis (by decide), sw_mis (by decide), sw_hit, if_neg hx, mr_150_157, nI_clamp (by omega)]
  · rename_i a x c d e'
    obtain ⟨p1, p2, p3, p4, p5, p6, p7, p8⟩ := ho
    refine ⟨_, ?_, TC_ad (name := d) (n := c) h hw p1 p2 p3, ?_⟩
    · show mm_V 150 0 [some (.ref (mm_Tr t)), some (.int 5), some (.int (nI c)), some (.int (nI a)), some (.int (nI d)), some (.int 0), none] [] _ = _
      rw [mr_150_0, sw_mis (by decide), sw_mis (by decide), sw_mis (by decide), sw_mis (by decide), sw_mis (by decide), sw_hit, tc_addEntry h hw p1 p3, mb_l, mb_0, mr_150_121, mr_150_157]
    · exact (mF.ww i _ _ (by omega) (by omega)).tr (mF.ww _ _ _ (by omega) (by omega))
  · rename_i a x c d e'
    obtain ⟨p1, p2, p3, p4, p5⟩ := ho
    refine ⟨_, ?_, TC_rm h hw p1 p2 p5, ?_⟩
    · show mm_V 150 0 [some (.ref (mm_Tr t)), some (.int 6), some (.int (nI a)), some (.int (nI d)), some (.int 0), some (.int 0), none] [] _ = _
      rw [mr_150_0, sw_mis (by decide), sw_mis (by decide), sw_mis (by decide), sw_mis (by decide), sw_mis (by decide), sw_mis (by decide), sw_hit, tc_removeEntry h hw p1 p2 (by omega) p5, mb_l, mb_0, mr_150_130, mr_150_157]
    · exact (mF.ww i _ _ (by omega) (by omega)).tr (mF.up _ _ (by omega) (by omega))
  · rename_i k7 a x c d e' n0 n1 n2 n3 n4 n5 n6
    obtain ⟨p1, p2, p3, p4, p5, p6, p7, p8, p9, p10, p11⟩ := ho
    have g5 := ((hw a p1).2.2 p2).1
    have hT := TC_rm h hw p1 p2 p5
    have k3 : ts (tRm τ a (tE τ a d)) c < 10 := by
      rw [ts_tRm]
      by_cases z : c = a
      · subst z; rw [up_s]; omega
      · rw [up_n z]; omega
    obtain ⟨k8, rfl⟩ : ∃ k8, k7 = k8 + 7 := ⟨k7 - 7, by have z0 : k7 ≠ 0 := n0; have z1 : k7 ≠ 1 := n1; have z2 : k7 ≠ 2 := n2; have z3 : k7 ≠ 3 := n3; have z4 : k7 ≠ 4 := n4; have z5 : k7 ≠ 5 := n5; have z6 : k7 ≠ 6 := n6; omega⟩
    have eC : ∀ j, mDc (k8 + 7, a, x, c, d, e') j = [7, nI a, nI d, nI c, nI e'].getD j 0 := fun j => rfl
    have eD : tDo τ (k8 + 7, a, x, c, d, e') = tAd (tRm τ a (tE τ a d)) c e' (td τ a (tE τ a d)) := rfl
    rw [eD]
    simp only [eC]
    refine ⟨_, ?_, TC_ad (name := e') (n := td τ a (tE τ a d)) hT (tw_rm hw) p6 p7 k3, ?_⟩
    · show mm_V 150 0 [some (.ref (mm_Tr t)), some (.int 7), some (.int (nI a)), some (.int (nI d)), some (.int (nI c)), some (.int (nI e')), none] [] _ = _
      rw [mr_150_0, sw_mis (by decide), sw_mis (by decide), sw_mis (by decide), sw_mis (by decide), sw_mis (by decide), sw_mis (by decide), sw_mis (by decide), sw_nil, tc_nodeNamed h hw p1 p2 (by omega), mb_l, mb_v, if_pos p5, mr_150_139, tc_removeEntry h hw p1 p2 (by omega) p5, mb_l, mb_0, mr_150_147, tc_addEntry hT (tw_rm hw) p6 k3, mb_l, mb_0, mr_150_157]
    · exact (((mF.ww i _ _ (by omega) (by omega)).tr (mF.up _ _ (by omega) (by omega))).tr (mF.ww _ _ _ (by omega) (by omega))).tr (mF.ww _ _ _ (by omega) (by omega))
theorem tr_by_loop {a b s : Nat} {y x1 x5 : Int32} (ha : a < 32) (hb : b < 24) (f : Nat → Int32) : ∀ (D k : Nat) (i : Nat → Nat → Int32), i 115 a = nI k → (k + D = b + 1 ∨ (b < k ∧ D = 0 ∧ k = s)) → s ≤ k → k < 2 ^ 30 → i 116 = mZr f (24 * a + s) (24 * a + k) → mm_V 276 89 [some (.ref 83), some (.int x1), some (.int (nI a)), some (.int (nI b)), some (.int y), some (.int x5), none] [] (mm_Z m w i l e) = some (.inl none, mm_Z m w (va_up (mm_ww i 115 a (nI (max s (b + 1)))) 116 (upd (mZr f (24 * a + s) (24 * a + (b + 1))) (24 * a + b) y)) l e)
  | 0, k, i, hs, hk, hsk, hk2, hi => by
    have ho : ¬ mm_out (nI a) 32 := by rw [na_out (by omega)]; omega
    rw [mr_276_89, if_neg ho]
    simp only [nI_clamp (show a < 2 ^ 31 by omega), hs, nI_ltI (show b < 2 ^ 31 by omega) (show k < 2 ^ 31 by omega), na_24, na_mul, nI_add, nI_clamp (show 24 * a + b < 2 ^ 31 by omega)]
    rw [if_pos (by omega), if_neg (by rw [na_out (by omega)]; omega), mr_276_209]
    congr 3
    funext q
    by_cases z : q = 116
    · subst z
      unfold mm_ww
      rw [up_s, up_s, hi]
      rcases hk with hk | hk
      · rw [show k = b + 1 by omega]
      · rw [mZr_0 f (show 24 * a + k ≤ 24 * a + s by omega), mZr_0 f (show 24 * a + (b + 1) ≤ 24 * a + s by omega)]
    · rw [mw_k z, up_n z]
      by_cases z2 : q = 115
      · subst z2
        funext j
        rw [mw_r]
        by_cases z3 : j = a
        · subst z3; rw [if_pos rfl, hs]; congr 1; omega
        · rw [if_neg z3]
      · rw [mw_k z2]
  | D + 1, k, i, hs, hk, hsk, hk2, hi => by
    have ho : ¬ mm_out (nI a) 32 := by rw [na_out (by omega)]; omega
    rw [mr_276_89, if_neg ho]
    simp only [nI_clamp (show a < 2 ^ 31 by omega), hs, nI_ltI (show b < 2 ^ 31 by omega) (show k < 2 ^ 31 by omega), na_24, na_mul, nI_add, nI_1, nI_clamp (show 24 * a + k < 2 ^ 31 by omega)]
    rw [if_neg (by omega), if_neg ho, if_neg (by rw [na_out (by omega)]; omega), if_neg ho, if_neg ho]
    have hi2 : (mm_ww (mm_ww i 116 (24 * a + k) 0) 115 a (nI (k + 1))) 116 = mZr f (24 * a + s) (24 * a + (k + 1)) := by
      rw [mw_k (by omega)]
      unfold mm_ww
      rw [up_s, hi, mZr_step f (show 24 * a + s ≤ 24 * a + k by omega)]
      rfl
    rw [tr_by_loop ha hb f D (k + 1) _ mw_s (by omega) (by omega) (by omega) hi2]
    congr 3
    funext q
    by_cases z : q = 116
    · subst z; rw [up_s, up_s]
    · rw [up_n z, up_n z]
      by_cases z2 : q = 115
      · subst z2
        funext j
        rw [mw_r, mw_r, mw_r, mw_k (by omega)]
        by_cases z3 : j = a
        · rw [if_pos z3, if_pos z3]
        · rw [if_neg z3, if_neg z3, if_neg z3]
      · rw [mw_k z2, mw_k z2, mw_k z2, mw_k z]
set_option maxHeartbeats 1000000 in
theorem tr_perform (h : TR i τ) (hw : TW τ) (hN : TN τ) {q : mD} (ho : tOk τ q) : ∃ i', mm_V 276 0 [some (.ref 83), some (.int (mDr q 0)), some (.int (mDr q 1)), some (.int (mDr q 2)), some (.int (mDr q 3)), some (.int (mDr q 4)), none] [] (mm_Z m w i l e) = some (.inl none, mm_Z m w i' l e) ∧ TR i' (tDo τ q) ∧ mF 113 118 i i' := by
  unfold tOk at ho
  split at ho
  · rename_i a x c d e'
    obtain ⟨p1, p2, p3, p4, p5, p6, p7, p8, p9⟩ := ho
    have hx : ¬ mm_out (nI a) 32 := by rw [na_out (by omega)]; omega
    have hT := TR_mk (c := 1) (y := x) h p2
    have k2 : tk (tMk τ a 1 x) c = 2 := by rw [tk_tMk, up_n (Ne.symm p5)]; exact p4
    have k3 : ts (tMk τ a 1 x) c < 10 := by rw [ts_tMk, up_n (Ne.symm p5)]; exact p6
    refine ⟨_, ?_, TR_ad (name := d) (n := a) hT (tw_mk hw (by omega)) p3 k2 k3, ?_⟩
    · show mm_V 276 0 [some (.ref 83), some (.int 0), some (.int (nI a)), some (.int x), some (.int (nI c)), some (.int (nI d)), none] [] _ = _
      rw [mr_276_0, sw_hit, if_neg hx, if_neg hx, if_neg hx, nI_clamp (by omega), show (0 + 1 : Int32) = nI 1 by decide, tr_addEntry hT (tw_mk hw (by omega)) p3 k3, mb_l, mb_0, mr_276_76, mr_276_209]
    · exact (((((mF.ww i _ _ (by omega) (by omega)).tr (mF.ww _ _ _ (by omega) (by omega))).tr (mF.ww _ _ _ (by omega) (by omega))).tr (mF.ww _ _ _ (by omega) (by omega))).tr (mF.ww _ _ _ (by omega) (by omega))).tr (mF.ww _ _ _ (by omega) (by omega))
  · rename_i a x c d e'
    obtain ⟨p1, p2, p3, p4, p5, p6, p7, p8, p9⟩ := ho
    have hx : ¬ mm_out (nI a) 32 := by rw [na_out (by omega)]; omega
    have hT := TR_mk (c := 2) (y := x) h p2
    have k2 : tk (tMk τ a 2 x) c = 2 := by rw [tk_tMk, up_n (Ne.symm p5)]; exact p4
    have k3 : ts (tMk τ a 2 x) c < 10 := by rw [ts_tMk, up_n (Ne.symm p5)]; exact p6
    refine ⟨_, ?_, TR_ad (name := d) (n := a) hT (tw_mk hw (by omega)) p3 k2 k3, ?_⟩
    · show mm_V 276 0 [some (.ref 83), some (.int 1), some (.int (nI a)), some (.int x), some (.int (nI c)), some (.int (nI d)), none] [] _ = _
      rw [mr_276_0, sw_mis (by decide), sw_hit, if_neg hx, if_neg hx, if_neg hx, nI_clamp (by omega), show (1 + 1 : Int32) = nI 2 by decide, tr_addEntry hT (tw_mk hw (by omega)) p3 k3, mb_l, mb_0, mr_276_76, mr_276_209]
    · exact (((((mF.ww i _ _ (by omega) (by omega)).tr (mF.ww _ _ _ (by omega) (by omega))).tr (mF.ww _ _ _ (by omega) (by omega))).tr (mF.ww _ _ _ (by omega) (by omega))).tr (mF.ww _ _ _ (by omega) (by omega))).tr (mF.ww _ _ _ (by omega) (by omega))
  · rename_i a x c d e'
    have hx : ¬ mm_out (nI a) 32 := by rw [na_out (by omega)]; omega
    refine ⟨_, ?_, TR_sz (a := a) h, mF.ww i _ _ (by omega) (by omega)⟩
    show mm_V 276 0 [some (.ref 83), some (.int 2), some (.int (nI a)), some (.int 0), some (.int 0), some (.int 0), none] [] _ = _
    rw [mr_276_0, sw_mis (by decide), sw_mis (by decide), sw_hit, if_neg hx, mr_276_209, nI_clamp (by omega)]
  · rename_i a x c d e'
    obtain ⟨p1, p2, p3⟩ := ho
    have hsa := (hw a p1).2.1
    refine ⟨_, ?_, TR_wr (y := x) h hw p1 p2 p3 (upd (mZr (i 116) (24 * a + ts τ a) (24 * a + (c + 1))) (24 * a + c) x) ?_ ?_, ?_⟩
    · show mm_V 276 0 [some (.ref 83), some (.int 3), some (.int (nI a)), some (.int (nI c)), some (.int x), some (.int 0), none] [] _ = _
      rw [mr_276_0, sw_mis (by decide), sw_mis (by decide), sw_mis (by decide), sw_hit]
      exact tr_by_loop p1 p3 (i 116) (c + 1 - ts τ a) (ts τ a) i (h a p1).2.2.1 (by omega) (Nat.le_refl _) (by omega) (mZr_0 _ (Nat.le_refl _)).symm
    · intro k hk
      unfold upd mZr
      by_cases r : k = c
      · rw [if_pos (by omega), if_pos r]
      · rw [if_neg (by omega), if_neg r]
        by_cases r2 : ts τ a ≤ k
        · rw [if_pos (by omega), if_pos r2]
        · rw [if_neg (by omega), if_neg r2]
    · intro q hq
      unfold upd mZr
      rw [if_neg (by omega), if_neg (by omega)]
    · exact (mF.ww i _ _ (by omega) (by omega)).tr (mF.up _ _ (by omega) (by omega))
  · rename_i a x c d e'
    have hx : ¬ mm_out (nI a) 32 := by rw [na_out (by omega)]; omega
    refine ⟨_, ?_, TR_rl (a := a) (y := x) h, mF.ww i _ _ (by omega) (by omega)⟩
    show mm_V 276 0 [some (.ref 83), some (.int 4), some (.int (nI a)), some (.int x), some (.int 0), some (.int 0), none] [] _ = _
    rw [mr_276_0, sw_mis (by decide), sw_mis (by decide), sw_mis (by decide), sw_mis (by decide), sw_hit, if_neg hx, mr_276_209, nI_clamp (by omega)]
  · rename_i a x c d e'
    obtain ⟨p1, p2, p3, p4, p5, p6, p7, p8⟩ := ho
    refine ⟨_, ?_, TR_ad (name := d) (n := c) h hw p1 p2 p3, ?_⟩
    · show mm_V 276 0 [some (.ref 83), some (.int 5), some (.int (nI a)), some (.int (nI d)), some (.int (nI c)), some (.int 0), none] [] _ = _
      rw [mr_276_0, sw_mis (by decide), sw_mis (by decide), sw_mis (by decide), sw_mis (by decide), sw_mis (by decide), sw_hit, tr_addEntry h hw p1 p3, mb_l, mb_0, mr_276_163, mr_276_209]
    · exact ((mF.ww i _ _ (by omega) (by omega)).tr (mF.ww _ _ _ (by omega) (by omega))).tr (mF.ww _ _ _ (by omega) (by omega))
  · rename_i a x c d e'
    obtain ⟨p1, p2, p3, p4, p5⟩ := ho
    refine ⟨_, ?_, TR_rm h hw p1 p2 p5, ?_⟩
    · show mm_V 276 0 [some (.ref 83), some (.int 6), some (.int (nI a)), some (.int (nI d)), some (.int 0), some (.int 0), none] [] _ = _
      rw [mr_276_0, sw_mis (by decide), sw_mis (by decide), sw_mis (by decide), sw_mis (by decide), sw_mis (by decide), sw_mis (by decide), sw_hit, tr_removeEntry h hw hN p1 p2 (by omega) p5, mb_l, mb_0, mr_276_172, mr_276_209]
    · exact ((mF.ww i _ _ (by omega) (by omega)).tr (mF.up _ _ (by omega) (by omega))).tr (mF.up _ _ (by omega) (by omega))
  · rename_i k7 a x c d e' n0 n1 n2 n3 n4 n5 n6
    obtain ⟨p1, p2, p3, p4, p5, p6, p7, p8, p9, p10, p11⟩ := ho
    have g5 := ((hw a p1).2.2 p2).1
    have hT := TR_rm h hw p1 p2 p5
    have k3 : ts (tRm τ a (tE τ a d)) c < 10 := by
      rw [ts_tRm]
      by_cases z : c = a
      · subst z; rw [up_s]; omega
      · rw [up_n z]; omega
    obtain ⟨k8, rfl⟩ : ∃ k8, k7 = k8 + 7 := ⟨k7 - 7, by have z0 : k7 ≠ 0 := n0; have z1 : k7 ≠ 1 := n1; have z2 : k7 ≠ 2 := n2; have z3 : k7 ≠ 3 := n3; have z4 : k7 ≠ 4 := n4; have z5 : k7 ≠ 5 := n5; have z6 : k7 ≠ 6 := n6; omega⟩
    have eC : ∀ j, mDr (k8 + 7, a, x, c, d, e') j = [7, nI a, nI d, nI c, nI e'].getD j 0 := fun j => rfl
    have eD : tDo τ (k8 + 7, a, x, c, d, e') = tAd (tRm τ a (tE τ a d)) c e' (td τ a (tE τ a d)) := rfl
    rw [eD]
    simp only [eC]
    refine ⟨_, ?_, TR_ad (name := e') (n := td τ a (tE τ a d)) hT (tw_rm hw) p6 p7 k3, ?_⟩
    · show mm_V 276 0 [some (.ref 83), some (.int 7), some (.int (nI a)), some (.int (nI d)), some (.int (nI c)), some (.int (nI e')), none] [] _ = _
      rw [mr_276_0, sw_mis (by decide), sw_mis (by decide), sw_mis (by decide), sw_mis (by decide), sw_mis (by decide), sw_mis (by decide), sw_mis (by decide), sw_nil, tr_entryOf h hw hN p1 p2 (by omega), mb_l, mb_v, if_pos p5, mr_276_189, na_10, na_mul, nI_add, if_neg (by rw [na_out (by omega)]; omega), nI_clamp (by omega), ((h a p1).2.2.2.2 p2 _ p5).2, tr_removeEntry h hw hN p1 p2 (by omega) p5, mb_l, mb_0, mr_276_199, tr_addEntry hT (tw_rm hw) p6 k3, mb_l, mb_0, mr_276_209]
    · exact ((((mF.ww i _ _ (by omega) (by omega)).tr (mF.up _ _ (by omega) (by omega))).tr (mF.up _ _ (by omega) (by omega))).tr (mF.ww _ _ _ (by omega) (by omega))).tr (mF.ww _ _ _ (by omega) (by omega)) |>.tr (mF.ww _ _ _ (by omega) (by omega))
end MM66
