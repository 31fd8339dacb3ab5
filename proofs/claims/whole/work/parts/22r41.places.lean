/-! WALKS in the reference; places -/
section MM100
variable {w : Bool} {l : Nat → Nat → Int64} {e : Bool × Nat × Nat} {π : mP} {m : Nat} {ψ : mS} {b p n : Nat}
theorem rs_gd {i : Nat → Nat → Int32} (h0 : i 83 81 = 0) : mm_V 267 0 [some (.ref 83)] [] (mm_Z m w i l e) = some (.inl (some (.int (bI true))), mm_Z m w i l e) := by
  rw [rs_good h0]; rfl
theorem rs_bd {i : Nat → Nat → Int32} (h0 : i 83 81 < 0) : mm_V 267 0 [some (.ref 83)] [] (mm_Z m w i l e) = some (.inl (some (.int (bI false))), mm_Z m w i l e) := by
  rw [rs_good rfl, decide_eq_false (fun z => z h0)]
theorem rw_stop {i : Nat → Nat → Int32} (h0 : i 83 81 < 0) {x1 x2 x3 x4 : Int32} {u : Option Value} : mm_V 285 8 [some (.ref 83), some (.int x1), some (.int x2), some (.int x3), some (.int x4), u] [] (mm_Z m w i l e) = some (.inl none, mm_Z m w i l e) := by
  rw [mr_285_8]
  split
  · rw [rs_bd h0, mb_l, mb_v, mr_285_18, if_bf]
  · rfl
theorem rw_bad {i : Nat → Nat → Int32} (h0 : i 83 81 < 0) {x1 x2 x3 x4 x5 s1 : Int32} : mm_V 285 94 [some (.ref 83), some (.int x1), some (.int x2), some (.int x3), some (.int x4), some (.int x5)] [.int s1, .ref 83] (mm_Z m w i l e) = some (.inl none, mm_Z m w i l e) := by
  rw [mr_285_94, rs_must_no h0, ww_id, mb_l, mb_0, mr_285_99, rs_bd h0, mb_l, mb_v, mr_285_104, if_bf, ww_id, rw_stop h0]
theorem rw_loop (hp : p < 8) {L : List Nat} (hL : pO L) {N : Nat} (hN : N ≤ L.length) : ∀ (A : List Nat) (a k b : Nat) (ψ : mS) (i : Nat → Nat → Int32) (u : Option Value), N = k + A.length → (∀ j, j < A.length → L.getD (k + j) 0 = A.getD j 0) → a < 32 → tk (yT ψ) a ≠ 0 → hP (yH ψ) p ≠ 0 → IV π b ψ → b + A.length < 2 ^ 29 → RS π i ψ → i 83 81 = 0 → i 83 82 = nI a → ∃ i', mm_V 285 8 [some (.ref 83), some (.int (nI p)), some (.int (nI (pc L))), some (.int (nI N)), some (.int (nI k)), u] [] (mm_Z m w i l e) = some (.inl none, mm_Z m w i' l e) ∧ RS π i' (yk ψ (wK π (yT ψ) (cP (yH ψ) p) A a (yK ψ)).2.2) ∧ i' 83 81 = (wK π (yT ψ) (cP (yH ψ) p) A a (yK ψ)).1 ∧ i' 83 82 = nI (wK π (yT ψ) (cP (yH ψ) p) A a (yK ψ)).2.1 ∧ mG rW i i'
  | [], a, k, b, ψ, i, u, hN', hA, ha, ht, hP0, hI, hb, h, h1, h2 => by
    refine ⟨i, ?_, h, h1, h2, mG.rf⟩
    have hL4 := hL.1
    rw [List.length_nil] at hN'
    rw [mr_285_8, if_neg (by rw [nI_ltI (by omega) (by omega)]; omega)]
  | x :: A, a, k, b, ψ, i, u, hN', hA, ha, ht, hP0, hI, hb, h, h1, h2 => by
    have hL4 := hL.1
    rw [List.length_cons] at hN' hb
    have hxx := hL.2 _ (gd_in (L := L) (k := k) (by omega))
    have hx := hA 0 (by simp)
    rw [Nat.add_zero] at hx
    have hx : L.getD k 0 = x := by rw [hx]; rfl
    rw [hx] at hxx
    have eD : ∀ (g : Bool), (if g = true then (1 : Int32) else 0) = bI g := fun _ => rfl
    have hdir : (if tk (yT ψ) a = 2 then (1 : Int32) else 0) = bI (decide (tk (yT ψ) a = 2)) := by unfold bI; simp only [decide_eq_true_eq]
    rw [mr_285_8, if_pos ((nI_ltI (by omega) (by omega)).mpr (by omega)), rs_gd h1, mb_l, mb_v, mr_285_18, if_bt, h2, tr_isDirectory h.1 hI.tw ha, hdir, mb_l, mb_v, mr_285_30, rs_must h1, mb_l, mb_0, mr_285_35, if_neg (no_out (by omega) (by omega)), mw_j (show 82 ≠ 81 by omega), h2, if_neg (no_out (by omega) (by omega)), nI_clamp (by omega), nI_clamp (by omega), mw_k (show 121 ≠ 83 by omega), mw_k (show 114 ≠ 83 by omega), h.pr hp hP0, h.cn hI ha ht]
    by_cases q1 : tk (yT ψ) a = 2
    · have hr : RS π (mm_ww i 83 81 0) ψ := h.rg (by omega)
      simp only [if_pos (decide_eq_true q1)]
      obtain ⟨i1, c1, c2, c3, c4, c5, c6⟩ := rs_check (m := m) (w := w) (l := l) (e := e) (cl := 1) (x4 := 1) hr hI mw_s (hI.cp hp hP0) (hI.cn ha ht).1 (by omega)
      have hI1 := iv_ck hI (by omega) (cl := 1) (pm := 2) (hI.cp hp hP0) (hI.cn ha ht).1
      rw [show ((1 : Int32) <<< ((1 : Int32) &&& 31)) = 2 by decide] at c2 c3
      have f1 : mG rW i i1 := (mG.ww (Or.inr ⟨rfl, by omega⟩)).tr c6
      have c4 : i1 83 82 = nI a := by rw [c4, mw_j (by omega), h2]
      rw [show some (Value.int 1) = some (Value.int (nI 1)) from rfl] at c1 ⊢
      rw [c1, mb_l, mb_0, mr_285_56]
      cases q2 : (kGr π (yK ψ) (cP (yH ψ) p) (cN (yT ψ) a) 1 2).1 with
      | false =>
        rw [q2, if_neg (by decide)] at c3
        have hn : i1 83 81 < 0 := by rw [c3]; decide
        rw [rs_bd hn, mb_l, mb_v, mr_285_60, if_bf, if_pos (by decide), rw_bad hn, wK_2 q1 q2]
        exact ⟨i1, rfl, c2, c3, c4, f1⟩
      | true =>
        rw [q2, if_pos rfl] at c3
        have t2 : TR i1 (yT ψ) := c2.1
        rw [rs_gd c3, mb_l, mb_v, mr_285_60, if_bt, nm_at hL (by omega), hx, mb_l, mb_v, mr_285_74, c4, tr_entryOf t2 hI.tw hI.tn ha q1 (by omega), mb_l, mb_v, mr_285_77]
        by_cases q3 : tE (yT ψ) a x < ts (yT ψ) a
        · have hd := (((hI.tw a ha).2.2 q1).2 _ q3)
          have hs := ((hI.tw a ha).2.2 q1).1
          have hz := (t2 a ha).2.2.2.2 q1 _ q3
          rw [wK_4 q1 q2 q3, if_pos q3, if_neg (nI_pos (by omega)), mr_285_94, show (Value.int 1) = Value.int (bI true) from rfl, rs_must c3, if_pos rfl, mb_l, mb_0, mr_285_99, rs_gd mw_s, mb_l, mb_v, mr_285_104, if_bt, mw_j (show 82 ≠ 81 by omega), c4, na_10, na_mul, nI_add, if_neg (no_out (by omega) (by omega)), nI_clamp (by omega), mw_k (show 118 ≠ 83 by omega), hz.2, nI_1]
          obtain ⟨i2, g1, g2, g3, g4, g5⟩ := rw_loop hp hL hN A (td (yT ψ) a (tE (yT ψ) a x)) (k + 1) (b + 1) (yk ψ (kGr π (yK ψ) (cP (yH ψ) p) (cN (yT ψ) a) 1 2).2) (mm_ww (mm_ww i1 83 81 0) 83 82 (nI (td (yT ψ) a (tE (yT ψ) a x)))) (some (.int (nI (tE (yT ψ) a x)))) (by omega) (fun j hj => by
            have := hA (j + 1) (by rw [List.length_cons]; omega)
            rw [show k + 1 + j = k + (j + 1) by omega, this]; rfl) hd.2.2.2 (hI.ti.2.2.2.2.1 a ha q1 _ q3) hP0 hI1 (by omega) ((c2.rg (by omega)).rg (by omega)) (by rw [mw_j (by omega), mw_s]) mw_s
          exact ⟨i2, g1, g2, g3, g4, ((f1.tr (mG.ww (Or.inr ⟨rfl, by omega⟩))).tr (mG.ww (Or.inr ⟨rfl, by omega⟩))).tr g5⟩
        · rw [wK_3 q1 q2 q3, if_neg q3, if_pos (by decide), mr_285_94, show (Value.int 0) = Value.int (bI false) from rfl, rs_must c3, if_neg (by decide), mb_l, mb_0, mr_285_99, rs_bd (show mm_ww i1 83 81 (-3) 83 81 < 0 by rw [mw_s]; decide), mb_l, mb_v, mr_285_104, if_bf, ww_id, rw_stop (show mm_ww i1 83 81 (-3) 83 81 < 0 by rw [mw_s]; decide)]
          exact ⟨_, rfl, c2.rg (by omega), mw_s, by rw [mw_j (by omega)]; exact c4, f1.tr (mG.ww (Or.inr ⟨rfl, by omega⟩))⟩
    · have hn : mm_ww i 83 81 (-4) 83 81 < 0 := by rw [mw_s]; decide
      simp only [if_neg (show ¬ decide (tk (yT ψ) a = 2) = true by simpa using q1)]
      rw [rs_check_no hn, mb_l, mb_0, mr_285_56, rs_bd hn, mb_l, mb_v, mr_285_60, if_bf, if_pos (by decide), rw_bad hn, wK_1 q1]
      exact ⟨_, rfl, h.rg (by omega), mw_s, by rw [mw_j (by omega)]; exact h2, mG.ww (Or.inr ⟨rfl, by omega⟩)⟩
end MM100
