/-! PUT AND END, in the reference; END in the class -/
section MM178
variable {X : mX} {w : Bool} {i i' : Nat → Nat → Int32} {l : Nat → Nat → Int64} {m : Nat} {e : Bool × Nat × Nat} {n k j c d : Nat} {x x1 x2 : Int32} {a b g : Bool}
/-- what the reference tells of a refusal -/
theorem r_refuse : mm_V 194 0 [some (.ref 83), some (.int (bI a)), some (.int (bI b)), some (.int (bI g))] [] (mm_Z m w i l e) = some (.inl (some (.int (bI (a || b || g)))), mm_Z m w (mm_ww i 83 0 (nI (if a = true then 1 else if b = true then 2 else if g = true then 3 else 0))) l e) := by
  rw [mr_194_0]
  cases a
  · rw [if_bf]
    cases b
    · rw [if_bf]
      cases g
      · rw [if_bf, mr_194_26, if_neg (by decide)]; rfl
      · rw [if_bt, mr_194_26, if_pos (by decide)]; rfl
    · rw [if_bt, mr_194_26, if_pos (by decide)]; rfl
  · rw [if_bt, mr_194_26, if_pos (by decide)]; rfl
theorem r_put1 : ∀ (d j c : Nat) (b : Bool) (u5 : Option Value), j + d = 4 → c ≤ j → ∃ u, mm_V 196 7 [some (.ref 83), some (.int x), some (.int (nI c)), some (.int (bI b)), some (.int (nI j)), u5] [] (mm_Z m w i l e) = mm_V 196 7 [some (.ref 83), some (.int x), some (.int (nI (c + pCn x d j))), some (.int (bI (b && pGd x d j))), some (.int (nI 4)), u] [] (mm_Z m w i l e) := by
  intro d
  induction d with
  | zero =>
    intro j c b u5 hj hc
    have : j = 4 := by omega
    subst this
    exact ⟨u5, by rw [show pGd x 0 4 = true from rfl, Bool.and_true]; rfl⟩
  | succ d ih =>
    intro j c b u5 hj hc
    have hb := @byt_lt x j
    have st : ∀ (b' : Bool), ∃ u, mm_V 196 59 [some (.ref 83), some (.int x), some (.int (nI c)), some (.int (bI b)), some (.int (nI j)), some (.int (nI (byt x j)))] [.int (bI b')] (mm_Z m w i l e) = mm_V 196 7 [some (.ref 83), some (.int x), some (.int (nI (c + pCn x (d + 1) j))), some (.int (bI (b' && pGd x d (j + 1)))), some (.int (nI 4)), u] [] (mm_Z m w i l e) := fun b' => by
      rw [mr_196_59, nI_1, pCn]
      by_cases z : byt x j = 0
      · obtain ⟨u, e1⟩ := ih (j + 1) c b' (some (.int (nI (byt x j)))) (by omega) (by omega)
        refine ⟨u, ?_⟩
        rw [if_neg (show ¬ (0 : Int32) < nI (byt x j) by rw [z]; decide), nI_1, e1, if_pos z, Nat.zero_add]
      · obtain ⟨u, e1⟩ := ih (j + 1) (c + 1) b' (some (.int (nI (byt x j)))) (by omega) (by omega)
        refine ⟨u, ?_⟩
        rw [if_pos (show (0 : Int32) < nI (byt x j) from (nI_ltI (a := 0) (by omega) (by omega)).mpr (by omega)), nI_1, e1, if_neg z, show c + (1 + pCn x d (j + 1)) = c + 1 + pCn x d (j + 1) by omega]
    have key : mm_V 196 7 [some (.ref 83), some (.int x), some (.int (nI c)), some (.int (bI b)), some (.int (nI j)), u5] [] (mm_Z m w i l e) = mm_V 196 59 [some (.ref 83), some (.int x), some (.int (nI c)), some (.int (bI b)), some (.int (nI j)), some (.int (nI (byt x j)))] [.int (bI (b && sgnO (byt x j)))] (mm_Z m w i l e) := by
      rw [mr_196_7, if_pos (show nI j < 4 from (nI_ltI (b := 4) (by omega) (by omega)).mpr (by omega)), byt_r]
      cases b
      · rw [if_bf, Bool.false_and]; rfl
      · rw [if_bt, Bool.true_and]
        unfold sgnO
        by_cases z1 : byt x j = 0
        · rw [if_pos (show nI (byt x j) = 0 by rw [z1]; rfl), decide_eq_true (Or.inl z1)]; rfl
        · rw [if_neg (show ¬ nI (byt x j) = 0 from fun z => z1 ((nI_eq (b := 0) (by omega) (by omega)).mp z))]
          by_cases z2 : byt x j = 10
          · rw [if_pos (show nI (byt x j) = 10 by rw [z2]; rfl), decide_eq_true (Or.inr (Or.inl z2))]; rfl
          · rw [if_neg (show ¬ nI (byt x j) = 10 from fun z => z2 ((nI_eq (b := 10) (by omega) (by omega)).mp z)), in_n (a := 32) (b := 126) (c := byt x j) (xa := 32) (xb := 126) (by omega) (by omega) (by omega) rfl rfl, mb_l, mb_v, mr_196_51]
            by_cases z3 : 32 ≤ byt x j ∧ byt x j ≤ 126
            · rw [decide_eq_true z3, if_bt, decide_eq_true (Or.inr (Or.inr z3))]; rfl
            · rw [decide_eq_false z3, if_bf, decide_eq_false (show ¬ (byt x j = 0 ∨ byt x j = 10 ∨ (32 ≤ byt x j ∧ byt x j ≤ 126)) by omega)]; rfl
    obtain ⟨u, e1⟩ := st (b && sgnO (byt x j))
    refine ⟨u, ?_⟩
    rw [key, e1, Bool.and_assoc]
    rfl
theorem r_put2 : ∀ (d j : Nat) (X : mX) (i : Nat → Nat → Int32) (u5 : Option Value), j + d = 4 → XP X i → XW X → pGd x d j = true → xz X + pCn x d j ≤ 1200 → ∃ i', mm_V 196 118 [some (.ref 83), some (.int x), some (.int x1), some (.int x2), some (.int (nI j)), u5] [] (mm_Z m w i l e) = some (.inl (some (.int (nI (xz (xPt x d j X))))), mm_Z m w i' l e) ∧ XP (xPt x d j X) i' ∧ mG (fun k j => (k = 83 ∧ j = 2) ∨ k = 84) i i' := by
  intro d
  induction d with
  | zero =>
    intro j X i u5 hj hX hw hg hz
    refine ⟨i, ?_, hX, mG.rf⟩
    rw [mr_196_118, if_neg (show ¬ nI j < 4 from fun z => by have := (nI_ltI (b := 4) (by omega) (by omega)).mp z; omega), hX.1]
    rfl
  | succ d ih =>
    intro j X i u5 hj hX hw hg hz
    have hb := @byt_lt x j
    rw [pGd] at hg
    obtain ⟨hs, hg⟩ := (Bool.and_eq_true _ _).mp hg
    rw [pCn] at hz
    have h12 := hw.1
    rw [mr_196_118, if_pos (show nI j < 4 from (nI_ltI (b := 4) (by omega) (by omega)).mpr (by omega)), byt_r, xPt, nI_1]
    by_cases z : byt x j = 0
    · rw [if_pos z] at hz
      have ea : xA X (byt x j) = X := if_pos z
      obtain ⟨i1, e1, e2, e4⟩ := ih (j + 1) X i (some (.int (nI (byt x j)))) (by omega) hX hw hg (by omega)
      rw [if_neg (show ¬ (0 : Int32) < nI (byt x j) by rw [z]; decide), ea]
      exact ⟨i1, e1, e2, e4⟩
    · rw [if_neg z] at hz
      have ea : xA X (byt x j) = (xz X + 1, va_up (xs X) (xz X) (byt x j)) := if_neg z
      have hw' := xA_w (c := byt x j) hw hs (fun _ => by omega)
      have hX' : XP (xA X (byt x j)) (mm_ww (mm_ww i 84 (xz X) (nI (byt x j))) 83 2 (nI (xz X + 1))) := by
        rw [ea]
        refine ⟨mw_s, fun k hk => ?_⟩
        have hk' : k < xz X + 1 := hk
        show mm_ww (mm_ww i 84 (xz X) (nI (byt x j))) 83 2 (nI (xz X + 1)) 84 k = nI (va_up (xs X) (xz X) (byt x j) k)
        rw [mw_k (by omega), mw_r, up_if]
        split
        · rfl
        · exact hX.2 k (by omega)
      have hzz : xz (xA X (byt x j)) = xz X + 1 := by rw [ea]; rfl
      obtain ⟨i1, e1, e2, e4⟩ := ih (j + 1) (xA X (byt x j)) _ (some (.int (nI (byt x j)))) (by omega) hX' hw' hg (by rw [hzz]; omega)
      rw [if_pos (show (0 : Int32) < nI (byt x j) from (nI_ltI (a := 0) (by omega) (by omega)).mpr (by omega)), hX.1, if_neg (no_out (by omega) (by omega)), nI_clamp (by omega), nI_1]
      refine ⟨i1, e1, e2, ?_⟩
      have f1 : mG (fun k j => (k = 83 ∧ j = 2) ∨ k = 84) i (mm_ww (mm_ww i 84 (xz X) (nI (byt x j))) 83 2 (nI (xz X + 1))) := fun k j y => by rw [mw_ne (by omega), mw_ne (by omega)]
      exact f1.tr e4
/-- put, in the reference -/
theorem r_put (hX : XP X i) (hw : XW X) : (pGd x 4 0 = false ∧ mm_V 196 0 [some (.ref 83), some (.int x), none, none, none, none] [] (mm_Z m w i l e) = some (.inl (some (.int 0)), mm_Z m w (mm_ww i 83 0 (nI 1)) l e)) ∨ (pGd x 4 0 = true ∧ 1200 < xz X + pCn x 4 0 ∧ mm_V 196 0 [some (.ref 83), some (.int x), none, none, none, none] [] (mm_Z m w i l e) = some (.inl (some (.int 0)), mm_Z m w (mm_ww i 83 0 (nI 2)) l e)) ∨ (pGd x 4 0 = true ∧ xz X + pCn x 4 0 ≤ 1200 ∧ ∃ i', mm_V 196 0 [some (.ref 83), some (.int x), none, none, none, none] [] (mm_Z m w i l e) = some (.inl (some (.int (nI (xz (xPt x 4 0 X))))), mm_Z m w i' l e) ∧ XP (xPt x 4 0 X) i' ∧ i' 83 0 = nI 0 ∧ mG (fun k j => (k = 83 ∧ (j = 0 ∨ j = 2)) ∨ k = 84) i i') := by
  have h12 := hw.1
  have hp := pCn_le (x := x) 4 0
  obtain ⟨u, e1⟩ := r_put1 (m := m) (w := w) (i := i) (l := l) (e := e) (x := x) 4 0 0 true none (by omega) (by omega)
  have e1 : mm_V 196 7 [some (.ref 83), some (.int x), some (.int 0), some (.int 1), some (.int 0), none] [] (mm_Z m w i l e) = _ := e1
  rw [mr_196_0, e1, Bool.true_and, Nat.zero_add, mr_196_7, if_neg (by decide)]
  have t89 : ∀ (s : Bool), mm_V 196 89 [some (.ref 83), some (.int x), some (.int (nI (pCn x 4 0))), some (.int (bI (pGd x 4 0))), some (.int (nI 4)), u] [.int (bI s), .ref 83] (mm_Z m w i l e) = mm_V 196 110 [some (.ref 83), some (.int x), some (.int (nI (pCn x 4 0))), some (.int (bI (pGd x 4 0))), some (.int (nI 4)), u] [.int (bI (s || decide (1200 < xz X + pCn x 4 0) || false))] (mm_Z m w (mm_ww i 83 0 (nI (if s = true then 1 else if decide (1200 < xz X + pCn x 4 0) = true then 2 else if false = true then 3 else 0))) l e) := fun s => by
    rw [mr_196_89, hX.1, nI_add]
    by_cases z2 : 1200 < xz X + pCn x 4 0
    · rw [if_pos (show (1200 : Int32) < nI (xz X + pCn x 4 0) from (nI_ltI (a := 1200) (by omega) (by omega)).mpr z2), mr_196_106, show (1 : Int32) = bI true from rfl, show (0 : Int32) = bI false from rfl, r_refuse, mb_l, mb_v, decide_eq_true z2]
    · rw [if_neg (show ¬ (1200 : Int32) < nI (xz X + pCn x 4 0) from fun y => z2 ((nI_ltI (a := 1200) (by omega) (by omega)).mp y)), mr_196_106, show (0 : Int32) = bI false from rfl, r_refuse, mb_l, mb_v, decide_eq_false z2]
  cases z : pGd x 4 0
  · rw [z] at t89
    have t := t89 true
    rw [show bI true = (1 : Int32) from rfl] at t
    rw [if_bf, t, Bool.true_or, Bool.true_or, mr_196_110, if_bt, if_pos rfl]
    exact Or.inl ⟨rfl, rfl⟩
  · rw [z] at t89
    have t := t89 false
    rw [show bI false = (0 : Int32) from rfl] at t
    rw [if_bt, t, Bool.false_or, Bool.or_false, mr_196_110, if_neg Bool.false_ne_true]
    by_cases z2 : 1200 < xz X + pCn x 4 0
    · rw [decide_eq_true z2, if_bt, if_pos rfl]
      exact Or.inr (Or.inl ⟨rfl, z2, rfl⟩)
    · rw [decide_eq_false z2, if_bf, if_neg Bool.false_ne_true, if_neg Bool.false_ne_true]
      have hX' : XP X (mm_ww i 83 0 (nI 0)) := ⟨by rw [mw_j (by omega)]; exact hX.1, fun k hk => by rw [mw_k (by omega)]; exact hX.2 k hk⟩
      obtain ⟨i1, f1, f2, f4⟩ := r_put2 (m := m) (w := w) (l := l) (e := e) (x := x) (x1 := nI (pCn x 4 0)) (x2 := bI true) 4 0 X _ u (by omega) hX' hw z (by omega)
      have f1 : mm_V 196 118 [some (.ref 83), some (.int x), some (.int (nI (pCn x 4 0))), some (.int (bI true)), some (.int 0), u] [] (mm_Z m w (mm_ww i 83 0 (nI 0)) l e) = _ := f1
      refine Or.inr (Or.inr ⟨rfl, by omega, i1, f1, f2, by rw [f4 _ _ (by omega), mw_s], ?_⟩)
      exact (mG.ww (P := fun k j => (k = 83 ∧ (j = 0 ∨ j = 2)) ∨ k = 84) (Or.inl ⟨rfl, Or.inl rfl⟩)).tr (f4.mo (fun a b y => by omega))
end MM178
