/-! PUT AND END -/
section MM177
variable {X : mX} {w : Bool} {i i' : Nat → Nat → Int32} {l : Nat → Nat → Int64} {m : Nat} {e : Bool × Nat × Nat} {n k j c d : Nat} {x x1 x2 : Int32}
def sgnO (c : Nat) : Bool := decide (c = 0 ∨ c = 10 ∨ (32 ≤ c ∧ c ≤ 126))
/-- all signs are signs of a text -/
def pGd (x : Int32) : Nat → Nat → Bool
  | 0, _ => true
  | d + 1, j => sgnO (byt x j) && pGd x d (j + 1)
/-- how many are not 0 -/
def pCn (x : Int32) : Nat → Nat → Nat
  | 0, _ => 0
  | d + 1, j => (if byt x j = 0 then 0 else 1) + pCn x d (j + 1)
/-- a sign more -/
def xA (X : mX) (c : Nat) : mX := if c = 0 then X else (xz X + 1, va_up (xs X) (xz X) c)
def xPt (x : Int32) : Nat → Nat → mX → mX
  | 0, _, X => X
  | d + 1, j, X => xPt x d (j + 1) (xA X (byt x j))
theorem pCn_le {x : Int32} : ∀ (d j : Nat), pCn x d j ≤ d
  | 0, _ => Nat.le_refl _
  | d + 1, j => by
    have := pCn_le (x := x) d (j + 1)
    rw [pCn]
    split <;> omega
theorem xPt_z : ∀ (d j : Nat) (X : mX), xz (xPt x d j X) = xz X + pCn x d j
  | 0, _, _ => rfl
  | d + 1, j, X => by
    rw [xPt, xPt_z d (j + 1), pCn]
    unfold xA
    split
    · omega
    · show xz X + 1 + _ = _
      omega
theorem xA_w (h : XW X) (hc : sgnO c = true) (hz : c ≠ 0 → xz X < 1200) : XW (xA X c) := by
  unfold xA
  by_cases q : c = 0
  · rw [if_pos q]; exact h
  · rw [if_neg q]
    have h1 := of_decide_eq_true hc
    refine ⟨?_, fun k hk => ?_⟩
    · show xz X + 1 ≤ 1200
      have := hz q
      omega
    · have hk' : k < xz X + 1 := hk
      show 10 ≤ va_up (xs X) (xz X) c k ∧ va_up (xs X) (xz X) c k ≤ 126
      rw [up_if]
      split
      · omega
      · exact h.2 k (by omega)
theorem c_sgn (hc : c < 256) : mm_V 122 0 [some (.int (nI c))] [] (mm_Z m w i l e) = some (.inl (some (.int (bI (sgnO c)))), mm_Z m w i l e) := by
  rw [mr_122_0]
  unfold sgnO
  by_cases z1 : c = 0
  · rw [if_pos (by rw [z1]; rfl), decide_eq_true (Or.inl z1)]; rfl
  · rw [if_neg (show ¬ nI c = 0 from fun z => z1 ((nI_eq (b := 0) (by omega) (by omega)).mp z))]
    by_cases z2 : c = 10
    · rw [if_pos (by rw [z2]; rfl), decide_eq_true (Or.inr (Or.inl z2))]; rfl
    · rw [if_neg (show ¬ nI c = 10 from fun z => z2 ((nI_eq (b := 10) (by omega) (by omega)).mp z))]
      by_cases z3 : c < 32
      · rw [if_pos (show nI c < 32 from (nI_ltI (b := 32) (by omega) (by omega)).mpr z3), decide_eq_false (by omega)]; rfl
      · rw [if_neg (show ¬ nI c < 32 from fun z => z3 ((nI_ltI (b := 32) (by omega) (by omega)).mp z))]
        by_cases z4 : 126 < c
        · rw [if_pos (show (126 : Int32) < nI c from (nI_ltI (a := 126) (by omega) (by omega)).mpr z4), decide_eq_false (by omega)]; rfl
        · rw [if_neg (show ¬ (126 : Int32) < nI c from fun z => z4 ((nI_ltI (a := 126) (by omega) (by omega)).mp z)), decide_eq_true (by omega)]; rfl
theorem c_put1 : ∀ (d j c : Nat) (u4 : Option Value), j + d = 4 → c ≤ j → ∃ u, mm_V 157 4 [some (.ref 0), some (.int x), some (.int (nI c)), some (.int (nI j)), u4] [] (mm_Z m w i l e) = if pGd x d j = true then mm_V 157 4 [some (.ref 0), some (.int x), some (.int (nI (c + pCn x d j))), some (.int (nI 4)), u] [] (mm_Z m w i l e) else some (.inr 0, mm_Z m w i l (mm_te e)) := by
  intro d
  induction d with
  | zero =>
    intro j c u4 hj hc
    have : j = 4 := by omega
    subst this
    exact ⟨u4, by rw [show pGd x 0 4 = true from rfl, if_pos rfl]; rfl⟩
  | succ d ih =>
    intro j c u4 hj hc
    have hb := @byt_lt x j
    rw [mr_157_4, if_pos (show nI j < 4 from (nI_ltI (b := 4) (by omega) (by omega)).mpr (by omega)), byt_c (by omega), c_sgn hb, mb_l, mb_v, mr_157_26, pGd, pCn]
    cases hs : sgnO (byt x j)
    · exact ⟨none, by rw [if_bf, Bool.false_and, if_neg Bool.false_ne_true]⟩
    · rw [if_bt, Bool.true_and, nI_1]
      by_cases z : byt x j = 0
      · obtain ⟨u, e1⟩ := ih (j + 1) c (some (.int (nI (byt x j)))) (by omega) (by omega)
        refine ⟨u, ?_⟩
        rw [if_pos (show nI (byt x j) = 0 by rw [z]; rfl), show nI c + 0 = nI c from Int32.add_zero _, e1, if_pos z, Nat.zero_add]
      · obtain ⟨u, e1⟩ := ih (j + 1) (c + 1) (some (.int (nI (byt x j)))) (by omega) (by omega)
        refine ⟨u, ?_⟩
        rw [if_neg (show ¬ nI (byt x j) = 0 from fun y => z ((nI_eq (b := 0) (by omega) (by omega)).mp y)), nI_1, e1, if_neg z, show c + (1 + pCn x d (j + 1)) = c + 1 + pCn x d (j + 1) by omega]
theorem nar_b : ∀ c, c < 127 → vp_nar .byte ((nI c : Int32).toInt8.toInt32) = nI c := by decide +kernel
theorem c_put2 : ∀ (d j : Nat) (X : mX) (i : Nat → Nat → Int32) (u4 : Option Value), j + d = 4 → XC X i → XW X → pGd x d j = true → xz X + pCn x d j ≤ 1200 → ∃ i', mm_V 157 85 [some (.ref 0), some (.int x), some (.int x2), some (.int (nI j)), u4] [] (mm_Z m w i l e) = some (.inl (some (.int (nI (xz (xPt x d j X))))), mm_Z m w i' l e) ∧ XC (xPt x d j X) i' ∧ XW (xPt x d j X) ∧ mG (fun k j => (k = 1 ∧ j = 1) ∨ k = 2) i i' := by
  intro d
  induction d with
  | zero =>
    intro j X i u4 hj hX hw hg hz
    refine ⟨i, ?_, hX, hw, mG.rf⟩
    rw [mr_157_85, if_neg (show ¬ nI j < 4 from fun z => by have := (nI_ltI (b := 4) (by omega) (by omega)).mp z; omega), hX.1]
    rfl
  | succ d ih =>
    intro j X i u4 hj hX hw hg hz
    have hb := @byt_lt x j
    rw [pGd] at hg
    obtain ⟨hs, hg⟩ := (Bool.and_eq_true _ _).mp hg
    rw [pCn] at hz
    have h12 := hw.1
    have hs' := of_decide_eq_true hs
    rw [mr_157_85, if_pos (show nI j < 4 from (nI_ltI (b := 4) (by omega) (by omega)).mpr (by omega)), byt_c (by omega), mr_125_0, xPt]
    by_cases z : byt x j = 0
    · rw [if_pos z] at hz
      have ea : xA X (byt x j) = X := if_pos z
      obtain ⟨i1, e1, e2, e3, e4⟩ := ih (j + 1) X i u4 (by omega) hX hw hg (by omega)
      rw [if_pos (show nI (byt x j) = 0 by rw [z]; rfl), mb_l, mb_0, mr_157_107, nI_1, ea]
      exact ⟨i1, e1, e2, e3, e4⟩
    · rw [if_neg z] at hz
      have ea : xA X (byt x j) = (xz X + 1, va_up (xs X) (xz X) (byt x j)) := if_neg z
      have hw' := xA_w (c := byt x j) hw hs (fun _ => by omega)
      have hX' : XC (xA X (byt x j)) (mm_ww (mm_ww i 2 (xz X) (nI (byt x j))) 1 1 (nI (xz X + 1))) := by
        rw [ea]
        refine ⟨mw_s, fun k hk => ?_⟩
        have hk' : k < xz X + 1 := hk
        show mm_ww (mm_ww i 2 (xz X) (nI (byt x j))) 1 1 (nI (xz X + 1)) 2 k = nI (va_up (xs X) (xz X) (byt x j) k)
        rw [mw_k (by omega), mw_r, up_if]
        split
        · rfl
        · exact hX.2 k (by omega)
      have hzz : xz (xA X (byt x j)) = xz X + 1 := by rw [ea]; rfl
      obtain ⟨i1, e1, e2, e3, e4⟩ := ih (j + 1) (xA X (byt x j)) _ u4 (by omega) hX' hw' hg (by rw [hzz]; omega)
      rw [if_neg (show ¬ nI (byt x j) = 0 from fun y => z ((nI_eq (b := 0) (by omega) (by omega)).mp y)), hX.1, if_pos (show nI (xz X) < 1200 from (nI_ltI (b := 1200) (by omega) (by omega)).mpr (by omega)), if_neg (no_out (by omega) (by omega)), nI_clamp (by omega), nar_b _ (by omega), nI_1, mb_l, mb_0, mr_157_107, nI_1]
      refine ⟨i1, e1, e2, e3, ?_⟩
      have f1 : mG (fun k j => (k = 1 ∧ j = 1) ∨ k = 2) i (mm_ww (mm_ww i 2 (xz X) (nI (byt x j))) 1 1 (nI (xz X + 1))) := fun k j y => by rw [mw_ne (by omega), mw_ne (by omega)]
      exact f1.tr e4
/-- put, in the class -/
theorem c_put (hX : XC X i) (hw : XW X) : (pGd x 4 0 = false ∧ mm_V 157 0 [some (.ref 0), some (.int x), none, none, none] [] (mm_Z m w i l e) = some (.inr 0, mm_Z m w i l (mm_te e))) ∨ (pGd x 4 0 = true ∧ 1200 < xz X + pCn x 4 0 ∧ mm_V 157 0 [some (.ref 0), some (.int x), none, none, none] [] (mm_Z m w i l e) = some (.inr 1, mm_Z m w i l (mm_te e))) ∨ (pGd x 4 0 = true ∧ xz X + pCn x 4 0 ≤ 1200 ∧ ∃ i', mm_V 157 0 [some (.ref 0), some (.int x), none, none, none] [] (mm_Z m w i l e) = some (.inl (some (.int (nI (xz (xPt x 4 0 X))))), mm_Z m w i' l e) ∧ XC (xPt x 4 0 X) i' ∧ XW (xPt x 4 0 X) ∧ mG (fun k j => (k = 1 ∧ j = 1) ∨ k = 2) i i') := by
  have h12 := hw.1
  have hp := pCn_le (x := x) 4 0
  obtain ⟨u, e1⟩ := c_put1 (m := m) (w := w) (i := i) (l := l) (e := e) (x := x) 4 0 0 none (by omega) (by omega)
  have e1 : mm_V 157 4 [some (.ref 0), some (.int x), some (.int 0), some (.int 0), none] [] (mm_Z m w i l e) = _ := e1
  rw [mr_157_0, e1]
  by_cases z : pGd x 4 0 = true
  · rw [if_pos z, Nat.zero_add, mr_157_4, if_neg (by decide), hX.1, nI_add]
    by_cases z2 : 1200 < xz X + pCn x 4 0
    · rw [if_pos (show (1200 : Int32) < nI (xz X + pCn x 4 0) from (nI_ltI (a := 1200) (by omega) (by omega)).mpr z2)]
      exact Or.inr (Or.inl ⟨z, z2, rfl⟩)
    · rw [if_neg (show ¬ (1200 : Int32) < nI (xz X + pCn x 4 0) from fun y => z2 ((nI_ltI (a := 1200) (by omega) (by omega)).mp y))]
      obtain ⟨i1, f1, f2, f3, f4⟩ := c_put2 (m := m) (w := w) (l := l) (e := e) (x := x) (x2 := nI (pCn x 4 0)) 4 0 X i u (by omega) hX hw z (by omega)
      exact Or.inr (Or.inr ⟨z, by omega, i1, f1, f2, f3, f4⟩)
  · rw [if_neg z]
    exact Or.inl ⟨by cases h : pGd x 4 0 <;> simp_all, rfl⟩
end MM177
