/-! THE POLICY: what it is, how both keep it, what it answers -/
section MM71
/-- an operation of a condition: 0 not, 1 and, 2 or, 3 4 5 the same user, role, type, 6 7 source or target meant; negated; the types meant -/
abbrev mO : Type := Nat × Bool × Int32
/-- counts; roles of a user, types of a role; rules (kind, sources, targets or -1, class, permissions); moves (source, target, class, type); limits (class, permissions, operations) -/
abbrev mP : Type := (Nat → Nat) × (Nat → Int32) × (Nat → Int32) × (Nat → Nat × Int32 × Int32 × Nat × Int32) × (Nat → Nat × Nat × Nat × Nat) × (Nat → Nat × Int32 × List mO)
def pN (π : mP) : Nat → Nat := π.1
def pU (π : mP) : Nat → Int32 := π.2.1
def pR (π : mP) : Nat → Int32 := π.2.2.1
def pL (π : mP) : Nat → Nat × Int32 × Int32 × Nat × Int32 := π.2.2.2.1
def pM (π : mP) : Nat → Nat × Nat × Nat × Nat := π.2.2.2.2.1
def pT (π : mP) : Nat → Nat × Int32 × List mO := π.2.2.2.2.2
def PW (π : mP) : Prop := pN π 0 ≤ 24 ∧ pN π 1 ≤ 8 ∧ pN π 2 ≤ 6 ∧ pN π 3 ≤ 4 ∧ pN π 4 ≤ 60 ∧ pN π 5 ≤ 12 ∧ pN π 6 ≤ 8 ∧ (∀ k, k < pN π 4 → (pL π k).1 ≤ 3 ∧ (pL π k).2.2.2.1 ≤ 4) ∧ (∀ k, k < pN π 5 → (pM π k).1 < 24 ∧ (pM π k).2.1 < 24 ∧ (pM π k).2.2.1 ≤ 4 ∧ (pM π k).2.2.2 < 24) ∧ (∀ a b, a < pN π 5 → b < pN π 5 → (pM π a).1 = (pM π b).1 → (pM π a).2.1 = (pM π b).2.1 → (pM π a).2.2.1 = (pM π b).2.2.1 → (pM π a).2.2.2 = (pM π b).2.2.2) ∧ (∀ k, k < pN π 6 → (pT π k).1 ≤ 4)
/-- the class's policy p: counts, masks, rules, moves -/
def PC0 (p : Bool) (i : Nat → Nat → Int32) (π : mP) : Prop := (∀ j, j < 7 → i (mm_P p + 1) j = nI (pN π j)) ∧ (∀ u, u < pN π 3 → i (mm_P p + 4) u = pU π u) ∧ (∀ r, r < pN π 2 → i (mm_P p + 3) r = pR π r) ∧ (∀ k, k < pN π 4 → i (mm_P p + 5) k = nI (pL π k).1 ∧ i (mm_P p + 6) k = (pL π k).2.1 ∧ i (mm_P p + 7) k = (pL π k).2.2.1 ∧ i (mm_P p + 8) k = nI (pL π k).2.2.2.1 ∧ i (mm_P p + 9) k = (pL π k).2.2.2.2) ∧ (∀ k, k < pN π 5 → i (mm_P p + 10) k = nI (pM π k).1 ∧ i (mm_P p + 11) k = nI (pM π k).2.1 ∧ i (mm_P p + 12) k = nI (pM π k).2.2.1 ∧ i (mm_P p + 13) k = nI (pM π k).2.2.2)
/-- what the reference's number x means: v -/
def rM (i : Nat → Nat → Int32) (x v : Int32) : Prop := (x = -1 ∧ v = ((1 : Int32) <<< (i 83 14 &&& 31)) - 1) ∨ (∃ a, a < 24 ∧ x = nI a ∧ v = (1 : Int32) <<< (nI a &&& 31)) ∨ (∃ a, a < 8 ∧ x = nI (100 + a) ∧ v = i 92 a)
def PR0 (i : Nat → Nat → Int32) (π : mP) : Prop := (i 83 14 = nI (pN π 0) ∧ i 83 15 = nI (pN π 1) ∧ i 83 16 = nI (pN π 2) ∧ i 83 17 = nI (pN π 3) ∧ i 83 21 = nI (pN π 4) ∧ i 83 28 = nI (pN π 5) ∧ i 83 34 = nI (pN π 6)) ∧ (∀ u, u < pN π 3 → i 94 u = pU π u) ∧ (∀ r, r < pN π 2 → i 93 r = pR π r) ∧ (∀ k, k < pN π 4 → i 95 k = nI ((pL π k).1 + 5) ∧ rM i (i 96 k) (pL π k).2.1 ∧ ((i 97 k = -2 ∧ (pL π k).2.2.1 = -1) ∨ (rM i (i 97 k) (pL π k).2.2.1 ∧ (pL π k).2.2.1 ≠ -1)) ∧ i 98 k = nI (pL π k).2.2.2.1 ∧ i 99 k = (pL π k).2.2.2.2) ∧ (∀ k, k < pN π 5 → i 101 k = nI (pM π k).1 ∧ i 102 k = nI (pM π k).2.1 ∧ i 103 k = nI (pM π k).2.2.1 ∧ i 104 k = nI (pM π k).2.2.2)
/-- bit k -/
def mB (x : Int32) (k : Nat) : Bool := decide ((x >>> (nI k &&& 31)) &&& 1 = 1)
theorem mB_if {x : Int32} {k : Nat} {A B : Option mm_R} : (if (x >>> (nI k &&& 31)) &&& 1 = 1 then A else B) = if mB x k = true then A else B := by
  unfold mB
  simp only [decide_eq_true_eq]
/-- is the context valid? -/
def pVal (π : mP) (x : Int32) : Bool := !decide (x < 0) && (decide (x.toNatClampNeg / 1000 < pN π 3) && (decide (x.toNatClampNeg / 100 % 10 < pN π 2) && (decide (x.toNatClampNeg % 100 < pN π 0) && (mB (pU π (x.toNatClampNeg / 1000)) (x.toNatClampNeg / 100 % 10) && mB (pR π (x.toNatClampNeg / 100 % 10)) (x.toNatClampNeg % 100)))))
variable {p w : Bool} {i : Nat → Nat → Int32} {l : Nat → Nat → Int64} {e : Bool × Nat × Nat} {π : mP} {m : Nat}
theorem pVal_neg {x : Int32} (h : x < 0) : pVal π x = false := by simp [pVal, h]
theorem pVal_nI {c : Nat} (h : c < 2 ^ 31) : pVal π (nI c) = (decide (c / 1000 < pN π 3) && (decide (c / 100 % 10 < pN π 2) && (decide (c % 100 < pN π 0) && (mB (pU π (c / 1000)) (c / 100 % 10) && mB (pR π (c / 100 % 10)) (c % 100))))) := by
  unfold pVal
  rw [nI_clamp h]
  simp [nI_pos h]
theorem pc_isType (h : PC0 p i π) (hw : PW π) {x : Nat} (hx : x < 2 ^ 31) : mm_V 114 0 [some (.ref (mm_P p)), some (.int (nI x))] [] (mm_Z m w i l e) = some (.inl (some (.int (bI (decide (x < pN π 0))))), mm_Z m w i l e) := by
  have h0 := hw.1
  rw [mr_114_0, if_neg (nI_pos hx)]
  simp only [h.1 0 (by omega), nI_ltI hx (show pN π 0 < 2 ^ 31 by omega)]
  by_cases q : x < pN π 0
  · rw [if_pos q, decide_eq_true q]; rfl
  · rw [if_neg q, decide_eq_false q]; rfl
theorem pc_isValid (h : PC0 p i π) (hw : PW π) (x : Int32) : mm_V 115 0 [some (.ref (mm_P p)), some (.int x), none, none] [] (mm_Z m w i l e) = some (.inl (some (.int (bI (pVal π x)))), mm_Z m w i l e) := by
  have hw0 := hw
  obtain ⟨h0, h1, h2, h3, -⟩ := hw
  rw [mr_115_0]
  by_cases q0 : x < 0
  · rw [if_pos q0, pVal_neg q0]; rfl
  · obtain ⟨c, hc, rfl⟩ := nI_of q0
    rw [if_neg q0, pVal_nI hc]
    simp only [na_1000, na_100, na_10, na_div hc (show 1000 < 2 ^ 31 by omega), na_div hc (show 100 < 2 ^ 31 by omega), na_re (show c / 100 < 2 ^ 31 by omega) (show 10 < 2 ^ 31 by omega), na_re hc (show 100 < 2 ^ 31 by omega), h.1 3 (by omega), h.1 2 (by omega), nI_ltI (show c / 1000 < 2 ^ 31 by omega) (show pN π 3 < 2 ^ 31 by omega), nI_ltI (show c / 100 % 10 < 2 ^ 31 by omega) (show pN π 2 < 2 ^ 31 by omega)]
    by_cases q1 : c / 1000 < pN π 3
    · rw [if_pos q1, decide_eq_true q1]
      by_cases q2 : c / 100 % 10 < pN π 2
      · rw [if_pos q2, decide_eq_true q2, pc_isType h hw0 (by omega), mb_l, mb_v, mr_115_48]
        by_cases q3 : c % 100 < pN π 0
        · rw [decide_eq_true q3, if_neg (by decide), if_neg (no_out (by omega) (by omega))]
          simp only [nI_clamp (show c / 1000 < 2 ^ 31 by omega), h.2.1 _ q1, mB_if]
          by_cases q4 : mB (pU π (c / 1000)) (c / 100 % 10) = true
          · rw [if_pos q4, q4, if_neg (no_out (by omega) (by omega))]
            simp only [nI_clamp (show c / 100 % 10 < 2 ^ 31 by omega), h.2.2.1 _ q2, na_100, na_re hc (show 100 < 2 ^ 31 by omega), mB_if]
            by_cases q5 : mB (pR π (c / 100 % 10)) (c % 100) = true
            · rw [if_pos q5, q5]; rfl
            · rw [if_neg q5, Bool.eq_false_iff.mpr q5]; rfl
          · rw [if_neg q4, Bool.eq_false_iff.mpr q4]; rfl
        · rw [decide_eq_false q3, if_pos (by decide)]; rfl
      · rw [if_neg q2, decide_eq_false q2]; rfl
    · rw [if_neg q1, decide_eq_false q1]; rfl
theorem pr_isValid (h : PR0 i π) (hw : PW π) (x : Int32) : mm_V 244 0 [some (.ref 83), some (.int x)] [] (mm_Z m w i l e) = some (.inl (some (.int (bI (pVal π x)))), mm_Z m w i l e) := by
  obtain ⟨h0, h1, h2, h3, -⟩ := hw
  rw [mr_244_0]
  by_cases q0 : x < 0
  · rw [if_pos q0, pVal_neg q0]; rfl
  · obtain ⟨c, hc, rfl⟩ := nI_of q0
    have e3 := na_re hc (show 100 < 2 ^ 31 by omega)
    have e2 := na_re (show c / 100 < 2 ^ 31 by omega) (show 10 < 2 ^ 31 by omega)
    rw [if_neg q0, pVal_nI hc, mr_241_0, mb_l, mb_v, mr_244_8, mr_242_0, na_1000, na_100, na_10, na_div hc (by omega), na_div hc (by omega), e2, h.1.2.2.2.1]
    simp only [nI_ltI (show c / 1000 < 2 ^ 31 by omega) (show pN π 3 < 2 ^ 31 by omega)]
    by_cases q1 : c / 1000 < pN π 3
    · rw [if_pos q1, decide_eq_true q1, mb_l, mb_v, mr_244_19, mr_243_0, na_100, e3, h.1.2.2.1]
      simp only [nI_ltI (show c / 100 % 10 < 2 ^ 31 by omega) (show pN π 2 < 2 ^ 31 by omega)]
      by_cases q2 : c / 100 % 10 < pN π 2
      · rw [if_pos q2, decide_eq_true q2, mb_l, mb_v, mr_244_30, h.1.1]
        simp only [nI_ltI (show c % 100 < 2 ^ 31 by omega) (show pN π 0 < 2 ^ 31 by omega)]
        by_cases q3 : c % 100 < pN π 0
        · rw [decide_eq_true q3, if_pos q3, mr_241_0, mb_l, mb_v, mr_244_47, na_1000, na_div hc (by omega), if_neg (no_out (by omega) (by omega)), mr_242_0, na_100, na_10, na_div hc (by omega), e2, mb_l, mb_v, mr_244_52, nI_clamp (by omega), h.2.1 _ q1, mB_if]
          by_cases q4 : mB (pU π (c / 1000)) (c / 100 % 10) = true
          · rw [if_pos q4, q4, mr_242_0, na_100, na_10, na_div hc (by omega), e2, mb_l, mb_v, mr_244_67, if_neg (no_out (by omega) (by omega)), mr_243_0, na_100, e3, mb_l, mb_v, mr_244_72, nI_clamp (by omega), h.2.2.1 _ q2, mB_if]
            by_cases q5 : mB (pR π (c / 100 % 10)) (c % 100) = true
            · rw [if_pos q5, q5]; rfl
            · rw [if_neg q5, Bool.eq_false_iff.mpr q5]; rfl
          · rw [if_neg q4, Bool.eq_false_iff.mpr q4]; rfl
        · rw [decide_eq_false q3, if_neg q3]; rfl
      · rw [if_neg q2, decide_eq_false q2]; rfl
    · rw [if_neg q1, decide_eq_false q1]; rfl
end MM71
