/-! CONTRADICTIONS: never and allow, moves -/
section MM151
variable {X : mX} {t : m3} {w p : Bool} {i i' i0 i1 : Nat → Nat → Int32} {l l' l0 l1 : Nat → Nat → Int64} {δ δ' : mQ} {π : mP} {m : Nat} {e : Bool × Nat × Nat} {n k s a b c r d : Nat} {x y v : Int32}
/-- the types that both rules name -/
def bSr (π : mP) (a n : Nat) : Int32 := (pL π a).2.1 &&& (pL π n).2.1
def bTg (π : mP) (a n : Nat) : Int32 := if (pL π a).2.2.1 = -1 ∨ (pL π n).2.2.1 = -1 then ((pL π a).2.2.1 &&& (pL π n).2.2.1) &&& bSr π a n else (pL π a).2.2.1 &&& (pL π n).2.2.1
def bBr (π : mP) (a n : Nat) : Bool := decide ((pL π a).1 = 0 ∧ (pL π a).2.2.2.1 = (pL π n).2.2.2.1 ∧ bSr π a n ≠ 0 ∧ bTg π a n ≠ 0 ∧ (pL π a).2.2.2.2 &&& (pL π n).2.2.2.2 ≠ 0)
def pNv (π : mP) : Nat := tFst (fun n => decide ((pL π n).1 = 1) && tAny (fun a => bBr π a n) (pN π 4) 0) (pN π 4) 0
def pCt (π : mP) (b a : Nat) : Bool := decide ((pM π b).1 = (pM π a).1 ∧ (pM π b).2.1 = (pM π a).2.1 ∧ (pM π b).2.2.1 = (pM π a).2.2.1 ∧ (pM π b).2.2.2 ≠ (pM π a).2.2.2)
def pCv (π : mP) : Nat := tFst (fun b => tAny (fun a => pCt π b a) b 0) (pN π 5) 0
/-- bounds that counts and kinds have -/
def QW (π : mP) : Prop := pN π 4 ≤ 60 ∧ pN π 5 ≤ 12 ∧ (∀ k, k < pN π 4 → (pL π k).1 ≤ 3 ∧ (pL π k).2.2.2.1 ≤ 4) ∧ (∀ k, k < pN π 5 → (pM π k).1 < 24 ∧ (pM π k).2.1 < 24 ∧ (pM π k).2.2.1 ≤ 4 ∧ (pM π k).2.2.2 < 24)
theorem c_brk (h : PC0 p i π) (hw : QW π) (ha : a < pN π 4) (hn : n < pN π 4) : mm_V 112 0 [some (.ref (mm_P p)), some (.int (nI a)), some (.int (nI n)), none, none] [] (mm_Z m w i l e) = some (.inl (some (.int (bI (bBr π a n)))), mm_Z m w i l e) := by
  have h60 := hw.1
  obtain ⟨a1, a2, a3, a4, a5⟩ := h.2.2.2.1 a ha
  obtain ⟨n1, n2, n3, n4, n5⟩ := h.2.2.2.1 n hn
  have ka := hw.2.2.1 a ha
  have kn := hw.2.2.1 n hn
  have oa : ¬ mm_out (nI a) 60 := no_out (by omega) (by omega)
  have on : ¬ mm_out (nI n) 60 := no_out (by omega) (by omega)
  have t81 : ∀ x4, mm_V 112 81 [some (.ref (mm_P p)), some (.int (nI a)), some (.int (nI n)), some (.int (bSr π a n)), some (.int x4)] [] (mm_Z m w i l e) = some (.inl (some (.int (bI (decide (bSr π a n ≠ 0 ∧ x4 ≠ 0 ∧ (pL π a).2.2.2.2 &&& (pL π n).2.2.2.2 ≠ 0))))), mm_Z m w i l e) := by
    intro x4
    rw [mr_112_81]
    by_cases z1 : bSr π a n = 0
    · rw [if_pos z1, decide_eq_false (fun y => y.1 z1)]; rfl
    · rw [if_neg z1]
      by_cases z2 : x4 = 0
      · rw [if_pos z2, decide_eq_false (fun y => y.2.1 z2)]; rfl
      · rw [if_neg z2, if_neg oa, if_neg on]
        simp only [nI_clamp (show a < 2 ^ 31 by omega), nI_clamp (show n < 2 ^ 31 by omega), a5, n5]
        by_cases z3 : (pL π a).2.2.2.2 &&& (pL π n).2.2.2.2 = 0
        · rw [if_pos z3, decide_eq_false (fun y => y.2.2 z3)]; rfl
        · rw [if_neg z3, decide_eq_true ⟨z1, z2, z3⟩]; rfl
  rw [mr_112_0, if_neg oa]
  simp only [nI_clamp (show a < 2 ^ 31 by omega), nI_clamp (show n < 2 ^ 31 by omega), a1, a2, a3, a4, n2, n3, n4]
  by_cases z0 : (pL π a).1 = 0
  · rw [if_pos (by rw [z0]; rfl), if_neg oa, if_neg on]
    by_cases z1 : (pL π a).2.2.2.1 = (pL π n).2.2.2.1
    · rw [if_pos (by rw [z1]), if_neg oa, if_neg on, if_neg oa, if_neg on, if_neg oa]
      have fin : ∀ x4, x4 = bTg π a n → decide (bSr π a n ≠ 0 ∧ x4 ≠ 0 ∧ (pL π a).2.2.2.2 &&& (pL π n).2.2.2.2 ≠ 0) = bBr π a n := by
        intro x4 h4
        unfold bBr
        rw [h4]
        by_cases y : bSr π a n ≠ 0 ∧ bTg π a n ≠ 0 ∧ (pL π a).2.2.2.2 &&& (pL π n).2.2.2.2 ≠ 0
        · rw [decide_eq_true y, decide_eq_true ⟨z0, z1, y⟩]
        · rw [decide_eq_false y, decide_eq_false (fun u => y u.2.2)]
      by_cases z2 : (pL π a).2.2.1 = -1
      · rw [if_pos z2, show (pL π a).2.1 &&& (pL π n).2.1 = bSr π a n from rfl, t81, fin _ (by unfold bTg; rw [if_pos (Or.inl z2)])]
      · rw [if_neg z2, if_neg on]
        by_cases z3 : (pL π n).2.2.1 = -1
        · rw [if_pos z3, show (pL π a).2.1 &&& (pL π n).2.1 = bSr π a n from rfl, t81, fin _ (by unfold bTg; rw [if_pos (Or.inr z3)])]
        · rw [if_neg z3, show (pL π a).2.1 &&& (pL π n).2.1 = bSr π a n from rfl, t81, fin _ (by unfold bTg; rw [if_neg (fun u => u.elim z2 z3)])]
    · rw [if_neg (fun z => z1 ((nI_eq (by omega) (by omega)).mp z))]
      unfold bBr
      rw [decide_eq_false (fun u => z1 u.2.1)]; rfl
  · rw [if_neg (fun z => z0 ((nz_eq (by omega)).mp z))]
    unfold bBr
    rw [decide_eq_false (fun u => z0 u.1)]; rfl
theorem c_ctr (h : PC0 p i π) (hw : QW π) (ha : a < pN π 5) (hb : b < pN π 5) : mm_V 113 0 [some (.ref (mm_P p)), some (.int (nI b)), some (.int (nI a))] [] (mm_Z m w i l e) = some (.inl (some (.int (bI (pCt π b a)))), mm_Z m w i l e) := by
  have h12 := hw.2.1
  obtain ⟨a1, a2, a3, a4⟩ := h.2.2.2.2 a ha
  obtain ⟨b1, b2, b3, b4⟩ := h.2.2.2.2 b hb
  have ka := hw.2.2.2 a ha
  have kb := hw.2.2.2 b hb
  have oa : ¬ mm_out (nI a) 12 := no_out (by omega) (by omega)
  have ob : ¬ mm_out (nI b) 12 := no_out (by omega) (by omega)
  rw [mr_113_0, if_neg ob, if_neg oa]
  simp only [nI_clamp (show a < 2 ^ 31 by omega), nI_clamp (show b < 2 ^ 31 by omega), a1, a2, a3, a4, b1, b2, b3, b4]
  unfold pCt
  by_cases z1 : (pM π b).1 = (pM π a).1
  · rw [if_pos (by rw [z1]), if_neg ob, if_neg oa]
    by_cases z2 : (pM π b).2.1 = (pM π a).2.1
    · rw [if_pos (by rw [z2]), if_neg ob, if_neg oa]
      by_cases z3 : (pM π b).2.2.1 = (pM π a).2.2.1
      · rw [if_pos (by rw [z3]), if_neg ob, if_neg oa]
        by_cases z4 : (pM π b).2.2.2 = (pM π a).2.2.2
        · rw [if_pos (by rw [z4]), decide_eq_false (fun u => u.2.2.2 z4)]; rfl
        · rw [if_neg (fun z => z4 ((nI_eq (by omega) (by omega)).mp z)), decide_eq_true ⟨z1, z2, z3, z4⟩]; rfl
      · rw [if_neg (fun z => z3 ((nI_eq (by omega) (by omega)).mp z)), decide_eq_false (fun u => z3 u.2.2.1)]; rfl
    · rw [if_neg (fun z => z2 ((nI_eq (by omega) (by omega)).mp z)), decide_eq_false (fun u => z2 u.2.1)]; rfl
  · rw [if_neg (fun z => z1 ((nI_eq (by omega) (by omega)).mp z)), decide_eq_false (fun u => z1 u.1)]; rfl
theorem tAny_s {f : Nat → Bool} {D k : Nat} : tAny f (D + 1) k = (f k || tAny f D (k + 1)) := rfl
theorem c_nv_in (h : PC0 (!w) i π) (hw : QW π) (hn : n < pN π 4) (h1 : (pL π n).1 = 1) (h25 : i 25 n = x) : ∀ (D k : Nat), k + D = pN π 4 → mm_V 3 19 [some (.ref 3), some (.int (nI (pN π 4))), some (.int (nI n)), some (.int (nI k))] [] (mm_Z m w i l e) = if tAny (fun a => bBr π a n) D k = true then some (.inl (some (.int x)), mm_Z m w i l e) else mm_V 3 12 [some (.ref 3), some (.int (nI (pN π 4))), some (.int (nI (n + 1))), some (.int (nI (pN π 4)))] [] (mm_Z m w i l e)
  | 0, k, hk => by
    have h60 := hw.1
    rw [mr_3_19, if_neg (fun z => by have := (nI_ltI (by omega) (by omega)).mp z; omega), nI_1, if_neg (show ¬ tAny (fun a => bBr π a n) 0 k = true from Bool.false_ne_true), show k = pN π 4 by omega]
  | D + 1, k, hk => by
    have h60 := hw.1
    have on : ¬ mm_out (nI n) 60 := no_out (by omega) (by omega)
    have e5 : i (mm_P (!w) + 5) (nI n).toNatClampNeg = 1 := by rw [nI_clamp (by omega), (h.2.2.2.1 n hn).1, h1]; rfl
    rw [mr_3_19, if_pos ((nI_ltI (by omega) (by omega)).mpr (by omega)), if_neg on, if_pos e5, c_brk h hw (by omega) hn, mb_l, mb_v, mr_3_46, tAny_s]
    cases hb : bBr π k n with
    | true => rw [if_bt, if_neg on, nI_clamp (by omega), h25, Bool.true_or, if_pos rfl]
    | false => rw [if_bf, nI_1, Bool.false_or, c_nv_in h hw hn h1 h25 D (k + 1) (by omega)]
theorem c_nv (h : PC0 (!w) i π) (hw : QW π) : ∀ (D k : Nat) (u3 : Option Value), k + D = pN π 4 → ∃ u, mm_V 3 12 [some (.ref 3), some (.int (nI (pN π 4))), some (.int (nI k)), u3] [] (mm_Z m w i l e) = if tFst (fun n => decide ((pL π n).1 = 1) && tAny (fun a => bBr π a n) (pN π 4) 0) D k < pN π 4 then some (.inl (some (.int (i 25 (tFst (fun n => decide ((pL π n).1 = 1) && tAny (fun a => bBr π a n) (pN π 4) 0) D k)))), mm_Z m w i l e) else mm_V 3 70 [some (.ref 3), some (.int (nI (pN π 4))), some (.int 0), u] [] (mm_Z m w i l e)
  | 0, k, u3, hk => by
    have h60 := hw.1
    have e0 : tFst (fun n => decide ((pL π n).1 = 1) && tAny (fun a => bBr π a n) (pN π 4) 0) 0 k = k := rfl
    refine ⟨u3, ?_⟩
    rw [mr_3_12, if_neg (fun z => by have := (nI_ltI (by omega) (by omega)).mp z; omega), e0, if_neg (by omega)]
  | D + 1, k, u3, hk => by
    have h60 := hw.1
    have ok : ¬ mm_out (nI k) 60 := no_out (by omega) (by omega)
    rw [mr_3_12, if_pos ((nI_ltI (by omega) (by omega)).mpr (by omega)), tFst]
    by_cases z1 : (pL π k).1 = 1
    · have e0 := c_nv_in (m := m) (l := l) (e := e) h hw (n := k) (by omega) z1 rfl (pN π 4) 0 (by omega)
      have e0 : mm_V 3 19 [some (.ref 3), some (.int (nI (pN π 4))), some (.int (nI k)), some (.int 0)] [] (mm_Z m w i l e) = _ := e0
      rw [e0]
      by_cases z2 : tAny (fun a => bBr π a k) (pN π 4) 0 = true
      · refine ⟨none, ?_⟩
        rw [if_pos z2, if_pos (show (decide ((pL π k).1 = 1) && tAny (fun a => bBr π a k) (pN π 4) 0) = true by rw [decide_eq_true z1, z2]; rfl), if_pos (by omega)]
      · obtain ⟨u, hu⟩ := c_nv h hw D (k + 1) (some (.int (nI (pN π 4)))) (by omega)
        refine ⟨u, ?_⟩
        rw [if_neg z2, if_neg (show ¬ (decide ((pL π k).1 = 1) && tAny (fun a => bBr π a k) (pN π 4) 0) = true by rw [Bool.and_eq_true]; exact fun y => z2 y.2), hu]
    · have e5 : ¬ i (mm_P (!w) + 5) (nI k).toNatClampNeg = 1 := by
        rw [nI_clamp (by omega), (h.2.2.2.1 k (by omega)).1]
        intro y
        have := hw.2.2.1 k (by omega)
        exact z1 ((nI_eq (by omega) (by decide : 1 < 2 ^ 31)).mp y)
      obtain ⟨u, hu⟩ := c_nv h hw D (k + 1) (some (.int 0)) (by omega)
      refine ⟨u, ?_⟩
      rw [mr_3_19, if_pos (by rw [na_0]; exact (nI_ltI (by omega) (by omega)).mpr (by omega)), if_neg ok, if_neg e5, nI_1, hu, if_neg (show ¬ (decide ((pL π k).1 = 1) && tAny (fun a => bBr π a k) (pN π 4) 0) = true by rw [decide_eq_false z1]; exact Bool.false_ne_true)]
theorem c_cv_in (h : PC0 (!w) i π) (hw : QW π) (hb : b < pN π 5) {x1 : Int32} : ∀ (D k : Nat), k + D = b → mm_V 3 85 [some (.ref 3), some (.int x1), some (.int (nI b)), some (.int (nI k))] [] (mm_Z m w i l e) = if tAny (fun a => pCt π b a) D k = true then some (.inl (some (.int (i 26 b))), mm_Z m w i l e) else mm_V 3 70 [some (.ref 3), some (.int x1), some (.int (nI (b + 1))), some (.int (nI b))] [] (mm_Z m w i l e)
  | 0, k, hk => by
    have h12 := hw.2.1
    rw [mr_3_85, if_neg (fun z => by have := (nI_ltI (by omega) (by omega)).mp z; omega), nI_1, if_neg (show ¬ tAny (fun a => pCt π b a) 0 k = true from Bool.false_ne_true), show k = b by omega]
  | D + 1, k, hk => by
    have h12 := hw.2.1
    have ob : ¬ mm_out (nI b) 12 := no_out (by omega) (by omega)
    rw [mr_3_85, if_pos ((nI_ltI (by omega) (by omega)).mpr (by omega)), c_ctr h hw (by omega) hb, mb_l, mb_v, mr_3_99, tAny_s]
    cases hc : pCt π b k with
    | true => rw [if_bt, if_neg ob, nI_clamp (by omega), Bool.true_or, if_pos rfl]
    | false => rw [if_bf, nI_1, Bool.false_or, c_cv_in h hw hb D (k + 1) (by omega)]
theorem c_cv (h : PC0 (!w) i π) (hw : QW π) {x1 : Int32} : ∀ (D k : Nat) (u3 : Option Value), k + D = pN π 5 → mm_V 3 70 [some (.ref 3), some (.int x1), some (.int (nI k)), u3] [] (mm_Z m w i l e) = if tFst (fun b => tAny (fun a => pCt π b a) b 0) D k < pN π 5 then some (.inl (some (.int (i 26 (tFst (fun b => tAny (fun a => pCt π b a) b 0) D k)))), mm_Z m w i l e) else some (.inl (some (.int (-1))), mm_Z m w i l e)
  | 0, k, u3, hk => by
    have h12 := hw.2.1
    have e0 : tFst (fun b => tAny (fun a => pCt π b a) b 0) 0 k = k := rfl
    rw [mr_3_70, h.1 5 (by omega), if_neg (fun z => by have := (nI_ltI (by omega) (by omega)).mp z; omega), e0, if_neg (by omega)]
  | D + 1, k, u3, hk => by
    have h12 := hw.2.1
    have e0 := c_cv_in (m := m) (l := l) (e := e) h hw (b := k) (by omega) (x1 := x1) k 0 (by omega)
    have e0 : mm_V 3 85 [some (.ref 3), some (.int x1), some (.int (nI k)), some (.int 0)] [] (mm_Z m w i l e) = _ := e0
    rw [mr_3_70, h.1 5 (by omega), if_pos ((nI_ltI (by omega) (by omega)).mpr (by omega)), e0, tFst]
    by_cases z : tAny (fun a => pCt π k a) k 0 = true
    · rw [if_pos z, if_pos z, if_pos (by omega)]
    · rw [if_neg z, if_neg z, c_cv h hw D (k + 1) _ (by omega)]
/-- where two statements contradict -/
def dCt (δ : mQ) (π : mP) : mE mP := if pNv π < pN π 4 then .inl (dR δ (pNv π)) else if pCv π < pN π 5 then .inl (dM δ (pCv π)) else .inr π
theorem c_ctd (h : PC0 (!w) i π) (hw : QW π) (hq : QC i δ) (h4 : pN (dP δ) 4 = pN π 4) (h5 : pN (dP δ) 5 = pN π 5) : mm_V 3 0 [some (.ref 3), none, none, none] [] (mm_Z m w i l e) = some (.inl (some (.int (match dCt δ π with
    | .inl p => nI p
    | .inr _ => -1))), mm_Z m w i l e) := by
  obtain ⟨u, hu⟩ := c_nv (m := m) (l := l) (e := e) h hw (pN π 4) 0 none (by omega)
  have hu : mm_V 3 12 [some (.ref 3), some (.int (nI (pN π 4))), some (.int 0), none] [] (mm_Z m w i l e) = if pNv π < pN π 4 then some (.inl (some (.int (i 25 (pNv π)))), mm_Z m w i l e) else mm_V 3 70 [some (.ref 3), some (.int (nI (pN π 4))), some (.int 0), u] [] (mm_Z m w i l e) := hu
  have hv := c_cv (m := m) (l := l) (e := e) h hw (x1 := nI (pN π 4)) (pN π 5) 0 u (by omega)
  have hv : mm_V 3 70 [some (.ref 3), some (.int (nI (pN π 4))), some (.int 0), u] [] (mm_Z m w i l e) = if pCv π < pN π 5 then some (.inl (some (.int (i 26 (pCv π)))), mm_Z m w i l e) else some (.inl (some (.int (-1))), mm_Z m w i l e) := hv
  rw [mr_3_0, h.1 4 (by omega), hu, hv]
  unfold dCt
  by_cases z1 : pNv π < pN π 4
  · rw [if_pos z1, if_pos z1, hq.1 _ (by omega)]
  · rw [if_neg z1, if_neg z1]
    by_cases z2 : pCv π < pN π 5
    · rw [if_pos z2, if_pos z2, hq.2 _ (by omega)]
    · rw [if_neg z2, if_neg z2]
end MM151
