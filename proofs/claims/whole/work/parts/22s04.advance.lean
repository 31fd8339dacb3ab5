/-! THE NEXT TOKEN, in the class and in the reference -/
section MM133
/-- what the class, what the reference keeps of a token -/
def KC (X : mX) (i : Nat → Nat → Int32) (l : Nat → Nat → Int64) (t : m3) : Prop := i 28 1 = nI t.1 ∧ (t.2.2 ≠ 1 → i 28 2 = nI t.2.1) ∧ i 28 3 = nI t.2.2 ∧ l 28 4 = lN (pk 0 (tLt X t))
def KR (i : Nat → Nat → Int32) (t : m3) : Prop := i 83 43 = nI t.1 ∧ (t.2.2 ≠ 1 → i 83 44 = nI t.2.1) ∧ i 83 42 = nI (rk t.2.2) ∧ i 83 45 = nI (rwd t.2.2)
/-- the reference's tables -/
def WDS (l : Nat → Nat → Int64) : Prop := ∀ k, k < 60 → l 85 k = lN (rWd k)
variable {w : Bool} {l l' : Nat → Nat → Int64} {e : Bool × Nat × Nat} {m : Nat} {X : mX} {i i' : Nat → Nat → Int32} {a b c n p q : Nat} {u4 : Option Value} {x1 x2 : Int32}
theorem ml_s {k j : Nat} {x : Int64} : mm_wl l k j x k j = x := by simp [mm_wl, va_up, vp_updL]
theorem ml_n {k j k' j' : Nat} {x : Int64} (h : ¬ (k' = k ∧ j' = j)) : mm_wl l k j x k' j' = l k' j' := by
  by_cases q : k' = k
  · subst q
    have : j' ≠ j := fun z => h ⟨rfl, z⟩
    simp [mm_wl, va_up, vp_updL, this]
  · simp [mm_wl, va_up, q]
/-- a frame of longs -/
def lG (P : Nat → Nat → Prop) (l l' : Nat → Nat → Int64) : Prop := ∀ k j, ¬ P k j → l' k j = l k j
theorem lG.rf {P : Nat → Nat → Prop} : lG P l l := fun _ _ _ => rfl
theorem lG.tr {P : Nat → Nat → Prop} {l1 l2 l3 : Nat → Nat → Int64} (h1 : lG P l1 l2) (h2 : lG P l2 l3) : lG P l1 l3 := fun a b h => (h2 a b h).trans (h1 a b h)
theorem lG.mo {P Q : Nat → Nat → Prop} (h : lG P l l') (hm : ∀ a b, P a b → Q a b) : lG Q l l' := fun a b hq => h a b (fun q => hq (hm a b q))
theorem lG.wl {P : Nat → Nat → Prop} {k j : Nat} {x : Int64} (h : P k j) : lG P l (mm_wl l k j x) := fun a b q => ml_n (fun z => q (by rw [z.1, z.2]; exact h))
theorem XC.kp (h : XC X i) (h1 : i' 1 1 = i 1 1) (h2 : ∀ j, i' 2 j = i 2 j) : XC X i' := ⟨by rw [h1]; exact h.1, fun k hk => by rw [h2]; exact h.2 k hk⟩
theorem XR.kp (h : XR X i) (h1 : i' 83 9 = i 83 9) (h2 : ∀ j, i' 88 j = i 88 j) : XR X i' := ⟨by rw [h1]; exact h.1, fun k hk => by rw [h2]; exact h.2 k hk⟩
/-- letters, digits -/
theorem in_n {a c b : Nat} (ha : a < 2 ^ 31) (hb : b < 2 ^ 31) (hc : c < 2 ^ 31) {xa xb : Int32} (h1 : xa = nI a) (h2 : xb = nI b) : mm_V 195 0 [some (.int (nI c)), some (.int xa), some (.int xb)] [] (mm_Z m w i l e) = some (.inl (some (.int (bI (decide (a ≤ c ∧ c ≤ b))))), mm_Z m w i l e) := by
  subst h1 h2
  rw [mr_195_0]
  by_cases q1 : a ≤ c
  · rw [if_neg (fun z => by have := (nI_ltI hc ha).mp z; omega)]
    by_cases q2 : c ≤ b
    · rw [if_neg (fun z => by have := (nI_ltI hb hc).mp z; omega), decide_eq_true ⟨q1, q2⟩]; rfl
    · rw [if_pos ((nI_ltI hb hc).mpr (by omega)), decide_eq_false (fun z => q2 z.2)]; rfl
  · rw [if_pos ((nI_ltI hc ha).mpr (by omega)), decide_eq_false (fun z => q1 z.1)]; rfl
theorem xc_isL (hc : c < 2 ^ 31) : mm_V 123 0 [some (.int (nI c))] [] (mm_Z m w i l e) = some (.inl (some (.int (bI (isL c)))), mm_Z m w i l e) := by
  have a1 : (nI c < 97) ↔ c < 97 := nI_ltI hc (by decide : 97 < 2 ^ 31)
  have a2 : ((122 : Int32) < nI c) ↔ 122 < c := nI_ltI (by decide : 122 < 2 ^ 31) hc
  rw [mr_123_0]
  unfold isL
  by_cases q1 : 97 ≤ c
  · rw [if_neg (fun z => by have := a1.mp z; omega)]
    by_cases q2 : c ≤ 122
    · rw [if_neg (fun z => by have := a2.mp z; omega), decide_eq_true ⟨q1, q2⟩]; rfl
    · rw [if_pos (a2.mpr (by omega)), decide_eq_false (fun z => q2 z.2)]; rfl
  · rw [if_pos (a1.mpr (by omega)), decide_eq_false (fun z => q1 z.1)]; rfl
theorem xc_isN (hc : c < 2 ^ 31) : mm_V 134 0 [some (.int (nI c))] [] (mm_Z m w i l e) = some (.inl (some (.int (bI (isN c)))), mm_Z m w i l e) := by
  have a1 : (nI c < 97) ↔ c < 97 := nI_ltI hc (by decide : 97 < 2 ^ 31)
  have a2 : ((122 : Int32) < nI c) ↔ 122 < c := nI_ltI (by decide : 122 < 2 ^ 31) hc
  have a3 : (nI c < 48) ↔ c < 48 := nI_ltI hc (by decide : 48 < 2 ^ 31)
  have a4 : ((57 : Int32) < nI c) ↔ 57 < c := nI_ltI (by decide : 57 < 2 ^ 31) hc
  have a5 : (nI c = 95) ↔ c = 95 := nI_eq hc (by decide : 95 < 2 ^ 31)
  have t : ¬ (97 ≤ c ∧ c ≤ 122) → mm_V 134 12 [some (.int (nI c))] [] (mm_Z m w i l e) = some (.inl (some (.int (bI (isN c)))), mm_Z m w i l e) := by
    intro hn
    rw [mr_134_12]
    unfold isN
    by_cases q5 : c = 95
    · rw [if_pos (a5.mpr q5), decide_eq_true (Or.inr (Or.inr q5))]
      split
      · rfl
      · split <;> rfl
    · rw [if_neg (fun z => q5 (a5.mp z))]
      by_cases q3 : 48 ≤ c
      · rw [if_neg (fun z => by have := a3.mp z; omega)]
        by_cases q4 : c ≤ 57
        · rw [if_neg (fun z => by have := a4.mp z; omega), decide_eq_true (Or.inr (Or.inl ⟨q3, q4⟩))]; rfl
        · rw [if_pos (a4.mpr (by omega)), decide_eq_false (fun z => by omega)]; rfl
      · rw [if_pos (a3.mpr (by omega)), decide_eq_false (fun z => by omega)]; rfl
  rw [mr_134_0]
  by_cases q1 : 97 ≤ c
  · rw [if_neg (fun z => by have := a1.mp z; omega)]
    by_cases q2 : c ≤ 122
    · rw [if_neg (fun z => by have := a2.mp z; omega)]
      unfold isN
      rw [decide_eq_true (Or.inl ⟨q1, q2⟩)]; rfl
    · rw [if_pos (a2.mpr (by omega)), t (fun z => q2 z.2)]
  · rw [if_pos (a1.mpr (by omega)), t (fun z => q1 z.1)]
theorem xr_isL (hc : c < 2 ^ 31) : mm_V 199 0 [some (.int (nI c))] [] (mm_Z m w i l e) = some (.inl (some (.int (bI (isL c)))), mm_Z m w i l e) := by
  rw [mr_199_0, in_n (a := 97) (b := 122) (xa := 97) (xb := 122) (by decide) (by decide) hc rfl rfl, mb_l, mb_v, mr_199_8, if_pos (bI_01 _)]
  rfl
theorem xr_isN (hc : c < 2 ^ 31) : mm_V 200 0 [some (.int (nI c))] [] (mm_Z m w i l e) = some (.inl (some (.int (bI (isN c)))), mm_Z m w i l e) := by
  have a5 : (nI c = 95) ↔ c = 95 := nI_eq hc (by decide : 95 < 2 ^ 31)
  rw [mr_200_0, xr_isL hc, mb_l, mb_v, mr_200_4]
  by_cases q : 97 ≤ c ∧ c ≤ 122
  · have h1 : isL c = true := decide_eq_true q
    have h2 : isN c = true := decide_eq_true (Or.inl q)
    rw [h1, h2, if_bt]; rfl
  · have h1 : isL c = false := decide_eq_false q
    rw [h1, if_bf, in_n (a := 48) (b := 57) (xa := 48) (xb := 57) (by decide) (by decide) hc rfl rfl, mb_l, mb_v, mr_200_15]
    by_cases q2 : 48 ≤ c ∧ c ≤ 57
    · have h2 : isN c = true := decide_eq_true (Or.inr (Or.inl q2))
      rw [decide_eq_true q2, h2, if_bt]; rfl
    · rw [decide_eq_false q2, if_bf]
      by_cases q5 : c = 95
      · have h2 : isN c = true := decide_eq_true (Or.inr (Or.inr q5))
        rw [if_pos (a5.mpr q5), h2]; rfl
      · have h2 : isN c = false := decide_eq_false (fun z => z.elim q (fun y => y.elim q2 q5))
        rw [if_neg (fun z => q5 (a5.mp z)), h2]; rfl
/-- the class reads a name -/
theorem xc_name_loop (hw : XW X) : ∀ (d p : Nat) (i : Nat → Nat → Int32), XC X i → i 28 2 = nI p → p + d = xz X → ∃ i', mm_V 133 8 [some (.ref 28)] [] (mm_Z m w i l e) = mm_V 133 52 [some (.ref 28)] [] (mm_Z m w i' l e) ∧ i' 28 2 = nI (tFst (fun q => !isN (xs X q)) d p) ∧ (∀ k j, ¬ (k = 28 ∧ j = 2) → i' k j = i k j)
  | 0, p, i, h, h2, hp => by
    have hz := hw.le
    refine ⟨i, ?_, h2, fun _ _ _ => rfl⟩
    rw [mr_133_8, h2, h.1, if_neg (fun z => by have := (nI_ltI (by omega) (by omega)).mp z; omega)]
  | d + 1, p, i, h, h2, hp => by
    have hz := hw.le
    have hb := (hw.2 p (by omega)).2
    rw [mr_133_8, h2, h.1, if_pos ((nI_ltI (by omega) (by omega)).mpr (by omega)), xc_at h hw (by omega), if_pos (show p < xz X by omega), mb_l, mb_v, mr_133_33, xc_isN (by omega), mb_l, mb_v, mr_133_36, tFst]
    cases q : isN (xs X p) with
    | false =>
      rw [if_bf, if_pos (show (!false) = true from rfl)]
      exact ⟨i, rfl, h2, fun _ _ _ => rfl⟩
    | true =>
      rw [if_bt, if_neg (show ¬ (!true) = true by decide), h2, nI_1]
      obtain ⟨i1, f1, f2, f3⟩ := xc_name_loop hw d (p + 1) (mm_ww i 28 2 (nI (p + 1))) (h.kp (by rw [mw_k (by omega)]) (fun j => by rw [mw_k (by omega)])) mw_s (by omega)
      refine ⟨i1, f1, f2, fun k j z => ?_⟩
      rw [f3 k j z]
      by_cases y : k = 28
      · subst y; rw [mw_j (fun v => z ⟨rfl, v⟩)]
      · rw [mw_k y]
theorem xc_name (h : XC X i) (hw : XW X) (h1 : i 28 1 = nI p) (hp : p ≤ xz X) : ∃ i', mm_V 133 0 [some (.ref 28)] [] (mm_Z m w i l e) = some (.inl none, mm_Z m w i' (mm_wl l 28 4 (lN (if nE X p - p ≤ 9 then pk 0 (sg X p (nE X p - p)) else 0))) e) ∧ i' 28 2 = nI (nE X p) ∧ (∀ k j, ¬ (k = 28 ∧ j = 2) → i' k j = i k j) := by
  have hz := hw.le
  obtain ⟨i1, f1, f2, f3⟩ := xc_name_loop (m := m) (w := w) (l := l) (e := e) hw (xz X - p) p (mm_ww i 28 2 (nI p)) (h.kp (by rw [mw_k (by omega)]) (fun j => by rw [mw_k (by omega)])) mw_s (by omega)
  have f2 : i1 28 2 = nI (nE X p) := f2
  have f4 : ∀ k j, ¬ (k = 28 ∧ j = 2) → i1 k j = i k j := fun k j z => by
    rw [f3 k j z]
    by_cases y : k = 28
    · subst y; rw [mw_j (fun v => z ⟨rfl, v⟩)]
    · rw [mw_k y]
  have g1 : i1 28 1 = nI p := by rw [f4 28 1 (by omega), h1]
  have e1 := nE_le X hp
  refine ⟨i1, ?_, f2, f4⟩
  rw [mr_133_0, h1, f1, mr_133_52, g1, f2, xc_packed (h.kp (f4 _ _ (by omega)) (fun j => f4 _ _ (by omega))) hw e1.1 e1.2, mb_l, mb_v, mr_133_68]
/-- the class reads a sign -/
theorem xc_sign (h : XC X i) (hw : XW X) (h1 : i 28 1 = nI p) (hp : p < xz X) : ∃ i', mm_V 135 0 [some (.ref 28), some (.int (nI (xs X p)))] [] (mm_Z m w i l e) = some (.inl none, mm_Z m w i' l e) ∧ i' 28 3 = nI (kS (xs X p) (xb X (p + 1))) ∧ (kS (xs X p) (xb X (p + 1)) ≠ 1 → i' 28 2 = nI (if kS (xs X p) (xb X (p + 1)) = 3 ∨ kS (xs X p) (xb X (p + 1)) = 4 then p + 2 else p + 1)) ∧ (∀ k j, ¬ (k = 28 ∧ (j = 2 ∨ j = 3)) → i' k j = i k j) := by
  have hz := hw.le
  have hb := (hw.2 p hp)
  have fr : ∀ (a b : Int32) k j, ¬ (k = 28 ∧ (j = 2 ∨ j = 3)) → mm_ww (mm_ww i 28 2 a) 28 3 b k j = i k j := fun a b k j z => by
    by_cases y : k = 28
    · subst y; rw [mw_j (fun v => z ⟨rfl, Or.inr v⟩), mw_j (fun v => z ⟨rfl, Or.inl v⟩)]
    · rw [mw_k y, mw_k y]
  have fr3 : ∀ (a b c : Int32) k j, ¬ (k = 28 ∧ (j = 2 ∨ j = 3)) → mm_ww (mm_ww (mm_ww i 28 2 a) 28 3 b) 28 2 c k j = i k j := fun a b c k j z => by
    by_cases y : k = 28
    · subst y; rw [mw_j (fun v => z ⟨rfl, Or.inl v⟩), mw_j (fun v => z ⟨rfl, Or.inr v⟩), mw_j (fun v => z ⟨rfl, Or.inl v⟩)]
    · rw [mw_k y, mw_k y, mw_k y]
  have ne : ∀ k : Nat, k < 200 → xs X p ≠ k → ¬ nI (xs X p) = nI k := fun k hk z y => z ((nI_eq (by omega) (by omega)).mp y)
  have t144 : mm_bi true (mm_V 126 0 [some (.ref 1), some (.int (nI p + 1))] [] (mm_Z m w (mm_ww i 28 2 (nI p + 1)) l e)) (fun v μ => mm_V 135 144 [some (.ref 28), some (.int (nI (xs X p)))] (v.toList ++ [.ref 28]) μ) = mm_V 135 144 [some (.ref 28), some (.int (nI (xs X p)))] [.int (if p + 1 < xz X then nI (xs X (p + 1)) else -1), .ref 28] (mm_Z m w (mm_ww i 28 2 (nI (p + 1))) l e) := by
    rw [nI_1, xc_at (h.kp (by rw [mw_k (by omega)]) (fun j => by rw [mw_k (by omega)])) hw (by omega), mb_l, mb_v]
  have e61 : ((if p + 1 < xz X then nI (xs X (p + 1)) else -1) = (61 : Int32)) ↔ xb X (p + 1) = 61 := by
    unfold xb
    by_cases q : p + 1 < xz X
    · rw [if_pos q, if_pos q]
      exact sg_eq (hw.2 _ q).2 (by omega) rfl
    · rw [if_neg q, if_neg q]
      exact ⟨fun z => absurd z (by decide), fun z => by omega⟩
  rw [mr_135_0, h1, t144]
  by_cases c33 : xs X p = 33
  · rw [c33]
    have k1 : kS 33 (xb X (p + 1)) = if xb X (p + 1) = 61 then 4 else 1 := by unfold kS; rw [if_pos rfl]
    rw [k1]
    simp only [mm_sw]
    rw [if_neg (show ¬ nI 33 = -1 by decide), if_pos (show nI 33 = 33 by decide), mr_135_144]
    by_cases q : xb X (p + 1) = 61
    · rw [if_pos (e61.mpr q), if_neg (show ¬ nI 33 = 61 by decide), mr_135_164, if_pos q]
      exact ⟨_, rfl, by rw [mw_j (by omega), mw_s]; rfl, fun _ => by rw [mw_s, mw_s, nI_1, if_pos (Or.inr rfl)], fr3 _ _ _⟩
    · rw [if_neg (fun z => q (e61.mp z)), mr_135_164, if_neg q]
      exact ⟨_, rfl, by rw [mw_j (by omega), mw_s]; rfl, fun z => absurd rfl z, fr3 _ _ _⟩
  · by_cases c61 : xs X p = 61
    · rw [c61]
      have k1 : kS 61 (xb X (p + 1)) = if xb X (p + 1) = 61 then 3 else 1 := by unfold kS; rw [if_neg (by decide), if_pos rfl]
      rw [k1]
      simp only [mm_sw]
      rw [if_neg (show ¬ nI 61 = -1 by decide), if_neg (show ¬ nI 61 = 33 by decide), if_neg (show ¬ nI 61 = 40 by decide), if_neg (show ¬ nI 61 = 41 by decide), if_neg (show ¬ nI 61 = 42 by decide), if_neg (show ¬ nI 61 = 44 by decide), if_neg (show ¬ nI 61 = 58 by decide), if_neg (show ¬ nI 61 = 59 by decide), if_pos (show nI 61 = 61 by decide), mr_135_144]
      by_cases q : xb X (p + 1) = 61
      · rw [if_pos (e61.mpr q), if_pos (show nI 61 = 61 by decide), mr_135_164, if_pos q]
        exact ⟨_, rfl, by rw [mw_j (by omega), mw_s]; rfl, fun _ => by rw [mw_s, mw_s, nI_1, if_pos (Or.inl rfl)], fr3 _ _ _⟩
      · rw [if_neg (fun z => q (e61.mp z)), mr_135_164, if_neg q]
        exact ⟨_, rfl, by rw [mw_j (by omega), mw_s]; rfl, fun z => absurd rfl z, fr3 _ _ _⟩
    · have k0 : kS (xs X p) (xb X (p + 1)) = if xs X p = 40 ∨ xs X p = 41 ∨ xs X p = 42 ∨ xs X p = 44 ∨ xs X p = 58 ∨ xs X p = 59 ∨ xs X p = 123 ∨ xs X p = 125 then xs X p else 1 := by unfold kS; rw [if_neg c33, if_neg c61]
      have fin : ∀ (V : Option mm_R) (kk : Nat), V = some (.inl none, mm_Z m w (mm_ww (mm_ww i 28 2 (nI p + 1)) 28 3 (nI kk)) l e) → kS (xs X p) (xb X (p + 1)) = kk → kk ≠ 3 → kk ≠ 4 → ∃ i', V = some (.inl none, mm_Z m w i' l e) ∧ i' 28 3 = nI (kS (xs X p) (xb X (p + 1))) ∧ (kS (xs X p) (xb X (p + 1)) ≠ 1 → i' 28 2 = nI (if kS (xs X p) (xb X (p + 1)) = 3 ∨ kS (xs X p) (xb X (p + 1)) = 4 then p + 2 else p + 1)) ∧ (∀ k j, ¬ (k = 28 ∧ (j = 2 ∨ j = 3)) → i' k j = i k j) := fun V kk hV hk h3 h4 => ⟨_, hV, by rw [mw_s, hk], fun _ => by rw [mw_j (by omega), mw_s, hk, if_neg (fun z => z.elim h3 h4), nI_1], fr _ _⟩
      by_cases q : xs X p = 40 ∨ xs X p = 41 ∨ xs X p = 42 ∨ xs X p = 44 ∨ xs X p = 58 ∨ xs X p = 59 ∨ xs X p = 123 ∨ xs X p = 125
      · rw [if_pos q] at k0
        refine fin _ (xs X p) ?_ k0 (by omega) (by omega)
        rcases q with q | q | q | q | q | q | q | q <;> rw [q] <;> rfl
      · rw [if_neg q] at k0
        refine fin _ 1 ?_ k0 (by omega) (by omega)
        simp only [mm_sw]
        rw [if_neg (na_m1 (show xs X p < 2 ^ 31 by omega)), if_neg (show ¬ nI (xs X p) = 33 from ne 33 (by omega) c33), if_neg (show ¬ nI (xs X p) = 40 from ne 40 (by omega) (by omega)), if_neg (show ¬ nI (xs X p) = 41 from ne 41 (by omega) (by omega)), if_neg (show ¬ nI (xs X p) = 42 from ne 42 (by omega) (by omega)), if_neg (show ¬ nI (xs X p) = 44 from ne 44 (by omega) (by omega)), if_neg (show ¬ nI (xs X p) = 58 from ne 58 (by omega) (by omega)), if_neg (show ¬ nI (xs X p) = 59 from ne 59 (by omega) (by omega)), if_neg (show ¬ nI (xs X p) = 61 from ne 61 (by omega) c61), if_neg (show ¬ nI (xs X p) = 123 from ne 123 (by omega) (by omega)), if_neg (show ¬ nI (xs X p) = 125 from ne 125 (by omega) (by omega))]
        rfl
/-- the class's next token -/
theorem xc_adv (h : XC X i) (hw : XW X) (h2 : i 28 2 = nI n) (hn : n ≤ xz X) : ∃ i' l', mm_V 132 0 [some (.ref 28), none] [] (mm_Z m w i l e) = some (.inl none, mm_Z m w i' l' e) ∧ KC X i' l' (lx X n) ∧ mG (fun k j => k = 28 ∧ 1 ≤ j ∧ j ≤ 3) i i' ∧ lG (fun k j => k = 28 ∧ j = 4) l l' := by
  have hz := hw.le
  obtain ⟨b1, b2⟩ := bb_le (X := X) hn
  have hX1 : XC X (mm_ww i 28 1 (nI (bb X n))) := h.kp (by rw [mw_k (by omega)]) (fun j => by rw [mw_k (by omega)])
  have s1 : mm_ww i 28 1 (nI (bb X n)) 28 1 = nI (bb X n) := mw_s
  rw [mr_132_0, h2, xc_bk h hw hn, mb_l, mb_v, mr_132_12, xc_at hX1 hw (by omega), mb_l, mb_v, mr_132_31]
  by_cases q : bb X n < xz X
  · have hb := hw.2 _ q
    rw [if_pos q, xc_isL (by omega), mb_l, mb_v, mr_132_34, s1, xc_at hX1 hw (by omega), if_pos q, mb_l, mb_v, mr_132_49]
    by_cases ql : isL (xs X (bb X n)) = true
    · obtain ⟨i1, f1, f2, f3⟩ := xc_name (m := m) (w := w) (l := mm_wl l 28 4 0) (e := e) hX1 hw s1 b2
      have e1 := nE_le X (p := bb X n) b2
      have e2 := nE_lt X q ql
      rw [ql, if_bt, f1, mb_l, mb_0, mr_132_57, ml_s]
      have fr : ∀ x, mG (fun k j => k = 28 ∧ 1 ≤ j ∧ j ≤ 3) i (mm_ww i1 28 3 x) := fun x k j z => by
        have z1 : ¬ (k = 28 ∧ j = 2) := fun y => z ⟨y.1, by omega, by omega⟩
        by_cases y : k = 28
        · subst y; rw [mw_j (fun v => z ⟨rfl, by omega, by omega⟩), f3 _ _ z1, mw_j (fun v => z ⟨rfl, by omega, by omega⟩)]
        · rw [mw_k y, f3 _ _ z1, mw_k y]
      have lr : ∀ x, lG (fun k j => k = 28 ∧ j = 4) l (mm_wl (mm_wl l 28 4 0) 28 4 x) := fun x => (lG.wl ⟨rfl, rfl⟩).tr (lG.wl ⟨rfl, rfl⟩)
      by_cases q9 : nE X (bb X n) - bb X n ≤ 9
      · have el : lx X n = (bb X n, nE X (bb X n), kW (sg X (bb X n) (nE X (bb X n) - bb X n))) := by unfold lx; rw [if_pos q, if_pos ql, if_pos q9]
        have ek := kW_ge (sg X (bb X n) (nE X (bb X n) - bb X n))
        have et : tLt X (lx X n) = sg X (bb X n) (nE X (bb X n) - bb X n) := by rw [el]; unfold tLt; exact if_pos (by dsimp only; omega)
        obtain ⟨g1, g2, g3⟩ := tLt_lx hw hn
        have g4 : sg X (bb X n) (nE X (bb X n) - bb X n) ≠ [] := by rw [← et]; exact (g3 (by rw [el]; dsimp only; omega)).1
        rw [et] at g1 g2
        have np : ¬ lg_cmp (lN (pk 0 (sg X (bb X n) (nE X (bb X n) - bb X n)))) 0 = 0 := fun z => prr_pos g1 g4 ((lN_inj (b := 0) (by have := pkk_lt g1 g2; omega) (by omega)).mp (cmp_0.mp z))
        rw [if_pos q9, xc_word tWt_s tWt_l tWt_k WW_g g1 g2, mb_l, mb_v, mr_132_66, ml_s, if_neg np]
        have KK : ∀ i2, i2 = mm_ww i1 28 3 (nI (kW (sg X (bb X n) (nE X (bb X n) - bb X n)))) → KC X i2 (mm_wl (mm_wl l 28 4 0) 28 4 (lN (pk 0 (sg X (bb X n) (nE X (bb X n) - bb X n))))) (lx X n) := fun i2 hi => by
          refine ⟨?_, fun _ => ?_, ?_, ?_⟩
          · rw [hi, mw_j (by omega), f3 _ _ (by omega), el]; exact s1
          · rw [hi, mw_j (by omega), f2, el]
          · rw [hi, mw_s, el]
          · rw [ml_s, et]
        have e44 : (wds tWt []).length = 44 := WW_len
        by_cases qw : wI WW (sg X (bb X n) (nE X (bb X n) - bb X n)) < 44
        · have qw' : wI (wds tWt []) (sg X (bb X n) (nE X (bb X n) - bb X n)) < (wds tWt []).length := by rw [e44]; exact qw
          rw [if_pos qw', if_neg (na_m1 (by rw [e44] at qw'; omega))]
          refine ⟨_, _, rfl, KK _ ?_, fr _, lr _⟩
          rw [show (200 : Int32) = nI 200 by decide, nI_add]
          unfold kW
          rw [if_pos qw]
          rfl
        · have qw' : ¬ wI (wds tWt []) (sg X (bb X n) (nE X (bb X n) - bb X n)) < (wds tWt []).length := by rw [e44]; exact qw
          rw [if_neg qw', if_pos rfl]
          refine ⟨_, _, rfl, KK _ ?_, fr _, lr _⟩
          unfold kW
          rw [if_neg qw]
          rfl
      · have el : lx X n = (bb X n, nE X (bb X n), 1) := by unfold lx; rw [if_pos q, if_pos ql, if_neg q9]
        have hnil : wG ([] : List Nat) := fun c hc => by cases hc
        rw [if_neg q9, show lN 0 = lN (pk 0 []) from rfl, xc_word tWt_s tWt_l tWt_k WW_g hnil (Nat.zero_le _), mb_l, mb_v, mr_132_66, ml_s, if_pos (show lg_cmp (lN (pk 0 [])) 0 = 0 from cmp_0.mpr rfl)]
        refine ⟨_, _, rfl, ⟨?_, fun z => ?_, ?_, ?_⟩, fr _, lr _⟩
        · rw [mw_j (by omega), f3 _ _ (by omega), el]; exact s1
        · rw [el] at z; exact absurd rfl z
        · rw [mw_s, el]; rfl
        · rw [ml_s, el]; rfl
    · have ql' : isL (xs X (bb X n)) = false := by cases z : isL (xs X (bb X n)) with
        | true => exact absurd z ql
        | false => rfl
      obtain ⟨i1, f1, f2, f3, f4⟩ := xc_sign (m := m) (w := w) (l := mm_wl l 28 4 0) (e := e) hX1 hw s1 q
      have hk := kS_lt (xs X (bb X n)) (xb X (bb X n + 1))
      have el : lx X n = (bb X n, (if kS (xs X (bb X n)) (xb X (bb X n + 1)) = 3 ∨ kS (xs X (bb X n)) (xb X (bb X n + 1)) = 4 then bb X n + 2 else bb X n + 1), kS (xs X (bb X n)) (xb X (bb X n + 1))) := by unfold lx; rw [if_pos q, if_neg ql]
      have et : tLt X (lx X n) = [] := by rw [el]; unfold tLt; exact if_neg (by dsimp only; omega)
      rw [ql', if_bf, f1, mb_l, mb_0, mr_132_52]
      refine ⟨_, _, rfl, ⟨?_, fun z => ?_, ?_, ?_⟩, fun k j z => ?_, lG.wl ⟨rfl, rfl⟩⟩
      · rw [f4 _ _ (by omega), el]; exact s1
      · rw [el] at z ⊢; exact f3 z
      · rw [f2, el]
      · rw [ml_s, et]; rfl
      · rw [f4 k j (fun y => z ⟨y.1, by omega, by omega⟩)]
        by_cases y : k = 28
        · subst y; rw [mw_j (fun v => z ⟨rfl, by omega, by omega⟩)]
        · rw [mw_k y]
  · have el : lx X n = (bb X n, bb X n, 0) := by unfold lx; rw [if_neg q]
    have et : tLt X (lx X n) = [] := by rw [el]; unfold tLt; exact if_neg (by dsimp only; omega)
    rw [if_neg q, mr_123_0, if_pos (show (-1 : Int32) < 97 by decide), mb_l, mb_v, mr_132_34, if_pos rfl, s1, xc_at hX1 hw (by omega), if_neg q, mb_l, mb_v, mr_132_49, mr_135_0]
    rw [mm_sw, if_pos rfl, mb_l, mb_0, mr_132_52]
    refine ⟨_, _, rfl, ⟨?_, fun _ => ?_, ?_, ?_⟩, fun k j z => ?_, lG.wl ⟨rfl, rfl⟩⟩
    · rw [mw_j (by omega), mw_j (by omega), mw_j (by omega), el]; exact s1
    · rw [mw_s, s1, el]
    · rw [mw_j (by omega), mw_s, el]; rfl
    · rw [ml_s, et]; rfl
    · by_cases y : k = 28
      · subst y; rw [mw_j (fun v => z ⟨rfl, by omega, by omega⟩), mw_j (fun v => z ⟨rfl, by omega, by omega⟩), mw_j (fun v => z ⟨rfl, by omega, by omega⟩), mw_j (fun v => z ⟨rfl, by omega, by omega⟩)]
      · rw [mw_k y, mw_k y, mw_k y, mw_k y]
end MM133
