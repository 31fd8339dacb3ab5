/-! WHETHER ALL CONTEXTS ARE VALID, in the reference -/
section MM182
variable {w : Bool} {i : Nat → Nat → Int32} {l : Nat → Nat → Int64} {m : Nat} {e : Bool × Nat × Nat} {π : mP} {τ : mT} {η : mH} {n k j a d : Nat}
def vK (π : mP) (τ : mT) (η : mH) (k : Nat) : Bool := vT π τ k && ((decide (7 < k) || vPr π η k) && ((decide (15 < k) || vOp π η k) && (decide (3 < k) || vCn π η k)))
theorem m1_lt (ha : a < 2 ^ 31) : (nI a - 1 < 0) ↔ a = 0 := by
  constructor
  · intro h
    rcases Nat.eq_zero_or_pos a with z | z
    · exact z
    · rw [na_1, na_sub z] at h
      exact absurd h (nI_nn (by omega))
  · intro h; rw [h]; decide
theorem r_av1 (hT : TR i τ) (h : HR i η) (ht : ∀ k, k < 32 → tk τ k < 2 ^ 31) (ha : ∀ k, k < 8 → hP η k < 2 ^ 31) (hN' : ∀ k, k < 16 → hCt η k ≠ 0 → hN (hO η k) < 2 ^ 31) (hb : ∀ k, k < 4 → hC η k < 2 ^ 31) (hp : PR0 i π) (hW : PW π) (h5 : i 83 5 = 1) (hk : k < 32) (b : Bool) : mm_V 253 8 [some (.ref 83), some (.int (bI b)), some (.int (nI k))] [] (mm_Z m w i l e) = mm_V 253 8 [some (.ref 83), some (.int (bI (b && vK π τ η k))), some (.int (nI (k + 1)))] [] (mm_Z m w i l e) := by
  have t127 : ∀ (x : Int32) (c : Bool), mm_V 253 127 [some (.ref 83), some (.int x), some (.int (nI k))] [.int (bI c)] (mm_Z m w i l e) = mm_V 253 8 [some (.ref 83), some (.int (bI (c && (decide (3 < k) || vCn π η k)))), some (.int (nI (k + 1)))] [] (mm_Z m w i l e) := fun x c => by
    rw [mr_253_127, nI_1]
    cases c
    · rw [if_bf, Bool.false_and]; rfl
    · rw [if_bt, Bool.true_and]
      by_cases z : 3 < k
      · rw [if_pos (show (3 : Int32) < nI k from (nI_ltI (a := 3) (by omega) (by omega)).mpr z), decide_eq_true z, Bool.true_or]; rfl
      · have ek : i 127 (nI k).toNatClampNeg = nI (hC η k) - 1 := by rw [nI_clamp (by omega)]; exact (h.2.2.2 k (by omega)).1
        rw [if_neg (show ¬ (3 : Int32) < nI k from fun y => z ((nI_ltI (a := 3) (by omega) (by omega)).mp y)), decide_eq_false z, Bool.false_or, if_neg (no_out (by omega) (by omega))]
        simp only [ek]
        unfold vCn
        by_cases z2 : hC η k = 0
        · rw [if_pos ((m1_lt (hb k (by omega))).mpr z2), decide_eq_true z2, Bool.true_or]; rfl
        · rw [if_neg (fun y => z2 ((m1_lt (hb k (by omega))).mp y)), if_neg (no_out (by omega) (by omega)), pr_isValid hp hW, mb_l, mb_v, mr_253_156, nI_1, decide_eq_false z2, Bool.false_or]
          cases pVal π (nI (hC η k) - 1)
          · rw [if_bf]; rfl
          · rw [if_bt]; rfl
  have t90 : ∀ (x : Int32) (c : Bool), mm_V 253 90 [some (.ref 83), some (.int x), some (.int (nI k))] [.int (bI c)] (mm_Z m w i l e) = mm_V 253 8 [some (.ref 83), some (.int (bI (c && ((decide (15 < k) || vOp π η k) && (decide (3 < k) || vCn π η k))))), some (.int (nI (k + 1)))] [] (mm_Z m w i l e) := fun x c => by
    rw [mr_253_90]
    cases c
    · have t := t127 (bI false) false
      rw [if_bf, Bool.false_and, show (0 : Int32) = bI false from rfl, t, Bool.false_and]
    · rw [if_bt, Bool.true_and]
      by_cases z : 15 < k
      · have t := t127 (bI true) true
        rw [if_pos (show (15 : Int32) < nI k from (nI_ltI (a := 15) (by omega) (by omega)).mpr z), decide_eq_true z, Bool.true_or, show (1 : Int32) = bI true from rfl, t]
      · have ek : i 123 (nI k).toNatClampNeg = (if hCt η k = 0 then -1 else nI (hN (hO η k))) := by rw [nI_clamp (by omega)]; exact (h.2.2.1 k (by omega)).1
        rw [if_neg (show ¬ (15 : Int32) < nI k from fun y => z ((nI_ltI (a := 15) (by omega) (by omega)).mp y)), decide_eq_false z, Bool.false_or, mr_252_0, if_neg (no_out (by omega) (by omega))]
        simp only [ek]
        unfold vOp
        by_cases z2 : hCt η k = 0
        · have t := t127 (bI true) true
          rw [if_pos z2, if_pos (by decide), mb_l, mb_v, mr_253_106, if_pos rfl, decide_eq_true z2, Bool.true_or, show (1 : Int32) = bI true from rfl, t]
        · have e6 : i 126 (nI k).toNatClampNeg = nI (hO η k).2.2.2.2 := by rw [nI_clamp (by omega)]; exact ((h.2.2.1 k (by omega)).2 z2).2.2
          rw [if_neg z2, if_neg (nI_nn (hN' k (by omega) z2)), mb_l, mb_v, mr_253_106, if_neg (by decide), if_neg (no_out (by omega) (by omega)), e6, pr_isValid hp hW, mb_l, mb_v, mr_253_119, decide_eq_false z2, Bool.false_or]
          cases pVal π (nI (hO η k).2.2.2.2)
          · have t := t127 (bI true) false
            rw [if_bf, show (0 : Int32) = bI false from rfl, t]
          · have t := t127 (bI true) true
            rw [if_bt, show (1 : Int32) = bI true from rfl, t]
  have t52 : ∀ (x : Int32) (c : Bool), mm_V 253 52 [some (.ref 83), some (.int x), some (.int (nI k))] [.int (bI c)] (mm_Z m w i l e) = mm_V 253 8 [some (.ref 83), some (.int (bI (c && ((decide (7 < k) || vPr π η k) && ((decide (15 < k) || vOp π η k) && (decide (3 < k) || vCn π η k)))))), some (.int (nI (k + 1)))] [] (mm_Z m w i l e) := fun x c => by
    rw [mr_253_52]
    cases c
    · have t := t90 (bI false) false
      rw [if_bf, Bool.false_and, show (0 : Int32) = bI false from rfl, t, Bool.false_and]
    · rw [if_bt, Bool.true_and]
      by_cases z : 7 < k
      · have t := t90 (bI true) true
        rw [if_pos (show (7 : Int32) < nI k from (nI_ltI (a := 7) (by omega) (by omega)).mpr z), decide_eq_true z, Bool.true_or, show (1 : Int32) = bI true from rfl, t]
      · have ek : i 121 (nI k).toNatClampNeg = nI (hP η k) - 1 := by rw [nI_clamp (by omega)]; exact h.1 k (by omega)
        rw [if_neg (show ¬ (7 : Int32) < nI k from fun y => z ((nI_ltI (a := 7) (by omega) (by omega)).mp y)), decide_eq_false z, Bool.false_or, if_neg (no_out (by omega) (by omega))]
        simp only [ek]
        unfold vPr
        by_cases z2 : hP η k = 0
        · have t := t90 (bI true) true
          rw [if_pos ((m1_lt (ha k (by omega))).mpr z2), decide_eq_true z2, Bool.true_or, show (1 : Int32) = bI true from rfl, t]
        · rw [if_neg (fun y => z2 ((m1_lt (ha k (by omega))).mp y)), if_neg (no_out (by omega) (by omega)), pr_isValid hp hW, mb_l, mb_v, mr_253_82, decide_eq_false z2, Bool.false_or]
          cases pVal π (nI (hP η k) - 1)
          · have t := t90 (bI true) false
            rw [if_bf, show (0 : Int32) = bI false from rfl, t]
          · have t := t90 (bI true) true
            rw [if_bt, show (1 : Int32) = bI true from rfl, t]
  have ek : i 113 (nI k).toNatClampNeg = nI (tk τ k) := by rw [nI_clamp (by omega)]; exact (hT k hk).1
  have ec : i 114 (nI k).toNatClampNeg = tc τ k := by rw [nI_clamp (by omega)]; exact (hT k hk).2.1
  rw [mr_253_8, if_pos (show nI k < 32 from (nI_ltI (b := 32) (by omega) (by omega)).mpr hk), h5, if_neg (by decide)]
  unfold vK vT
  cases b
  · have t := t52 (bI false) false
    rw [if_bf, show (0 : Int32) = bI false from rfl, t, Bool.false_and, Bool.false_and]
  · rw [if_bt, Bool.true_and, if_neg (no_out (by omega) (by omega))]
    simp only [ek, ec]
    by_cases z : tk τ k = 0
    · have t := t52 (bI true) true
      rw [if_pos (show nI (tk τ k) = 0 by rw [z]; rfl), decide_eq_true z, Bool.true_or, show (1 : Int32) = bI true from rfl, t]
    · rw [if_neg (show ¬ nI (tk τ k) = 0 from fun y => z ((nI_eq (b := 0) (ht k hk) (by omega)).mp y)), if_neg (no_out (by omega) (by omega)), pr_isValid hp hW, mb_l, mb_v, mr_253_44, decide_eq_false z, Bool.false_or]
      cases pVal π (tc τ k)
      · have t := t52 (bI true) false
        rw [if_bf, show (0 : Int32) = bI false from rfl, t]
      · have t := t52 (bI true) true
        rw [if_bt, show (1 : Int32) = bI true from rfl, t]
end MM182
section MM183
variable {w : Bool} {i : Nat → Nat → Int32} {l : Nat → Nat → Int64} {m : Nat} {e : Bool × Nat × Nat} {π : mP} {τ : mT} {η : mH} {n k j a d : Nat}
theorem tAl_iff (f : Nat → Bool) : ∀ (d k : Nat), tAl f d k = true ↔ ∀ j, k ≤ j → j < k + d → f j = true
  | 0, k => ⟨fun _ j h1 h2 => by omega, fun _ => rfl⟩
  | d + 1, k => by
    rw [tAl, Bool.and_eq_true, tAl_iff f d (k + 1)]
    constructor
    · rintro ⟨h1, h2⟩ j h3 h4
      by_cases z : j = k
      · rw [z]; exact h1
      · exact h2 j (by omega) (by omega)
    · intro h
      exact ⟨h k (by omega) (by omega), fun j h1 h2 => h j (by omega) (by omega)⟩
theorem aVd_eq : tAl (vK π τ η) 32 0 = aVd π τ η := by
  rw [Bool.eq_iff_iff]
  unfold aVd
  rw [Bool.and_eq_true, Bool.and_eq_true, Bool.and_eq_true, tAl_iff, tAl_iff, tAl_iff, tAl_iff, tAl_iff]
  have ek : ∀ j, vK π τ η j = true ↔ (vT π τ j = true ∧ (7 < j ∨ vPr π η j = true) ∧ (15 < j ∨ vOp π η j = true) ∧ (3 < j ∨ vCn π η j = true)) := fun j => by
    unfold vK
    rw [Bool.and_eq_true, Bool.and_eq_true, Bool.and_eq_true, Bool.or_eq_true, Bool.or_eq_true, Bool.or_eq_true, decide_eq_true_eq, decide_eq_true_eq, decide_eq_true_eq]
  constructor
  · intro h
    refine ⟨fun j h1 h2 => ((ek j).mp (h j h1 h2)).1, fun j h1 h2 => ?_, fun j h1 h2 => ?_, fun j h1 h2 => ?_⟩
    · rcases ((ek j).mp (h j h1 (by omega))).2.1 with z | z
      · omega
      · exact z
    · rcases ((ek j).mp (h j h1 (by omega))).2.2.1 with z | z
      · omega
      · exact z
    · rcases ((ek j).mp (h j h1 (by omega))).2.2.2 with z | z
      · omega
      · exact z
  · rintro ⟨h1, h2, h3, h4⟩ j h5 h6
    refine (ek j).mpr ⟨h1 j h5 h6, ?_, ?_, ?_⟩
    · rcases Nat.lt_or_ge 7 j with z | z
      · exact Or.inl z
      · exact Or.inr (h2 j h5 (by omega))
    · rcases Nat.lt_or_ge 15 j with z | z
      · exact Or.inl z
      · exact Or.inr (h3 j h5 (by omega))
    · rcases Nat.lt_or_ge 3 j with z | z
      · exact Or.inl z
      · exact Or.inr (h4 j h5 (by omega))
theorem r_av (hT : TR i τ) (h : HR i η) (ht : ∀ k, k < 32 → tk τ k < 2 ^ 31) (ha : ∀ k, k < 8 → hP η k < 2 ^ 31) (hN' : ∀ k, k < 16 → hCt η k ≠ 0 → hN (hO η k) < 2 ^ 31) (hb : ∀ k, k < 4 → hC η k < 2 ^ 31) (hp : PR0 i π) (hW : PW π) (h5 : i 83 5 = 1) : ∀ (d k : Nat) (b : Bool), k + d = 32 → mm_V 253 8 [some (.ref 83), some (.int (bI b)), some (.int (nI k))] [] (mm_Z m w i l e) = some (.inl (some (.int (bI (b && tAl (vK π τ η) d k)))), mm_Z m w i l e) := by
  intro d
  induction d with
  | zero =>
    intro k b hk
    rw [mr_253_8, if_neg (show ¬ nI k < 32 from fun z => by have := (nI_ltI (b := 32) (by omega) (by omega)).mp z; omega), if_pos (bI_01 b), show tAl (vK π τ η) 0 k = true from rfl, Bool.and_true]
  | succ d ih =>
    intro k b hk
    rw [r_av1 hT h ht ha hN' hb hp hW h5 (by omega) b, ih (k + 1) _ (by omega), tAl, Bool.and_assoc]
/-- allValid -/
theorem r_allValid (hT : TR i τ) (h : HR i η) (ht : ∀ k, k < 32 → tk τ k < 2 ^ 31) (ha : ∀ k, k < 8 → hP η k < 2 ^ 31) (hN' : ∀ k, k < 16 → hCt η k ≠ 0 → hN (hO η k) < 2 ^ 31) (hb : ∀ k, k < 4 → hC η k < 2 ^ 31) (hp : PR0 i π) (hW : PW π) (h5 : i 83 5 = 1) : mm_V 253 0 [some (.ref 83), none, none] [] (mm_Z m w i l e) = some (.inl (some (.int (bI (pVal π 0 && aVd π τ η)))), mm_Z m w i l e) := by
  have e1 := r_av (m := m) (w := w) (l := l) (e := e) hT h ht ha hN' hb hp hW h5 32 0 (pVal π 0) (by omega)
  have e1 : mm_V 253 8 [some (.ref 83), some (.int (bI (pVal π 0))), some (.int 0)] [] (mm_Z m w i l e) = _ := e1
  rw [mr_253_0, pr_isValid hp hW, mb_l, mb_v, mr_253_5, e1, aVd_eq]
theorem r_allNew (hp : PR0 i π) (hW : PW π) (h5 : i 83 5 = 0) : mm_V 253 0 [some (.ref 83), none, none] [] (mm_Z m w i l e) = some (.inl (some (.int (bI (pVal π 0)))), mm_Z m w i l e) := by
  rw [mr_253_0, pr_isValid hp hW, mb_l, mb_v, mr_253_5, mr_253_8, if_pos (by decide), if_pos h5, if_pos (bI_01 _)]
end MM183
