/-! HOLDINGS: a handle goes, in the class -/
section MM89
variable {w : Bool} {l : Nat → Nat → Int64} {e : Bool × Nat × Nat} {η : mH} {τ : mT} {m p h o q : Nat}
/-- openings alone: rows and bounds -/
def HO3 (i : Nat → Nat → Int32) (η : mH) : Prop := ∀ o, o < 16 → i 71 o = nI (hCt η o) ∧ (hCt η o ≠ 0 → i 72 o = (if (hO η o).1 = true then -1 else nI (hO η o).2.1) ∧ i 73 o = (if (hO η o).1 = true then nI (hO η o).2.1 else -1) ∧ i 74 o = nI (hO η o).2.2.1 ∧ i 75 o = nI (hO η o).2.2.2.1 ∧ i 76 o = nI (hO η o).2.2.2.2)
def HB3 (η : mH) : Prop := ∀ o, o < 16 → hCt η o ≠ 0 → ((hO η o).1 = true → (hO η o).2.1 < 4 ∧ ((hO η o).2.2.1 = 1 ∨ (hO η o).2.2.1 = 2)) ∧ ((hO η o).1 = false → (hO η o).2.1 < 32) ∧ (hO η o).2.2.1 ≤ 7
theorem HW.b3 (hw : HW η) : HB3 η := fun o ho z => ⟨fun y => ⟨((hw.2.2.1 o ho z).1 y).1, ((hw.2.2.1 o ho z).1 y).2.2⟩, (hw.2.2.1 o ho z).2.1, (hw.2.2.1 o ho z).2.2.1⟩
theorem hc_io3 {i : Nat → Nat → Int32} (H : HO3 i η) (hw : HB3 η) {n : Nat} (hn : n < 32) : ∀ (D k : Nat), k + D = 16 → mm_V 73 2 [some (.ref 68), some (.int (nI n)), some (.int (nI k))] [] (mm_Z m w i l e) = some (.inl (some (.int (bI (tAny (fun o => decide (hCt η o ≠ 0 ∧ (hO η o).1 = false ∧ (hO η o).2.1 = n)) D k)))), mm_Z m w i l e)
  | 0, k, hk => by
    rw [mr_73_2, na_16, if_neg (by rw [nI_ltI (by omega) (by omega)]; omega)]
    rfl
  | D + 1, k, hk => by
    have hb := cnt_48 η k
    have ih := hc_io3 H hw hn D (k + 1) (by omega)
    rw [mr_73_2]
    simp only [na_16, nI_1, nI_ltI (show k < 2 ^ 31 by omega) (show 16 < 2 ^ 31 by omega), nI_clamp (show k < 2 ^ 31 by omega), (H k (by omega)).1, nz_gt (show hCt η k < 2 ^ 31 by omega)]
    rw [if_pos (by omega), if_neg (no_out (by omega) (by omega)), tAny]
    by_cases z : hCt η k = 0
    · rw [if_neg (by omega), ih, decide_eq_false (fun y => y.1 z), Bool.false_or]
    · have hx := ((H k (by omega)).2 z).1
      have hwk := hw k (by omega) z
      rw [if_pos z, if_neg (no_out (by omega) (by omega))]
      simp only [hx]
      cases hq : (hO η k).1
      · have := hwk.2.1 hq
        simp only [Bool.false_eq_true, if_false, nI_eq (show (hO η k).2.1 < 2 ^ 31 by omega) (show n < 2 ^ 31 by omega)]
        by_cases z2 : (hO η k).2.1 = n
        · rw [if_pos z2, decide_eq_true ⟨z, trivial, z2⟩, Bool.true_or]; rfl
        · rw [if_neg z2, ih, decide_eq_false (fun y => z2 y.2.2), Bool.false_or]
      · simp only [if_true]
        rw [if_neg (fun y => na_m1 (show n < 2 ^ 31 by omega) y.symm), ih, decide_eq_false (fun y => by cases y.2.1), Bool.false_or]
theorem hc_he3 {i : Nat → Nat → Int32} (H : HO3 i η) (hw : HB3 η) {k : Nat} (hk : k < 4) {x2 : Int32} : ∀ (D o : Nat), o + D = 16 → mm_V 74 2 [some (.ref 68), some (.int (nI k)), some (.int x2), some (.int (nI o))] [] (mm_Z m w i l e) = some (.inl (some (.int (bI (tAny (fun o => decide (hCt η o ≠ 0 ∧ (hO η o).1 = true ∧ (hO η o).2.1 = k ∧ nI (hO η o).2.2.1 &&& x2 ≠ 0)) D o)))), mm_Z m w i l e)
  | 0, o, ho => by
    rw [mr_74_2, na_16, if_neg (by rw [nI_ltI (by omega) (by omega)]; omega)]
    rfl
  | D + 1, o, ho => by
    have hb := cnt_48 η o
    have ho16 : ¬ mm_out (nI o) 16 := no_out (by omega) (by omega)
    have ih := hc_he3 H hw hk (x2 := x2) D (o + 1) (by omega)
    rw [mr_74_2]
    simp only [na_16, nI_1, nI_ltI (show o < 2 ^ 31 by omega) (show 16 < 2 ^ 31 by omega), nI_clamp (show o < 2 ^ 31 by omega), (H o (by omega)).1, nz_gt (show hCt η o < 2 ^ 31 by omega), if_neg ho16]
    rw [if_pos (by omega), tAny]
    by_cases z : hCt η o = 0
    · rw [if_neg (by omega), ih, decide_eq_false (fun y => y.1 z), Bool.false_or]
    · have hx := ((H o (by omega)).2 z).2.1
      have hx3 := ((H o (by omega)).2 z).2.2.1
      have hwk := hw o (by omega) z
      rw [if_pos z]
      simp only [hx, hx3]
      cases hq : (hO η o).1
      · simp only [Bool.false_eq_true, if_false]
        rw [if_neg (fun y => na_m1 (show k < 2 ^ 31 by omega) y.symm), ih, decide_eq_false (fun y => by cases y.2.1), Bool.false_or]
      · have := (hwk.1 hq).1
        simp only [if_true, nI_eq (show (hO η o).2.1 < 2 ^ 31 by omega) (show k < 2 ^ 31 by omega)]
        by_cases z2 : (hO η o).2.1 = k
        · rw [if_pos z2]
          by_cases z3 : nI (hO η o).2.2.1 &&& x2 = 0
          · rw [if_pos z3, ih, decide_eq_false (fun y => y.2.2.2 z3), Bool.false_or]
          · rw [if_neg z3, decide_eq_true ⟨z, trivial, z2, z3⟩, Bool.true_or]; rfl
        · rw [if_neg z2, ih, decide_eq_false (fun y => z2 y.2.2.1), Bool.false_or]
/-- any end of a pipe -/
theorem hc_hasAny {i : Nat → Nat → Int32} (H : HO3 i η) (hw : HB3 η) {k : Nat} (hk : k < 4) : mm_V 74 0 [some (.ref 68), some (.int (nI k)), some (.int 3), none] [] (mm_Z m w i l e) = some (.inl (some (.int (bI (hLv η k)))), mm_Z m w i l e) := by
  rw [mr_74_0, na_0, hc_he3 H hw hk 16 0 rfl]
  have : tAny (fun o => decide (hCt η o ≠ 0 ∧ (hO η o).1 = true ∧ (hO η o).2.1 = k ∧ nI (hO η o).2.2.1 &&& 3 ≠ 0)) 16 0 = hLv η k := by
    refine tAny_cong 16 0 (fun o _ ho => ?_)
    apply decide_eq_decide.mpr
    constructor
    · rintro ⟨a, b, c, -⟩; exact ⟨a, b, c⟩
    · rintro ⟨a, b, c⟩
      refine ⟨a, b, c, ?_⟩
      rcases ((hw o (by omega) a).1 b).2 with y | y <;> rw [y] <;> decide
  rw [this]
/-- the places of what a release changes -/
theorem hc_drop {i : Nat → Nat → Int32} (H : HO3 i η) (hw : HB3 η) (hT : TC true i τ) (hTw : TW τ) {n : Nat} (hn : n < 32) : ∃ i', mm_V 72 0 [some (.ref 68), some (.int (nI n))] [] (mm_Z m w i l e) = some (.inl none, mm_Z m w i' l e) ∧ TC true i' (if n ≠ 0 ∧ tL τ n = 0 ∧ hHe η n = false then tDr τ n else τ) ∧ (∀ q, q ≠ 58 → i' q = i q) := by
  rw [mr_72_0, na_0]
  simp only [nI_eq (show n < 2 ^ 31 by omega) (show 0 < 2 ^ 31 by omega)]
  by_cases z : n = 0
  · rw [if_pos z, mr_72_31, if_neg (fun y => y.1 z)]
    exact ⟨i, rfl, hT, fun _ _ => rfl⟩
  · rw [if_neg z, tc_linksOf hT hTw (by omega), mb_l, mb_v, mr_72_12, na_0]
    simp only [nI_eq (tL_lt hTw n) (show 0 < 2 ^ 31 by omega)]
    by_cases z2 : tL τ n = 0
    · have e1 : mm_V 73 0 [some (.ref 68), some (.int (nI n)), none] [] (mm_Z m w i l e) = some (.inl (some (.int (bI (hHe η n)))), mm_Z m w i l e) := by
        rw [mr_73_0, na_0, hc_io3 H hw hn 16 0 rfl]; rfl
      rw [if_pos z2, e1, mb_l, mb_v, mr_72_20]
      simp only [bI_0]
      by_cases z3 : hHe η n = false
      · rw [if_pos z3, tc_drop hn, mb_l, mb_0, mr_72_31, if_pos ⟨z, z2, z3⟩]
        exact ⟨_, rfl, TC_dr hT, fun q hq => mw_k hq⟩
      · rw [if_neg z3, mr_72_31, if_neg (fun y => z3 y.2.2)]
        exact ⟨i, rfl, hT, fun _ _ => rfl⟩
    · rw [if_neg z2, mr_72_31, if_neg (fun y => z2 y.2.1)]
      exact ⟨i, rfl, hT, fun _ _ => rfl⟩
/-- handle k goes -/
def hUn (η : mH) (k : Nat) : mH := (hP η, va_up (hH η) k 0, hO η, hC η, hS η, hB η)
theorem hUn_ct {k y : Nat} (hk : k < 48) (h0 : hH η k = o + 1) : hCt (hUn η k) y + (if y = o then 1 else 0) = hCt η y := by
  have := cnt_up (f := hH η) (k := k) (v := 0) (y := y + 1) 48 0 (Nat.zero_le _) (by omega)
  rw [h0, if_neg (show ¬ 0 = y + 1 by omega)] at this
  have e1 : hCt (hUn η k) y = tCnt (fun j => va_up (hH η) k 0 j == y + 1) 48 0 := rfl
  have e2 : hCt η y = tCnt (fun j => hH η j == y + 1) 48 0 := rfl
  rw [e1, e2]
  by_cases z : y = o
  · rw [if_pos (show o + 1 = y + 1 by omega)] at this
    rw [if_pos z, this, Nat.add_zero]
  · rw [if_neg (show ¬ o + 1 = y + 1 by omega)] at this
    rw [if_neg z, this, Nat.add_zero]
/-- pipe k goes -/
def hUp (η : mH) (k : Nat) : mH := (hP η, hH η, hO η, va_up (hC η) k 0, hS η, hB η)
/-- what is left of the holdings, and of the tree -/
def hRl (η : mH) (k : Nat) : mH := if hCt (hUn η k) (hH η k - 1) = 0 ∧ (hO η (hH η k - 1)).1 = true ∧ hLv (hUn η k) (hO η (hH η k - 1)).2.1 = false then hUp (hUn η k) (hO η (hH η k - 1)).2.1 else hUn η k
def tRl2 (τ : mT) (η : mH) (k : Nat) : mT := if hCt (hUn η k) (hH η k - 1) = 0 ∧ (hO η (hH η k - 1)).1 = false ∧ ((hO η (hH η k - 1)).2.1 ≠ 0 ∧ tL τ (hO η (hH η k - 1)).2.1 = 0 ∧ hHe (hUn η k) (hO η (hH η k - 1)).2.1 = false) then tDr τ (hO η (hH η k - 1)).2.1 else τ
theorem hc_release {i : Nat → Nat → Int32} (H : HC i η) (hw : HW η) (hT : TC true i τ) (hTw : TW τ) (hp : p < 8) (hh : h < 6) (h0 : hH η (6 * p + h) ≠ 0) : ∃ i', mm_V 71 0 [some (.ref 68), some (.int (nI p)), some (.int (nI h)), none] [] (mm_Z m w i l e) = some (.inl none, mm_Z m w i' l e) ∧ HC i' (hRl η (6 * p + h)) ∧ TC true i' (tRl2 τ η (6 * p + h)) ∧ (∀ q, q ≠ 58 → q ≠ 70 → q ≠ 71 → q ≠ 77 → i' q = i q) := by
  have hk : 6 * p + h < 48 := by omega
  have hb := hw.2.1 _ hk
  obtain ⟨o, ho⟩ : ∃ o, hH η (6 * p + h) = o + 1 := ⟨hH η (6 * p + h) - 1, by omega⟩
  have ho16 : o < 16 := by omega
  have ho' : ¬ mm_out (nI o) 16 := no_out ho16 (by omega)
  have hct : ∀ y, hCt (hUn η (6 * p + h)) y + (if y = o then 1 else 0) = hCt η y := fun y => hUn_ct hk ho
  have hcto := hct o
  rw [if_pos rfl] at hcto
  have ht : hCt η o ≠ 0 := by omega
  have e1 : hH η (6 * p + h) - 1 = o := by omega
  obtain ⟨a1, a2, a3, a4⟩ := H
  obtain ⟨c1, c2⟩ := a3 o ho16
  have c2 := c2 ht
  -- behind the handle
  have hI : ∀ i1, i1 = mm_ww (mm_ww i 70 (6 * p + h) (-1)) 71 o (nI (hCt (hUn η (6 * p + h)) o)) → HC i1 (hUn η (6 * p + h)) := by
    intro i1 hi1
    subst hi1
    refine ⟨fun q hq => by rw [mw_k (by omega), mw_k (by omega)]; exact a1 q hq, fun j hj => ?_, fun y hy => ?_, fun y hy => by rw [mw_k (show 77 ≠ 71 by omega), mw_k (show 77 ≠ 70 by omega), mw_k (show 78 ≠ 71 by omega), mw_k (show 78 ≠ 70 by omega), mw_k (show 79 ≠ 71 by omega), mw_k (show 79 ≠ 70 by omega)]; exact a4 y hy⟩
    · rw [mw_k (by omega)]
      show _ = nI (va_up (hH η) (6 * p + h) 0 j) - 1
      by_cases z : j = 6 * p + h
      · rw [z, mw_s, up_s]; decide
      · rw [mw_j z, up_n z]; exact a2 j hj
    · obtain ⟨b1, b2⟩ := a3 y hy
      rw [mw_k (show 72 ≠ 71 by omega), mw_k (show 72 ≠ 70 by omega), mw_k (show 73 ≠ 71 by omega), mw_k (show 73 ≠ 70 by omega), mw_k (show 74 ≠ 71 by omega), mw_k (show 74 ≠ 70 by omega), mw_k (show 75 ≠ 71 by omega), mw_k (show 75 ≠ 70 by omega), mw_k (show 76 ≠ 71 by omega), mw_k (show 76 ≠ 70 by omega)]
      have hy2 := hct y
      by_cases z : y = o
      · subst z
        rw [mw_s]
        exact ⟨rfl, fun _ => c2⟩
      · rw [mw_j z, mw_k (by omega)]
        rw [if_neg z, Nat.add_zero] at hy2
        rw [hy2]
        exact ⟨b1, b2⟩
  have hB1 : HB3 (hUn η (6 * p + h)) := fun y hy z => hw.b3 y hy (by have := hct y; omega)
  have e2 : nI (hCt η o) - 1 = nI (hCt (hUn η (6 * p + h)) o) := by rw [← hcto, nI_pred]
  have hc48 := cnt_48 (hUn η (6 * p + h)) o
  rw [mr_71_0, hc_opening ⟨a1, a2, a3, a4⟩ hp hh, ho, nI_pred, mb_l, mb_v, mr_71_6, if_neg (na_m1 (by omega))]
  simp only [na_6, na_mul, nI_add, Nat.mul_comm p 6, if_neg ho', nI_clamp (show 6 * p + h < 2 ^ 31 by omega), nI_clamp (show o < 2 ^ 31 by omega), c1, e2, mw_s, c2.1, c2.2.1, nz_gt (show hCt (hUn η (6 * p + h)) o < 2 ^ 31 by omega)]
  rw [if_neg (no_out hk (by omega))]
  generalize hM : mm_ww (mm_ww i 70 (6 * p + h) (-1)) 71 o (nI (hCt (hUn η (6 * p + h)) o)) = i1
  have H1 := hI i1 hM.symm
  have f1 : ∀ q, q ≠ 70 → q ≠ 71 → i1 q = i q := fun q h1 h2 => by rw [← hM, mw_k h2, mw_k h1]
  have T1 : TC true i1 τ := hT.kp (fun k j h1 h2 => by
    simp only [mm_Tr, cond_true] at h1 h2
    rw [f1 k (by omega) (by omega)])
  unfold hRl tRl2
  rw [e1]
  by_cases z : hCt (hUn η (6 * p + h)) o = 0
  · rw [if_neg (by omega)]
    cases hq : (hO η o).1
    · have h32 := ((hw.2.2.1 o ho16 ht).2.1 hq)
      simp only [Bool.false_eq_true, if_false]
      rw [if_neg (na_m1 (by omega))]
      obtain ⟨i2, d1, d2, d3⟩ := hc_drop (m := m) (w := w) (l := l) (e := e) H1.2.2.1 hB1 T1 hTw h32
      rw [d1, mb_l, mb_0, mr_71_65]
      refine ⟨i2, rfl, ?_, ?_, fun q h1 h2 h3 h4 => by rw [d3 q h1, f1 q h2 h3]⟩
      · rw [if_neg (fun y => by cases y.2.1)]
        obtain ⟨g1, g2, g3, g4⟩ := H1
        exact ⟨fun p hp => by rw [d3 _ (by omega)]; exact g1 p hp, fun k hk => by rw [d3 _ (by omega)]; exact g2 k hk, fun o ho => by rw [d3 71 (by omega), d3 72 (by omega), d3 73 (by omega), d3 74 (by omega), d3 75 (by omega), d3 76 (by omega)]; exact g3 o ho, fun k hk => by rw [d3 77 (by omega), d3 78 (by omega), d3 79 (by omega)]; exact g4 k hk⟩
      · by_cases c : (hO η o).2.1 ≠ 0 ∧ tL τ (hO η o).2.1 = 0 ∧ hHe (hUn η (6 * p + h)) (hO η o).2.1 = false
        · rw [if_pos c] at d2
          rw [if_pos ⟨z, by first | rfl | trivial, c⟩]
          exact d2
        · rw [if_neg c] at d2
          rw [if_neg (fun y => c y.2.2)]
          exact d2
    · have h4 := ((hw.2.2.1 o ho16 ht).1 hq).1
      have e73 : i1 73 o = nI (hO η o).2.1 := by
        have := ((H1.2.2.1 o ho16))
        rw [f1 73 (by omega) (by omega), c2.2.1, hq]; rfl
      simp only [if_true]
      rw [hc_hasAny H1.2.2.1 hB1 h4, mb_l, mb_v, mr_71_79, if_neg ho', nI_clamp (by omega), e73, if_neg (no_out h4 (by omega)), nI_clamp (by omega)]
      simp only [bI_0]
      by_cases z2 : hLv (hUn η (6 * p + h)) (hO η o).2.1 = false
      · rw [if_pos z2, if_pos ⟨z, by first | rfl | trivial, z2⟩, if_neg (fun y => by have := y.2.1; cases this)]
        refine ⟨_, rfl, ?_, T1.kp (fun k j h1 h2 => by simp only [mm_Tr, cond_true] at h1 h2; rw [mw_k (by omega)]), fun q h1 h2 h3 h4 => by rw [mw_k h4, f1 q h2 h3]⟩
        obtain ⟨g1, g2, g3, g4⟩ := H1
        refine ⟨fun p hp => by rw [mw_k (by omega)]; exact g1 p hp, fun k hk => by rw [mw_k (by omega)]; exact g2 k hk, fun o ho => by rw [mw_k (show 71 ≠ 77 by omega), mw_k (show 72 ≠ 77 by omega), mw_k (show 73 ≠ 77 by omega), mw_k (show 74 ≠ 77 by omega), mw_k (show 75 ≠ 77 by omega), mw_k (show 76 ≠ 77 by omega)]; exact g3 o ho, fun k hk => ?_⟩
        rw [mw_k (show 78 ≠ 77 by omega), mw_k (show 79 ≠ 77 by omega)]
        show _ = nI (va_up (hC η) (hO η o).2.1 0 k) - 1 ∧ (va_up (hC η) (hO η o).2.1 0 k ≠ 0 → _)
        by_cases z3 : k = (hO η o).2.1
        · rw [z3, mw_s, up_s]
          exact ⟨by decide, fun y => absurd rfl y⟩
        · rw [mw_j z3, up_n z3]
          exact g4 k hk
      · rw [if_neg z2, if_neg (fun y => z2 y.2.2), if_neg (fun y => by have := y.2.1; cases this)]
        exact ⟨i1, rfl, H1, T1, fun q h1 h2 h3 h4 => f1 q h2 h3⟩
  · rw [if_pos z, if_neg (fun y => z y.1), if_neg (fun y => z y.1)]
    exact ⟨i1, rfl, H1, T1, fun q h1 h2 h3 h4 => f1 q h2 h3⟩
end MM89
