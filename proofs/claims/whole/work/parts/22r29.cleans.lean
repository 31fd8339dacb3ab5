/-! THE REFERENCE'S CLEAN -/
section MM88
variable {w : Bool} {l : Nat → Nat → Int64} {e : Bool × Nat × Nat} {η : mH} {τ : mT} {m p h o q : Nat}
/-- bounds, where pipes may stand whose ends are gone -/
def HWw (η : mH) : Prop := (∀ p, p < 8 → hP η p < 2 ^ 30 ∧ (hP η p = 0 → ∀ h, h < 6 → hH η (6 * p + h) = 0)) ∧ (∀ k, k < 48 → hH η k ≤ 16) ∧ (∀ o, o < 16 → hCt η o ≠ 0 → ((hO η o).1 = true → (hO η o).2.1 < 4 ∧ hC η (hO η o).2.1 ≠ 0 ∧ ((hO η o).2.2.1 = 1 ∨ (hO η o).2.2.1 = 2)) ∧ ((hO η o).1 = false → (hO η o).2.1 < 32) ∧ (hO η o).2.2.1 ≤ 7 ∧ (hO η o).2.2.2.1 ≤ 24 ∧ (hO η o).2.2.2.2 < 2 ^ 30) ∧ (∀ k, k < 4 → hC η k < 2 ^ 30 ∧ hS η k ≤ 8)
theorem HW.weak (hw : HW η) : HWw η := ⟨hw.1, hw.2.1, hw.2.2.1, fun k hk => ⟨(hw.2.2.2 k hk).1, (hw.2.2.2 k hk).2.1⟩⟩
theorem HWw.cl (hw : HWw η) : HW (hCl η) := by
  refine ⟨hw.1, hw.2.1, fun o ho z => ?_, fun k hk => ?_⟩
  · have z : hCt η o ≠ 0 := z
    obtain ⟨d1, d2, d3⟩ := hw.2.2.1 o ho z
    refine ⟨fun y => ⟨(d1 y).1, ?_, (d1 y).2.2⟩, d2, d3⟩
    show (if (hO η o).2.1 < 4 ∧ hLv η (hO η o).2.1 = false then 0 else hC η (hO η o).2.1) ≠ 0
    have hl : hLv η (hO η o).2.1 = true := (tAny_iff _ 16 0).mpr ⟨o, Nat.zero_le _, by omega, decide_eq_true ⟨z, y, rfl⟩⟩
    rw [if_neg (fun q => by rw [hl] at q; cases q.2)]
    exact (d1 y).2.1
  · obtain ⟨d1, d2⟩ := hw.2.2.2 k hk
    refine ⟨?_, d2, fun z => ?_⟩
    · show (if k < 4 ∧ hLv η k = false then 0 else hC η k) < 2 ^ 30
      split
      · omega
      · exact d1
    · have z : (if k < 4 ∧ hLv η k = false then 0 else hC η k) ≠ 0 := z
      by_cases y : k < 4 ∧ hLv η k = false
      · rw [if_pos y] at z; exact absurd rfl z
      · have hl : hLv η k = true := by
          cases hq : hLv η k
          · exact absurd ⟨hk, hq⟩ y
          · rfl
        obtain ⟨j, -, j2, j3⟩ := (tAny_iff _ 16 0).mp hl
        have j3 := of_decide_eq_true j3
        exact ⟨j, by omega, j3.1, j3.2.1, j3.2.2⟩
theorem hCt_any (η : mH) (o : Nat) : tAny (fun k => hH η k == o + 1) 48 0 = !decide (hCt η o = 0) := cnt_any 48 0
theorem hr_cl_loop (hb : ∀ k, k < 48 → hH η k ≤ 16) : ∀ (D o : Nat) (i : Nat → Nat → Int32) (u v : Option Value), o + D = 16 → (∀ k, k < 48 → i 122 k = nI (hH η k) - 1) → ∃ (i' : Nat → Nat → Int32) (u' v' : Option Value), mm_V 312 2 [some (.ref 83), some (.int (nI o)), u, v] [] (mm_Z m w i l e) = mm_V 312 72 [some (.ref 83), some (.int (nI 0)), u', v'] [] (mm_Z m w i' l e) ∧ (∀ j, o ≤ j → j < 16 → i' 123 j = if hCt η j = 0 then -1 else i 123 j) ∧ (∀ j, j < o → i' 123 j = i 123 j) ∧ (∀ q, q ≠ 123 → i' q = i q)
  | 0, o, i, u, v, ho, hH' => by
    refine ⟨i, u, v, ?_, fun j h1 h2 => by omega, fun _ _ => rfl, fun _ _ => rfl⟩
    rw [mr_312_2, na_16, if_neg (by rw [nI_ltI (by omega) (by omega)]; omega)]
    rfl
  | D + 1, o, i, u, v, ho, hH' => by
    obtain ⟨u1, v1, e1⟩ := hr_told_loop (m := m) (w := w) (l := l) (e := e) (η := η) (i := i) (o := o) (by omega) hH' hb 48 0 false rfl
    rw [Bool.false_or, hCt_any] at e1
    obtain ⟨i', u', v', g1, g2, g3, g4⟩ := hr_cl_loop hb D (o + 1) (mm_ww i 123 o (if (!decide (hCt η o = 0)) = true then i 123 o else -1)) u1 v1 (by omega) (fun k hk => by rw [mw_k (by omega)]; exact hH' k hk)
    refine ⟨i', u', v', ?_, ?_, ?_, fun q hq => by rw [g4 q hq, mw_k hq]⟩
    · rw [mr_312_2, na_16, if_pos ((nI_ltI (by omega) (by omega)).mpr (by omega)), ← g1, ← e1]
      rfl
    · intro j h1 h2
      by_cases z : j = o
      · subst z
        rw [g3 j (by omega), mw_s]
        by_cases y : hCt η j = 0
        · rw [if_pos y, if_neg (by simp [y])]
        · rw [if_neg y, if_pos (by simp [y])]
      · rw [g2 j (by omega) h2, mw_j z]
    · intro j h1
      rw [g3 j (by omega), mw_j (by omega)]
/-- a pipe's ends -/
theorem hr_pi_loop {i : Nat → Nat → Int32} {k : Nat} (hk : k < 4) (hO' : ∀ o, o < 16 → i 123 o = if hCt η o = 0 then -1 else nI (hN (hO η o))) (hw : HWw η) : ∀ (D o : Nat) (b : Bool), o + D = 16 → ∃ u v, mm_V 312 81 [some (.ref 83), some (.int (nI k)), some (.int (bI b)), some (.int (nI o))] [] (mm_Z m w i l e) = mm_V 312 72 [some (.ref 83), some (.int (nI (k + 1))), u, v] [] (mm_Z m w (mm_ww i 127 k (if (b || tAny (fun o => decide (hCt η o ≠ 0 ∧ (hO η o).1 = true ∧ (hO η o).2.1 = k)) D o) = true then i 127 k else -1)) l e)
  | 0, o, b, ho => by
    have ho4 : ¬ mm_out (nI k) 4 := no_out hk (by omega)
    refine ⟨some (.int (bI b)), some (.int (nI o)), ?_⟩
    rw [mr_312_81, na_16, if_neg (by rw [nI_ltI (by omega) (by omega)]; omega), tAny, Bool.or_false]
    simp only [if_neg ho4, nI_clamp (show k < 2 ^ 31 by omega), nI_1, bI_0]
    cases b
    · rw [if_pos rfl, if_neg (by decide)]
    · rw [if_neg (by decide), if_pos rfl]
  | D + 1, o, b, ho => by
    have ho16 : ¬ mm_out (nI o) 16 := no_out (by omega) (by omega)
    rw [mr_312_81]
    simp only [na_16, nI_ltI (show o < 2 ^ 31 by omega) (show 16 < 2 ^ 31 by omega), nI_1, bI_0]
    rw [if_pos (show o < 16 by omega), tAny]
    cases b
    · rw [if_pos rfl, mr_310_0, if_neg ho16]
      simp only [nI_clamp (show o < 2 ^ 31 by omega), hO' o (by omega)]
      have ihf := hr_pi_loop hk hO' hw D (o + 1) false (by omega)
      have iht := hr_pi_loop hk hO' hw D (o + 1) true (by omega)
      by_cases z : hCt η o = 0
      · simp only [if_pos z]
        rw [if_pos (by decide), mb_l, mb_v, mr_312_96, if_pos rfl, nI_1, decide_eq_false (fun y => y.1 z), Bool.false_or]
        exact ihf
      · have hwk := hw.2.2.1 o (by omega) z
        simp only [if_neg z]
        cases hq : (hO η o).1
        · have h32 := hwk.2.1 hq
          have eN : hN (hO η o) = (hO η o).2.1 := by unfold hN; rw [hq]; rfl
          rw [eN, na_100, if_pos ((nI_ltI (by omega) (by omega)).mpr (by omega)), mb_l, mb_v, mr_312_96, if_pos rfl, nI_1, decide_eq_false (fun y => by cases y.2.1), Bool.false_or]
          exact ihf
        · have h4 := (hwk.1 hq).1
          have eN : hN (hO η o) = (if (hO η o).2.2.1 = 1 then 100 else 300) + (hO η o).2.1 := by unfold hN; rw [hq]; rfl
          have eM : hN (hO η o) % 100 = (hO η o).2.1 := by rw [eN]; split <;> omega
          have eL : hN (hO η o) < 400 ∧ 100 ≤ hN (hO η o) := by rw [eN]; split <;> omega
          rw [na_100, if_neg (by rw [nI_ltI (by omega) (by omega)]; omega), mb_l, mb_v, mr_312_96, if_neg (by decide), mr_311_0, if_neg ho16]
          simp only [nI_clamp (show o < 2 ^ 31 by omega), hO' o (by omega), if_neg z]
          rw [na_100, na_re (by omega) (by omega), eM, mb_l, mb_v, mr_312_104, nI_1]
          simp only [nI_eq (show (hO η o).2.1 < 2 ^ 31 by omega) (show k < 2 ^ 31 by omega)]
          by_cases z2 : (hO η o).2.1 = k
          · rw [if_pos z2, decide_eq_true ⟨z, trivial, z2⟩, Bool.true_or, Bool.or_true]
            rw [Bool.true_or] at iht
            exact iht
          · rw [if_neg z2, decide_eq_false (fun y => z2 y.2.2), Bool.false_or]
            exact ihf
    · rw [if_neg (by decide)]
      have iht := hr_pi_loop hk hO' hw D (o + 1) true (by omega)
      rw [Bool.true_or] at iht ⊢
      exact iht
theorem hr_pp_loop (hw : HWw η) : ∀ (D k : Nat) (i : Nat → Nat → Int32) (u v : Option Value), k + D = 4 → (∀ o, o < 16 → i 123 o = if hCt η o = 0 then -1 else nI (hN (hO η o))) → ∃ (i' : Nat → Nat → Int32) (u' v' : Option Value), mm_V 312 72 [some (.ref 83), some (.int (nI k)), u, v] [] (mm_Z m w i l e) = mm_V 312 72 [some (.ref 83), some (.int (nI 4)), u', v'] [] (mm_Z m w i' l e) ∧ (∀ j, k ≤ j → j < 4 → i' 127 j = if hLv η j = true then i 127 j else -1) ∧ (∀ j, j < k → i' 127 j = i 127 j) ∧ (∀ q, q ≠ 127 → i' q = i q)
  | 0, k, i, u, v, hk, hO' => by
    refine ⟨i, u, v, by rw [show k = 4 by omega], fun j h1 h2 => by omega, fun _ _ => rfl, fun _ _ => rfl⟩
  | D + 1, k, i, u, v, hk, hO' => by
    obtain ⟨u1, v1, e1⟩ := hr_pi_loop (m := m) (w := w) (l := l) (e := e) (k := k) (by omega) hO' hw 16 0 false rfl
    have e1 : mm_V 312 81 [some (.ref 83), some (.int (nI k)), some (.int (bI false)), some (.int (nI 0))] [] (mm_Z m w i l e) = mm_V 312 72 [some (.ref 83), some (.int (nI (k + 1))), u1, v1] [] (mm_Z m w (mm_ww i 127 k (if hLv η k = true then i 127 k else -1)) l e) := by
      rw [e1, Bool.false_or]; rfl
    obtain ⟨i', u', v', g1, g2, g3, g4⟩ := hr_pp_loop hw D (k + 1) (mm_ww i 127 k (if hLv η k = true then i 127 k else -1)) u1 v1 (by omega) (fun o ho => by rw [mw_k (by omega)]; exact hO' o ho)
    refine ⟨i', u', v', ?_, ?_, ?_, fun q hq => by rw [g4 q hq, mw_k hq]⟩
    · rw [mr_312_72, na_4, if_pos ((nI_ltI (by omega) (by omega)).mpr (by omega)), ← na_4] 
      exact e1.trans g1
    · intro j h1 h2
      by_cases z : j = k
      · subst z; rw [g3 j (by omega), mw_s]
      · rw [g2 j (by omega) h2, mw_j z]
    · intro j h1
      rw [g3 j (by omega), mw_j (by omega)]
theorem hr_clean {i : Nat → Nat → Int32} (H : HRw i η) (hw : HWw η) (hT : TR i τ) (hTw : TW τ) : ∃ i', mm_V 312 0 [some (.ref 83), none, none, none] [] (mm_Z m w i l e) = some (.inl none, mm_Z m w i' l e) ∧ HR i' (hCl η) ∧ TR i' (tSwp (hHe η) 31 1 τ) ∧ (∀ q, q ≠ 123 → q ≠ 127 → q ≠ 113 → i' q = i q) := by
  obtain ⟨a1, a2, a3, a4⟩ := H
  obtain ⟨i1, u1, v1, b1, b2, b3, b4⟩ := hr_cl_loop (m := m) (w := w) (l := l) (e := e) hw.2.1 16 0 i none none rfl a2
  have hO1 : ∀ o, o < 16 → i1 123 o = if hCt η o = 0 then -1 else nI (hN (hO η o)) := by
    intro o ho
    rw [b2 o (Nat.zero_le _) ho]
    by_cases z : hCt η o = 0
    · rw [if_pos z, if_pos z]
    · rw [if_neg z, if_neg z]; exact (a3 o ho z).1
  obtain ⟨i2, u2, v2, c1, c2, c3, c4⟩ := hr_pp_loop (m := m) (w := w) (l := l) (e := e) hw 4 0 i1 u1 v1 rfl hO1
  have H2 : HR i2 (hCl η) := by
    refine ⟨fun p hp => by rw [c4 _ (by omega), b4 _ (by omega)]; exact a1 p hp, fun k hk => by rw [c4 _ (by omega), b4 _ (by omega)]; exact a2 k hk, fun o ho => ?_, fun k hk => ?_⟩
    · rw [c4 _ (by omega), c4 _ (by omega), c4 _ (by omega), c4 _ (by omega), b4 124 (by omega), b4 125 (by omega), b4 126 (by omega)]
      exact ⟨hO1 o ho, fun z => (a3 o ho z).2⟩
    · rw [c2 k (Nat.zero_le _) hk, c4 _ (by omega), c4 _ (by omega), b4 128 (by omega), b4 129 (by omega), b4 127 (by omega)]
      show (if hLv η k = true then i 127 k else -1) = nI (if k < 4 ∧ hLv η k = false then 0 else hC η k) - 1 ∧ ((if k < 4 ∧ hLv η k = false then 0 else hC η k) ≠ 0 → _)
      by_cases z : hLv η k = true
      · rw [if_pos z, if_neg (fun y => by rw [z] at y; cases y.2)]
        exact a4 k hk
      · rw [if_neg z, if_pos ⟨hk, Bool.eq_false_iff.mpr z⟩]
        exact ⟨by decide, fun y => absurd rfl y⟩
  have hwC : HW (hCl η) := hw.cl
  have hT2 : TR i2 τ := hT.kp (fun k j h1 h2 => by rw [c4 _ (by omega), b4 _ (by omega)])
  have hhe : ∀ n, n < 32 → hHe η n = tAny (fun o => decide (i2 123 o = nI n)) 16 0 := fun n hn => hr_held (η := hCl η) H2 hwC hn
  obtain ⟨i3, d1, d2, d3⟩ := tr_sweep (m := m) (w := w) (l := l) (e := e) hhe hT2 hTw
  refine ⟨i3, ?_, ?_, d2, fun q h1 h2 h3 => by rw [d3 q h3, c4 q h2, b4 q h1]⟩
  · rw [mr_312_0, na_0, b1, c1, mr_312_72, na_4, if_neg (by rw [nI_ltI (by omega) (by omega)]; omega), d1, mb_l, mb_0, mr_312_150]
  · obtain ⟨f1, f2, f3, f4⟩ := H2
    refine ⟨fun p hp => by rw [d3 _ (by omega)]; exact f1 p hp, fun k hk => by rw [d3 _ (by omega)]; exact f2 k hk, fun o ho => ?_, fun k hk => ?_⟩
    · rw [d3 123 (by omega), d3 124 (by omega), d3 125 (by omega), d3 126 (by omega)]; exact f3 o ho
    · rw [d3 127 (by omega), d3 128 (by omega), d3 129 (by omega)]; exact f4 k hk
end MM88
