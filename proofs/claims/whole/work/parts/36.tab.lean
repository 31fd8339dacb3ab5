section MMg
theorem mm_anyE {α : Type} {l : List α} {f : α → Bool} (h : l.any f = true) : ∃ q, q ∈ l ∧ f q = true := List.any_eq_true.mp h
set_option maxHeartbeats 2000000 in
theorem mm_eck_ok {k pc : Nat} {en : mm_E} (h : mm_eck k pc en = true) : decode (mm_B k) pc = .ok (en.1, en.2.1) ∧ mm_EOK (mm_ow k) (mm_in k) en ∧ mm_NOK k en ∧ mm_COK k en := by
  obtain ⟨ins, len, a, nb, v⟩ := en
  unfold mm_eck at h
  rw [Bool.and_eq_true, decide_eq_true_eq] at h
  obtain ⟨hd, h⟩ := h
  dsimp only at h hd ⊢
  refine ⟨hd, ?_⟩
  cases ins
  case getfield i =>
    simp only [Bool.and_eq_true, decide_eq_true_eq] at h
    obtain ⟨q, hq, h2⟩ := mm_anyE h.2
    simp only [Bool.and_eq_true, decide_eq_true_eq] at h2
    obtain ⟨⟨e1, e2⟩, e3⟩ := h2
    have h3 := (mm_fl_ok hq).1
    rw [e1, e2, e3] at h3
    exact ⟨⟨h.1, h3⟩, trivial, trivial⟩
  case putfield i =>
    simp only [Bool.and_eq_true, decide_eq_true_eq] at h
    obtain ⟨q, hq, h2⟩ := mm_anyE h.2
    simp only [Bool.and_eq_true, decide_eq_true_eq, Bool.or_eq_true, Bool.not_eq_true'] at h2
    obtain ⟨⟨⟨e1, e2⟩, e3⟩, e4⟩ := h2
    have h3 := mm_fl_ok hq
    rw [e1, e2, e3] at h3
    refine ⟨⟨h.1, h3.1, fun hf => ?_⟩, trivial, trivial⟩
    rcases e4 with e4 | ⟨⟨e5, e6⟩, e7⟩
    · rw [hf] at e4; cases e4
    · exact ⟨e5, e6, h3.2 e7⟩
  case iaload => exact ⟨(of_decide_eq_true h : len = 1), trivial, trivial⟩
  case iastore => exact ⟨(of_decide_eq_true h : len = 1), trivial, trivial⟩
  case baload => exact ⟨(of_decide_eq_true h : len = 1), trivial, trivial⟩
  case bastore => exact ⟨(of_decide_eq_true h : len = 1), trivial, trivial⟩
  case laload => exact ⟨(of_decide_eq_true h : len = 1), trivial, trivial⟩
  case lastore => exact ⟨(of_decide_eq_true h : len = 1), trivial, trivial⟩
  case arraylength => exact ⟨(of_decide_eq_true h : len = 1), trivial, trivial⟩
  case ireturn => exact ⟨trivial, (of_decide_eq_true h : len = 1), trivial⟩
  case lreturn => exact ⟨trivial, (of_decide_eq_true h : len = 1), trivial⟩
  case areturn => exact ⟨trivial, (of_decide_eq_true h : len = 1), trivial⟩
  case return_ => exact ⟨trivial, (of_decide_eq_true h : len = 1), trivial⟩
  case ldc i =>
    refine ⟨trivial, ?_, trivial⟩
    dsimp only at h
    rw [Bool.or_eq_true] at h
    rcases h with h | h
    · obtain ⟨q, hq, h2⟩ := mm_anyE h
      simp only [Bool.and_eq_true, decide_eq_true_eq] at h2
      obtain ⟨⟨e1, e2⟩, e3⟩ := h2
      have h3 := mm_ki_ok hq
      rw [e1, e2] at h3
      exact Or.inl ⟨_, e3, h3⟩
    · obtain ⟨j, hj, h2⟩ := mm_anyE h
      split at h2
      · rename_i q hq
        simp only [Bool.and_eq_true, decide_eq_true_eq] at h2
        obtain ⟨⟨e1, e2⟩, e3⟩ := h2
        obtain ⟨q1, q2, q3⟩ := q
        dsimp only at e1 e2
        subst e1
        subst e2
        exact Or.inr ⟨j, _, q3, e3, rfl, hq⟩
      · cases h2
  case ldc_w i =>
    refine ⟨trivial, ?_, trivial⟩
    obtain ⟨q, hq, h2⟩ := mm_anyE h
    simp only [Bool.and_eq_true, decide_eq_true_eq] at h2
    obtain ⟨⟨e1, e2⟩, e3⟩ := h2
    have h3 := mm_ki_ok hq
    rw [e1, e2] at h3
    exact ⟨_, e3, h3⟩
  case ldc2_w i =>
    refine ⟨trivial, ?_, trivial⟩
    obtain ⟨q, hq, h2⟩ := mm_anyE h
    simp only [Bool.and_eq_true, decide_eq_true_eq] at h2
    obtain ⟨⟨e1, e2⟩, e3⟩ := h2
    have h3 := mm_kl2_ok hq
    rw [e1, e2] at h3
    exact ⟨_, e3, h3⟩
  case getstatic i =>
    refine ⟨trivial, ?_, trivial⟩
    obtain ⟨q, hq, h2⟩ := mm_anyE h
    simp only [Bool.and_eq_true, decide_eq_true_eq] at h2
    obtain ⟨⟨e1, e2⟩, e3⟩ := h2
    obtain ⟨z, hz, hw⟩ := mm_gs_ok hq
    rw [e1, e2] at hw
    exact ⟨q.2.2.1, z, hz, e3, hw⟩
  case new i =>
    refine ⟨trivial, fun ha => ?_, trivial⟩
    dsimp only at h
    simp only [Bool.or_eq_true, Bool.not_eq_true', decide_eq_false_iff_not] at h
    rcases h with h | h
    · exact absurd ha h
    · obtain ⟨q, hq, h2⟩ := mm_anyE h
      simp only [Bool.and_eq_true, decide_eq_true_eq] at h2
      obtain ⟨⟨e1, e2⟩, e3⟩ := h2
      have h3 := mm_nw_ok hq
      rw [e1, e2, e3] at h3
      exact h3
  case invokevirtual i =>
    refine ⟨trivial, trivial, fun ha => ?_⟩
    dsimp only at h
    simp only [Bool.or_eq_true, Bool.not_eq_true', decide_eq_false_iff_not, Bool.and_eq_true, decide_eq_true_eq] at h
    rcases h with h | ⟨⟨⟨⟨⟨⟨g1, g2⟩, g3⟩, g4⟩, g5⟩, g6⟩, g7⟩
    · exact absurd ha h
    · obtain ⟨q, hq, h2⟩ := mm_anyE g7
      simp only [Bool.and_eq_true, decide_eq_true_eq] at h2
      obtain ⟨⟨e1, e2⟩, e3⟩ := h2
      have hl := (mm_kl_ok hq).1 e3
      rw [e1, e2] at hl
      obtain ⟨f1, f2, f3, f4, f5, f6, f7⟩ := mm_mck_ok (mm_mcall g1 g2)
      obtain ⟨z1, z2, z3, z4⟩ := f5 g3
      have hc : Cond.code (mm_Y a) (mm_B a) (mm_ml a) (mm_T a) ∈ lw_tbl := mm_code_all g1 g2 z1
      exact ⟨⟨f1, g5, g6, f2, f3, by rw [g4]; exact f4⟩, z1, hc, hl, z2, z3, z4⟩
  case invokespecial i =>
    dsimp only at h
    split at h
    · rename_i ha
      refine ⟨trivial, fun e => absurd (show a = 903 from e) (by omega), fun _ => ?_⟩
      simp only [Bool.and_eq_true, decide_eq_true_eq] at h
      obtain ⟨⟨⟨⟨⟨⟨g1, g2⟩, g3⟩, g4⟩, g5⟩, g6⟩, g7⟩ := h
      obtain ⟨q, hq, h2⟩ := mm_anyE g7
      simp only [Bool.and_eq_true, decide_eq_true_eq] at h2
      obtain ⟨e1, e2⟩ := h2
      have hl := mm_kl_ok hq
      rw [e1, e2] at hl
      obtain ⟨f1, f2, f3, f4, f5, f6, f7⟩ := mm_mck_ok (mm_mcall g1 g2)
      obtain ⟨z1, z2, z3, z4⟩ := f7 g3
      have hc : Cond.code (mm_Y a) (mm_B a) (mm_ml a) (mm_T a) ∈ lw_tbl := mm_code_all g1 g2 z1
      refine ⟨⟨f1, g5, g6, f2, f3, by rw [g4]; exact f4⟩, z1, hc, z2, z3, z4, ?_⟩
      by_cases h0 : q.2.2.1 = 0
      · exact Or.inl (hl.1 h0)
      · exact Or.inr (hl.2 h0)
    · rename_i ha
      refine ⟨trivial, fun e => ?_, fun q => absurd q ha⟩
      simp only [Bool.and_eq_true, decide_eq_true_eq] at h
      obtain ⟨⟨⟨g1, g2⟩, g3⟩, g4⟩ := h
      obtain ⟨q, hq, h2⟩ := mm_anyE g4
      simp only [Bool.and_eq_true, decide_eq_true_eq] at h2
      obtain ⟨⟨e1, e2⟩, e3⟩ := h2
      have hl := mm_lb_ok hq
      rw [e1, e2, e3, g1] at hl
      exact ⟨hl, g2, by omega⟩
  case invokestatic i =>
    dsimp only at h
    split at h
    · rename_i ha
      refine ⟨trivial, ⟨fun e => absurd (show a = 902 from e) (by omega), fun e => absurd (show a = 904 from e) (by omega), fun e => absurd (show a = 905 from e) (by omega)⟩, fun _ => ?_⟩
      simp only [Bool.and_eq_true, decide_eq_true_eq] at h
      obtain ⟨⟨⟨⟨⟨⟨g1, g2⟩, g3⟩, g4⟩, g5⟩, g6⟩, g7⟩ := h
      obtain ⟨q, hq, h2⟩ := mm_anyE g7
      simp only [Bool.and_eq_true, decide_eq_true_eq, Bool.or_eq_true] at h2
      obtain ⟨⟨e1, e2⟩, e3⟩ := h2
      have hl := mm_kl_ok hq
      rw [e1, e2] at hl
      obtain ⟨f1, f2, f3, f4, f5, f6, f7⟩ := mm_mck_ok (mm_mcall g1 g2)
      refine ⟨⟨f1, g5, g6, f2, f3, by rw [g4]; exact f4⟩, f6 g3, ?_⟩
      by_cases h0 : q.2.2.1 = 0
      · rcases mm_cwall g1 g2 with w | w
        · exact Or.inl ⟨w.2, w.1, Or.inl (hl.1 h0)⟩
        · exact Or.inr ⟨w, hl.1 h0⟩
      · rcases e3 with e3 | ⟨e3, e4⟩
        · exact absurd e3 h0
        · have hc : Cond.code (mm_Y a) (mm_B a) (mm_ml a) (mm_T a) ∈ lw_tbl := mm_code_all g1 g2 e4
          exact Or.inl ⟨e4, hc, Or.inr ⟨hl.2 h0, e3⟩⟩
    · rename_i ha
      simp only [Bool.and_eq_true, decide_eq_true_eq] at h
      obtain ⟨⟨⟨g1, g2⟩, g3⟩, g4⟩ := h
      obtain ⟨q, hq, h2⟩ := mm_anyE g4
      simp only [Bool.and_eq_true, decide_eq_true_eq] at h2
      obtain ⟨⟨e1, e2⟩, e3⟩ := h2
      have hl := mm_lb_ok hq
      rw [e1, e2, e3] at hl
      refine ⟨trivial, ⟨fun e => ?_, fun e => ?_, fun e => ?_⟩, fun q => absurd q ha⟩
      · rw [show a = 902 from e] at hl; exact ⟨hl, g2, g3⟩
      · rw [show a = 904 from e] at hl; exact ⟨hl, g2, g3⟩
      · rw [show a = 905 from e] at hl; exact ⟨hl, g2, g3⟩
  all_goals exact ⟨trivial, trivial, trivial⟩
theorem mm_tab : mm_Tab := fun _ _ _ h => mm_eck_ok (mm_at_ck h)
end MMg
