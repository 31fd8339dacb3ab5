section MMh
theorem mm_one : mm_One := ⟨mm_w_in (i := 1035) (by decide +kernel), mm_w_in (i := 1036) (by decide +kernel), mm_w_in (i := 3123) (by decide +kernel), mm_w_in (i := 3122) (by decide +kernel), mm_w_in (i := 1025) (by decide +kernel), mm_w_in (i := 1142) (by decide +kernel), mm_w_in (i := 1053) (by decide +kernel), mm_w_in (i := 8198) (by decide +kernel), mm_w_in (i := 1168) (by decide +kernel), mm_w_in (i := 1026) (by decide +kernel), mm_w_in (i := 3172) (by decide +kernel), mm_w_in (i := 7034) (by decide +kernel), mm_w_in (i := 3173) (by decide +kernel), mm_w_in (i := 7035) (by decide +kernel)⟩
def mm_xps : List (Nat × Nat × Nat) := [(13, 0, 5037), (15, 1, 5038), (25, 2, 5146), (43, 3, 6158), (81, 4, 7024)]
theorem mm_xps_ok : mm_xps.all (fun q => decide (mm_as mm_xls q.1 = some q.2.1) && decide (q.2.1 < 5) && decide (q.1 ≠ 0) && decide (mm_w q.2.2 = some (.classLink (mm_RN 13) q.1 (mm_XN q.2.1)))) = true := by decide +kernel
theorem mm_hh_ok : (List.range 363).all (fun k => (mm_hh k).all (fun x => decide (mm_ow k = 13) && mm_xps.any (fun q => decide (q.1 = x.2.2.2)))) = true := by decide +kernel
theorem mm_cas : ∀ E, E < 5 → Cond.castable (mm_XN E) (mm_XN E) ∈ lw_tbl := by
  intro E h
  rcases (show E = 0 ∨ E = 1 ∨ E = 2 ∨ E = 3 ∨ E = 4 by omega) with rfl | rfl | rfl | rfl | rfl
  · exact mm_w_in (i := 5048) (by decide +kernel)
  · exact mm_w_in (i := 5117) (by decide +kernel)
  · exact mm_w_in (i := 6090) (by decide +kernel)
  · exact mm_w_in (i := 6172) (by decide +kernel)
  · exact mm_w_in (i := 7038) (by decide +kernel)
theorem mm_hnd : mm_Hnd := by
  refine ⟨fun k x hx => ?_, mm_cas⟩
  have hk : k < 363 := by
    rcases Nat.lt_or_ge k 363 with h | h
    · exact h
    · exfalso
      have hl : mm_hhs.length = 363 := by decide +kernel
      have e : mm_hh k = [] := by
        unfold mm_hh
        rw [List.getD_eq_getElem?_getD, List.getElem?_eq_none (by omega)]
        rfl
      rw [e] at hx
      cases hx
  have h1 := List.all_eq_true.mp mm_hh_ok k (List.mem_range.mpr hk)
  have h2 := List.all_eq_true.mp h1 x hx
  simp only [Bool.and_eq_true, decide_eq_true_eq] at h2
  obtain ⟨q, hq, h3⟩ := List.any_eq_true.mp h2.2
  have h4 := List.all_eq_true.mp mm_xps_ok q hq
  simp only [Bool.and_eq_true, decide_eq_true_eq] at h3 h4
  obtain ⟨⟨⟨g1, g2⟩, g3⟩, g4⟩ := h4
  rw [h3] at g1 g3 g4
  exact ⟨g3, q.2.1, g2, g1, by rw [h2.1]; exact mm_w_in g4⟩
end MMh
