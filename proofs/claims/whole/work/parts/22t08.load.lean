/-! THE WORLD of both, and load in the class -/
section MM184
variable {X : mX} {w : Bool} {i i' : Nat → Nat → Int32} {l : Nat → Nat → Int64} {m : Nat} {e : Bool × Nat × Nat} {n k j b : Nat} {x x1 : Int32} {π : mP} {ψ : mS}
theorem nb_f {a c : Nat} (h : ¬ a = c) : Nat.beq a c = false := by
  cases q : Nat.beq a c
  · rfl
  · exact absurd (Nat.eq_of_beq_eq_true q) h
theorem r0_ne (h1 : ¬ (k = 3 ∧ j = 1)) (h2 : ¬ (k = 30 ∧ j = 0)) : mm_R0 w k j = (mm_r0.getD k []).getD j .null := by
  have a1 : (Nat.beq k 3 && Nat.beq j 1) = false := by
    by_cases z : k = 3
    · rw [nb_f (a := j) (c := 1) (fun y => h1 ⟨z, y⟩), Bool.and_false]
    · rw [nb_f z, Bool.false_and]
  have a2 : (Nat.beq k 30 && Nat.beq j 0) = false := by
    by_cases z : k = 30
    · rw [nb_f (a := j) (c := 0) (fun y => h2 ⟨z, y⟩), Bool.and_false]
    · rw [nb_f z, Bool.false_and]
  unfold mm_R0
  rw [a1, a2]
  rfl
theorem r0_swap (w : Bool) : va_up (va_up (mm_R0 w) 3 (va_up (mm_R0 w 3) 1 (.ref (mm_P w)))) 30 (va_up (va_up (mm_R0 w) 3 (va_up (mm_R0 w 3) 1 (.ref (mm_P w))) 30) 0 (.ref (mm_P (!w)))) = mm_R0 (!w) := by
  funext k j
  by_cases h1 : k = 30
  · subst h1
    by_cases h2 : j = 0
    · subst h2; cases w <;> rfl
    · rw [r0_ne (w := !w) (by omega) (by omega), ← r0_ne (w := w) (by omega) (by omega)]
      simp [va_up, h2]
  · by_cases h3 : k = 3
    · subst h3
      by_cases h4 : j = 1
      · subst h4; cases w <;> rfl
      · rw [r0_ne (w := !w) (by omega) (by omega), ← r0_ne (w := w) (by omega) (by omega)]
        simp [va_up, h4]
    · rw [r0_ne (w := !w) (by omega) (by omega), ← r0_ne (w := w) (by omega) (by omega)]
      simp [va_up, h1, h3]
theorem c_exch (w : Bool) : mm_V 1 0 [some (.ref 3), some (.ref (mm_P w)), none] [] (mm_Z m w i l e) = some (.inl (some (.ref (mm_P (!w)))), (mm_T0 m, i, l, va_up (mm_R0 w) 3 (va_up (mm_R0 w 3) 1 (.ref (mm_P w))), 147, e)) := by
  cases w <;> exact (mv_aload_n mj_1 rfl rfl (q := 1) rfl (mv_getR mj_1 rfl rfl rfl rfl (q := 4) rfl (mv_astore_n _ mj_1 rfl rfl rfl (q := 5) rfl (mv_aload_n mj_1 rfl rfl (q := 6) rfl (mv_aload_n mj_1 rfl rfl (q := 7) rfl (mv_putR mj_1 rfl rfl rfl (q := 10) rfl (mv_aload_n mj_1 rfl rfl (q := 11) rfl (mv_aret mj_1 rfl))))))))
theorem c_emptyC {R : Nat → Nat → Value} : mm_V 34 0 [some (.ref 30)] [] (mm_T0 m, i, l, R, 147, e) = some (.inl none, (mm_T0 m, mm_ww i 30 8 0, l, R, 147, e)) :=
  mv_aload_n mj_34 rfl rfl (q := 1) rfl (mv_iconst 0 mj_34 rfl rfl (q := 2) rfl (mv_putI mj_34 rfl rfl rfl (q := 5) rfl (mv_vret mj_34 rfl)))
theorem c_take {R : Nat → Nat → Value} (w : Bool) : mm_V 33 0 [some (.ref 30), some (.ref (mm_P w))] [] (mm_T0 m, i, l, R, 147, e) = some (.inl none, (mm_T0 m, mm_ww (mm_ww i 30 1 1) 30 8 0, l, va_up R 30 (va_up (R 30) 0 (.ref (mm_P w))), 147, e)) := by
  have h : mm_V 33 10 [some (.ref 30), some (.ref (mm_P w))] [] (mm_T0 m, mm_ww i 30 1 1, l, va_up R 30 (va_up (R 30) 0 (.ref (mm_P w))), 147, e) = mm_bi true (mm_V 34 0 [some (.ref 30)] [] (mm_T0 m, mm_ww i 30 1 1, l, va_up R 30 (va_up (R 30) 0 (.ref (mm_P w))), 147, e)) (fun v μ => mm_V 33 14 [some (.ref 30), some (.ref (mm_P w))] (v.toList ++ []) μ) :=
    mv_aload_n mj_33 rfl rfl (q := 11) rfl (mv_callV mj_33 rfl mj_34 rfl rfl rfl rfl rfl rfl)
  have h14 : ∀ μ, mm_V 33 14 [some (.ref 30), some (.ref (mm_P w))] [] μ = some (.inl none, μ) := fun μ => mv_vret mj_33 rfl
  rw [c_emptyC, mb_l, mb_0, h14] at h
  exact mv_aload_n mj_33 rfl rfl (q := 1) rfl (mv_aload_n mj_33 rfl rfl (q := 2) rfl (mv_putR mj_33 rfl rfl rfl (q := 5) rfl (mv_aload_n mj_33 rfl rfl (q := 6) rfl (mv_iconst 1 mj_33 rfl rfl (q := 7) rfl (mv_putZ mj_33 rfl rfl rfl (Or.inr rfl) (q := 10) rfl h)))))
theorem c_swap : mm_V 159 66 [some (.ref 0), some (.int x1)] [] (mm_Z m w i l e) = mm_V 159 87 [some (.ref 0), some (.int x1)] [] (mm_Z m (!w) (mm_ww (mm_ww i 30 1 1) 30 8 0) l e) := by
  have h : mm_V 159 84 [some (.ref 0), some (.int x1)] [.ref (mm_P (!w)), .ref 30] (mm_T0 m, i, l, va_up (mm_R0 w) 3 (va_up (mm_R0 w 3) 1 (.ref (mm_P w))), 147, e) = mm_bi true (mm_V 33 0 [some (.ref 30), some (.ref (mm_P (!w)))] [] (mm_T0 m, i, l, va_up (mm_R0 w) 3 (va_up (mm_R0 w 3) 1 (.ref (mm_P w))), 147, e)) (fun v μ => mm_V 159 87 [some (.ref 0), some (.int x1)] (v.toList ++ []) μ) := by
    cases w <;> exact mv_callV mj_159 rfl mj_33 rfl rfl rfl rfl rfl rfl
  rw [mr_159_66, c_exch, mb_l, mb_v, h, c_take, mb_l, mb_0, r0_swap]
end MM184
