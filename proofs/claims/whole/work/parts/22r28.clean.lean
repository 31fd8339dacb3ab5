/-! HOLDINGS: what goes when a handle goes; the reference's clean -/
section MM87
variable {w : Bool} {l : Nat → Nat → Int64} {e : Bool × Nat × Nat} {η : mH} {τ : mT} {m p h o q : Nat}
/-- a node without links: dropping it leaves the others' links -/
theorem tL_dr {n x : Nat} (hb : tk τ n = 2 → ts τ n = 0) : tL (tDr τ n) x = tL τ x := by
  unfold tL
  have : tLd (tDr τ n) x = tLd τ x := by
    funext d
    unfold tLd
    by_cases z : d = n
    · subst z
      rw [tk_tDr, up_s, if_neg (by omega)]
      by_cases q : tk τ d = 2
      · rw [if_pos q, hb q]; rfl
      · rw [if_neg q]
    · rw [tk_tDr, up_n z]; rfl
  rw [this]
theorem swp_none {held : Nat → Bool} : ∀ (D k : Nat), (∀ j, k ≤ j → j < k + D → ¬ (tk τ j ≠ 0 ∧ tL τ j = 0 ∧ held j = false)) → tSwp held D k τ = τ
  | 0, _, _ => rfl
  | D + 1, k, h => by
    rw [tSwp, if_neg (h k (Nat.le_refl _) (by omega))]
    exact swp_none D (k + 1) (fun j a b => h j (by omega) (by omega))
theorem swp_one {held : Nat → Bool} {n : Nat} (hb : tk τ n = 2 → tL τ n = 0 → ts τ n = 0) : ∀ (D k : Nat), k ≤ n → n < k + D → (∀ j, k ≤ j → j < k + D → j ≠ n → ¬ (tk τ j ≠ 0 ∧ tL τ j = 0 ∧ held j = false)) → tSwp held D k τ = if tk τ n ≠ 0 ∧ tL τ n = 0 ∧ held n = false then tDr τ n else τ
  | 0, k, h1, h2, _ => by omega
  | D + 1, k, h1, h2, h => by
    rw [tSwp]
    by_cases z : k = n
    · subst z
      by_cases c : tk τ k ≠ 0 ∧ tL τ k = 0 ∧ held k = false
      · rw [if_pos c]
        refine swp_none D (k + 1) (fun j a b => ?_)
        have := h j (by omega) (by omega) (by omega)
        rw [tL_dr (fun q => hb q c.2.1), tk_tDr, up_n (by omega)]
        exact this
      · rw [if_neg c]
        exact swp_none D (k + 1) (fun j a b => h j (by omega) (by omega) (by omega))
    · rw [if_neg (h k (Nat.le_refl _) (by omega) z)]
      exact swp_one hb D (k + 1) (by omega) (by omega) (fun j a b => h j (by omega) (by omega))
/-- is pipe k told? -/
def hLv (η : mH) (k : Nat) : Bool := tAny (fun o => decide (hCt η o ≠ 0 ∧ (hO η o).1 = true ∧ (hO η o).2.1 = k)) 16 0
def hCl (η : mH) : mH := (hP η, hH η, hO η, fun k => if k < 4 ∧ hLv η k = false then 0 else hC η k, hS η, hB η)
/-- the reference's rows, where openings that aren't told may still stand -/
def HRw (i : Nat → Nat → Int32) (η : mH) : Prop := (∀ p, p < 8 → i 121 p = nI (hP η p) - 1) ∧ (∀ k, k < 48 → i 122 k = nI (hH η k) - 1) ∧ (∀ o, o < 16 → hCt η o ≠ 0 → i 123 o = nI (hN (hO η o)) ∧ i 124 o = nI (hO η o).2.2.1 ∧ i 125 o = nI (hO η o).2.2.2.1 ∧ i 126 o = nI (hO η o).2.2.2.2) ∧ (∀ k, k < 4 → i 127 k = nI (hC η k) - 1 ∧ (hC η k ≠ 0 → i 128 k = nI (hS η k) ∧ ∀ j, j < hS η k → i 129 (8 * k + j) = hB η k j))
theorem cnt_any {f : Nat → Bool} : ∀ (d k : Nat), tAny f d k = !decide (tCnt f d k = 0)
  | 0, _ => rfl
  | d + 1, k => by
    rw [tAny, tCnt, cnt_any d (k + 1)]
    cases hk : f k
    · simp
    · simp
theorem hr_told_loop {i : Nat → Nat → Int32} {o : Nat} (ho : o < 16) (hH' : ∀ k, k < 48 → i 122 k = nI (hH η k) - 1) (hb : ∀ k, k < 48 → hH η k ≤ 16) : ∀ (D k : Nat) (b : Bool), k + D = 48 → ∃ u v, mm_V 312 12 [some (.ref 83), some (.int (nI o)), some (.int (bI b)), some (.int (nI k))] [] (mm_Z m w i l e) = mm_V 312 2 [some (.ref 83), some (.int (nI (o + 1))), u, v] [] (mm_Z m w (mm_ww i 123 o (if (b || tAny (fun k => hH η k == o + 1) D k) = true then i 123 o else -1)) l e)
  | 0, k, b, hk => by
    have ho16 : ¬ mm_out (nI o) 16 := no_out ho (by omega)
    refine ⟨some (.int (bI b)), some (.int (nI k)), ?_⟩
    · rw [mr_312_12, na_48, if_neg (by rw [nI_ltI (by omega) (by omega)]; omega), tAny, Bool.or_false]
      simp only [if_neg ho16, nI_clamp (show o < 2 ^ 31 by omega), nI_1, bI_0]
      cases b
      · rw [if_pos rfl, if_neg (by decide)]
      · rw [if_neg (by decide), if_pos rfl]
  | D + 1, k, b, hk => by
    have hbk := hb k (by omega)
    rw [mr_312_12]
    simp only [na_48, nI_ltI (show k < 2 ^ 31 by omega) (show 48 < 2 ^ 31 by omega), nI_clamp (show k < 2 ^ 31 by omega), hH' k (by omega), nI_1, bI_0]
    rw [if_pos (show k < 48 by omega), if_neg (no_out (by omega) (by omega)), tAny]
    have hq : (nI (hH η k) - 1 = nI o) ↔ hH η k = o + 1 := by
      cases hz : hH η k with
      | zero => exact ⟨fun q => absurd q.symm (na_m1 (show o < 2 ^ 31 by omega)), fun q => by omega⟩
      | succ j => rw [nI_pred, nI_eq (by omega) (by omega)]; omega
    simp only [hq]
    cases b
    · rw [if_pos rfl]
      by_cases z : hH η k = o + 1
      · rw [if_pos z]
        have := hr_told_loop ho hH' hb D (k + 1) true (by omega)
        have e1 : (false || ((hH η k == o + 1) || tAny (fun k => hH η k == o + 1) D (k + 1))) = (true || tAny (fun k => hH η k == o + 1) D (k + 1)) := by simp [z]
        rw [e1]
        exact this
      · rw [if_neg z]
        have := hr_told_loop ho hH' hb D (k + 1) false (by omega)
        have e1 : (false || ((hH η k == o + 1) || tAny (fun k => hH η k == o + 1) D (k + 1))) = (false || tAny (fun k => hH η k == o + 1) D (k + 1)) := by simp [z]
        rw [e1]
        exact this
    · rw [if_neg (by decide)]
      have := hr_told_loop ho hH' hb D (k + 1) true (by omega)
      rw [Bool.true_or] at this ⊢
      exact this
end MM87
