/-! THE SMALL MACHINE WITHOUT FUEL: the value of a run, and its equation -/
section MM40
abbrev mm_R : Type := (Option Value ⊕ Nat) × mm_M
/-- one step, the rest of the run being F -/
def mm_bd (F : Nat → Nat → List (Option Value) → List Value → mm_M → Option mm_R) (m pc : Nat) (L : List (Option Value)) (S : List Value) (μ : mm_M) : Option mm_R := match mm_at m pc with
    | none => none
    | some en => match mm_st m pc en L S μ with
      | some (pc', L', S', μ') => F m pc' L' S' μ'
      | none => match mm_cl0 en with
        | some (a, k, v) => match mm_pop k S with
          | some (As, rest) => if (v = true ∧ mm_rc a μ As = false) ∨ mm_ml a < (mm_sl0 As).length then none else match F a 0 (mm_L0 (mm_ml a) As) [] μ with
            | some (.inl w, μ') => F m (pc + 3) L (w.toList ++ rest) μ'
            | some (.inr E, μ') => if mm_mt m a en.1 = true then match mm_ca pc E (mm_hh m) with
              | some h => match mm_hs m h with
                | some (k, pc') => F m pc' (mm_forget L k) [] μ'
                | none => none
              | none => if mm_hh m = [] then some (.inr E, μ') else none
              else none
            | none => none
          | none => none
        | none => match mm_rt m en.1 S with
          | some w => some (.inl w, μ)
          | none => match mm_tr m pc en with
            | some E => if mm_hh m = [] ∧ S = [] then some (.inr E, mm_th μ) else none
            | none => none
theorem mm_run_bd (n m pc : Nat) (L : List (Option Value)) (S : List Value) (μ : mm_M) : mm_run (n + 1) m pc L S μ = mm_bd (mm_run n) m pc L S μ := rfl
/-- a step asks the rest at finitely many places -/
theorem mm_bd_ex {F : Nat → Nat → List (Option Value) → List Value → mm_M → Option mm_R} {G : Nat → Nat → Nat → List (Option Value) → List Value → mm_M → Option mm_R} (hG : ∀ (n k m pc : Nat) (L : List (Option Value)) (S : List Value) (μ : mm_M) (r : mm_R), n ≤ k → G n m pc L S μ = some r → G k m pc L S μ = some r) (h : ∀ (m pc : Nat) (L : List (Option Value)) (S : List Value) (μ : mm_M) (r : mm_R), F m pc L S μ = some r → ∃ n, G n m pc L S μ = some r) {m pc : Nat} {L : List (Option Value)} {S : List Value} {μ : mm_M} {r : mm_R} (q : mm_bd F m pc L S μ = some r) : ∃ n, mm_bd (G n) m pc L S μ = some r := by
  unfold mm_bd at q
  split at q
  · cases q
  · rename_i en hen
    split at q
    · rename_i hs
      obtain ⟨n, hn⟩ := h _ _ _ _ _ _ q
      refine ⟨n, ?_⟩
      unfold mm_bd
      simp only [hen, hs]
      exact hn
    · rename_i hs
      split at q
      · rename_i hc
        split at q
        · rename_i hp
          split at q
          · cases q
          · rename_i hi
            split at q
            · rename_i hF
              obtain ⟨n1, h1⟩ := h _ _ _ _ _ _ hF
              obtain ⟨n2, h2⟩ := h _ _ _ _ _ _ q
              refine ⟨n1 + n2, ?_⟩
              unfold mm_bd
              simp only [hen, hs, hc, hp, if_neg hi, hG n1 (n1 + n2) _ _ _ _ _ _ (by omega) h1]
              exact hG n2 (n1 + n2) _ _ _ _ _ _ (by omega) h2
            · rename_i hF
              obtain ⟨n1, h1⟩ := h _ _ _ _ _ _ hF
              split at q
              · rename_i hm
                split at q
                · rename_i hca
                  split at q
                  · rename_i hhs
                    obtain ⟨n2, h2⟩ := h _ _ _ _ _ _ q
                    refine ⟨n1 + n2, ?_⟩
                    unfold mm_bd
                    simp only [hen, hs, hc, hp, if_neg hi, hG n1 (n1 + n2) _ _ _ _ _ _ (by omega) h1, if_pos hm, hca, hhs]
                    exact hG n2 (n1 + n2) _ _ _ _ _ _ (by omega) h2
                  · cases q
                · rename_i hca
                  refine ⟨n1, ?_⟩
                  unfold mm_bd
                  simp only [hen, hs, hc, hp, if_neg hi, h1, if_pos hm, hca]
                  exact q
              · cases q
            · cases q
        · cases q
      · rename_i hc
        refine ⟨0, ?_⟩
        unfold mm_bd
        simp only [hen, hs, hc]
        exact q
theorem mm_bd_le {F G : Nat → Nat → List (Option Value) → List Value → mm_M → Option mm_R} (h : ∀ (m pc : Nat) (L : List (Option Value)) (S : List Value) (μ : mm_M) (r : mm_R), F m pc L S μ = some r → G m pc L S μ = some r) {m pc : Nat} {L : List (Option Value)} {S : List Value} {μ : mm_M} {r : mm_R} (q : mm_bd F m pc L S μ = some r) : mm_bd G m pc L S μ = some r := by
  obtain ⟨-, h1⟩ := mm_bd_ex (G := fun _ => G) (fun _ _ _ _ _ _ _ _ _ e => e) (fun m pc L S μ r e => ⟨0, h m pc L S μ r e⟩) q
  exact h1
theorem mm_mono1 : ∀ (n m pc : Nat) (L : List (Option Value)) (S : List Value) (μ : mm_M) (r : mm_R), mm_run n m pc L S μ = some r → mm_run (n + 1) m pc L S μ = some r
  | 0, _, _, _, _, _, _, h => by cases h
  | n + 1, m, pc, L, S, μ, r, h => by
    rw [mm_run_bd] at h ⊢
    exact mm_bd_le (mm_mono1 n) h
theorem mm_mono (n k m pc : Nat) (L : List (Option Value)) (S : List Value) (μ : mm_M) (r : mm_R) (hk : n ≤ k) (h : mm_run n m pc L S μ = some r) : mm_run k m pc L S μ = some r := by
  induction hk with
  | refl => exact h
  | step _ ih => exact mm_mono1 _ _ _ _ _ _ _ ih
/-- the value of a run -/
noncomputable def mm_V (m pc : Nat) (L : List (Option Value)) (S : List Value) (μ : mm_M) : Option mm_R := @dite (Option mm_R) (∃ r n, mm_run n m pc L S μ = some r) (Classical.propDecidable _) (fun h => some (Classical.choose h)) (fun _ => none)
theorem mm_V_of {n m pc : Nat} {L : List (Option Value)} {S : List Value} {μ : mm_M} {r : mm_R} (h : mm_run n m pc L S μ = some r) : mm_V m pc L S μ = some r := by
  have hx : ∃ r n, mm_run n m pc L S μ = some r := ⟨r, n, h⟩
  unfold mm_V
  rw [dif_pos hx]
  obtain ⟨k, hk⟩ := Classical.choose_spec hx
  have h1 := mm_mono n (n + k) _ _ _ _ _ _ (by omega) h
  have h2 := mm_mono k (n + k) _ _ _ _ _ _ (by omega) hk
  rw [← h2, h1]
theorem mm_V_ex {m pc : Nat} {L : List (Option Value)} {S : List Value} {μ : mm_M} {r : mm_R} (h : mm_V m pc L S μ = some r) : ∃ n, mm_run n m pc L S μ = some r := by
  unfold mm_V at h
  split at h
  · rename_i hx
    cases h
    exact Classical.choose_spec hx
  · cases h
theorem mm_V_eq (m pc : Nat) (L : List (Option Value)) (S : List Value) (μ : mm_M) : mm_V m pc L S μ = mm_bd mm_V m pc L S μ := by
  cases h : mm_V m pc L S μ with
  | some r =>
    obtain ⟨n, hn⟩ := mm_V_ex h
    cases n with
    | zero => cases hn
    | succ n =>
      rw [mm_run_bd] at hn
      exact (mm_bd_le (fun _ _ _ _ _ _ e => mm_V_of e) hn).symm
  | none =>
    cases h2 : mm_bd mm_V m pc L S μ with
    | none => rfl
    | some r =>
      obtain ⟨n, hn⟩ := mm_bd_ex (F := mm_V) (G := mm_run) mm_mono (fun _ _ _ _ _ _ e => mm_V_ex e) h2
      rw [← mm_run_bd] at hn
      rw [mm_V_of hn] at h
      cases h
end MM40
