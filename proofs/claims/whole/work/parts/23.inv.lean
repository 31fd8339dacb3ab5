/-! WHAT A RUN KEEPS: what was there before; the counts grow -/
section MM6
def mm_Inv (μ μ' : mm_M) : Prop := (∀ o, 1000000 ≤ o → μ'.1 o = μ.1 o ∧ μ'.2.1 o = μ.2.1 o) ∧ mm_nx μ ≤ mm_nx μ' ∧ mm_cn μ ≤ mm_cn μ' ∧ mm_sn μ ≤ mm_sn μ' ∧ (mm_ex μ' = true → mm_ex μ = true ∧ mm_cn μ' + mm_nx μ = mm_cn μ + mm_nx μ') ∧ (mm_nx μ ≤ 1000 → mm_nx μ' ≤ 1000)
theorem mm_Inv.rf (μ : mm_M) : mm_Inv μ μ := ⟨fun _ _ => ⟨rfl, rfl⟩, Nat.le_refl _, Nat.le_refl _, Nat.le_refl _, fun h => ⟨h, by omega⟩, fun h => h⟩
theorem mm_Inv.tr {a b c : mm_M} (h1 : mm_Inv a b) (h2 : mm_Inv b c) : mm_Inv a c := by
  obtain ⟨p1, p2, p3, p4, p5, p6⟩ := h1
  obtain ⟨q1, q2, q3, q4, q5, q6⟩ := h2
  refine ⟨fun o h => ⟨(q1 o h).1.trans (p1 o h).1, (q1 o h).2.trans (p1 o h).2⟩, Nat.le_trans p2 q2, Nat.le_trans p3 q3, Nat.le_trans p4 q4, fun h => ?_, fun h => q6 (p6 h)⟩
  obtain ⟨e1, e2⟩ := q5 h
  obtain ⟨e3, e4⟩ := p5 e1
  exact ⟨e3, by omega⟩
theorem mm_Inv.si {μ : mm_M} {k j : Nat} {x : Int32} (hk : k < 1000000) : mm_Inv μ (mm_si μ k j x) :=
  ⟨fun o h => ⟨rfl, mm_up_n (by omega)⟩, Nat.le_refl _, Nat.le_refl _, Nat.le_refl _, fun h => ⟨h, rfl⟩, fun h => h⟩
theorem mm_Inv.sa {μ : mm_M} {k : Nat} {f : Nat → Int32} (hk : k < 1000000) : mm_Inv μ (mm_sa μ k f) :=
  ⟨fun o h => ⟨rfl, mm_up_n (by omega)⟩, Nat.le_refl _, Nat.le_refl _, Nat.le_refl _, fun h => ⟨h, rfl⟩, fun h => h⟩
theorem mm_Inv.sl {μ : mm_M} {k j : Nat} {x : Int64} : mm_Inv μ (mm_sl μ k j x) :=
  ⟨fun _ _ => ⟨rfl, rfl⟩, Nat.le_refl _, Nat.le_refl _, Nat.le_refl _, fun h => ⟨h, rfl⟩, fun h => h⟩
theorem mm_Inv.sr {μ : mm_M} {k j : Nat} {x : Value} : mm_Inv μ (mm_sr μ k j x) :=
  ⟨fun _ _ => ⟨rfl, rfl⟩, Nat.le_refl _, Nat.le_refl _, Nat.le_refl _, fun h => ⟨h, rfl⟩, fun h => h⟩
theorem mm_Inv.al {μ : mm_M} {t : Nat × Nat} {n : Nat} (hk : mm_nx μ < 1000) : mm_Inv μ (mm_al μ t n) := by
  refine ⟨fun o h => ⟨mm_up_n (by omega), mm_up_n (by omega)⟩, ?_, ?_, ?_, fun h => ⟨h, ?_⟩, fun _ => ?_⟩
  · show mm_nx μ ≤ mm_nx μ + 1; omega
  · show mm_cn μ ≤ mm_cn μ + 1; omega
  · show mm_sn μ ≤ mm_sn μ + n; omega
  · show mm_cn μ + 1 + mm_nx μ = mm_cn μ + (mm_nx μ + 1); omega
  · show mm_nx μ + 1 ≤ 1000; omega
theorem mm_Inv.th {μ : mm_M} : mm_Inv μ (mm_th μ) := by
  refine ⟨fun _ _ => ⟨rfl, rfl⟩, Nat.le_refl _, ?_, ?_, fun h => ?_, fun h => h⟩
  · show mm_cn μ ≤ mm_cn μ + 1; omega
  · show mm_sn μ ≤ mm_sn μ + 6; omega
  · cases h
theorem mm_pf_inv {μ μ' : mm_M} {o ci k : Nat} {v : Value} (h : mm_pf μ o ci k v = some μ') (ho : o < 1000000) : mm_Inv μ μ' := by
  unfold mm_pf at h
  split at h
  · split at h
    · cases h; exact mm_Inv.si ho
    · cases h
  · split at h
    · split at h
      · cases h; exact mm_Inv.si ho
      · cases h
    · cases h
  · split at h
    · cases h; exact mm_Inv.sl
    · cases h
  · split at h
    · cases h; exact mm_Inv.sr
    · cases h
  · cases h
set_option maxHeartbeats 2000000 in
theorem mm_sM_inv {en : mm_E} {S S' : List Value} {μ μ' : mm_M} (h : mm_sM en S μ = some (S', μ')) (hn : mm_nx μ ≤ 1000) : mm_Inv μ μ' := by
  unfold mm_sM at h
  repeat' split at h
  all_goals first
    | (cases h; done)
    | (cases h; exact mm_Inv.rf _)
    | (cases h; exact mm_Inv.sl)
    | (cases h; rename_i hr _; exact mm_Inv.si (by have := hr.1; omega))
    | (rename_i hr _ _ hpf; cases h; exact mm_pf_inv hpf (by have := hr.1; omega))
set_option maxHeartbeats 2000000 in
theorem mm_sN_inv {en : mm_E} {S S' : List Value} {μ μ' : mm_M} (h : mm_sN en S μ = some (S', μ')) (hn : mm_nx μ ≤ 1000) : mm_Inv μ μ' := by
  unfold mm_sN at h
  repeat' split at h
  all_goals first
    | (cases h; done)
    | (cases h; exact mm_Inv.rf _)
    | (cases h; rename_i hr; exact mm_Inv.al hr.2.2.2)
    | (cases h; rename_i hr _ _; exact mm_Inv.al hr.2.2.2.2)
    | (cases h; rename_i hr; exact mm_Inv.sa (by have := hr.2.1.1; omega))
theorem mm_st_inv {m pc pc' : Nat} {en : mm_E} {L L' : List (Option Value)} {S S' : List Value} {μ μ' : mm_M} (h : mm_st m pc en L S μ = some (pc', L', S', μ')) (hn : mm_nx μ ≤ 1000) : mm_Inv μ μ' := by
  unfold mm_st at h
  split at h
  · cases h; exact mm_Inv.rf _
  · split at h
    · cases h; exact mm_Inv.rf _
    · split at h
      · rename_i hM
        cases h; exact mm_sM_inv hM hn
      · split at h
        · cases h; exact mm_Inv.rf _
        · split at h
          · cases h; exact mm_Inv.rf _
          · split at h
            · rename_i hN
              cases h; exact mm_sN_inv hN hn
            · split at h
              · cases h; exact mm_Inv.rf _
              · cases h
set_option maxHeartbeats 2000000 in
theorem mm_run_inv : ∀ (n m pc : Nat) (L : List (Option Value)) (S : List Value) (μ : mm_M) (o : Option Value ⊕ Nat) (μ' : mm_M), mm_run n m pc L S μ = some (o, μ') → mm_nx μ ≤ 1000 → mm_Inv μ μ' := by
  intro n
  induction n with
  | zero => intro m pc L S μ o μ' h; cases h
  | succ n ih =>
    intro m pc L S μ o μ' h hn
    simp only [mm_run] at h
    split at h
    · cases h
    · rename_i en hen
      split at h
      · rename_i pc1 L1 S1 μ1 hst
        have h1 := mm_st_inv hst hn
        exact h1.tr (ih _ _ _ _ _ _ _ h (h1.2.2.2.2.2 hn))
      · split at h
        · split at h
          · split at h
            · cases h
            · split at h
              · rename_i w μ1 hc
                have h1 := ih _ _ _ _ _ _ _ hc hn
                exact h1.tr (ih _ _ _ _ _ _ _ h (h1.2.2.2.2.2 hn))
              · rename_i E μ1 hc
                have h1 := ih _ _ _ _ _ _ _ hc hn
                split at h
                · split at h
                  · split at h
                    · exact h1.tr (ih _ _ _ _ _ _ _ h (h1.2.2.2.2.2 hn))
                    · cases h
                  · split at h
                    · cases h; exact h1
                    · cases h
                · cases h
              · cases h
          · cases h
        · split at h
          · cases h; exact mm_Inv.rf _
          · split at h
            · split at h
              · cases h; exact mm_Inv.th
              · cases h
            · cases h
end MM6
