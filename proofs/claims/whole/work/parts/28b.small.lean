section MMb2
theorem mm_pf_cn {μ μ' : mm_M} {o ci k : Nat} {v : Value} (h : mm_pf μ o ci k v = some μ') : mm_cn μ' = mm_cn μ ∧ mm_sn μ' = mm_sn μ := by
  unfold mm_pf at h
  split at h
  · split at h
    · cases h; exact ⟨rfl, rfl⟩
    · cases h
  · split at h
    · split at h
      · cases h; exact ⟨rfl, rfl⟩
      · cases h
    · cases h
  · split at h
    · cases h; exact ⟨rfl, rfl⟩
    · cases h
  · split at h
    · cases h; exact ⟨rfl, rfl⟩
    · cases h
  · cases h
set_option maxHeartbeats 2000000 in
theorem mm_sM_cs {en : mm_E} {S S' : List Value} {μ μ' : mm_M} (h : mm_sM en S μ = some (S', μ')) : mm_cn μ' = mm_cn μ ∧ mm_sn μ' = mm_sn μ := by
  unfold mm_sM at h
  repeat' split at h
  all_goals first
    | (cases h; done)
    | (cases h; exact ⟨rfl, rfl⟩)
    | (rename_i hpf; cases h; exact mm_pf_cn hpf)
theorem mm_sM_cn {en : mm_E} {S S' : List Value} {μ μ' : mm_M} (h : mm_sM en S μ = some (S', μ')) : mm_cn μ' = mm_cn μ := (mm_sM_cs h).1
theorem mm_sM_sn {en : mm_E} {S S' : List Value} {μ μ' : mm_M} (h : mm_sM en S μ = some (S', μ')) : mm_sn μ' = mm_sn μ := (mm_sM_cs h).2
theorem mm_sG_inv {en : mm_E} {S S' : List Value} (h : mm_sG en S = some S') : ∃ i, en.1 = .invokevirtual i := by
  unfold mm_sG at h
  split at h
  · rename_i i hi
    exact ⟨_, hi⟩
  · cases h
theorem mm_rt_len {k : Nat} {en : mm_E} {S : List Value} {w : Option Value} (h : mm_rt k en.1 S = some w) (hN : mm_NOK k en) : en.2.1 = 1 := by
  obtain ⟨ins, len, a, bb, v0⟩ := en
  unfold mm_rt at h
  unfold mm_NOK at hN
  dsimp only at h hN ⊢
  split at h
  · exact hN
  · exact hN
  · exact hN
  · exact hN
  · cases h
theorem mm_cl0_len {en : mm_E} {a kk : Nat} {v : Bool} (h : mm_cl0 en = some (a, kk, v)) : en.2.1 = 3 := by
  unfold mm_cl0 at h
  split at h
  · split at h
    · rename_i h9; exact h9.1
    · cases h
  · split at h
    · rename_i h9; exact h9.1
    · cases h
  · split at h
    · rename_i h9; exact h9.1
    · cases h
  · cases h
end MMb2
