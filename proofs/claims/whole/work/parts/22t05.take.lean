/-! TEXTS of the reference: taken, kept -/
section MM180
variable {X : mX} {w : Bool} {i i' : Nat → Nat → Int32} {l : Nat → Nat → Int64} {m : Nat} {e : Bool × Nat × Nat} {n k j c d : Nat} {x x1 x2 : Int32}
/-- the kept text -/
def XKp (X : mX) (i : Nat → Nat → Int32) : Prop := i 83 7 = nI (xz X) ∧ ∀ k, k < xz X → i 87 k = nI (xs X k)
theorem r_tak_loop (hz : xz X ≤ 1200) : ∀ (d k : Nat) (i : Nat → Nat → Int32), k + d = xz X → i 83 9 = nI (xz X) → (∀ j, j < xz X → i 84 j = nI (xs X j)) → (∀ j, j < k → i 88 j = nI (xs X j)) → ∃ i', mm_V 251 21 [some (.ref 83), some (.int 0), some (.int (nI k))] [] (mm_Z m w i l e) = some (.inl none, mm_Z m w i' l e) ∧ XR X i' ∧ mG (fun k _ => k = 88) i i' := by
  intro d
  induction d with
  | zero =>
    intro k i hk h9 h84 h88
    refine ⟨i, ?_, ⟨h9, fun j hj => h88 j (by omega)⟩, mG.rf⟩
    rw [mr_251_21, h9, if_neg (fun z => by have := (nI_ltI (by omega) (by omega)).mp z; omega)]
  | succ d ih =>
    intro k i hk h9 h84 h88
    obtain ⟨i1, e1, e2, e3⟩ := ih (k + 1) (mm_ww i 88 k (nI (xs X k))) (by omega) (by rw [mw_k (by omega)]; exact h9) (fun j hj => by rw [mw_k (by omega)]; exact h84 j hj) (fun j hj => by
      rw [mw_r]
      split
      · rename_i z; rw [z]
      · exact h88 j (by omega))
    refine ⟨i1, ?_, e2, (mG.ww (P := fun k _ => k = 88) rfl).tr e3⟩
    rw [mr_251_21, h9, if_pos ((nI_ltI (by omega) (by omega)).mpr (by omega)), if_pos rfl, if_neg (no_out (by omega) (by omega)), if_neg (no_out (by omega) (by omega)), nI_clamp (by omega), h84 k (by omega), nI_1, e1]
/-- the text that was put -/
theorem r_tak (hX : XP X i) (hw : XW X) : ∃ i', mm_V 251 0 [some (.ref 83), some (.int 0), none] [] (mm_Z m w i l e) = some (.inl none, mm_Z m w i' l e) ∧ XR X i' ∧ mG (fun k j => (k = 83 ∧ j = 9) ∨ k = 88) i i' := by
  obtain ⟨i1, e1, e2, e3⟩ := r_tak_loop (m := m) (w := w) (l := l) (e := e) hw.1 (xz X) 0 (mm_ww i 83 9 (nI (xz X))) (by omega) mw_s (fun j hj => by rw [mw_k (by omega)]; exact hX.2 j hj) (fun j hj => by omega)
  have e1 : mm_V 251 21 [some (.ref 83), some (.int 0), some (.int 0)] [] (mm_Z m w (mm_ww i 83 9 (nI (xz X))) l e) = _ := e1
  refine ⟨i1, ?_, e2, (mG.ww (P := fun k j => (k = 83 ∧ j = 9) ∨ k = 88) (Or.inl ⟨rfl, rfl⟩)).tr (e3.mo (fun a b z => Or.inr z))⟩
  rw [mr_251_0, if_pos rfl, hX.1, e1]
theorem r_old_loop (hz : xz X ≤ 1200) : ∀ (d k : Nat) (i : Nat → Nat → Int32), k + d = xz X → i 83 9 = nI (xz X) → (∀ j, j < xz X → i 87 j = nI (xs X j)) → (∀ j, j < k → i 88 j = nI (xs X j)) → ∃ i', mm_V 251 21 [some (.ref 83), some (.int 1), some (.int (nI k))] [] (mm_Z m w i l e) = some (.inl none, mm_Z m w i' l e) ∧ XR X i' ∧ mG (fun k _ => k = 88) i i' := by
  intro d
  induction d with
  | zero =>
    intro k i hk h9 h84 h88
    refine ⟨i, ?_, ⟨h9, fun j hj => h88 j (by omega)⟩, mG.rf⟩
    rw [mr_251_21, h9, if_neg (fun z => by have := (nI_ltI (by omega) (by omega)).mp z; omega)]
  | succ d ih =>
    intro k i hk h9 h84 h88
    obtain ⟨i1, e1, e2, e3⟩ := ih (k + 1) (mm_ww i 88 k (nI (xs X k))) (by omega) (by rw [mw_k (by omega)]; exact h9) (fun j hj => by rw [mw_k (by omega)]; exact h84 j hj) (fun j hj => by
      rw [mw_r]
      split
      · rename_i z; rw [z]
      · exact h88 j (by omega))
    refine ⟨i1, ?_, e2, (mG.ww (P := fun k _ => k = 88) rfl).tr e3⟩
    rw [mr_251_21, h9, if_pos ((nI_ltI (by omega) (by omega)).mpr (by omega)), if_neg (by decide), if_neg (no_out (by omega) (by omega)), if_neg (no_out (by omega) (by omega)), nI_clamp (by omega), h84 k (by omega), nI_1, e1]
/-- the text that was kept -/
theorem r_old (hX : XKp X i) (hw : XW X) : ∃ i', mm_V 251 0 [some (.ref 83), some (.int 1), none] [] (mm_Z m w i l e) = some (.inl none, mm_Z m w i' l e) ∧ XR X i' ∧ mG (fun k j => (k = 83 ∧ j = 9) ∨ k = 88) i i' := by
  obtain ⟨i1, e1, e2, e3⟩ := r_old_loop (m := m) (w := w) (l := l) (e := e) hw.1 (xz X) 0 (mm_ww i 83 9 (nI (xz X))) (by omega) mw_s (fun j hj => by rw [mw_k (by omega)]; exact hX.2 j hj) (fun j hj => by omega)
  have e1 : mm_V 251 21 [some (.ref 83), some (.int 1), some (.int 0)] [] (mm_Z m w (mm_ww i 83 9 (nI (xz X))) l e) = _ := e1
  refine ⟨i1, ?_, e2, (mG.ww (P := fun k j => (k = 83 ∧ j = 9) ∨ k = 88) (Or.inl ⟨rfl, rfl⟩)).tr (e3.mo (fun a b z => Or.inr z))⟩
  rw [mr_251_0, if_neg (by decide), hX.1, e1]
/-- keeping a text -/
theorem r_kpt_loop (hz : xz X ≤ 1200) : ∀ (d k : Nat) (i : Nat → Nat → Int32), k + d = xz X → i 83 7 = nI (xz X) → (∀ j, j < xz X → i 88 j = nI (xs X j)) → (∀ j, j < k → i 87 j = nI (xs X j)) → ∃ i', mm_V 256 89 [some (.ref 83), some (.int x1), some (.int x2), some (.int (nI k))] [] (mm_Z m w i l e) = mm_V 256 89 [some (.ref 83), some (.int x1), some (.int x2), some (.int (nI (xz X)))] [] (mm_Z m w i' l e) ∧ XKp X i' ∧ mG (fun k _ => k = 87) i i' := by
  intro d
  induction d with
  | zero =>
    intro k i hk h9 h84 h88
    exact ⟨i, by rw [show k = xz X by omega], ⟨h9, fun j hj => h88 j (by omega)⟩, mG.rf⟩
  | succ d ih =>
    intro k i hk h9 h84 h88
    obtain ⟨i1, e1, e2, e3⟩ := ih (k + 1) (mm_ww i 87 k (nI (xs X k))) (by omega) (by rw [mw_k (by omega)]; exact h9) (fun j hj => by rw [mw_k (by omega)]; exact h84 j hj) (fun j hj => by
      rw [mw_r]
      split
      · rename_i z; rw [z]
      · exact h88 j (by omega))
    refine ⟨i1, ?_, e2, (mG.ww (P := fun k _ => k = 87) rfl).tr e3⟩
    rw [mr_256_89 m w i, h9, if_pos ((nI_ltI (by omega) (by omega)).mpr (by omega)), if_neg (no_out (by omega) (by omega)), if_neg (no_out (by omega) (by omega)), nI_clamp (by omega), h84 k (by omega), nI_1, e1]
end MM180
