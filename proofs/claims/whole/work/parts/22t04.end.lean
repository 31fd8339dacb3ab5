/-! END -/
section MM179
variable {X : mX} {w : Bool} {i i' : Nat → Nat → Int32} {l : Nat → Nat → Int64} {m : Nat} {e : Bool × Nat × Nat} {n k j c d : Nat} {x : Int32}
/-- the text ends at n -/
def xEd (X : mX) (n : Nat) : mX := (n, xs X)
theorem xEd_w (h : XW X) (hn : n ≤ xz X) : XW (xEd X n) := ⟨by
  show n ≤ 1200
  have := h.1
  omega, fun k hk => h.2 k (by
  have : k < n := hk
  omega)⟩
theorem i_nat (h0 : ¬ x < 0) (h1 : ¬ nI n < x) (hn : n < 2 ^ 31) : ∃ a, a ≤ n ∧ x = nI a := by
  have z : (0 : Int32).toInt = 0 := by decide
  rw [Int32.lt_iff_toInt_lt, z] at h0
  rw [Int32.lt_iff_toInt_lt, nI_toInt hn] at h1
  refine ⟨x.toInt.toNat, by omega, ?_⟩
  apply Int32.toInt_inj.mp
  rw [nI_toInt (by omega)]
  omega
/-- in the class -/
theorem c_end (hX : XC X i) (hw : XW X) : ((x < 0 ∨ nI (xz X) < x) ∧ mm_V 158 0 [some (.ref 0), some (.int x)] [] (mm_Z m w i l e) = some (.inr 0, mm_Z m w i l (mm_te e))) ∨ (∃ n, n ≤ xz X ∧ x = nI n ∧ mm_V 158 0 [some (.ref 0), some (.int x)] [] (mm_Z m w i l e) = some (.inl none, mm_Z m w (mm_ww i 1 1 (nI n)) l e) ∧ XC (xEd X n) (mm_ww i 1 1 (nI n))) := by
  have h12 := hw.1
  rw [mr_158_0, hX.1]
  by_cases z1 : x < 0
  · rw [if_pos z1]; exact Or.inl ⟨Or.inl z1, rfl⟩
  · rw [if_neg z1]
    by_cases z2 : nI (xz X) < x
    · rw [if_pos z2]; exact Or.inl ⟨Or.inr z2, rfl⟩
    · obtain ⟨a, a1, a2⟩ := i_nat z1 z2 (by omega)
      rw [if_neg z2, a2]
      exact Or.inr ⟨a, a1, rfl, rfl, mw_s, fun k hk => by
        have : k < a := hk
        rw [mw_k (by omega)]; exact hX.2 k (by omega)⟩
/-- in the reference -/
theorem r_end (hX : XP X i) (hw : XW X) : ((x < 0 ∨ nI (xz X) < x) ∧ mm_V 197 0 [some (.ref 83), some (.int x)] [] (mm_Z m w i l e) = some (.inl none, mm_Z m w (mm_ww i 83 0 (nI 1)) l e)) ∨ (∃ n, n ≤ xz X ∧ x = nI n ∧ mm_V 197 0 [some (.ref 83), some (.int x)] [] (mm_Z m w i l e) = some (.inl none, mm_Z m w (mm_ww (mm_ww i 83 0 (nI 0)) 83 2 (nI n)) l e) ∧ XP (xEd X n) (mm_ww (mm_ww i 83 0 (nI 0)) 83 2 (nI n))) := by
  have h12 := hw.1
  have bad : mm_V 197 10 [some (.ref 83), some (.int x)] [.int 0, .ref 83] (mm_Z m w i l e) = some (.inl none, mm_Z m w (mm_ww i 83 0 (nI 1)) l e) := by
    rw [mr_197_10, if_pos rfl, mr_197_18, show (1 : Int32) = bI true from rfl, show (0 : Int32) = bI false from rfl, r_refuse, mb_l, mb_v, mr_197_23, Bool.true_or, Bool.true_or, if_bt, if_pos rfl]
  rw [mr_197_0, mr_195_0, hX.1]
  by_cases z1 : x < 0
  · rw [if_pos z1, mb_l, mb_v, bad]; exact Or.inl ⟨Or.inl z1, rfl⟩
  · rw [if_neg z1]
    by_cases z2 : nI (xz X) < x
    · rw [if_pos z2, mb_l, mb_v, bad]; exact Or.inl ⟨Or.inr z2, rfl⟩
    · obtain ⟨a, a1, a2⟩ := i_nat z1 z2 (by omega)
      rw [if_neg z2, mb_l, mb_v, mr_197_10, if_neg (by decide), mr_197_18, show (0 : Int32) = bI false from rfl, r_refuse, mb_l, mb_v, mr_197_23, Bool.false_or, Bool.false_or, if_bf, if_neg Bool.false_ne_true, if_neg Bool.false_ne_true, if_neg Bool.false_ne_true, a2]
      exact Or.inr ⟨a, a1, rfl, rfl, mw_s, fun k hk => by
        have : k < a := hk
        rw [mw_k (by omega), mw_k (by omega)]; exact hX.2 k (by omega)⟩
end MM179
