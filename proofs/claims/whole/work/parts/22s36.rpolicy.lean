/-! A DRAFT IS A POLICY, in the reference -/
section MM172
variable {i i' : Nat → Nat → Int32} {δ : mQ} {n k s a b c p : Nat} {x v : Int32}
theorem rM_se (h : DRf 9 i δ) (hd : DW δ) (hx : x = 400 ∨ vW (dP δ) x) : rM i (rvv x) (dMn δ x) := by
  have c0 : i 83 14 = nI (pN (dP δ) 0) := h.ct (s := 0) (by omega)
  have h24 := hd.2.1.1
  have h8 := hd.2.1.2.1
  rcases hx with z | ⟨a, z1, z2⟩ | ⟨a, z1, z2⟩
  · subst z
    refine Or.inl ⟨rfl, ?_⟩
    rw [c0, sh_m1 _ (by omega)]
    rfl
  · subst z2
    refine Or.inr (Or.inl ⟨a, by omega, rvv_n (by omega), ?_⟩)
    unfold dMn
    rw [if_neg (show ¬ nI a = 400 from fun z => by have := (nI_eq (b := 400) (by omega) (by omega)).mp z; omega), if_pos (show nI a < 100 from (nI_ltI (b := 100) (by omega) (by omega)).mpr (by omega))]
  · subst z2
    refine Or.inr (Or.inr ⟨a, by omega, rvv_n (by omega), ?_⟩)
    rw [dMn_a (by omega), h.2.2.1 a z1]
theorem dMn_n1 (hd : DW δ) (hx : x = 400 ∨ vW (dP δ) x) : ∃ q, q < 2 ^ 24 ∧ dMn δ x = nI q := by
  have h24 := hd.2.1.1
  have h8 := hd.2.1.2.1
  have b24 : (2 : Nat) ^ pN (dP δ) 0 ≤ 2 ^ 24 := Nat.pow_le_pow_right (by decide) h24
  rcases hx with z | ⟨a, z1, z2⟩ | ⟨a, z1, z2⟩
  · subst z
    exact ⟨2 ^ pN (dP δ) 0 - 1, by have := Nat.two_pow_pos (pN (dP δ) 0); omega, rfl⟩
  · subst z2
    rcases dMn_t (δ := δ) (a := a) (by omega) with y | y
    · exact ⟨2 ^ a, Nat.pow_lt_pow_right (by decide) (by omega), y⟩
    · omega
  · subst z2
    have := (hd.2.2.2.1 a).1
    exact ⟨dA δ a, by omega, dMn_a (by omega)⟩
theorem qT.rT {o : mO} (h : qT i k o) (hD : DRf 9 i δ) (hd : DW δ) (hv : 6 ≤ o.1 → vW (dP δ) o.2.2) : rT i k (oSe δ o) := by
  have h24 := hd.2.1.1
  have h8 := hd.2.1.2.1
  unfold oSe
  rcases h with h | h | h | ⟨h1, h2, h3, h4⟩ | ⟨h1, h2, h3, h4⟩
  · exact Or.inl h
  · exact Or.inr (Or.inl h)
  · exact Or.inr (Or.inr (Or.inl h))
  · exact Or.inr (Or.inr (Or.inr (Or.inl ⟨h1, h2, h3, h4⟩)))
  · have hw := hv h1
    have er : rvv o.2.2 = o.2.2 ∧ ¬ o.2.2 < 0 := by
      rcases hw with ⟨a, z1, z2⟩ | ⟨a, z1, z2⟩
      · rw [z2]; exact ⟨rvv_n (by omega), nI_nn (by omega)⟩
      · rw [z2]; exact ⟨rvv_n (by omega), nI_nn (by omega)⟩
    have hm := rM_se hD hd (Or.inr hw)
    rw [er.1] at hm
    refine Or.inr (Or.inr (Or.inr (Or.inr ⟨h1, h2, h3, ?_, by rw [h4]; exact er.2⟩)))
    rw [h4]
    show rM i o.2.2 (if 6 ≤ o.1 then dMn δ o.2.2 else o.2.2)
    rw [if_pos h1]
    exact hm
theorem DRf.pr (h : DRf 9 i δ) (hd : DW δ) (hE : dE δ ≤ 1200) : PR i (dSe δ) := by
  obtain ⟨hN, hC, ⟨r1, r2, r3⟩, hA, hE2, hR⟩ := id hd
  refine ⟨⟨⟨h.ct (s := 0) (by omega), h.ct (s := 1) (by omega), h.ct (s := 2) (by omega), h.ct (s := 3) (by omega), h.ct (s := 4) (by omega), h.ct (s := 5) (by omega), h.ct (s := 6) (by omega)⟩, fun u hu => ?_, fun r hr => ?_, fun k hk => ?_, fun k hk => ?_⟩, fun k hk => ?_⟩
  · exact h.2.2.2.2.1 u (by rw [cnt9 (by omega)]; exact hu)
  · exact h.2.2.2.1 r (by rw [cnt9 (by omega)]; exact hr)
  · obtain ⟨a1, a2, a3, a4, a5, a6⟩ := h.2.2.2.2.2.1 k hk
    obtain ⟨b1, b2, b3, b4⟩ := r1 k hk
    refine ⟨a1, ?_, ?_, a4, a5⟩
    · rw [a2]; exact rM_se h hd b3
    · show (i 97 k = -2 ∧ (if (pL (dP δ) k).2.2.1 = -1 then (-1 : Int32) else dMn δ (pL (dP δ) k).2.2.1) = -1) ∨ (rM i (i 97 k) (if (pL (dP δ) k).2.2.1 = -1 then (-1 : Int32) else dMn δ (pL (dP δ) k).2.2.1) ∧ (if (pL (dP δ) k).2.2.1 = -1 then (-1 : Int32) else dMn δ (pL (dP δ) k).2.2.1) ≠ -1)
      rw [a3]
      by_cases z : (pL (dP δ) k).2.2.1 = -1
      · left
        rw [if_pos z, z]
        exact ⟨by decide, rfl⟩
      · right
        have b4' : (pL (dP δ) k).2.2.1 = 400 ∨ vW (dP δ) (pL (dP δ) k).2.2.1 := by
          rcases b4 with y | y
          · exact absurd y z
          · exact y
        rw [if_neg z]
        obtain ⟨q, q1, q2⟩ := dMn_n1 hd b4'
        exact ⟨rM_se h hd b4', by rw [q2]; exact na_m1 (by omega)⟩
  · obtain ⟨a1, a2, a3, a4, a5⟩ := h.2.2.2.2.2.2.1 k hk
    exact ⟨a1, a2, a3, a4⟩
  · obtain ⟨a1, a2, s, a3, a4, a5, a6⟩ := h.2.2.2.2.2.2.2.1 k hk
    obtain ⟨b1, b2, b3⟩ := r3 k hk
    have el : ((pT (dP δ) k).2.2.map (oSe δ)).length = (pT (dP δ) k).2.2.length := List.length_map ..
    refine ⟨a1, a2, s, a3, ?_, ?_, ?_⟩
    · show i 108 (k + 1) = nI (s + ((pT (dP δ) k).2.2.map (oSe δ)).length)
      rw [el]; exact a4
    · show s + ((pT (dP δ) k).2.2.map (oSe δ)).length ≤ 1300
      rw [el]; omega
    · intro j o hj
      have hj' : ((pT (dP δ) k).2.2.map (oSe δ))[j]? = some o := hj
      rw [List.getElem?_map] at hj'
      cases ho : (pT (dP δ) k).2.2[j]? with
      | none => rw [ho] at hj'; cases hj'
      | some o' =>
        rw [ho] at hj'
        cases hj'
        exact (a6 j o' ho).rT h hd (b3 o' (List.mem_of_getElem? ho))
end MM172
