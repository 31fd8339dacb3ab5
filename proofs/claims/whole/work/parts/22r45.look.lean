/-! LOOK; new contexts; a directory is made -/
section MM104
variable {w : Bool} {l : Nat → Nat → Int64} {e : Bool × Nat × Nat} {π : mP} {m : Nat} {ψ : mS} {b B p n : Nat} {i0 i i' : Nat → Nat → Int32} {s a x y : Int32} {r : Int32 × mS} {L : List Nat}
theorem CA.dead (h : CD w π i0 b i ψ x y) (hB : b ≤ B) {X : Option mm_R} {z : Int32} (hX : X = some (.inl (some (.int z)), mm_Z m w i l e)) : CA m w l e π i0 B X (z, ψ) := by rw [hX]; exact CA.ret (r := (z, ψ)) h hB
theorem RD.gd (h : RD π i0 b i ψ 0 a x) : mm_V 267 0 [some (.ref 83)] [] (mm_Z m w i l e) = some (.inl (some (.int (bI true))), mm_Z m w i l e) := rs_gd h.hs
theorem RD.bd (h : RD π i0 b i ψ s a x) (hs : s < 0) : mm_V 267 0 [some (.ref 83)] [] (mm_Z m w i l e) = some (.inl (some (.int (bI false))), mm_Z m w i l e) := rs_bd (by rw [h.hs]; exact hs)
theorem RD.cn (h : RD π i0 b i ψ s a x) (hs : s < 0) {x1 x2 x3 x4 : Int32} : mm_V 265 0 [some (.ref 83), some (.int x1), some (.int x2), some (.int x3), some (.int x4)] [] (mm_Z m w i l e) = some (.inl none, mm_Z m w i l e) := rs_check_no (by rw [h.hs]; exact hs)
theorem RD.mn (h : RD π i0 b i ψ s a x) (hs : s < 0) {x1 x2 : Int32} : mm_V 266 0 [some (.ref 83), some (.int x1), some (.int x2)] [] (mm_Z m w i l e) = some (.inl none, mm_Z m w i l e) := by rw [rs_must_no (by rw [h.hs]; exact hs), ww_id]
theorem IV.wv (hI : IV π b ψ) (h : wV (yT ψ) L 0 n) : n < 32 ∧ tk (yT ψ) n ≠ 0 ∧ (n = 0 ∨ tL (yT ψ) n ≠ 0) := wV_ok hI.ti L 0 n (by omega) (by rw [hI.ti.2.2.2.2.2]; decide) (Or.inl rfl) h
theorem nI_nn {k : Nat} (h : k < 2 ^ 31) : ¬ nI k < 0 := nI_pos h
def aLook (π : mP) (p : Nat) (L : List Nat) (ψ : mS) : Int32 × mS := aWa π p L ψ (fun n ψ1 => aCk π (cP (yH ψ1) p) (cN (yT ψ1) n) (tk (yT ψ1) n - 1) 256 ψ1 (fun ψ2 => (nI (2 * ts (yT ψ1) n + (tk (yT ψ1) n - 1) + 100 * tL (yT ψ1) n), ψ2)))
theorem ca_look (h : CD w π i0 b i ψ x y) (hb : b + 16 < 2 ^ 29) (hp : p < 8) (hP0 : hP (yH ψ) p ≠ 0) (hO : pO L) : CA m w l e π i0 (b + 16) (mm_V 91 0 [some (.ref 80), some (.int (nI p)), some (.int (nI (pc L))), none] [] (mm_Z m w i l e)) (aLook π p L ψ) := by
  rw [mr_91_0]; unfold aLook
  refine CA.wa h (by omega) hp hP0 hO (by omega) (fun i1 n κ g1 g2 => ?_) (fun i1 r hr => by rw [mb_l, mb_v, mr_91_7, if_pos hr])
  obtain ⟨n1, n2, n3⟩ := h.iv.wv g1
  rw [mb_l, mb_v, mr_91_7, if_neg (nI_nn (by omega))]
  refine CA.may g2 (by omega) hp hP0 n1 n2 rfl (by omega) (fun i2 κ2 g3 => ?_) (fun i2 => by rw [mb_l, mb_v, mr_91_23, if_bf])
  have t3 : TC true i2 (yT ψ) := g3.1.1
  have hw := h.iv.tw
  have hl := tL_lt hw n
  rw [mb_l, mb_v, mr_91_23, if_bt, if_neg (no_out (by omega) (by omega)), nI_clamp (by omega), (t3 n n1).2.2.1, tc_isDirectory t3 hw n1, mb_l, mb_v, mr_91_48]
  by_cases q : tk (yT ψ) n = 2
  · have q' : tk (yT (yk ψ κ)) n = 2 := q
    rw [if_pos q, if_neg (by decide), mr_91_56, tc_linksOf t3 hw (by omega), mb_l, mb_v, mr_91_67, na_2, na_1, na_100, na_mul, na_mul, nI_add, nI_add]
    exact CA.dead g3 (by omega) (by rw [show tk (yT (yk ψ κ)) n = 2 from q]; rfl)
  · rw [if_neg q, if_pos rfl, mr_91_56, tc_linksOf t3 hw (by omega), mb_l, mb_v, mr_91_67, na_2, na_0, na_100, na_mul, na_mul, nI_add, nI_add]
    have q1 : tk (yT ψ) n = 1 := by have := (hw n n1).1; have : tk (yT ψ) n ≠ 0 := n2; omega
    exact CA.dead g3 (by omega) (by rw [show tk (yT (yk ψ κ)) n = 1 from q1]; rfl)
theorem ra_look (h : RD π i0 b i ψ 0 a x) (hb : b + 16 < 2 ^ 29) (hp : p < 8) (hP0 : hP (yH ψ) p ≠ 0) (hO : pO L) : RA m w l e π i0 (b + 16) (mm_V 292 0 [some (.ref 83), some (.int (nI p)), some (.int (nI (pc L)))] [] (mm_Z m w i l e)) (aLook π p L ψ) := by
  rw [mr_292_0]; unfold aLook
  refine RA.wa h (by omega) hp hP0 hO (fun i1 n κ x' g1 g2 => ?_) (fun i1 n κ s' x' g0 n1 n2 g3 => RA.dead g3 (by omega) (by rw [mb_l, mb_0, mr_292_6, g3.bd g0, mb_l, mb_v, mr_292_10, if_bf, mr_292_42, g3.bd g0, mb_l, mb_v, mr_292_46, if_bf, g3.hs]))
  obtain ⟨n1, n2, n3⟩ := h.iv.wv g1
  have hw := h.iv.tw
  have hk := (hw n n1).1
  have hcl : ∀ i1 : Nat → Nat → Int32, TR i1 (yT ψ) → mm_V 291 0 [some (.ref 83), some (.int (nI n))] [] (mm_Z m w i1 l e) = some (.inl (some (.int (nI (tk (yT ψ) n - 1)))), mm_Z m w i1 l e) := fun i1 ht => by
    rw [mr_291_0, tr_isDirectory ht hw n1, mb_l, mb_v, mr_291_5]
    by_cases q : tk (yT ψ) n = 2
    · rw [if_pos q, if_neg (by decide), q]; rfl
    · have q1 : tk (yT ψ) n = 1 := by have : tk (yT ψ) n ≠ 0 := n2; omega
      rw [if_neg q, if_pos rfl, q1]; rfl
  have t2 : TR i1 (yT ψ) := g2.1.1
  rw [mb_l, mb_0, mr_292_6, g2.gd, mb_l, mb_v, mr_292_10, if_bt, if_neg (no_out (by omega) (by omega)), g2.ha, if_neg (no_out (by omega) (by omega)), hcl _ t2, mb_l, mb_v, mr_292_37, nI_clamp (by omega), nI_clamp (by omega), g2.1.pr hp hP0, g2.1.cn g2.2.1 n1 n2]
  refine RA.ck g2 (by omega) (by decide) (g2.2.1.cp hp hP0) (g2.2.1.cn n1 n2).1 (by omega) (fun i2 κ2 g3 => ?_) (fun i2 κ2 g3 => RA.dead g3 (by omega) (by rw [mb_l, mb_0, mr_292_42, g3.bd (by decide), mb_l, mb_v, mr_292_46, if_bf, g3.hs]))
  have t3 : TR i2 (yT ψ) := g3.1.1
  have hl := tL_lt hw n
  rw [mb_l, mb_0, mr_292_42, g3.gd, mb_l, mb_v, mr_292_46, if_bt, g3.ha, if_neg (no_out (by omega) (by omega)), nI_clamp (by omega), hcl _ t3, mb_l, mb_v, mr_292_68, g3.ha, tr_linksOf t3 hw (by omega), mb_l, mb_v, mr_292_79, (t3 n n1).2.2.1, na_2, na_100, na_mul, na_mul, nI_add, nI_add]
  exact RA.ret (r := (nI (2 * ts (yT ψ) n + (tk (yT ψ) n - 1) + 100 * tL (yT ψ) n), yk (yk ψ κ) κ2)) g3 (by omega)
end MM104
