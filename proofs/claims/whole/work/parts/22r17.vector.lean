/-! VECTORS -/
section MM76
variable {p w : Bool} {l : Nat → Nat → Int64} {e : Bool × Nat × Nat} {π : mP} {m : Nat}
theorem nz_1 : vp_nar .boolean 1 = 1 := by decide
theorem nz_0 : vp_nar .boolean 0 = 0 := by decide
theorem nz_b (b : Bool) : vp_nar .boolean (bI b) = bI b := by cases b <;> decide
/-- the reference's stack of truths -/
def rStk (i : Nat → Nat → Int32) (st : List Bool) : Prop := ∀ j, j < st.length → i 111 j = bI (st.getD (st.length - 1 - j) false)
theorem rStk_push {i : Nat → Nat → Int32} {st : List Bool} {x : Bool} (h : rStk i st) : rStk (mm_ww i 111 st.length (bI x)) (x :: st) := by
  intro j hj
  rw [List.length_cons] at hj ⊢
  by_cases z : j = st.length
  · subst z
    rw [mw_s, show st.length + 1 - 1 - st.length = 0 by omega]
    rfl
  · rw [mw_j z, h j (by omega), show st.length + 1 - 1 - j = (st.length - 1 - j) + 1 by omega]
    rfl
theorem rStk_tail {i : Nat → Nat → Int32} {st : List Bool} {x : Bool} (h : rStk i (x :: st)) : rStk i st ∧ i 111 st.length = bI x := by
  constructor
  · intro j hj
    rw [h j (by rw [List.length_cons]; omega), List.length_cons, show st.length + 1 - 1 - j = (st.length - 1 - j) + 1 by omega]
    rfl
  · rw [h st.length (by rw [List.length_cons]; omega), List.length_cons, show st.length + 1 - 1 - st.length = 0 by omega]
    rfl
theorem nm_1 {k : Nat} (h : 1 ≤ k) : nI k + (-1) = nI (k - 1) := by
  have := na_sub (a := k) (b := 1) h
  rw [← this]
  show nI k + (-1) = nI k - 1
  rw [Int32.sub_eq_add_neg]
set_option maxHeartbeats 1000000 in
theorem pr_me_loop {l0 a b s : Nat} {ops : List mO} (hl0 : l0 < 8) (ha : a < 2 ^ 31) (hb : b < 2 ^ 31) (hs : s + ops.length ≤ 1300) : ∀ (D k : Nat) (st : List Bool) (i : Nat → Nat → Int32), rSeg i s ops → i 108 (l0 + 1) = nI (s + ops.length) → rStk i st → k + D = ops.length → oOk st.length (ops.drop k) → st.length ≤ 60 → ∃ i', mm_V 247 11 [some (.ref 83), some (.int (nI l0)), some (.int (nI a)), some (.int (nI b)), some (.int (nI st.length)), some (.int (nI (s + k)))] [] (mm_Z m w i l e) = some (.inl (some (.int (bI ((oRun a b (ops.drop k) st).headD false)))), mm_Z m w i' l e) ∧ (∀ q, q ≠ 111 → i' q = i q)
  | 0, k, st, i, hseg, hend, hS, hk, ho, hl => by
    have hd : ops.drop k = [] := List.drop_eq_nil_iff.mpr (by omega)
    rw [hd] at ho ⊢
    have h1 : st.length = 1 := ho
    refine ⟨i, ?_, fun _ _ => rfl⟩
    rw [mr_247_11, nI_1, if_neg (no_out (by omega) (by omega))]
    simp only [nI_clamp (show l0 + 1 < 2 ^ 31 by omega), hend, nI_ltI (show s + k < 2 ^ 31 by omega) (show s + ops.length < 2 ^ 31 by omega)]
    rw [if_neg (by omega)]
    match st, h1, hS with
    | [x], _, hS =>
      have e0 : i 111 0 = bI x := hS 0 Nat.zero_lt_one
      rw [e0, if_pos (bI_01 x)]
      rfl
  | D + 1, k, st, i, hseg, hend, hS, hk, ho, hl => by
    have hq : ops[k]? = some ops[k] := List.getElem?_eq_getElem (by omega)
    have hd : ops.drop k = ops[k] :: ops.drop (k + 1) := List.drop_eq_getElem_cons (by omega)
    have hT := hseg k _ hq
    generalize ops[k] = c at hd hT
    rw [hd] at ho ⊢
    obtain ⟨o1, o2⟩ := ho
    have ho3 : ¬ mm_out (nI (s + k)) 1300 := no_out (by omega) (by omega)
    have hR : ∀ st', oRun a b (c :: ops.drop (k + 1)) st' = oRun a b (ops.drop (k + 1)) (oEv a b c st') := fun _ => rfl
    -- a new truth at the place h, over the stack r
    have push : ∀ (x : Bool) (r : List Bool), rStk i r → oOk (r.length + 1) (ops.drop (k + 1)) → r.length + 1 ≤ 60 → ∃ i', mm_V 247 11 [some (.ref 83), some (.int (nI l0)), some (.int (nI a)), some (.int (nI b)), some (.int (nI (r.length + 1))), some (.int (nI (s + k + 1)))] [] (mm_Z m w (mm_ww i 111 r.length (bI x)) l e) = some (.inl (some (.int (bI ((oRun a b (ops.drop (k + 1)) (x :: r)).headD false)))), mm_Z m w i' l e) ∧ (∀ q, q ≠ 111 → i' q = i q) := by
      intro x r hr hok hlen
      obtain ⟨i', g1, g2⟩ := pr_me_loop hl0 ha hb hs D (k + 1) (x :: r) (mm_ww i 111 r.length (bI x)) (hseg.kp (by rw [mw_k (by omega)]) (fun j => by rw [mw_k (by omega)]) (fun j => by rw [mw_k (by omega)]) (fun j => by rw [mw_k (by omega)])) (by rw [mw_k (by omega)]; exact hend) (rStk_push hr) (by omega) hok hlen
      exact ⟨i', g1, fun q hq => by rw [g2 q hq, mw_k hq]⟩
    rw [hR, mr_247_11]
    simp only [nI_1, nI_clamp (show l0 + 1 < 2 ^ 31 by omega), nI_clamp (show s + k < 2 ^ 31 by omega), hend, nI_ltI (show s + k < 2 ^ 31 by omega) (show s + ops.length < 2 ^ 31 by omega), if_neg ho3]
    rw [if_neg (no_out (by omega) (by omega)), if_pos (by omega)]
    obtain ⟨c1, ng, mk⟩ := c
    dsimp only at o1 o2
    by_cases q3 : 3 ≤ c1
    · have o2 : st.length < 60 ∧ oOk (st.length + 1) (ops.drop (k + 1)) := by
        rw [if_neg (by omega), if_neg (by omega)] at o2; exact o2
      have hpos : ∃ t, t < 2000 ∧ i 109 (s + k) = nI t := by
        rcases hT with z | z | z | ⟨-, z5, ⟨t, zt, z9⟩, -⟩ | ⟨-, -, z9, -⟩
        · have := z.1; dsimp only at this; omega
        · have := z.1; dsimp only at this; omega
        · have := z.1; dsimp only at this; omega
        · exact ⟨_, by dsimp only at z5 zt; split <;> omega, z9⟩
        · exact ⟨_, by split <;> split <;> omega, z9⟩
      obtain ⟨t, t1, t2⟩ := hpos
      rw [t2, if_neg (na_m1 (by omega)), if_neg (nI_pos (by omega)), pr_holds (by omega) ha hb hT q3, mb_l, mb_v, mr_247_172, if_neg (no_out (by omega) (by omega)), nI_clamp (by omega), nz_b, nI_1, nI_1]
      have e1 : oEv a b (c1, ng, mk) st = oAt a b (c1, ng, mk) :: st := by
        obtain ⟨c8, rfl⟩ : ∃ c8, c1 = c8 + 3 := ⟨c1 - 3, by omega⟩
        rfl
      rw [e1]
      exact push _ st hS o2.2 (by omega)
    · rcases (show c1 = 0 ∨ c1 = 1 ∨ c1 = 2 by omega) with rfl | rfl | rfl
      · have o2 : 1 ≤ st.length ∧ oOk st.length (ops.drop (k + 1)) := o2
        have t2 : i 109 (s + k) = -1 := by
          rcases hT with z | z | z | z | z
          · exact z.2
          · have := z.1; dsimp only at this; omega
          · have := z.1; dsimp only at this; omega
          · have := z.1; dsimp only at this; omega
          · have := z.1; dsimp only at this; omega
        match st, o2, hl, hS with
        | x :: r, o2, hl, hS =>
          obtain ⟨hr, hx⟩ := rStk_tail hS
          simp only [List.length_cons] at o2 hl ⊢
          have e2 : nI (r.length + 1) - 1 = nI r.length := nI_pred _
          have ho4 : ¬ mm_out (nI r.length) 64 := no_out (by omega) (by omega)
          rw [t2, if_pos rfl]
          simp only [e2, if_neg ho4, nI_clamp (show r.length < 2 ^ 31 by omega), hx, nz_0, nz_1, bI_0]
          cases x
          · rw [if_pos rfl]; exact push true r hr o2.2 hl
          · rw [if_neg (by decide)]; exact push false r hr o2.2 hl
      · have o2 : 2 ≤ st.length ∧ oOk (st.length - 1) (ops.drop (k + 1)) := o2
        have t2 : i 109 (s + k) = -2 := by
          rcases hT with z | z | z | z | z
          · have := z.1; dsimp only at this; omega
          · exact z.2
          · have := z.1; dsimp only at this; omega
          · have := z.1; dsimp only at this; omega
          · have := z.1; dsimp only at this; omega
        match st, o2, hl, hS with
        | y :: x :: r, o2, hl, hS =>
          obtain ⟨hr1, hy⟩ := rStk_tail hS
          obtain ⟨hr, hx⟩ := rStk_tail hr1
          simp only [List.length_cons] at o2 hl hy ⊢
          have e2 : nI (r.length + 1 + 1) + (-1) = nI (r.length + 1) := nm_1 (by omega)
          have e3 : nI (r.length + 1) - 1 = nI r.length := nI_pred _
          have ho4 : ¬ mm_out (nI r.length) 64 := no_out (by omega) (by omega)
          have ho5 : ¬ mm_out (nI (r.length + 1)) 64 := no_out (by omega) (by omega)
          rw [t2, if_neg (by decide), if_pos (by decide), if_pos rfl]
          simp only [e2, e3, if_neg ho4, if_neg ho5, nI_clamp (show r.length < 2 ^ 31 by omega), nI_clamp (show r.length + 1 < 2 ^ 31 by omega), hx, hy, nz_0, nz_1, bI_0]
          have o3 : oOk (r.length + 1) (ops.drop (k + 1)) := o2.2
          cases x
          · rw [if_pos rfl]; exact push false r hr o3 (by omega)
          · rw [if_neg (by decide)]
            cases y
            · rw [if_pos rfl]; exact push false r hr o3 (by omega)
            · rw [if_neg (by decide)]; exact push true r hr o3 (by omega)
      · have o2 : 2 ≤ st.length ∧ oOk (st.length - 1) (ops.drop (k + 1)) := o2
        have t2 : i 109 (s + k) = -3 := by
          rcases hT with z | z | z | z | z
          · have := z.1; dsimp only at this; omega
          · have := z.1; dsimp only at this; omega
          · exact z.2
          · have := z.1; dsimp only at this; omega
          · have := z.1; dsimp only at this; omega
        match st, o2, hl, hS with
        | y :: x :: r, o2, hl, hS =>
          obtain ⟨hr1, hy⟩ := rStk_tail hS
          obtain ⟨hr, hx⟩ := rStk_tail hr1
          simp only [List.length_cons] at o2 hl hy ⊢
          have e2 : nI (r.length + 1 + 1) + (-1) = nI (r.length + 1) := nm_1 (by omega)
          have e3 : nI (r.length + 1) - 1 = nI r.length := nI_pred _
          have ho4 : ¬ mm_out (nI r.length) 64 := no_out (by omega) (by omega)
          have ho5 : ¬ mm_out (nI (r.length + 1)) 64 := no_out (by omega) (by omega)
          rw [t2, if_neg (by decide), if_pos (by decide), if_neg (by decide)]
          simp only [e2, e3, if_neg ho4, if_neg ho5, nI_clamp (show r.length < 2 ^ 31 by omega), nI_clamp (show r.length + 1 < 2 ^ 31 by omega), hx, hy, nz_0, nz_1, bI_0]
          have o3 : oOk (r.length + 1) (ops.drop (k + 1)) := o2.2
          cases x
          · rw [if_pos rfl]
            cases y
            · rw [if_pos rfl]; exact push false r hr o3 (by omega)
            · rw [if_neg (by decide)]; exact push true r hr o3 (by omega)
          · rw [if_neg (by decide)]; exact push true r hr o3 (by omega)
theorem pr_meets {i : Nat → Nat → Int32} {l0 a b s : Nat} {ops : List mO} (hl0 : l0 < 8) (ha : a < 2 ^ 31) (hb : b < 2 ^ 31) (hs : s + ops.length ≤ 1300) (hseg : rSeg i s ops) (hst : i 108 l0 = nI s) (hend : i 108 (l0 + 1) = nI (s + ops.length)) (ho : oOk 0 ops) : ∃ i', mm_V 247 0 [some (.ref 83), some (.int (nI l0)), some (.int (nI a)), some (.int (nI b)), none, none] [] (mm_Z m w i l e) = some (.inl (some (.int (bI ((oRun a b ops []).headD false)))), mm_Z m w i' l e) ∧ (∀ q, q ≠ 111 → i' q = i q) := by
  rw [mr_247_0, if_neg (no_out (by omega) (by omega)), nI_clamp (by omega), hst]
  exact pr_me_loop hl0 ha hb hs ops.length 0 [] i hseg hend (fun j hj => by cases hj) (by omega) ho (by decide)
end MM76
