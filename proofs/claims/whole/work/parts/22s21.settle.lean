/-! WHAT NAMES MEAN is settled; a policy comes of a draft -/
section MM150
variable {X : mX} {t : m3} {w p : Bool} {i i' i0 i1 : Nat → Nat → Int32} {l l' l0 l1 : Nat → Nat → Int64} {δ δ' : mQ} {ρ : mP} {m : Nat} {e : Bool × Nat × Nat} {n k s a b c r d : Nat} {x y v : Int32}
/-- the policy of a draft -/
def oSe (δ : mQ) (op : mO) : mO := (op.1, op.2.1, if 6 ≤ op.1 then dMn δ op.2.2 else op.2.2)
def dSe (δ : mQ) : mP := (pN (dP δ), pU (dP δ), pR (dP δ), fun k => ((pL (dP δ) k).1, dMn δ (pL (dP δ) k).2.1, (if (pL (dP δ) k).2.2.1 = -1 then -1 else dMn δ (pL (dP δ) k).2.2.1), (pL (dP δ) k).2.2.2.1, (pL (dP δ) k).2.2.2.2), pM (dP δ), fun k => ((pT (dP δ) k).1, (pT (dP δ) k).2.1, (pT (dP δ) k).2.2.map (oSe δ)))
theorem vW.m1 (h : vW ρ x) (hc : CW ρ) : x ≠ -1 := by
  rcases h with ⟨a, a1, a2⟩ | ⟨a, a1, a2⟩
  · rw [a2]; exact na_m1 (by have := hc.1; omega)
  · rw [a2]; exact na_m1 (by have := hc.2.1; omega)
theorem c_st1 (hd : DW δ) : ∀ (D k : Nat) (i : Nat → Nat → Int32), k + D = pN (dP δ) 4 → (∀ j, j < 7 → i (mm_P (!w) + 1) j = nI (pN (dP δ) j)) → AC (!w) i δ → (∀ j, k ≤ j → j < pN (dP δ) 4 → i (mm_P (!w) + 6) j = (pL (dP δ) j).2.1 ∧ i (mm_P (!w) + 7) j = (pL (dP δ) j).2.2.1) → ∃ i', mm_V 110 2 [some (.ref (mm_P (!w))), some (.int (nI k))] [] (mm_Z m w i l e) = mm_V 110 66 [some (.ref (mm_P (!w))), some (.int 0)] [] (mm_Z m w i' l e) ∧ (∀ j, k ≤ j → j < pN (dP δ) 4 → i' (mm_P (!w) + 6) j = dMn δ (pL (dP δ) j).2.1 ∧ i' (mm_P (!w) + 7) j = (if (pL (dP δ) j).2.2.1 = -1 then -1 else dMn δ (pL (dP δ) j).2.2.1)) ∧ (∀ j, j < k → i' (mm_P (!w) + 6) j = i (mm_P (!w) + 6) j ∧ i' (mm_P (!w) + 7) j = i (mm_P (!w) + 7) j) ∧ (∀ q j, q ≠ mm_P (!w) + 6 → q ≠ mm_P (!w) + 7 → i' q j = i q j)
  | 0, k, i, hk, hN, hA, hR => by
    have c4 := hd.2.1.2.2.2.2.1
    refine ⟨i, ?_, fun j h1 h2 => by omega, fun _ _ => ⟨rfl, rfl⟩, fun _ _ _ _ => rfl⟩
    rw [mr_110_2, hN 4 (by omega), if_neg (fun z => by have := (nI_ltI (by omega) (by omega)).mp z; omega)]
  | D + 1, k, i, hk, hN, hA, hR => by
    have hp := mP_c (!w)
    have c4 := hd.2.1.2.2.2.2.1
    have no : ¬ mm_out (nI k) 60 := no_out (by omega) (by omega)
    obtain ⟨r1, r2, r3, r4⟩ := hd.2.2.1.1 k (by omega)
    obtain ⟨e6, e7⟩ := hR k (Nat.le_refl _) (by omega)
    have hN1 : ∀ v, ∀ j, j < 7 → mm_ww i (mm_P (!w) + 6) k v (mm_P (!w) + 1) j = nI (pN (dP δ) j) := fun v j hj => by rw [mw_k (by omega)]; exact hN j hj
    have hA1 : ∀ v, AC (!w) (mm_ww i (mm_P (!w) + 6) k v) δ := fun v a ha => by rw [mw_k (by omega)]; exact hA a ha
    have rcc : ∀ v2, v2 = (if (pL (dP δ) k).2.2.1 = -1 then -1 else dMn δ (pL (dP δ) k).2.2.1) → ∃ i', mm_V 110 57 [some (.ref (mm_P (!w))), some (.int (nI k))] [.int v2, .int (nI k), .ref (mm_P (!w) + 7)] (mm_Z m w (mm_ww i (mm_P (!w) + 6) k (dMn δ (pL (dP δ) k).2.1)) l e) = mm_V 110 66 [some (.ref (mm_P (!w))), some (.int 0)] [] (mm_Z m w i' l e) ∧ (∀ j, k ≤ j → j < pN (dP δ) 4 → i' (mm_P (!w) + 6) j = dMn δ (pL (dP δ) j).2.1 ∧ i' (mm_P (!w) + 7) j = (if (pL (dP δ) j).2.2.1 = -1 then -1 else dMn δ (pL (dP δ) j).2.2.1)) ∧ (∀ j, j < k → i' (mm_P (!w) + 6) j = i (mm_P (!w) + 6) j ∧ i' (mm_P (!w) + 7) j = i (mm_P (!w) + 7) j) ∧ (∀ q j, q ≠ mm_P (!w) + 6 → q ≠ mm_P (!w) + 7 → i' q j = i q j) := by
      intro v2 hv2
      obtain ⟨i2, g1, g2, g3, g4⟩ := c_st1 hd D (k + 1) (mm_ww (mm_ww i (mm_P (!w) + 6) k (dMn δ (pL (dP δ) k).2.1)) (mm_P (!w) + 7) k v2) (by omega) (fun j hj => by rw [mw_k (by omega)]; exact hN1 _ j hj) (fun a ha => by rw [mw_k (by omega)]; exact hA1 _ a ha) (fun j h1 h2 => by rw [mw_k (by omega), mw_j (by omega), mw_j (by omega), mw_k (by omega)]; exact hR j (by omega) h2)
      refine ⟨i2, ?_, fun j h1 h2 => ?_, fun j hj => ?_, fun q j z1 z2 => ?_⟩
      · rw [mr_110_57, if_neg no, nI_clamp (by omega), nI_1, g1]
      · by_cases z : j = k
        · subst z
          obtain ⟨g5, g6⟩ := g3 j (by omega)
          rw [g5, g6, mw_k (by omega), mw_s, mw_s]
          exact ⟨rfl, hv2⟩
        · exact g2 j (by omega) h2
      · obtain ⟨g5, g6⟩ := g3 j (by omega)
        rw [g5, g6, mw_k (by omega), mw_j (by omega), mw_j (by omega), mw_k (by omega)]
        exact ⟨rfl, rfl⟩
      · rw [g4 q j z1 z2, mw_k z2, mw_k z1]
    have e7' : i (mm_P (!w) + 7) (nI k).toNatClampNeg = (pL (dP δ) k).2.2.1 := by rw [nI_clamp (by omega)]; exact e7
    have f7' : mm_ww i (mm_P (!w) + 6) k (dMn δ (pL (dP δ) k).2.1) (mm_P (!w) + 7) (nI k).toNatClampNeg = (pL (dP δ) k).2.2.1 := by rw [mw_k (by omega)]; exact e7'
    rw [mr_110_2, hN 4 (by omega), if_pos ((nI_ltI (by omega) (by omega)).mpr (by omega)), if_neg no, show i (mm_P (!w) + 6) (nI k).toNatClampNeg = (pL (dP δ) k).2.1 by rw [nI_clamp (by omega)]; exact e6, c_mnt (hN 0 (by omega)) (hN 1 (by omega)) hA hd r3, mb_l, mb_v, mr_110_27, if_neg no, if_neg no]
    simp only [nI_clamp (show k < 2 ^ 31 by omega), e7]
    by_cases z : (pL (dP δ) k).2.2.1 = -1
    · rw [if_pos z]
      exact rcc (-1) (by rw [if_pos z])
    · rw [if_neg z, if_neg no, c_mnt (hN1 _ 0 (by omega)) (hN1 _ 1 (by omega)) (hA1 _) hd (r4.resolve_left z), mb_l, mb_v]
      exact rcc _ (by rw [if_neg z])
theorem c_st2 (hd : DW δ) (hc : dC δ ≤ 1200) : ∀ (D k : Nat) (i : Nat → Nat → Int32), k + D = dC δ → i (mm_P (!w)) 18 = nI (dC δ) → (∀ j, j < 7 → i (mm_P (!w) + 1) j = nI (pN (dP δ) j)) → AC (!w) i δ → ∃ i', mm_V 110 66 [some (.ref (mm_P (!w))), some (.int (nI k))] [] (mm_Z m w i l e) = some (.inl none, mm_Z m w i' l e) ∧ (∀ j, k ≤ j → j < dC δ → vW (dP δ) (i (mm_P (!w) + 18) j) → i' (mm_P (!w) + 18) j = dMn δ (i (mm_P (!w) + 18) j)) ∧ (∀ j, j < k → i' (mm_P (!w) + 18) j = i (mm_P (!w) + 18) j) ∧ (∀ q j, q ≠ mm_P (!w) + 18 → i' q j = i q j)
  | 0, k, i, hk, h18, hN, hA => by
    refine ⟨i, ?_, fun j h1 h2 => by omega, fun _ _ => rfl, fun _ _ _ => rfl⟩
    rw [mr_110_66, h18, if_neg (fun z => by have := (nI_ltI (by omega) (by omega)).mp z; omega)]
  | D + 1, k, i, hk, h18, hN, hA => by
    have hp := mP_c (!w)
    have no : ¬ mm_out (nI k) 1200 := no_out (by omega) (by omega)
    obtain ⟨v, a1, a2⟩ := c_mna (m := m) (l := l) (e := e) (x := i (mm_P (!w) + 18) k) (hN 0 (by omega)) (hN 1 (by omega)) hA hd
    obtain ⟨i2, g1, g2, g3, g4⟩ := c_st2 hd hc D (k + 1) (mm_ww i (mm_P (!w) + 18) k v) (by omega) (by rw [mw_k (by omega)]; exact h18) (fun j hj => by rw [mw_k (by omega)]; exact hN j hj) (fun a ha => by rw [mw_k (by omega)]; exact hA a ha)
    refine ⟨i2, ?_, fun j h1 h2 hv => ?_, fun j hj => ?_, fun q j z => ?_⟩
    · rw [mr_110_66, h18, if_pos ((nI_ltI (by omega) (by omega)).mpr (by omega)), if_neg no, nI_clamp (by omega), a1, mb_l, mb_v, mr_110_89, if_neg no, nI_clamp (by omega), nI_1, g1]
    · by_cases z : j = k
      · subst z
        rw [g3 j (by omega), mw_s]
        exact a2 hv
      · have := g2 j (by omega) h2 (by rw [mw_j z]; exact hv)
        rw [mw_j z] at this
        exact this
    · rw [g3 j (by omega), mw_j (by omega)]
    · rw [g4 q j z, mw_k z]
/-- codes of settled operations -/
def cSe (δ : mQ) (c : Nat × Int32) : Nat × Int32 := (c.1, if c.1 = 3 ∨ c.1 = 4 then dMn δ c.2 else c.2)
theorem oC_se (op : mO) (h7 : op.1 ≤ 7) : oC (oSe δ op) = (oC op).map (cSe δ) := by
  obtain ⟨o, g, v⟩ := op
  have h7 : o ≤ 7 := h7
  rcases (show o = 0 ∨ o = 1 ∨ o = 2 ∨ o = 3 ∨ o = 4 ∨ o = 5 ∨ o = 6 ∨ o = 7 by omega) with z | z | z | z | z | z | z | z <;> subst z <;> cases g <;> rfl
theorem oOk_7 : ∀ (O : List mO) (h : Nat), oOk h O → ∀ op, op ∈ O → op.1 ≤ 7
  | [], h, q, op, ho => by cases ho
  | c :: r, h, q, op, ho => by
    unfold oOk at q
    rcases List.mem_cons.mp ho with z | z
    · rw [z]; exact q.1
    · have q2 := q.2
      split at q2
      · exact oOk_7 r _ q2.2 op z
      · split at q2
        · exact oOk_7 r _ q2.2 op z
        · exact oOk_7 r _ q2.2 op z
theorem oCs_se : ∀ (O : List mO), (∀ op, op ∈ O → op.1 ≤ 7) → oCs (O.map (oSe δ)) = (oCs O).map (cSe δ)
  | [], _ => rfl
  | op :: O, h => by
    have h1 := oC_se (δ := δ) op (h op (List.mem_cons_self ..))
    have h2 := oCs_se O (fun o ho => h o (List.mem_cons_of_mem _ ho))
    show oC (oSe δ op) ++ oCs (O.map (oSe δ)) = (oC op ++ oCs O).map (cSe δ)
    rw [h1, h2, List.map_append]
theorem oOk_se : ∀ (O : List mO) (h : Nat), oOk h O → oOk h (O.map (oSe δ))
  | [], h, q => q
  | c :: r, h, q => by
    unfold oOk at q
    show oOk h (oSe δ c :: r.map (oSe δ))
    unfold oOk
    have e1 : (oSe δ c).1 = c.1 := rfl
    rw [e1]
    refine ⟨q.1, ?_⟩
    have q2 := q.2
    split
    · rename_i z; rw [if_pos z] at q2; exact ⟨q2.1, oOk_se r _ q2.2⟩
    · rename_i z
      rw [if_neg z] at q2
      split
      · rename_i y; rw [if_pos y] at q2; exact ⟨q2.1, oOk_se r _ q2.2⟩
      · rename_i y; rw [if_neg y] at q2; exact ⟨q2.1, oOk_se r _ q2.2⟩
theorem oCs_v {O : List mO} (h7 : ∀ op, op ∈ O → op.1 ≤ 7) (hv : vO ρ O) {c : Nat × Int32} (hc : c ∈ oCs O) (h34 : c.1 = 3 ∨ c.1 = 4) : vW ρ c.2 := by
  unfold oCs at hc
  obtain ⟨op, o1, o2⟩ := List.mem_flatMap.mp hc
  have hk := h7 op o1
  have hvo := hv op o1
  obtain ⟨o, g, v⟩ := op
  have hk : o ≤ 7 := hk
  rcases (show o = 0 ∨ o = 1 ∨ o = 2 ∨ o = 3 ∨ o = 4 ∨ o = 5 ∨ o = 6 ∨ o = 7 by omega) with z | z | z | z | z | z | z | z <;> subst z
  · rcases List.mem_singleton.mp (show c ∈ [((7 : Nat), (0 : Int32))] from o2) with rfl; dsimp only at h34; omega
  · rcases List.mem_singleton.mp (show c ∈ [((6 : Nat), (0 : Int32))] from o2) with rfl; dsimp only at h34; omega
  · rcases List.mem_singleton.mp (show c ∈ [((5 : Nat), (0 : Int32))] from o2) with rfl; dsimp only at h34; omega
  all_goals
    rcases List.mem_cons.mp o2 with u | u
    · subst u
      first
        | (exfalso; dsimp only at h34; omega)
        | exact hvo (by dsimp only; omega)
    · exfalso
      cases g with
      | false => cases u
      | true =>
        rcases List.mem_singleton.mp (show c ∈ [((7 : Nat), (0 : Int32))] from u) with rfl
        dsimp only at h34; omega
/-- the class's policy -/
theorem c_settle (h : CX w i0 l0 i l δ) : ∃ i', mm_V 110 0 [some (.ref (mm_P (!w))), none] [] (mm_Z m w i l e) = some (.inl none, mm_Z m w i' l e) ∧ PC (!w) i' (dSe δ) ∧ QC i' δ ∧ mG (fP w) i i' := by
  have hp := mP_c (!w)
  obtain ⟨⟨⟨a1, a2, a3, a4, a5⟩, b2, b3, b4, b5⟩, hd, hs, h18, hc, -, -⟩ := h
  obtain ⟨i1, f1, f2, -, f4⟩ := c_st1 (m := m) (l := l) (e := e) (w := w) hd (pN (dP δ) 4) 0 i (by omega) a1 b5 (fun j _ hj => ⟨(a4 j hj).2.1, (a4 j hj).2.2.1⟩)
  have f1 : mm_V 110 2 [some (.ref (mm_P (!w))), some (.int 0)] [] (mm_Z m w i l e) = _ := f1
  obtain ⟨i2, g1, g2, -, g4⟩ := c_st2 (m := m) (l := l) (e := e) (w := w) hd hc (dC δ) 0 i1 (by omega) (by rw [f4 _ _ (by omega) (by omega)]; exact h18) (fun j hj => by rw [f4 _ _ (by omega) (by omega)]; exact a1 j hj) (fun a ha => by rw [f4 _ _ (by omega) (by omega)]; exact b5 a ha)
  have g1 : mm_V 110 66 [some (.ref (mm_P (!w))), some (.int 0)] [] (mm_Z m w i1 l e) = _ := g1
  have far : ∀ q j, q ≠ mm_P (!w) + 6 → q ≠ mm_P (!w) + 7 → q ≠ mm_P (!w) + 18 → i2 q j = i q j := fun q j z1 z2 z3 => by rw [g4 q j z3, f4 q j z1 z2]
  refine ⟨i2, by rw [mr_110_0, f1, g1], ⟨⟨fun j hj => ?_, fun u hu => ?_, fun u hu => ?_, fun k hk => ?_, fun k hk => ?_⟩, fun k hk => ?_⟩, ⟨fun k hk => ?_, fun k hk => ?_⟩, fun k j z => ?_⟩
  · rw [far _ _ (by omega) (by omega) (by omega)]; exact a1 j hj
  · rw [far _ _ (by omega) (by omega) (by omega)]; exact a2 u hu
  · rw [far _ _ (by omega) (by omega) (by omega)]; exact a3 u hu
  · have hk : k < pN (dP δ) 4 := hk
    obtain ⟨c1, c2, c3, c4, c5⟩ := a4 k hk
    obtain ⟨d1, d2⟩ := f2 k (Nat.zero_le _) hk
    rw [far (mm_P (!w) + 5) _ (by omega) (by omega) (by omega), far (mm_P (!w) + 8) _ (by omega) (by omega) (by omega), far (mm_P (!w) + 9) _ (by omega) (by omega) (by omega), g4 (mm_P (!w) + 6) k (by omega), g4 (mm_P (!w) + 7) k (by omega)]
    exact ⟨c1, d1, d2, c4, c5⟩
  · rw [far _ _ (by omega) (by omega) (by omega), far _ _ (by omega) (by omega) (by omega), far _ _ (by omega) (by omega) (by omega), far _ _ (by omega) (by omega) (by omega)]; exact a5 k hk
  · have hk : k < pN (dP δ) 6 := hk
    obtain ⟨c1, c2, s, c3, c4, c5, c6⟩ := b2.1 k hk
    obtain ⟨r1, r2, r3⟩ := hd.2.2.1.2.2 k hk
    have h7 := oOk_7 _ _ r2
    have eo : oCs ((pT (dP δ) k).2.2.map (oSe δ)) = (oCs (pT (dP δ) k).2.2).map (cSe δ) := oCs_se _ h7
    have el : (oCs (pT (dSe δ) k).2.2).length = (oCs (pT (dP δ) k).2.2).length := by
      show (oCs ((pT (dP δ) k).2.2.map (oSe δ))).length = _
      rw [eo, List.length_map]
    rw [el]
    refine ⟨by rw [far _ _ (by omega) (by omega) (by omega)]; exact c1, by rw [far _ _ (by omega) (by omega) (by omega)]; exact c2, s, by rw [far _ _ (by omega) (by omega) (by omega)]; exact c3, by rw [far _ _ (by omega) (by omega) (by omega)]; exact c4, by omega, fun j c hj => ?_⟩
    have hj : (oCs ((pT (dP δ) k).2.2.map (oSe δ)))[j]? = some c := hj
    rw [eo, List.getElem?_map] at hj
    cases hq : (oCs (pT (dP δ) k).2.2)[j]? with
    | none => rw [hq] at hj; cases hj
    | some c0 =>
      rw [hq] at hj
      have ec : cSe δ c0 = c := by injection hj
      obtain ⟨q1, q2⟩ := c6 j c0 hq
      have hl : j < (oCs (pT (dP δ) k).2.2).length := by
        rcases Nat.lt_or_ge j (oCs (pT (dP δ) k).2.2).length with z | z
        · exact z
        · rw [List.getElem?_eq_none z] at hq; cases hq
      rw [← ec]
      refine ⟨by rw [far _ _ (by omega) (by omega) (by omega)]; exact q1, fun h34 => ?_⟩
      have h34 : c0.1 = 3 ∨ c0.1 = 4 := h34
      have ev : i1 (mm_P (!w) + 18) (s + j) = c0.2 := by rw [f4 _ _ (by omega) (by omega)]; exact q2 h34
      have hv : vW (dP δ) c0.2 := oCs_v h7 r3 (List.mem_of_getElem? hq) h34
      rw [g2 (s + j) (Nat.zero_le _) (by omega) (by rw [ev]; exact hv), ev]
      show _ = if c0.1 = 3 ∨ c0.1 = 4 then dMn δ c0.2 else c0.2
      rw [if_pos h34]
  · rw [far _ _ (by omega) (by omega) (by omega)]; exact b4.1 k hk
  · rw [far _ _ (by omega) (by omega) (by omega)]; exact b4.2 k hk
  · unfold fP at z
    exact far _ _ (by omega) (by omega) (by omega)
end MM150
