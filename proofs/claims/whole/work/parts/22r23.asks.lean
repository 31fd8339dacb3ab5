/-! THE GUARD: a question in the reference -/
section MM82
variable {p w : Bool} {l : Nat → Nat → Int64} {e : Bool × Nat × Nat} {π : mP} {m : Nat} {κ : mK}
theorem GR_q {i : Nat → Nat → Int32} (h : GR i κ) (x : Int32) : GR (mm_ww i 83 84 x) (kSetQ κ x) := by
  obtain ⟨⟨a1, a2⟩, ⟨a3, a4⟩, ⟨a5, a6⟩, a7, a8⟩ := h
  refine ⟨⟨by rw [mw_j (by omega)]; exact a1, fun k hk => by rw [mw_k (by omega)]; exact a2 k hk⟩, ⟨by rw [mw_j (by omega)]; exact a3, fun k hk => by rw [mw_k (by omega), mw_k (by omega), mw_k (by omega), mw_k (by omega)]; exact a4 k hk⟩, ⟨by rw [mw_j (by omega)]; exact a5, fun k hk => by rw [mw_k (by omega), mw_k (by omega), mw_k (by omega), mw_k (by omega), mw_k (by omega)]; exact a6 k hk⟩, by rw [mw_s]; rfl, by rw [mw_j (by omega)]; exact a8⟩
theorem GR_h {i : Nat → Nat → Int32} (h : GR i κ) (x : Int32) : GR (mm_ww i 83 85 x) (kSetH κ x) := by
  obtain ⟨⟨a1, a2⟩, ⟨a3, a4⟩, ⟨a5, a6⟩, a7, a8⟩ := h
  refine ⟨⟨by rw [mw_j (by omega)]; exact a1, fun k hk => by rw [mw_k (by omega)]; exact a2 k hk⟩, ⟨by rw [mw_j (by omega)]; exact a3, fun k hk => by rw [mw_k (by omega), mw_k (by omega), mw_k (by omega), mw_k (by omega)]; exact a4 k hk⟩, ⟨by rw [mw_j (by omega)]; exact a5, fun k hk => by rw [mw_k (by omega), mw_k (by omega), mw_k (by omega), mw_k (by omega), mw_k (by omega)]; exact a6 k hk⟩, by rw [mw_j (by omega)]; exact a7, by rw [mw_s]; rfl⟩
theorem gr_hit_loop {i : Nat → Nat → Int32} (h : GR i κ) (hw : GW κ) {a b c : Int32} : ∀ (D k : Nat), k + D = (kC κ).length → mm_V 262 23 [some (.ref 83), some (.int a), some (.int b), some (.int c), some (.int (nI k))] [] (mm_Z m w i l e) = if tFst (kHit (kC κ) a b c) D k < (kC κ).length then some (.inl (some (.int ((kC κ).getD (tFst (kHit (kC κ) a b c) D k) kz).2.2.2)), mm_Z m w (mm_ww i 83 85 (kh κ + 1)) l e) else (if (kC κ).length = 6 then mm_V 262 101 [some (.ref 83), some (.int a), some (.int b), some (.int c), some (.int 0)] [] (mm_Z m w i l e) else mm_V 262 190 [some (.ref 83), some (.int a), some (.int b), some (.int c), some (.int (nI (kC κ).length))] [] (mm_Z m w i l e))
  | 0, k, hk => by
    have hl := hw.2.1
    have e0 : tFst (kHit (kC κ) a b c) 0 k = k := rfl
    rw [mr_262_23]
    simp only [h.2.1.1, nI_ltI (show k < 2 ^ 31 by omega) (show (kC κ).length < 2 ^ 31 by omega), na_6, nI_eq (show (kC κ).length < 2 ^ 31 by omega) (show 6 < 2 ^ 31 by omega)]
    rw [if_neg (show ¬ k < (kC κ).length by omega), e0, if_neg (show ¬ k < (kC κ).length by omega), show k = (kC κ).length by omega]
  | D + 1, k, hk => by
    have hl := hw.2.1
    obtain ⟨r1, r2, r3, r4⟩ := h.2.1.2 k (by omega)
    have ho : ¬ mm_out (nI k) 6 := no_out (by omega) (by omega)
    rw [mr_262_23]
    simp only [h.2.1.1, nI_ltI (show k < 2 ^ 31 by omega) (show (kC κ).length < 2 ^ 31 by omega), nI_clamp (show k < 2 ^ 31 by omega), r1, r2, r3, r4, if_neg ho, nI_1, h.2.2.2.2]
    rw [if_pos (show k < (kC κ).length by omega)]
    have ih := gr_hit_loop h hw (a := a) (b := b) (c := c) D (k + 1) (by omega)
    by_cases q1 : ((kC κ).getD k kz).1 = a
    · rw [if_pos q1]
      by_cases q2 : ((kC κ).getD k kz).2.1 = b
      · rw [if_pos q2]
        by_cases q3 : ((kC κ).getD k kz).2.2.1 = c
        · have e0 : tFst (kHit (kC κ) a b c) (D + 1) k = k := by rw [tFst, if_pos (by unfold kHit; exact decide_eq_true ⟨q1, q2, q3⟩)]
          rw [if_pos q3, e0, if_pos (show k < (kC κ).length by omega)]
        · rw [if_neg q3, ih, tFst_step _ _ _ (by unfold kHit; exact decide_eq_false (fun z => q3 z.2.2))]
      · rw [if_neg q2, ih, tFst_step _ _ _ (by unfold kHit; exact decide_eq_false (fun z => q2 z.2.1))]
    · rw [if_neg q1, ih, tFst_step _ _ _ (by unfold kHit; exact decide_eq_false (fun z => q1 z.1))]
theorem gr_sh_loop {x1 x2 x3 : Int32} : ∀ (D k : Nat) (i : Nat → Nat → Int32), k + D = 5 → ∃ (i' : Nat → Nat → Int32), mm_V 262 101 [some (.ref 83), some (.int x1), some (.int x2), some (.int x3), some (.int (nI k))] [] (mm_Z m w i l e) = mm_V 262 190 [some (.ref 83), some (.int x1), some (.int x2), some (.int x3), some (.int (nI 5))] [] (mm_Z m w (mm_ww i' 83 86 (i 83 86 - 1)) l e) ∧ (∀ r j, 137 ≤ r → r ≤ 140 → k ≤ j → j < 5 → i' r j = i r (j + 1)) ∧ (∀ r j, 137 ≤ r → r ≤ 140 → j < k → i' r j = i r j) ∧ (∀ q, q < 137 ∨ 140 < q → i' q = i q)
  | 0, k, i, hk => by
    refine ⟨i, ?_, fun r j _ _ h1 h2 => by omega, fun _ _ _ _ _ => rfl, fun _ _ => rfl⟩
    rw [mr_262_101, nI_1, na_6, if_neg (by rw [nI_ltI (by omega) (by omega)]; omega), show k = 5 by omega]
  | D + 1, k, i, hk => by
    have ho1 : ¬ mm_out (nI (k + 1)) 6 := no_out (by omega) (by omega)
    have ho0 : ¬ mm_out (nI k) 6 := no_out (by omega) (by omega)
    obtain ⟨i', e1, e2, e3, e4⟩ := gr_sh_loop (x1 := x1) (x2 := x2) (x3 := x3) D (k + 1) (mm_ww (mm_ww (mm_ww (mm_ww i 137 k (i 137 (k + 1))) 138 k (i 138 (k + 1))) 139 k (i 139 (k + 1))) 140 k (i 140 (k + 1))) (by omega)
    have rd : ∀ r j, 137 ≤ r → r ≤ 140 → (mm_ww (mm_ww (mm_ww (mm_ww i 137 k (i 137 (k + 1))) 138 k (i 138 (k + 1))) 139 k (i 139 (k + 1))) 140 k (i 140 (k + 1))) r j = if j = k then i r (k + 1) else i r j := by
      intro r j h1 h2
      rcases (show r = 137 ∨ r = 138 ∨ r = 139 ∨ r = 140 by omega) with rfl | rfl | rfl | rfl
      · rw [mw_k (by omega), mw_k (by omega), mw_k (by omega), mw_r]
      · rw [mw_k (by omega), mw_k (by omega), mw_r, mw_k (by omega)]
      · rw [mw_k (by omega), mw_r, mw_k (by omega), mw_k (by omega)]
      · rw [mw_r, mw_k (by omega), mw_k (by omega), mw_k (by omega)]
    refine ⟨i', ?_, ?_, ?_, ?_⟩
    · rw [mr_262_101]
      simp only [nI_1, na_6, nI_ltI (show k + 1 < 2 ^ 31 by omega) (show 6 < 2 ^ 31 by omega), nI_clamp (show k < 2 ^ 31 by omega), nI_clamp (show k + 1 < 2 ^ 31 by omega), if_neg ho0, if_neg ho1]
      rw [if_pos (by omega), e1, mw_k (by omega), mw_k (by omega), mw_k (by omega), mw_k (by omega)]
    · intro r j h1 h2 h3 h4
      by_cases z : j = k
      · subst z
        rw [e3 r j h1 h2 (by omega), rd r j h1 h2, if_pos rfl]
      · rw [e2 r j h1 h2 (by omega) h4, rd r (j + 1) h1 h2, if_neg (by omega)]
    · intro r j h1 h2 h3
      rw [e3 r j h1 h2 (by omega), rd r j h1 h2, if_neg (by omega)]
    · intro q hq
      rw [e4 q hq, mw_k (by omega), mw_k (by omega), mw_k (by omega), mw_k (by omega)]
theorem pr_far {k j : Nat} (h : gpR k j) : ¬ (92 ≤ k ∧ k ≤ 110) ∧ (k = 83 → ¬ ((14 ≤ j ∧ j ≤ 17) ∨ j = 21 ∨ j = 28 ∨ j = 34)) := by
  unfold gpR at h; omega
theorem PR.fr {i i' : Nat → Nat → Int32} (h : PR i π) (hf : mG gpR i i') : PR i' π :=
  h.kp (fun j hj => hf 83 j (fun q => (pr_far q).2 rfl hj)) (fun k j h1 h2 => hf k j (fun q => (pr_far q).1 ⟨h1, h2⟩))
theorem grk_put {i i1 : Nat → Nat → Int32} (h : GR i κ) (hP : PR i π) (hPw : PW π) (hPo : PO π) {a b cl : Nat} (ha : a < 2 ^ 31) (hb : b < 2 ^ 31) (hcl : cl < 2 ^ 31) {x4 : Int32} {C : List (Int32 × Int32 × Int32 × Int32)} (hC : C.length < 6) (h8 : i1 83 86 = nI C.length) (hR : ∀ k, k < C.length → i1 137 k = (C.getD k kz).1 ∧ i1 138 k = (C.getD k kz).2.1 ∧ i1 139 k = (C.getD k kz).2.2.1 ∧ i1 140 k = (C.getD k kz).2.2.2) (hF : ∀ k j, ¬ ((137 ≤ k ∧ k ≤ 140) ∨ (k = 83 ∧ j = 86)) → i1 k j = i k j) : ∃ i', mm_V 262 190 [some (.ref 83), some (.int (nI a)), some (.int (nI b)), some (.int (nI cl)), some (.int x4)] [] (mm_Z m w i1 l e) = some (.inl (some (.int (pVec π a b cl))), mm_Z m w i' l e) ∧ GR i' (kSetC κ (C ++ [(nI a, nI b, nI cl, pVec π a b cl)])) ∧ mG gpR i i' := by
  have ho : ¬ mm_out (nI C.length) 6 := no_out hC (by omega)
  have f1 : mG gpR i (mm_ww (mm_ww (mm_ww i1 137 C.length (nI a)) 138 C.length (nI b)) 139 C.length (nI cl)) := by
    intro k j hq
    rw [mw_k (fun z => hq (by unfold gpR; omega)), mw_k (fun z => hq (by unfold gpR; omega)), mw_k (fun z => hq (by unfold gpR; omega))]
    exact hF k j (fun z => hq (by unfold gpR; omega))
  obtain ⟨i2, e1, e2⟩ := pr_vectorOf (m := m) (w := w) (l := l) (e := e) (hP.fr f1) hPw hPo ha hb hcl
  have e86 : i2 83 86 = nI C.length := by rw [e2 83 (by omega), mw_k (by omega), mw_k (by omega), mw_k (by omega)]; exact h8
  rw [mr_262_190]
  simp only [h8, if_neg ho, nI_clamp (show C.length < 2 ^ 31 by omega)]
  rw [e1, mb_l, mb_v, mr_262_235]
  simp only [e86, if_neg ho, nI_1, nI_pred, nI_clamp (show C.length < 2 ^ 31 by omega), mw_s]
  obtain ⟨⟨a1, a2⟩, -, ⟨a5, a6⟩, a7, a8⟩ := h
  have f : ∀ k j, ¬ ((137 ≤ k ∧ k ≤ 140) ∨ k = 111 ∨ (k = 83 ∧ j = 86)) → (mm_ww (mm_ww i2 140 C.length (pVec π a b cl)) 83 86 (nI (C.length + 1))) k j = i k j := by
    intro k j hq
    by_cases z : k = 83
    · subst z
      rw [mw_j (by omega), mw_k (by omega), e2 _ (by omega), mw_k (by omega), mw_k (by omega), mw_k (by omega)]
      exact hF _ _ (by omega)
    · rw [mw_k z, mw_k (by omega), e2 _ (by omega), mw_k (by omega), mw_k (by omega), mw_k (by omega)]
      exact hF _ _ (by omega)
  refine ⟨_, rfl, ⟨⟨by rw [f _ _ (by omega)]; exact a1, fun k hk => by rw [f _ _ (by omega)]; exact a2 k hk⟩, ⟨?_, ?_⟩, ⟨by rw [f _ _ (by omega)]; exact a5, fun k hk => by rw [f _ _ (by omega), f _ _ (by omega), f _ _ (by omega), f _ _ (by omega), f _ _ (by omega)]; exact a6 k hk⟩, by rw [f _ _ (by omega)]; exact a7, by rw [f _ _ (by omega)]; exact a8⟩, fun k j hq => f k j (fun z => hq (by unfold gpR; omega))⟩
  · rw [mw_s]; show _ = nI (C ++ [(nI a, nI b, nI cl, pVec π a b cl)]).length; rw [List.length_append]; rfl
  · intro k hk
    have hk' : k < C.length + 1 := by
      have hk : k < (C ++ [(nI a, nI b, nI cl, pVec π a b cl)]).length := hk
      rw [List.length_append, List.length_singleton] at hk; exact hk
    show _ = ((C ++ [(nI a, nI b, nI cl, pVec π a b cl)]).getD k kz).1 ∧ _ = ((C ++ [(nI a, nI b, nI cl, pVec π a b cl)]).getD k kz).2.1 ∧ _ = ((C ++ [(nI a, nI b, nI cl, pVec π a b cl)]).getD k kz).2.2.1 ∧ _ = ((C ++ [(nI a, nI b, nI cl, pVec π a b cl)]).getD k kz).2.2.2
    rw [mw_k (show 137 ≠ 83 by omega), mw_k (show 138 ≠ 83 by omega), mw_k (show 139 ≠ 83 by omega), mw_k (show 140 ≠ 83 by omega), mw_k (show 137 ≠ 140 by omega), mw_k (show 138 ≠ 140 by omega), mw_k (show 139 ≠ 140 by omega), e2 137 (by omega), e2 138 (by omega), e2 139 (by omega), mw_k (show 137 ≠ 139 by omega), mw_k (show 137 ≠ 138 by omega), mw_k (show 138 ≠ 139 by omega)]
    by_cases z : k = C.length
    · subst z
      rw [mw_s, mw_s, mw_s, mw_s, gd_end]
      exact ⟨rfl, rfl, rfl, rfl⟩
    · rw [mw_j z, mw_j z, mw_j z, mw_j z, gd_app (by omega), mw_k (show 138 ≠ 137 by omega), mw_k (show 139 ≠ 138 by omega), mw_k (show 139 ≠ 137 by omega), e2 140 (by omega), mw_k (show 140 ≠ 139 by omega), mw_k (show 140 ≠ 138 by omega), mw_k (show 140 ≠ 137 by omega)]
      exact hR k (by omega)
theorem gr_ask {i : Nat → Nat → Int32} (h : GR i κ) (hw : GW κ) (hP : PR i π) (hPw : PW π) (hPo : PO π) {a b cl : Nat} (ha : a < 2 ^ 31) (hb : b < 2 ^ 31) (hcl : cl < 2 ^ 31) (hr : kRm (kI κ) (nI a) (nI b)) : ∃ i', mm_V 262 0 [some (.ref 83), some (.int (nI a)), some (.int (nI b)), some (.int (nI cl)), none] [] (mm_Z m w i l e) = some (.inl (some (.int (kAsk (kId2 κ (nI a) (nI b)) (nI a) (nI b) (nI cl) (pVec π a b cl)).1)), mm_Z m w i' l e) ∧ GR i' (kAsk (kId2 κ (nI a) (nI b)) (nI a) (nI b) (nI cl) (pVec π a b cl)).2 ∧ mG gpR i i' := by
  have hq := GR_q h (kq κ + 1)
  have f0 : mG gpR i (mm_ww i 83 84 (kq κ + 1)) := mG.ww (Or.inr (Or.inr ⟨rfl, by omega⟩))
  have hw0 : GW (kSetQ κ (kq κ + 1)) := hw
  obtain ⟨i1, i2, a1, a2, a3, a4⟩ := gr_ids (m := m) (w := w) (l := l) (e := e) hq hw0 (nI a) (nI b) hr
  have hw2 : GW (kId2 κ (nI a) (nI b)) := GWI hw0 hr (nd_id (nd_id hw.2.2.2.2 _) _)
  have f2 : mG gpR i i2 := f0.tr a4
  have a3 : GR i2 (kId2 κ (nI a) (nI b)) := a3
  have h6 := hw2.2.1
  rw [mr_262_0, h.2.2.2.1, a1, mb_l, mb_0, mr_262_15, a2, mb_l, mb_0, mr_262_20, na_0, gr_hit_loop a3 hw2 (kC (kId2 κ (nI a) (nI b))).length 0 (by omega)]
  unfold kAsk
  show ∃ i', (if kRow (kC (kId2 κ (nI a) (nI b))) (nI a) (nI b) (nI cl) < (kC (kId2 κ (nI a) (nI b))).length then _ else _) = _ ∧ _
  by_cases q : kRow (kC (kId2 κ (nI a) (nI b))) (nI a) (nI b) (nI cl) < (kC (kId2 κ (nI a) (nI b))).length
  · rw [if_pos q, if_pos q]
    exact ⟨_, rfl, GR_h a3 _, f2.tr (mG.ww (Or.inr (Or.inr ⟨rfl, by omega⟩)))⟩
  · rw [if_neg q, if_neg q]
    by_cases q6 : (kC (kId2 κ (nI a) (nI b))).length = 6
    · have eA : kAdd (kC (kId2 κ (nI a) (nI b))) (nI a, nI b, nI cl, pVec π a b cl) = (kC (kId2 κ (nI a) (nI b))).tail ++ [(nI a, nI b, nI cl, pVec π a b cl)] := by unfold kAdd; rw [if_neg (by omega)]
      have eT : (kC (kId2 κ (nI a) (nI b))).tail.length = 5 := by rw [List.length_tail, q6]
      obtain ⟨i3, b1, b2, b3, b4⟩ := gr_sh_loop (m := m) (w := w) (l := l) (e := e) (x1 := nI a) (x2 := nI b) (x3 := nI cl) 5 0 i2 rfl
      rw [if_pos q6, na_0, b1, eA]
      obtain ⟨i', g1, g2, g3⟩ := grk_put (m := m) (w := w) (l := l) (e := e) (x4 := nI 5) (i1 := mm_ww i3 83 86 (i2 83 86 - 1)) a3 (hP.fr f2) hPw hPo ha hb hcl (C := (kC (kId2 κ (nI a) (nI b))).tail) (by omega) (by rw [mw_s, a3.2.1.1, q6, eT]; rfl) (fun k hk => by
        obtain ⟨r1, r2, r3, r4⟩ := a3.2.1.2 (k + 1) (by omega)
        rw [mw_k (by omega), mw_k (by omega), mw_k (by omega), mw_k (by omega), b2 137 k (by omega) (by omega) (by omega) (by omega), b2 138 k (by omega) (by omega) (by omega) (by omega), b2 139 k (by omega) (by omega) (by omega) (by omega), b2 140 k (by omega) (by omega) (by omega) (by omega), gd_tail]
        exact ⟨r1, r2, r3, r4⟩) (fun k j hq => by
        by_cases z : k = 83
        · subst z; rw [mw_j (by omega), b4 _ (by omega)]
        · rw [mw_k z, b4 _ (by omega)])
      exact ⟨i', g1, g2, f2.tr g3⟩
    · have eA : kAdd (kC (kId2 κ (nI a) (nI b))) (nI a, nI b, nI cl, pVec π a b cl) = kC (kId2 κ (nI a) (nI b)) ++ [(nI a, nI b, nI cl, pVec π a b cl)] := by unfold kAdd; rw [if_pos (by omega)]
      rw [if_neg q6, eA]
      obtain ⟨i', g1, g2, g3⟩ := grk_put (m := m) (w := w) (l := l) (e := e) (x4 := nI (kC (kId2 κ (nI a) (nI b))).length) (i1 := i2) a3 (hP.fr f2) hPw hPo ha hb hcl (by omega) a3.2.1.1 a3.2.1.2 (fun _ _ _ => rfl)
      exact ⟨i', g1, g2, f2.tr g3⟩
theorem gr_checkAll {i : Nat → Nat → Int32} (h : GR i κ) (hw : GW κ) (hP : PR i π) (hPw : PW π) (hPo : PO π) {a b cl : Nat} {pm : Int32} (ha : a < 2 ^ 31) (hb : b < 2 ^ 31) (hcl : cl < 2 ^ 31) (hr : kRm (kI κ) (nI a) (nI b)) : ∃ i', mm_V 264 0 [some (.ref 83), some (.int (nI a)), some (.int (nI b)), some (.int (nI cl)), some (.int pm), none, none] [] (mm_Z m w i l e) = some (.inl (some (.int (bI (kGr π κ a b cl pm).1))), mm_Z m w i' l e) ∧ GR i' (kGr π κ a b cl pm).2 ∧ mG gpR i i' := by
  obtain ⟨i3, b1, b4, b5⟩ := gr_ask (m := m) (w := w) (l := l) (e := e) h hw hP hPw hPo ha hb hcl hr
  have hP3 := hP.fr b5
  have hw2 : GW (kId2 κ (nI a) (nI b)) := GWI (show GW (kSetQ κ (kq κ + 1)) from hw) hr (nd_id (nd_id hw.2.2.2.2 _) _)
  have hwr : GW (kAsk (kId2 κ (nI a) (nI b)) (nI a) (nI b) (nI cl) (pVec π a b cl)).2 := GW_ask hw2
  rw [mr_264_0, b1, mb_l, mb_v, mr_264_9]
  unfold kGr
  dsimp only
  generalize kAsk (kId2 κ (nI a) (nI b)) (nI a) (nI b) (nI cl) (pVec π a b cl) = r at b4 hwr
  have e90 : ∀ i5 (x5 te : Int32), mm_V 264 90 [some (.ref 83), some (.int (nI a)), some (.int (nI b)), some (.int (nI cl)), some (.int pm), some (.int x5), some (.int te)] [] (mm_Z m w i5 l e) = some (.inl (some (.int (bI (decide (x5 = 0))))), mm_Z m w i5 l e) := by
    intro i5 x5 te
    rw [mr_264_90]
    by_cases q2 : x5 = 0
    · rw [if_pos q2, decide_eq_true q2]; rfl
    · rw [if_neg q2, decide_eq_false q2]; rfl
  have fin : ∀ (x5 : Int32) (te : Int32), ∃ i', (if te = 0 then mm_V 264 64 [some (.ref 83), some (.int (nI a)), some (.int (nI b)), some (.int (nI cl)), some (.int pm), some (.int x5), none] [.int 0] (mm_Z m w i3 l e) else mm_V 264 64 [some (.ref 83), some (.int (nI a)), some (.int (nI b)), some (.int (nI cl)), some (.int pm), some (.int x5), none] [.int 1] (mm_Z m w i3 l e)) = some (.inl (some (.int (bI (decide (x5 = 0))))), mm_Z m w i' l e) ∧ GR i' (if te = 0 then r.2 else kRec r.2 (bI (decide (x5 = 0)), nI a, nI b, nI cl, pm)) ∧ mG gpR i i' := by
    intro x5 te
    by_cases q : te = 0
    · rw [if_pos q, if_pos q, mr_264_64, if_pos rfl, e90]
      exact ⟨i3, rfl, b4, b5⟩
    · rw [if_neg q, if_neg q, mr_264_64, if_neg (by decide), if_bI (F := fun z => mm_V 264 82 [some (.ref 83), some (.int (nI a)), some (.int (nI b)), some (.int (nI cl)), some (.int pm), some (.int x5), some (.int 1)] [.int z, .ref 83] (mm_Z m w i3 l e)), mr_264_82]
      obtain ⟨i4, d1, d2, d3⟩ := gr_note (m := m) (w := w) (l := l) (e := e) b4 hwr (decide (x5 = 0)) (nI a) (nI b) (nI cl) pm
      rw [d1, mb_l, mb_0, e90]
      exact ⟨i4, rfl, d2, b5.tr (d3.mo (fun k j z => by unfold gpR; omega))⟩
  by_cases q : pm &&& (r.1 ^^^ (-1)) = 0
  · rw [if_pos q, show (7 : Int32) = nI (2 + 5) from rfl, pr_ruled hP3.1 hPw (by omega) hcl ha hb, mb_l, mb_v, mr_264_30]
    simp only [if_pos q]
    exact fin _ _
  · rw [if_neg q, show (8 : Int32) = nI (3 + 5) from rfl, pr_ruled hP3.1 hPw (by omega) hcl ha hb, mb_l, mb_v, mr_264_53]
    simp only [if_neg q]
    exact fin _ _
end MM82
