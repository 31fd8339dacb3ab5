/-! CONDITIONS, in the reference: brackets -/
section MM167
variable {X : mX} {t : m3} {w : Bool} {i i' i0 : Nat → Nat → Int32} {l : Nat → Nat → Int64} {δ : mQ} {m : Nat} {e : Bool × Nat × Nat} {n k s a b c p g y d : Nat} {S : List Nat} {O : List mO} {x x1 x2 : Int32}
theorem rwt_n {z : Nat} (hz : z = 40 ∨ z = 213 ∨ z = 212 ∨ z = 211) : (rwt z < 0) ↔ z = 40 := by
  rcases hz with y | y | y | y <;> subst y <;> decide
theorem r_has_loop (h : SKs i S) (hw : sW S) : ∀ (d k : Nat) (b : Bool), k + d = S.length → ∃ c : Bool, (c = true ↔ (b = true ∨ ∃ j, k ≤ j ∧ j < S.length ∧ S.getD (S.length - 1 - j) 0 = 40)) ∧ mm_V 231 4 [some (.ref 83), some (.int (bI b)), some (.int (nI k))] [] (mm_Z m w i l e) = some (.inl (some (.int (bI c))), mm_Z m w i l e) := by
  have h3 := h.2.2
  intro d
  induction d with
  | zero =>
    intro k b hk
    refine ⟨b, ⟨fun z => Or.inl z, fun z => ?_⟩, ?_⟩
    · rcases z with z | ⟨j, z1, z2, -⟩
      · exact z
      · omega
    · rw [mr_231_4, h.1, if_neg (fun z => by have := (nI_ltI (by omega) (by omega)).mp z; omega), if_pos (bI_01 b)]
  | succ d ih =>
    intro k b hk
    have hm : S.getD (S.length - 1 - k) 0 ∈ S := by
      rw [List.getD_eq_getElem?_getD, List.getElem?_eq_getElem (by omega)]
      exact List.getElem_mem _
    have hz := sW_el _ hw _ hm
    rw [mr_231_4, h.1, if_pos ((nI_ltI (by omega) (by omega)).mpr (by omega)), nI_1]
    cases b
    · rw [if_bf, if_neg (no_out (by omega) (by omega)), nI_clamp (by omega), h.2.1 k (by omega)]
      by_cases q : S.getD (S.length - 1 - k) 0 = 40
      · obtain ⟨c, c1, c2⟩ := ih (k + 1) true (by omega)
        rw [if_pos ((rwt_n hz).mpr q)]
        exact ⟨c, ⟨fun _ => Or.inr ⟨k, Nat.le_refl _, by omega, q⟩, fun _ => c1.mpr (Or.inl rfl)⟩, c2⟩
      · obtain ⟨c, c1, c2⟩ := ih (k + 1) false (by omega)
        rw [if_neg (fun z => q ((rwt_n hz).mp z))]
        refine ⟨c, ⟨fun z => ?_, fun z => c1.mpr ?_⟩, c2⟩
        · rcases c1.mp z with z | ⟨j, z1, z2, z3⟩
          · exact Or.inl z
          · exact Or.inr ⟨j, by omega, z2, z3⟩
        · rcases z with z | ⟨j, z1, z2, z3⟩
          · exact Or.inl z
          · exact Or.inr ⟨j, by
              rcases Nat.lt_or_ge k j with y | y
              · omega
              · exact absurd (by rw [← z3, show j = k by omega]) q, z2, z3⟩
    · obtain ⟨c, c1, c2⟩ := ih (k + 1) true (by omega)
      rw [if_bt]
      exact ⟨c, ⟨fun _ => Or.inl rfl, fun _ => c1.mpr (Or.inl rfl)⟩, c2⟩
/-- whether a bracket is open -/
theorem r_has (h : SKs i S) (hw : sW S) : ∃ c : Bool, (c = true ↔ 40 ∈ S) ∧ mm_V 231 0 [some (.ref 83), none, none] [] (mm_Z m w i l e) = some (.inl (some (.int (bI c))), mm_Z m w i l e) := by
  obtain ⟨c, c1, c2⟩ := r_has_loop (m := m) (w := w) (l := l) (e := e) h hw S.length 0 false (by omega)
  refine ⟨c, c1.trans ⟨fun z => ?_, fun z => ?_⟩, ?_⟩
  · rcases z with z | ⟨j, -, z2, z3⟩
    · cases z
    · rw [← z3, List.getD_eq_getElem?_getD, List.getElem?_eq_getElem (by omega)]
      exact List.getElem_mem _
  · obtain ⟨j, z1, z2⟩ := List.getElem_of_mem z
    refine Or.inr ⟨S.length - 1 - j, by omega, by omega, ?_⟩
    rw [show S.length - 1 - (S.length - 1 - j) = j by omega, List.getD_eq_getElem?_getD, List.getElem?_eq_getElem z1]
    exact z2
  · rw [mr_231_0]; exact c2
theorem left_r : ∀ (S : List Nat) (O : List mO) (d : Nat), sW S → ((rls 211 S O d).1 = [] ↔ ¬ 40 ∈ S)
  | [], O, d, _ => ⟨fun _ z => (by cases z), fun _ => rfl⟩
  | z :: S, O, d, h => by
    by_cases q : 211 ≤ z
    · rw [rls_yes q, left_r S _ _ h.2]
      refine ⟨fun y1 y2 => ?_, fun y1 y2 => y1 (List.mem_cons_of_mem _ y2)⟩
      rcases List.mem_cons.mp y2 with y | y
      · omega
      · exact y1 y
    · rw [rls_not q]
      have := sW_el _ h z (List.mem_cons_self ..)
      have hz : z = 40 := by omega
      subst hz
      exact ⟨fun y => (by cases y), fun y => absurd (List.mem_cons_self ..) y⟩
theorem rls_ln : ∀ (S : List Nat) (O : List mO) (d : Nat), (rls b S O d).2.1.length + (rls b S O d).1.length = O.length + S.length
  | [], O, d => rfl
  | z :: S, O, d => by
    by_cases q : b ≤ z
    · rw [rls_yes q, rls_ln S]; simp; omega
    · rw [rls_not q]
/-- waiting words are settled, at a token -/
theorem RCn.rl (h : RCn X i0 i t δ S O) (hb : b = 211 ∨ b = 212 ∨ b = 213) (hx1 : x1 = bI (decide (b ≤ 212))) (hx2 : x2 = bI (decide (b ≤ 211))) : ∃ i', mm_V 228 0 [some (.ref 83), some (.int x1), some (.int x2)] [] (mm_Z m w i l e) = some (.inl none, mm_Z m w i' l e) ∧ RCn X i0 i' t δ (rls b S O (sD S)).1 (rls b S O (sD S)).2.1 := by
  obtain ⟨h1, h2, h3, h4⟩ := h
  obtain ⟨i1, f1, f2, f3, f4⟩ := r_rls (m := m) (w := w) (l := l) (e := e) hb hx1 hx2 S O i h3
  have fr : mG (fun k j => (k = 83 ∧ (j = 38 ∨ j = 47 ∨ j = 49)) ∨ (109 ≤ k ∧ k ≤ 110)) i i1 := fun k j z => by
    by_cases q : k = 83
    · subst q; exact f3 j (by omega) (by omega) (by omega)
    · exact f4 k j q (by omega)
  have := rls_ln (b := b) S O (sD S)
  exact ⟨i1, f1, h1.fr (fr.mo (fun a b z y => by unfold fTk at y; omega)), h2.ku (fr _ _ (by omega)) (fun j _ => fr _ _ (by omega)) (fun k j _ _ _ => fr _ _ (by omega)), f2, by omega⟩
/-- the end of a condition, behind a fault -/
theorem r_cdead (h : RDd i0 i δ p) : ∃ i', mm_V 232 14 [some (.ref 83), some (.int x1), some (.int x2)] [] (mm_Z m w i l e) = some (.inl none, mm_Z m w i' l e) ∧ i' 83 46 = nI p ∧ p ≤ 1200 ∧ mG (fCd (dE δ)) i0 i' := by
  obtain ⟨h1, h2, S, O, h3⟩ := h
  have t201 : ∃ i', mm_V 232 201 [some (.ref 83), some (.int x1), some (.int x2)] [] (mm_Z m w i l e) = some (.inl none, mm_Z m w i' l e) ∧ i' 83 46 = nI p ∧ p ≤ 1200 ∧ mG (fCd (dE δ)) i0 i' := by
    obtain ⟨i1, f1, f2, f3, f4⟩ := r_rls (m := m) (w := w) (l := l) (e := e) (b := 211) (x1 := 1) (x2 := 1) (by omega) rfl rfl S O i h3
    rw [mr_232_201, r_dead h1 h2, mb_l, mb_v, mr_232_205, if_pos rfl, mr_232_223, f1, mb_l, mb_0, mr_232_229]
    exact ⟨i1, rfl, by rw [f3 _ (by omega) (by omega) (by omega)]; exact h1, h2, f2.2.2.2.2.2.2⟩
  rw [mr_232_14]
  split
  · exact t201
  · rw [r_dead h1 h2, mb_l, mb_v, mr_232_22, if_pos rfl]
    exact t201
/-- one deeper -/
theorem r_deep (h : RCn X i0 i t δ S O) (hW : WDS l) {x : Int32} (hx : x = rwt t.2.2) (hk : t.2.2 = 40 ∨ t.2.2 = 213) : ∃ i', mm_V 230 0 [some (.ref 83), some (.int x)] [] (mm_Z m w i l e) = some (.inl none, mm_Z m w i' l e) ∧ (if sD S < 10 then RCn X i0 i' (nx X t) δ (t.2.2 :: S) O else RDd i0 i' δ t.1) := by
  obtain ⟨h1, h2, h3, h4⟩ := h
  obtain ⟨b1, b2, b3, b4, b5, b6, b7⟩ := id h3
  rw [mr_230_0, b2]
  by_cases q : sD S < 10
  · have sd : sD (t.2.2 :: S) = sD S + 1 := by
      show (if t.2.2 = 40 ∨ t.2.2 = 213 then 1 else 0) + sD S = sD S + 1
      rw [if_pos hk]; omega
    have sw : sW (t.2.2 :: S) := ⟨by omega, b4⟩
    have l32 : (t.2.2 :: S).length ≤ 32 := sW_32 sw (by omega)
    have e1 : (t.2.2 :: S).length = S.length + 1 := rfl
    have k47 : mm_ww i 83 49 (nI (sD S + 1)) 83 47 = nI S.length := by rw [mw_j (by omega)]; exact b1.1
    have sk : SKs (mm_ww i 83 49 (nI (sD S + 1))) S := b1.kp (by rw [mw_j (by omega)]) (fun k => by rw [mw_k (by omega)])
    rw [if_neg (show ¬ nI (sD S) = 10 from fun z => by have := (nI_eq (b := 10) (by omega) (by omega)).mp z; omega), nI_1, mr_227_0, k47, if_neg (no_out (by omega) (by omega)), nI_clamp (by omega), nI_1, mb_l, mb_0, mr_230_33]
    simp only [if_pos q]
    have fr : mG (fun k j => (k = 83 ∧ (j = 47 ∨ j = 49)) ∨ k = 112) i (mm_ww (mm_ww (mm_ww i 83 49 (nI (sD S + 1))) 112 S.length x) 83 47 (nI (S.length + 1))) := fun k j z => by rw [mw_ne (by omega), mw_ne (by omega), mw_ne (by omega)]
    have sk2 := sk.psh (z := t.2.2) (by omega) hx
    have v49 : mm_ww (mm_ww (mm_ww i 83 49 (nI (sD S + 1))) 112 S.length x) 83 47 (nI (S.length + 1)) 83 49 = nI (sD S + 1) := by rw [mw_j (by omega), mw_k (by omega), mw_s]
    generalize mm_ww (mm_ww (mm_ww i 83 49 (nI (sD S + 1))) 112 S.length x) 83 47 (nI (S.length + 1)) = j1 at fr sk2 v49
    have t1 : TZ X j1 t := h1.fr (fr.mo (fun a b z y => by unfold fTk at y; omega))
    have o1 := h1.ok
    have g1 := h1.tk.gt (by omega) (by omega)
    have o2 : t.1 < 1200 := by
      have := h1.tk.ok.2.2.1 (by omega)
      have := h1.xw.1
      omega
    obtain ⟨i2, k1, k2, k3⟩ := t1.adv (m := m) (w := w) (e := e) hW (by omega)
    have rb : RBs i0 j1 δ (t.2.2 :: S) O := ⟨sk2, by rw [v49, sd], ⟨by rw [fr _ _ (by omega)]; exact b3.1, b3.2.ku (fun k j _ _ _ => fr _ _ (by omega))⟩, sw, by omega, by rw [e1]; omega, b7.tr (fr.mo (fun a b z => by unfold fCd; omega))⟩
    have rn : RN j1 δ := h2.ku (fr _ _ (by omega)) (fun j _ => fr _ _ (by omega)) (fun k j _ _ _ => fr _ _ (by omega))
    rw [k1, mb_l, mb_0, mr_230_37]
    exact ⟨i2, rfl, k2, rn.ku (k3 _ _ (by unfold fTk; omega)) (fun j _ => k3 _ _ (by unfold fTk; omega)) (fun k j _ _ _ => k3 _ _ (by unfold fTk; omega)), rb.tk k3, by rw [e1]; omega⟩
  · obtain ⟨e1, e2, e3, e4⟩ := h1.fl (m := m) (w := w) (l := l) (e := e)
    rw [if_pos (by rw [show sD S = 10 by omega]; rfl), e1, mb_l, mb_0, mr_230_17]
    simp only [if_neg q]
    exact ⟨_, rfl, e3, e4, S, O, h3.tk e2⟩
theorem rwd_14 (hk : k < 244) : (rwd k = 14) ↔ k = 213 := by
  unfold rwd
  repeat' split
  all_goals omega
theorem rwd_12 (hk : k < 244) : (rwd k = 12) ↔ k = 212 := by
  unfold rwd
  repeat' split
  all_goals omega
theorem rwd_13 (hk : k < 244) : (rwd k = 13) ↔ k = 211 := by
  unfold rwd
  repeat' split
  all_goals omega
/-- opening brackets and words not -/
theorem r_opn (hW : WDS l) : ∀ (f : Nat) (t : m3) (S : List Nat) (i : Nat → Nat → Int32), RCn X i0 i t δ S O → 11 ≤ f + sD S → ∃ i', (match sOpn X f t S (sD S) with
  | .inl p => mm_V 232 14 [some (.ref 83), some (.int 0), some (.int 1)] [] (mm_Z m w i l e) = some (.inl none, mm_Z m w i' l e) ∧ i' 83 46 = nI p ∧ p ≤ 1200 ∧ mG (fCd (dE δ)) i0 i'
  | .inr r => mm_V 232 14 [some (.ref 83), some (.int 0), some (.int 1)] [] (mm_Z m w i l e) = mm_V 232 68 [some (.ref 83), some (.int 0), some (.int 1)] [] (mm_Z m w i' l e) ∧ RCn X i0 i' r.1 δ r.2.1 O ∧ r.2.2 = sD r.2.1 ∧ t.1 ≤ r.1.1) := by
  intro f
  induction f with
  | zero =>
    intro t S i h hf
    have := h.2.2.1.2.2.2.2.1
    omega
  | succ f ih =>
    intro t S i h hf
    have hk := h.1.tk.kd h.1.xw
    rw [sOpn]
    by_cases q : t.2.2 = 40 ∨ t.2.2 = 213
    · rw [if_pos q]
      obtain ⟨i1, d1, d2⟩ := r_deep (m := m) (w := w) (l := l) (e := e) h hW rfl q
      have e14 : mm_V 232 14 [some (.ref 83), some (.int 0), some (.int 1)] [] (mm_Z m w i l e) = mm_V 232 14 [some (.ref 83), some (.int 0), some (.int 1)] [] (mm_Z m w i1 l e) := by
        rw [mr_232_14 m w i, if_neg (by decide), r_live h.1.k6, mb_l, mb_v, mr_232_22, if_neg (by decide), if_pos rfl]
        rcases q with q | q
        · rw [if_neg (fun z => by have := (rwd_14 hk).mp ((h.1.isW (x := 14) (k := 14) rfl (by omega)).mp z); omega), mr_232_47, if_pos rfl, if_pos ((h.1.isK (x := 10) (k := 10) rfl (by omega)).mpr (rkk_10.mpr q))]
          rw [q, show rwt 40 = -1 from rfl] at d1
          rw [d1, mb_l, mb_0, mr_232_65]
        · rw [if_pos ((h.1.isW (x := 14) (k := 14) rfl (by omega)).mpr ((rwd_14 hk).mpr q))]
          rw [q, show rwt 213 = 14 from rfl] at d1
          rw [d1, mb_l, mb_0, mr_232_44]
      rw [e14]
      by_cases q2 : sD S < 10
      · rw [if_pos q2] at d2 ⊢
        have sd : sD (t.2.2 :: S) = sD S + 1 := by
          show (if t.2.2 = 40 ∨ t.2.2 = 213 then 1 else 0) + sD S = sD S + 1
          rw [if_pos q]; omega
        have g1 := h.1.tk.gt (by omega) (by omega)
        obtain ⟨i2, z2⟩ := ih (nx X t) (t.2.2 :: S) i1 d2 (by rw [sd]; omega)
        rw [sd] at z2
        refine ⟨i2, ?_⟩
        cases hr : sOpn X f (nx X t) (t.2.2 :: S) (sD S + 1) with
        | inl p => rw [hr] at z2; exact z2
        | inr r => rw [hr] at z2; exact ⟨z2.1, z2.2.1, z2.2.2.1, by have := z2.2.2.2; omega⟩
      · rw [if_neg q2] at d2 ⊢
        obtain ⟨i2, z1, z2, z3, z4⟩ := r_cdead (m := m) (w := w) (l := l) (e := e) (x1 := 0) (x2 := 1) d2
        exact ⟨i2, z1, z2, z3, z4⟩
    · rw [if_neg q]
      refine ⟨i, ?_, h, rfl, Nat.le_refl _⟩
      rw [mr_232_14 m w i, if_neg (by decide), r_live h.1.k6, mb_l, mb_v, mr_232_22, if_neg (by decide), if_pos rfl, if_neg (fun z => q (Or.inr ((rwd_14 hk).mp ((h.1.isW (x := 14) (k := 14) rfl (by omega)).mp z)))), mr_232_47, if_pos rfl, if_neg (fun z => q (Or.inl (rkk_10.mp ((h.1.isK (x := 10) (k := 10) rfl (by omega)).mp z))))]
theorem sD_40 : ∀ (S : List Nat), 40 ∈ S → 1 ≤ sD S
  | [], h => by cases h
  | z :: S, h => by
    show 1 ≤ (if z = 40 ∨ z = 213 then 1 else 0) + sD S
    rcases List.mem_cons.mp h with y | y
    · rw [if_pos (Or.inl y.symm)]; omega
    · have := sD_40 S y; omega
/-- closing brackets -/
theorem r_clo (hW : WDS l) : ∀ (f : Nat) (t : m3) (S : List Nat) (O : List mO) (i : Nat → Nat → Int32), RCn X i0 i t δ S O → sD S ≤ f → ∃ i' S' O', mm_V 232 14 [some (.ref 83), some (.int 1), some (.int 1)] [] (mm_Z m w i l e) = mm_V 232 14 [some (.ref 83), some (.int 1), some (.int 1)] [] (mm_Z m w i' l e) ∧ RCn X i0 i' (sClo X f t (S, O, sD S)).1 δ S' O' ∧ t.1 ≤ (sClo X f t (S, O, sD S)).1.1 ∧ ((sClo X f t (S, O, sD S)).1.2.2 = 41 → ¬ 40 ∈ S') ∧ ((sClo X f t (S, O, sD S)).2 = (S', O', sD S') ∨ ((sClo X f t (S, O, sD S)).1.2.2 = 41 ∧ (sClo X f t (S, O, sD S)).2 = rls 211 S' O' (sD S'))) := by
  intro f
  induction f with
  | zero =>
    intro t S O i h hf
    exact ⟨i, S, O, rfl, h, Nat.le_refl _, fun _ z => by have := sD_40 S z; omega, Or.inl rfl⟩
  | succ f ih =>
    intro t S O i h hf
    have hw := h.2.2.1.2.2.2.1
    have hk := h.1.tk.kd h.1.xw
    rw [sClo_eq]
    by_cases q : t.2.2 = 41
    · rw [if_pos q]
      by_cases q2 : (rls 211 S O (sD S)).1 = []
      · rw [if_pos q2]
        refine ⟨i, S, O, rfl, h, Nat.le_refl _, fun _ => (left_r S O (sD S) hw).mp q2, Or.inr ⟨q, ?_⟩⟩
        show ([], (rls 211 S O (sD S)).2.1, (rls 211 S O (sD S)).2.2) = rls 211 S O (sD S)
        rw [← q2]
      · rw [if_neg q2]
        obtain ⟨c, c1, c2⟩ := r_has (m := m) (w := w) (l := l) (e := e) h.2.2.1.1 hw
        have hc : c = true := by
          cases c
          · exact absurd ((left_r S O (sD S) hw).mpr (fun z => Bool.false_ne_true (c1.mpr z))) q2
          · rfl
        obtain ⟨i1, f1, f2⟩ := h.rl (m := m) (w := w) (l := l) (e := e) (b := 211) (x1 := 1) (x2 := 1) (by omega) rfl rfl
        obtain ⟨r1, r2, r3, r4⟩ := rls_1 (b := 211) (by omega) S O hw
        have e14 : mm_V 232 14 [some (.ref 83), some (.int 1), some (.int 1)] [] (mm_Z m w i l e) = mm_V 232 163 [some (.ref 83), some (.int 1), some (.int 1)] [] (mm_Z m w i1 l e) := by
          rw [mr_232_14, if_neg (by decide), r_live h.1.k6, mb_l, mb_v, mr_232_22, if_neg (by decide), if_neg (by decide), mr_232_47, if_neg (by decide), mr_232_68, if_neg (by decide), if_neg (fun z => by have := (rwd_12 hk).mp ((h.1.isW (x := 12) (k := 12) rfl (by omega)).mp z); omega), if_neg (fun z => by have := (rwd_13 hk).mp ((h.1.isW (x := 13) (k := 13) rfl (by omega)).mp z); omega), if_pos ((h.1.isK (x := 11) (k := 11) rfl (by omega)).mpr (rkk_11.mpr q)), c2, mb_l, mb_v, mr_232_154, hc, if_bt, f1, mb_l, mb_0]
        rw [e14]
        clear e14
        show ∃ i' S' O', mm_V 232 163 [some (.ref 83), some (.int 1), some (.int 1)] [] (mm_Z m w i1 l e) = mm_V 232 14 [some (.ref 83), some (.int 1), some (.int 1)] [] (mm_Z m w i' l e) ∧ RCn X i0 i' (sClo X f (nx X t) (rls 213 (rls 211 S O (sD S)).1.tail (rls 211 S O (sD S)).2.1 ((rls 211 S O (sD S)).2.2 - 1))).1 δ S' O' ∧ t.1 ≤ (sClo X f (nx X t) (rls 213 (rls 211 S O (sD S)).1.tail (rls 211 S O (sD S)).2.1 ((rls 211 S O (sD S)).2.2 - 1))).1.1 ∧ ((sClo X f (nx X t) (rls 213 (rls 211 S O (sD S)).1.tail (rls 211 S O (sD S)).2.1 ((rls 211 S O (sD S)).2.2 - 1))).1.2.2 = 41 → ¬ 40 ∈ S') ∧ ((sClo X f (nx X t) (rls 213 (rls 211 S O (sD S)).1.tail (rls 211 S O (sD S)).2.1 ((rls 211 S O (sD S)).2.2 - 1))).2 = (S', O', sD S') ∨ ((sClo X f (nx X t) (rls 213 (rls 211 S O (sD S)).1.tail (rls 211 S O (sD S)).2.1 ((rls 211 S O (sD S)).2.2 - 1))).1.2.2 = 41 ∧ (sClo X f (nx X t) (rls 213 (rls 211 S O (sD S)).1.tail (rls 211 S O (sD S)).2.1 ((rls 211 S O (sD S)).2.2 - 1))).2 = rls 211 S' O' (sD S')))
        rw [r2]
        cases hS : (rls 211 S O (sD S)).1 with
        | nil => exact absurd hS q2
        | cons z R =>
          have z40 := rls_40 hw hS rfl
          rw [hS] at f2 r1 r3 r4
          generalize (rls 211 S O (sD S)).2.1 = O1 at f2
          have sd : sD (z :: R) = sD R + 1 := by
            show (if z = 40 ∨ z = 213 then 1 else 0) + sD R = sD R + 1
            rw [if_pos (Or.inl z40)]; omega
          rw [sd, show sD R + 1 - 1 = sD R by omega]
          show ∃ i' S' O', mm_V 232 163 [some (.ref 83), some (.int 1), some (.int 1)] [] (mm_Z m w i1 l e) = mm_V 232 14 [some (.ref 83), some (.int 1), some (.int 1)] [] (mm_Z m w i' l e) ∧ RCn X i0 i' (sClo X f (nx X t) (rls 213 R O1 (sD R))).1 δ S' O' ∧ t.1 ≤ (sClo X f (nx X t) (rls 213 R O1 (sD R))).1.1 ∧ ((sClo X f (nx X t) (rls 213 R O1 (sD R))).1.2.2 = 41 → ¬ 40 ∈ S') ∧ ((sClo X f (nx X t) (rls 213 R O1 (sD R))).2 = (S', O', sD S') ∨ ((sClo X f (nx X t) (rls 213 R O1 (sD R))).1.2.2 = 41 ∧ (sClo X f (nx X t) (rls 213 R O1 (sD R))).2 = rls 211 S' O' (sD S')))
          obtain ⟨t1, n1, ⟨b1, b2, b3, b4, b5, b6, b7⟩, l1⟩ := f2
          have e1 : (z :: R).length = R.length + 1 := rfl
          rw [e1] at b6 l1
          have fr : mG (fun k j => k = 83 ∧ (j = 47 ∨ j = 49)) i1 (mm_ww (mm_ww i1 83 47 (nI (z :: R).length - 1)) 83 49 (nI (sD (z :: R)) - 1)) := fun k j y => by rw [mw_ne (by omega), mw_ne (by omega)]
          have sk2 : SKs (mm_ww (mm_ww i1 83 47 (nI (z :: R).length - 1)) 83 49 (nI (sD (z :: R)) - 1)) R := b1.pop.kp (by rw [mw_j (by omega)]) (fun k => by rw [mw_k (by omega)])
          have v49 : mm_ww (mm_ww i1 83 47 (nI (z :: R).length - 1)) 83 49 (nI (sD (z :: R)) - 1) 83 49 = nI (sD R) := by rw [mw_s, sd, na_1, na_sub (by omega), show sD R + 1 - 1 = sD R by omega]
          rw [mr_232_163, b1.1, b2]
          generalize mm_ww (mm_ww i1 83 47 (nI (z :: R).length - 1)) 83 49 (nI (sD (z :: R)) - 1) = j1 at fr sk2 v49
          have tj : TZ X j1 t := t1.fr (fr.mo (fun a b z y => by unfold fTk at y; omega))
          have g1 := h.1.tk.gt (by omega) (by omega)
          obtain ⟨i2, k1, k2, k3⟩ := tj.adv (m := m) (w := w) (e := e) hW (by omega)
          have rb : RBs i0 j1 δ R O1 := ⟨sk2, v49, ⟨by rw [fr _ _ (by omega)]; exact b3.1, b3.2.ku (fun k j _ _ _ => fr _ _ (by omega))⟩, r1.2, by omega, by omega, b7.tr (fr.mo (fun a b z => by unfold fCd; omega))⟩
          have rn : RN j1 δ := n1.ku (fr _ _ (by omega)) (fun j _ => fr _ _ (by omega)) (fun k j _ _ _ => fr _ _ (by omega))
          have rc : RCn X i0 i2 (nx X t) δ R O1 := ⟨k2, rn.ku (k3 _ _ (by unfold fTk; omega)) (fun j _ => k3 _ _ (by unfold fTk; omega)) (fun k j _ _ _ => k3 _ _ (by unfold fTk; omega)), rb.tk k3, by omega⟩
          obtain ⟨i3, p1, p2⟩ := rc.rl (m := m) (w := w) (l := l) (e := e) (b := 213) (x1 := 0) (x2 := 0) (by omega) rfl rfl
          obtain ⟨u1, u2, u3, u4⟩ := rls_1 (b := 213) (by omega) R O1 r1.2
          obtain ⟨i4, S', O', y1, y2, y3, y4, y5⟩ := ih (nx X t) (rls 213 R O1 (sD R)).1 (rls 213 R O1 (sD R)).2.1 i3 p2 (by omega)
          have eW : ((rls 213 R O1 (sD R)).1, (rls 213 R O1 (sD R)).2.1, sD (rls 213 R O1 (sD R)).1) = rls 213 R O1 (sD R) := by rw [← u2]
          rw [eW] at y2 y3 y4 y5
          rw [k1, mb_l, mb_0, mr_232_187, p1, mb_l, mb_0, mr_232_193, y1]
          exact ⟨i4, S', O', rfl, y2, by omega, y4, y5⟩
    · rw [if_neg q]
      exact ⟨i, S, O, rfl, h, Nat.le_refl _, fun z => absurd z q, Or.inl rfl⟩
end MM167
