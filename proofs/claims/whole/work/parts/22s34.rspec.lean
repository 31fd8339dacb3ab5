/-! STATEMENTS keep a draft well-formed, and go forward -/
section MM170
variable {X : mX} {t : m3} {δ : mQ} {n k s a b c p g y d : Nat} {S : List Nat} {O : List mO}
theorem eB_i {α β : Type} {v : mE α} {f : α → mE β} {r : β} (h : eB v f = .inr r) : ∃ q, v = .inr q ∧ f q = .inr r := by
  cases v with
  | inl p => cases h
  | inr q => exact ⟨q, rfl, h⟩
theorem ii_i {P : Prop} [Decidable P] {α : Type} {p : Nat} {v : mE α} {r : α} (h : (if P then .inl p else v) = .inr r) : ¬ P ∧ v = .inr r := by
  by_cases q : P
  · rw [if_pos q] at h; cases h
  · rw [if_neg q] at h; exact ⟨q, h⟩
theorem mo_opn : ∀ (f : Nat) (t : m3) (S : List Nat) (d : Nat), TK X t → ∀ r, sOpn X f t S d = .inr r → Ml X t r.1
  | 0, t, S, d, h, r, hr => by cases hr
  | f + 1, t, S, d, h, r, hr => by
    rw [sOpn] at hr
    by_cases q : t.2.2 = 40 ∨ t.2.2 = 213
    · rw [if_pos q] at hr
      by_cases q2 : d < 10
      · rw [if_pos q2] at hr
        have h1 := mo_opn f (nx X t) (t.2.2 :: S) (d + 1) (h.nxt (by omega)) r hr
        have g1 := h.gt (by omega) (by omega)
        exact ⟨h1.1, by have := h1.2; omega⟩
      · rw [if_neg q2] at hr; cases hr
    · rw [if_neg q] at hr
      rw [← Sum.inr.inj hr]
      exact ⟨h, Nat.le_refl _⟩
theorem mo_clo : ∀ (f : Nat) (t : m3) (W : mW), TK X t → Ml X t (sClo X f t W).1
  | 0, t, W, h => ⟨h, Nat.le_refl _⟩
  | f + 1, t, W, h => by
    rw [sClo_eq]
    by_cases q : t.2.2 = 41
    · rw [if_pos q]
      split
      · exact ⟨h, Nat.le_refl _⟩
      · have h1 := mo_clo f (nx X t) (rls 213 (rls 211 W.1 W.2.1 W.2.2).1.tail (rls 211 W.1 W.2.1 W.2.2).2.1 ((rls 211 W.1 W.2.1 W.2.2).2.2 - 1)) (h.nxt (by omega))
        have g1 := h.gt (by omega) (by omega)
        exact ⟨h1.1, by have := h1.2; omega⟩
    · rw [if_neg q]
      exact ⟨h, Nat.le_refl _⟩
theorem mo_cmk (h : TK X t) (hn : ∀ j, j < dL δ → (dG δ j).1 ≠ []) {r : m3 × mO} (hr : sCmp X t δ = .inr r) : TK X r.1 := by
  unfold sCmp at hr
  by_cases c1 : 214 ≤ t.2.2 ∧ t.2.2 ≤ 219
  · rw [if_pos c1] at hr
    by_cases c2 : (nx X t).2.2 = 3 ∨ (nx X t).2.2 = 4
    · rw [if_pos c2] at hr
      have h1 := h.nxt (by omega)
      have h2 := h1.nxt (by omega)
      by_cases c3 : (nx X (nx X t)).2.2 = (if t.2.2 < 217 then t.2.2 + 3 else t.2.2 - 3)
      · rw [if_pos c3] at hr
        rw [← Sum.inr.inj hr]
        exact h2.nxt (fun z => by rw [z] at c3; split at c3 <;> omega)
      · rw [if_neg c3] at hr
        by_cases c4 : (t.2.2 - 214) % 3 = 2 ∧ dI δ (tLt X (nx X (nx X t))) < dL δ ∧ (dG δ (dI δ (tLt X (nx X (nx X t))))).2.1 < 2
        · rw [if_pos c4] at hr
          rw [← Sum.inr.inj hr]
          refine h2.nxt (fun q => ?_)
          have e1 : tLt X (nx X (nx X t)) = [] := tLt_no (by omega)
          have z2 := c4.2.1
          rw [e1] at z2
          exact absurd (dI_at z2) (hn _ z2)
        · rw [if_neg c4] at hr
          exact absurd hr (fun z => by cases z)
    · rw [if_neg c2] at hr
      exact absurd hr (fun z => by cases z)
  · rw [if_neg c1] at hr
    exact absurd hr (fun z => by cases z)
theorem mo_con (hn : ∀ j, j < dL δ → (dG δ j).1 ≠ []) : ∀ (f : Nat) (t : m3) (W : mW), TK X t → ∀ r, sCon X δ f t W = .inr r → Ml X t r.1
  | 0, t, W, h, r, hr => by cases hr
  | f + 1, t, W, h, r, hr => by
    rw [sCon_eq] at hr
    obtain ⟨r1, a1, hr⟩ := eB_i hr
    obtain ⟨r2, a2, hr⟩ := eB_i hr
    have m1 := mo_opn 11 t W.1 W.2.2 h r1 a1
    have m2 := mo_cmp m1.1 hn a2
    have m3 := mo_cmk m1.1 hn a2
    have m4 := mo_clo (X := X) 10 r2.1 (rls 213 r1.2.1 (W.2.1 ++ [r2.2]) r1.2.2) m3
    have l1 := m1.2
    have l4 := m4.2
    generalize sClo X 10 r2.1 (rls 213 r1.2.1 (W.2.1 ++ [r2.2]) r1.2.2) = Q at hr m4 l4
    obtain ⟨t3, S3, O3, d3⟩ := Q
    have l4' : r2.1.1 ≤ t3.1 := l4
    have m4' : TK X t3 := m4.1
    have hr' : (if t3.2.2 = 211 ∨ t3.2.2 = 212 then sCon X δ f (nx X t3) (t3.2.2 :: (rls t3.2.2 S3 O3 d3).1, (rls t3.2.2 S3 O3 d3).2.1, (rls t3.2.2 S3 O3 d3).2.2) else if (rls 211 S3 O3 d3).1 = [] then .inr (t3, (rls 211 S3 O3 d3).2.1) else .inl t3.1) = .inr r := hr
    by_cases q : t3.2.2 = 211 ∨ t3.2.2 = 212
    · rw [if_pos q] at hr'
      have m5 := mo_con hn f (nx X t3) _ (m4'.nxt (by omega)) r hr'
      have g1 := m4'.gt (by omega) (by omega)
      exact ⟨m5.1, by have := m5.2; omega⟩
    · rw [if_neg q] at hr'
      by_cases q2 : (rls 211 S3 O3 d3).1 = []
      · rw [if_pos q2] at hr'
        rw [← Sum.inr.inj hr']
        exact ⟨m4', by show t.1 ≤ t3.1; omega⟩
      · rw [if_neg q2] at hr'
        cases hr'
theorem dw_ats : ∀ (D : Nat) (t : m3) (δ : mQ), DW δ → y < pN (dP δ) 0 → TK X t → ∀ r, sAts X y D t δ = .inr r → DW r.2 ∧ dE r.2 = dE δ
  | 0, t, δ, hd, hy, h, r, hr => by
    rw [sAts] at hr
    rw [← Sum.inr.inj hr]
    exact ⟨hd, rfl⟩
  | D + 1, t, δ, hd, hy, h, r, hr => by
    rw [sAts] at hr
    by_cases q : t.2.2 = 44
    · rw [if_pos q] at hr
      obtain ⟨r1, a1, hr⟩ := eB_i hr
      obtain ⟨m1, m2, m3⟩ := mo_num hd (h.nxt (by omega)) a1
      exact dw_ats D r1.1 (dSa δ r1.2 (dA δ r1.2 ||| 2 ^ y)) (hd.sa hy m3) hy m1.1 r hr
    · rw [if_neg q] at hr
      rw [← Sum.inr.inj hr]
      exact ⟨hd, rfl⟩
theorem sid_w (hd : DW δ) {self : Bool} {r : m3 × Int32} (hr : sSid X self t δ = .inr r) : (r.2 = 400 ∨ vW (dP δ) r.2) ∨ (self = true ∧ r.2 = -1) := by
  unfold sSid at hr
  by_cases q : t.2.2 = 42
  · rw [if_pos q] at hr; rw [← Sum.inr.inj hr]; exact Or.inl (Or.inl rfl)
  · rw [if_neg q] at hr
    by_cases q2 : self = true ∧ t.2.2 = 210
    · rw [if_pos q2] at hr; rw [← Sum.inr.inj hr]; exact Or.inr ⟨q2.1, rfl⟩
    · rw [if_neg q2] at hr
      by_cases q3 : dI δ (tLt X t) < dL δ ∧ (dG δ (dI δ (tLt X t))).2.1 < 2
      · rw [if_pos q3] at hr; rw [← Sum.inr.inj hr]; exact Or.inl (Or.inr (nm_v hd q3.1 q3.2))
      · rw [if_neg q3] at hr; cases hr
/-- what a statement leaves -/
theorem st_ok (hw : XW X) (hd : DW δ) (h : TK X t) {r : m3 × mQ} (hr : sSta X t δ = .inr r) : DW r.2 ∧ Ms X t r.1 ∧ (t.2.2 ≠ 209 → dE r.2 = dE δ) := by
  have ht : t.1 ≤ 1200 := Nat.le_trans h.ok.2.2.2.1 hw.1
  unfold sSta at hr
  by_cases k0 : t.2.2 = 200
  · rw [if_pos k0] at hr
    have m1 := mo_att h k0 hr
    unfold sAtt at hr
    obtain ⟨q, hr⟩ := ii_i hr
    obtain ⟨-, e1, e2, e3, -⟩ := mo_dec (h.nxt (by omega)) hr
    rw [e1]
    exact ⟨hd.ad' hw (h.nxt (by omega)) (by omega) q e2 e3, m1.1, fun _ => rfl⟩
  rw [if_neg k0] at hr
  by_cases k1 : t.2.2 = 201
  · rw [if_pos k1] at hr
    have m1 := mo_typ hw hd h k1 hr
    unfold sTyp at hr
    obtain ⟨q, hr⟩ := ii_i hr
    obtain ⟨r1, a1, hr⟩ := eB_i hr
    obtain ⟨m2, e1, e2, e3, -⟩ := mo_dec (h.nxt (by omega)) a1
    have d1 : DW r1.2 := by rw [e1]; exact hd.ad' hw (h.nxt (by omega)) (by omega) q e2 e3
    have e5 : pN (dP r1.2) 0 = pN (dP δ) 0 + 1 := by rw [e1]; exact pSn_s
    have e6 : dE r1.2 = dE δ := by rw [e1]; rfl
    obtain ⟨u1, u2⟩ := dw_ats 1200 r1.1 r1.2 d1 (by omega) m2.1 r hr
    exact ⟨u1, m1.1, fun _ => by rw [u2, e6]⟩
  rw [if_neg k1] at hr
  by_cases k2 : t.2.2 = 202
  · rw [if_pos k2] at hr
    have m1 := mo_rol hw hd h k2 hr
    unfold sRol at hr
    obtain ⟨q, hr⟩ := ii_i hr
    obtain ⟨r1, a1, hr⟩ := eB_i hr
    obtain ⟨r2, a2, hr⟩ := eB_i hr
    obtain ⟨m2, e1, e2, e3, -⟩ := mo_dec (h.nxt (by omega)) a1
    have d1 : DW r1.2 := by rw [e1]; exact hd.ad' hw (h.nxt (by omega)) (by omega) q e2 e3
    have e6 : dE r1.2 = dE δ := by rw [e1]; rfl
    have er := Sum.inr.inj hr
    refine ⟨by rw [← er]; exact d1.sr, m1.1, fun _ => by rw [← er]; exact e6⟩
  rw [if_neg k2] at hr
  by_cases k3 : t.2.2 = 203
  · rw [if_pos k3] at hr
    have m1 := mo_use hw hd h k3 hr
    unfold sUse at hr
    obtain ⟨q, hr⟩ := ii_i hr
    obtain ⟨r1, a1, hr⟩ := eB_i hr
    obtain ⟨r2, a2, hr⟩ := eB_i hr
    obtain ⟨m2, e1, e2, e3, -⟩ := mo_dec (h.nxt (by omega)) a1
    have d1 : DW r1.2 := by rw [e1]; exact hd.ad' hw (h.nxt (by omega)) (by omega) q e2 e3
    have e6 : dE r1.2 = dE δ := by rw [e1]; rfl
    have er := Sum.inr.inj hr
    refine ⟨by rw [← er]; exact d1.su, m1.1, fun _ => by rw [← er]; exact e6⟩
  rw [if_neg k3] at hr
  by_cases k4 : 204 ≤ t.2.2 ∧ t.2.2 ≤ 207
  · rw [if_pos k4] at hr
    have m1 := mo_rul hd h k4 hr
    unfold sRul at hr
    obtain ⟨q, hr⟩ := ii_i hr
    obtain ⟨r1, a1, hr⟩ := eB_i hr
    obtain ⟨r2, a2, hr⟩ := eB_i hr
    obtain ⟨r3, a3, hr⟩ := eB_i hr
    obtain ⟨r4, a4, hr⟩ := eB_i hr
    obtain ⟨r5, a5, hr⟩ := eB_i hr
    have t1 := h.nxt (show t.2.2 ≠ 1 by omega)
    have t2 := (mo_sid hd t1 a1).1
    have t3 := (mo_sid hd t2 a2).1
    have t4 := (mo_col t3 a3).1.1
    have c5 := (mo_cls t4 a4).2
    have er := Sum.inr.inj hr
    refine ⟨?_, m1.1, fun _ => by rw [← er]; rfl⟩
    rw [← er]
    refine hd.ru ht q (by dsimp only; omega) (by dsimp only; omega) ?_ ?_
    · rcases sid_w hd a1 with z | z
      · exact z
      · cases z.1
    · rcases sid_w hd a2 with z | z
      · exact Or.inr z
      · exact Or.inl z.2
  rw [if_neg k4] at hr
  by_cases k5 : t.2.2 = 208
  · rw [if_pos k5] at hr
    have m1 := mo_mov hd h k5 hr
    unfold sMov at hr
    obtain ⟨q, hr⟩ := ii_i hr
    obtain ⟨r1, a1, hr⟩ := eB_i hr
    obtain ⟨r2, a2, hr⟩ := eB_i hr
    obtain ⟨r3, a3, hr⟩ := eB_i hr
    obtain ⟨r4, a4, hr⟩ := eB_i hr
    obtain ⟨r5, a5, hr⟩ := eB_i hr
    have t1 := h.nxt (show t.2.2 ≠ 1 by omega)
    have t2 := mo_num hd t1 a1
    have t3 := mo_num hd t2.1.1 a2
    have t4 := (mo_col t3.1.1 a3).1.1
    have c5 := mo_cls t4 a4
    have t5 := mo_num hd c5.1.1 a5
    have er := Sum.inr.inj hr
    refine ⟨?_, m1.1, fun _ => by rw [← er]; rfl⟩
    rw [← er]
    exact hd.mo ht q t2.2.2 t3.2.2 (by dsimp only; have := c5.2; omega) t5.2.2
  rw [if_neg k5] at hr
  by_cases k6 : t.2.2 = 209
  · rw [if_pos k6] at hr
    unfold sLim at hr
    obtain ⟨q, hr⟩ := ii_i hr
    obtain ⟨r1, a1, hr⟩ := eB_i hr
    obtain ⟨r2, a2, hr⟩ := eB_i hr
    obtain ⟨r3, a3, hr⟩ := eB_i hr
    have t1 := h.nxt (show t.2.2 ≠ 1 by omega)
    have g1 := h.gt (show t.2.2 ≠ 1 by omega) (by omega)
    have c1 := mo_cls t1 a1
    have c2 := mo_prm c1.2 c1.1.1 a2
    have c3 := mo_con (fun j hj => (hd.1.1 j hj).2.1) 1200 r2.1 ([], [], 0) c2.1 r3 a3
    have hio := IC.co hd 1200 r2.1 ([], [], 0) ⟨trivial, rfl, Nat.zero_le _, rfl, fun o ho => by cases ho⟩ _ a3
    have er := Sum.inr.inj hr
    refine ⟨?_, ?_, fun z => absurd k6 z⟩
    · rw [← er]
      exact hd.li q (by dsimp only; have := c1.2; omega) hio.1 hio.2
    · rw [← er]
      exact ⟨c3.1, by
        have := c1.1.2
        have := c2.2
        have := c3.2
        show t.1 < r3.1.1
        omega⟩
  · rw [if_neg k6] at hr
    cases hr
end MM170
