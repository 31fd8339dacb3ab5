/-! READING goes forward -/
section MM147
variable {X : mX} {t : m3} {δ : mQ} {s c n k b y : Nat}
/-- t' stands behind t -/
def Ms (X : mX) (t t' : m3) : Prop := TK X t' ∧ t.1 < t'.1
def Ml (X : mX) (t t' : m3) : Prop := TK X t' ∧ t.1 ≤ t'.1
theorem Ms.l {t' : m3} (h : Ms X t t') : Ml X t t' := ⟨h.1, by have := h.2; omega⟩
theorem Ms.tr {t1 t2 : m3} (h : Ms X t t1) (h2 : Ml X t1 t2) : Ms X t t2 := ⟨h2.1, by have := h.2; have := h2.2; omega⟩
theorem Ml.tr {t1 t2 : m3} (h : Ml X t t1) (h2 : Ml X t1 t2) : Ml X t t2 := ⟨h2.1, by have := h.2; have := h2.2; omega⟩
theorem Ms.nx (h : TK X t) (h1 : t.2.2 ≠ 1) (h0 : t.2.2 ≠ 0) : Ms X t (nx X t) := ⟨h.nxt h1, h.gt h1 h0⟩
theorem tl_k (h : tLt X t ≠ []) : t.2.2 ≠ 1 ∧ t.2.2 ≠ 0 := by
  by_cases q : t.2.2 = 2 ∨ 200 ≤ t.2.2
  · omega
  · exact absurd (tLt_no q) h
theorem nm_k (hd : DW δ) (h : dI δ (tLt X t) < dL δ) : t.2.2 ≠ 1 ∧ t.2.2 ≠ 0 := tl_k (by rw [← dI_at h]; exact (hd.1.1 _ h).2.1)
theorem mo_num (hd : DW δ) (h : TK X t) {r : m3 × Nat} (hr : sNum X s t δ = .inr r) : Ms X t r.1 ∧ r.2 < 24 ∧ r.2 < pN (dP δ) s := by
  unfold sNum at hr
  by_cases z : dI δ (tLt X t) < dL δ ∧ (dG δ (dI δ (tLt X t))).2.1 = s
  · rw [if_pos z] at hr
    injection hr with hr
    subst hr
    have k := nm_k hd z.1
    refine ⟨Ms.nx h k.1 k.2, (hd.v z.1).2.1, ?_⟩
    have := (hd.1.1 _ z.1).2.2.2.2.2
    rw [z.2] at this; exact this
  · rw [if_neg z] at hr; cases hr
theorem mo_dec (h : TK X t) {r : m3 × mQ} (hr : sDec X s t δ = .inr r) : Ms X t r.1 ∧ r.2 = dAd δ (tLt X t) s ∧ t.2.2 = 2 ∧ dI δ (tLt X t) = dL δ ∧ r.1 = nx X t := by
  unfold sDec at hr
  by_cases z : t.2.2 = 2 ∧ dI δ (tLt X t) = dL δ
  · rw [if_pos z] at hr
    injection hr with hr
    subst hr
    exact ⟨Ms.nx h (by omega) (by omega), rfl, z.1, z.2, rfl⟩
  · rw [if_neg z] at hr; cases hr
theorem mo_ats : ∀ (D : Nat) (t : m3) (δ : mQ), DW δ → y < pN (dP δ) 0 → TK X t → ∀ r, sAts X y D t δ = .inr r → Ml X t r.1 ∧ dC r.2 = dC δ
  | 0, t, δ, hd, hy, h, r, hr => by
    injection hr with hr
    subst hr
    exact ⟨⟨h, Nat.le_refl _⟩, rfl⟩
  | D + 1, t, δ, hd, hy, h, r, hr => by
    rw [sAts] at hr
    by_cases z : t.2.2 = 44
    · have m1 := Ms.nx h (by omega) (by omega)
      rw [if_pos z] at hr
      cases hn : sNum X 1 (nx X t) δ with
      | inl p => rw [hn] at hr; cases hr
      | inr q =>
        rw [hn, eB_r] at hr
        obtain ⟨m2, -, m3⟩ := mo_num hd m1.1 hn
        obtain ⟨m4, m5⟩ := mo_ats D q.1 _ (hd.sa hy m3) hy m2.1 r hr
        exact ⟨(m1.tr (m2.tr m4).l).l, m5⟩
    · rw [if_neg z] at hr
      injection hr with hr
      subst hr
      exact ⟨⟨h, Nat.le_refl _⟩, rfl⟩
theorem mo_lst (hd : DW δ) : ∀ (D : Nat) (t : m3) (b : Nat), TK X t → ∀ r, sLst X s δ D t b = .inr r → Ml X t r.1
  | 0, t, b, h, r, hr => by cases hr
  | D + 1, t, b, h, r, hr => by
    rw [sLst] at hr
    by_cases z : b ≠ 0 ∧ t.2.2 = 125
    · rw [if_pos z] at hr
      injection hr with hr
      subst hr
      exact (Ms.nx h (by omega) (by omega)).l
    · rw [if_neg z] at hr
      cases hn : sNum X s t δ with
      | inl p => rw [hn] at hr; cases hr
      | inr q =>
        rw [hn, eB_r] at hr
        have m1 := (mo_num hd h hn).1
        exact (m1.tr (mo_lst hd D q.1 _ m1.1 r hr)).l
theorem mo_brc (hd : DW δ) (h : TK X t) {r : m3 × Nat} (hr : sBrc X s t δ = .inr r) : Ms X t r.1 := by
  unfold sBrc at hr
  by_cases z : t.2.2 = 123
  · rw [if_pos z] at hr
    have m1 := Ms.nx h (by omega) (by omega)
    exact m1.tr (mo_lst hd 1200 _ _ m1.1 r hr)
  · rw [if_neg z] at hr; cases hr
theorem mo_sid (hd : DW δ) (h : TK X t) {self : Bool} {r : m3 × Int32} (hr : sSid X self t δ = .inr r) : Ms X t r.1 := by
  unfold sSid at hr
  by_cases z : t.2.2 = 42
  · rw [if_pos z] at hr
    injection hr with hr
    subst hr
    exact Ms.nx h (by omega) (by omega)
  · rw [if_neg z] at hr
    by_cases z2 : self = true ∧ t.2.2 = 210
    · rw [if_pos z2] at hr
      injection hr with hr
      subst hr
      exact Ms.nx h (by omega) (by omega)
    · rw [if_neg z2] at hr
      by_cases z3 : dI δ (tLt X t) < dL δ ∧ (dG δ (dI δ (tLt X t))).2.1 < 2
      · rw [if_pos z3] at hr
        injection hr with hr
        subst hr
        have k := nm_k hd z3.1
        exact Ms.nx h k.1 k.2
      · rw [if_neg z3] at hr; cases hr
theorem mo_col (h : TK X t) {r : m3} (hr : sCol X t = .inr r) : Ms X t r ∧ r = nx X t ∧ t.2.2 = 58 := by
  unfold sCol at hr
  by_cases z : t.2.2 = 58
  · rw [if_pos z] at hr
    injection hr with hr
    subst hr
    exact ⟨Ms.nx h (by omega) (by omega), rfl, z⟩
  · rw [if_neg z] at hr; cases hr
theorem mo_cls (h : TK X t) {r : m3 × Nat} (hr : sCls X t = .inr r) : Ms X t r.1 ∧ r.2 < 5 := by
  unfold sCls at hr
  by_cases z : 220 ≤ t.2.2 ∧ t.2.2 ≤ 224
  · rw [if_pos z] at hr
    injection hr with hr
    subst hr
    exact ⟨Ms.nx h (by omega) (by omega), by dsimp only; omega⟩
  · rw [if_neg z] at hr; cases hr
theorem mo_per (hc : c < 5) (h : TK X t) {r : m3 × Nat} (hr : sPer X c t = .inr r) : Ms X t r.1 ∧ r.2 < 10 := by
  unfold sPer at hr
  by_cases z : wI (pWs c) (tLt X t) < (pWs c).length
  · rw [if_pos z] at hr
    injection hr with hr
    subst hr
    have k := tl_k (X := X) (t := t) (fun y => by rw [y, pWs_n c hc] at z; omega)
    have := (pWt_s c hc).2.2.2.2.1
    exact ⟨Ms.nx h k.1 k.2, by dsimp only; omega⟩
  · rw [if_neg z] at hr; cases hr
theorem mo_pes (hc : c < 5) : ∀ (D : Nat) (t : m3) (b : Nat), TK X t → ∀ r, sPes X c D t b = .inr r → Ml X t r.1
  | 0, t, b, h, r, hr => by cases hr
  | D + 1, t, b, h, r, hr => by
    rw [sPes] at hr
    by_cases z : b ≠ 0 ∧ t.2.2 = 125
    · rw [if_pos z] at hr
      injection hr with hr
      subst hr
      exact (Ms.nx h (by omega) (by omega)).l
    · rw [if_neg z] at hr
      cases hn : sPer X c t with
      | inl p => rw [hn] at hr; cases hr
      | inr q =>
        rw [hn, eB_r] at hr
        have m1 := (mo_per hc h hn).1
        exact (m1.tr (mo_pes hc D q.1 _ m1.1 r hr)).l
theorem mo_prm (hc : c < 5) (h : TK X t) {r : m3 × Nat} (hr : sPrm X c t = .inr r) : Ms X t r.1 := by
  unfold sPrm at hr
  by_cases z : t.2.2 = 42
  · rw [if_pos z] at hr
    injection hr with hr
    subst hr
    exact Ms.nx h (by omega) (by omega)
  · rw [if_neg z] at hr
    by_cases z2 : t.2.2 = 123
    · rw [if_pos z2] at hr
      have m1 := Ms.nx h (by omega) (by omega)
      exact m1.tr (mo_pes hc 1200 _ _ m1.1 r hr)
    · rw [if_neg z2] at hr
      cases hn : sPer X c t with
      | inl p => rw [hn] at hr; cases hr
      | inr q =>
        rw [hn, eB_r] at hr
        injection hr with hr
        subst hr
        exact (mo_per hc h hn).1
theorem mo_end (h : TK X t) {r : m3} (hr : sEnd X t = .inr r) : Ms X t r ∧ r = nx X t ∧ t.2.2 = 59 := by
  unfold sEnd at hr
  by_cases z : t.2.2 = 59
  · rw [if_pos z] at hr
    injection hr with hr
    subst hr
    exact ⟨Ms.nx h (by omega) (by omega), rfl, z⟩
  · rw [if_neg z] at hr; cases hr
/-- statements but limits: forward, no codes -/
theorem mo_att (h : TK X t) (hk : t.2.2 = 200) {r : m3 × mQ} (hr : sAtt X t δ = .inr r) : Ms X t r.1 ∧ dC r.2 = dC δ := by
  unfold sAtt at hr
  by_cases z : pN (dP δ) 1 = 8
  · rw [if_pos z] at hr; cases hr
  · rw [if_neg z] at hr
    have m1 := Ms.nx h (by omega) (by omega)
    obtain ⟨a1, a2, -⟩ := mo_dec m1.1 hr
    exact ⟨m1.tr a1.l, by rw [a2]; rfl⟩
theorem DW.ad' (hw : XW X) (hd : DW δ) (h : TK X t) (hs : s < 4) (hn : pN (dP δ) s ≠ mMx s) (h2 : t.2.2 = 2) (hI : dI δ (tLt X t) = dL δ) : DW (dAd δ (tLt X t) s) := by
  obtain ⟨g1, g2, g3⟩ := h.lt hw
  obtain ⟨g4, g5, -⟩ := g3 (Or.inl h2)
  exact hd.ad hs hn g1 g4 g2 (by rw [g5, h2]) hI
theorem mo_typ (hw : XW X) (hd : DW δ) (h : TK X t) (hk : t.2.2 = 201) {r : m3 × mQ} (hr : sTyp X t δ = .inr r) : Ms X t r.1 ∧ dC r.2 = dC δ := by
  unfold sTyp at hr
  by_cases z : pN (dP δ) 0 = 24
  · rw [if_pos z] at hr; cases hr
  · rw [if_neg z] at hr
    have m1 := Ms.nx h (by omega) (by omega)
    cases hn : sDec X 0 (nx X t) δ with
    | inl p => rw [hn] at hr; cases hr
    | inr q =>
      rw [hn, eB_r] at hr
      obtain ⟨a1, a2, a3, a4, a5⟩ := mo_dec m1.1 hn
      have hd2 := DW.ad' hw hd m1.1 (s := 0) (by omega) z a3 a4
      rw [a2] at hr
      obtain ⟨b1, b2⟩ := mo_ats 1200 q.1 _ hd2 (by show pN (dP δ) 0 < pN (pSn (dP δ) 0 (pN (dP δ) 0 + 1)) 0; rw [pSn_s]; omega) a1.1 r hr
      exact ⟨m1.tr (a1.tr b1).l, by rw [b2]; rfl⟩
theorem mo_rol (hw : XW X) (hd : DW δ) (h : TK X t) (hk : t.2.2 = 202) {r : m3 × mQ} (hr : sRol X t δ = .inr r) : Ms X t r.1 ∧ dC r.2 = dC δ := by
  unfold sRol at hr
  by_cases z : pN (dP δ) 2 = 6
  · rw [if_pos z] at hr; cases hr
  · rw [if_neg z] at hr
    have m1 := Ms.nx h (by omega) (by omega)
    cases hn : sDec X 2 (nx X t) δ with
    | inl p => rw [hn] at hr; cases hr
    | inr q =>
      rw [hn, eB_r] at hr
      obtain ⟨a1, a2, a3, a4, a5⟩ := mo_dec m1.1 hn
      have hd2 := DW.ad' hw hd m1.1 (s := 2) (by omega) z a3 a4
      rw [← a2] at hd2
      cases hb : sBrc X 0 q.1 q.2 with
      | inl p => rw [hb] at hr; cases hr
      | inr u =>
        rw [hb, eB_r] at hr
        injection hr with hr
        subst hr
        exact ⟨m1.tr (a1.tr (mo_brc hd2 a1.1 hb).l).l, by show dC q.2 = _; rw [a2]; rfl⟩
theorem mo_use (hw : XW X) (hd : DW δ) (h : TK X t) (hk : t.2.2 = 203) {r : m3 × mQ} (hr : sUse X t δ = .inr r) : Ms X t r.1 ∧ dC r.2 = dC δ := by
  unfold sUse at hr
  by_cases z : pN (dP δ) 3 = 4
  · rw [if_pos z] at hr; cases hr
  · rw [if_neg z] at hr
    have m1 := Ms.nx h (by omega) (by omega)
    cases hn : sDec X 3 (nx X t) δ with
    | inl p => rw [hn] at hr; cases hr
    | inr q =>
      rw [hn, eB_r] at hr
      obtain ⟨a1, a2, a3, a4, a5⟩ := mo_dec m1.1 hn
      have hd2 := DW.ad' hw hd m1.1 (s := 3) (by omega) z a3 a4
      rw [← a2] at hd2
      cases hb : sBrc X 2 q.1 q.2 with
      | inl p => rw [hb] at hr; cases hr
      | inr u =>
        rw [hb, eB_r] at hr
        injection hr with hr
        subst hr
        exact ⟨m1.tr (a1.tr (mo_brc hd2 a1.1 hb).l).l, by show dC q.2 = _; rw [a2]; rfl⟩
theorem mo_rul (hd : DW δ) (h : TK X t) (hk : 204 ≤ t.2.2 ∧ t.2.2 ≤ 207) {r : m3 × mQ} (hr : sRul X t δ = .inr r) : Ms X t r.1 ∧ dC r.2 = dC δ := by
  unfold sRul at hr
  by_cases z : pN (dP δ) 4 = 60
  · rw [if_pos z] at hr; cases hr
  · rw [if_neg z] at hr
    have m1 := Ms.nx h (by omega) (by omega)
    cases h1 : sSid X false (nx X t) δ with
    | inl p => rw [h1] at hr; cases hr
    | inr r1 =>
      rw [h1, eB_r] at hr
      have a1 := mo_sid hd m1.1 h1
      cases h2 : sSid X true r1.1 δ with
      | inl p => rw [h2] at hr; cases hr
      | inr r2 =>
        rw [h2, eB_r] at hr
        have a2 := mo_sid hd a1.1 h2
        cases h3 : sCol X r2.1 with
        | inl p => rw [h3] at hr; cases hr
        | inr r3 =>
          rw [h3, eB_r] at hr
          have a3 := (mo_col a2.1 h3).1
          cases h4 : sCls X r3 with
          | inl p => rw [h4] at hr; cases hr
          | inr r4 =>
            rw [h4, eB_r] at hr
            obtain ⟨a4, a5⟩ := mo_cls a3.1 h4
            cases h5 : sPrm X r4.2 r4.1 with
            | inl p => rw [h5] at hr; cases hr
            | inr r5 =>
              rw [h5, eB_r] at hr
              injection hr with hr
              subst hr
              exact ⟨m1.tr (a1.tr (a2.tr (a3.tr (a4.tr (mo_prm a5 a4.1 h5).l).l).l).l).l, rfl⟩
theorem mo_mov (hd : DW δ) (h : TK X t) (hk : t.2.2 = 208) {r : m3 × mQ} (hr : sMov X t δ = .inr r) : Ms X t r.1 ∧ dC r.2 = dC δ := by
  unfold sMov at hr
  by_cases z : pN (dP δ) 5 = 12
  · rw [if_pos z] at hr; cases hr
  · rw [if_neg z] at hr
    have m1 := Ms.nx h (by omega) (by omega)
    cases h1 : sNum X 0 (nx X t) δ with
    | inl p => rw [h1] at hr; cases hr
    | inr r1 =>
      rw [h1, eB_r] at hr
      have a1 := (mo_num hd m1.1 h1).1
      cases h2 : sNum X 0 r1.1 δ with
      | inl p => rw [h2] at hr; cases hr
      | inr r2 =>
        rw [h2, eB_r] at hr
        have a2 := (mo_num hd a1.1 h2).1
        cases h3 : sCol X r2.1 with
        | inl p => rw [h3] at hr; cases hr
        | inr r3 =>
          rw [h3, eB_r] at hr
          have a3 := (mo_col a2.1 h3).1
          cases h4 : sCls X r3 with
          | inl p => rw [h4] at hr; cases hr
          | inr r4 =>
            rw [h4, eB_r] at hr
            obtain ⟨a4, a5⟩ := mo_cls a3.1 h4
            cases h5 : sNum X 0 r4.1 δ with
            | inl p => rw [h5] at hr; cases hr
            | inr r5 =>
              rw [h5, eB_r] at hr
              injection hr with hr
              subst hr
              exact ⟨m1.tr (a1.tr (a2.tr (a3.tr (a4.tr (mo_num hd a4.1 h5).1.l).l).l).l).l, rfl⟩
end MM147
