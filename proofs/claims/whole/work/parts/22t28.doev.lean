/-! EVENTS: an event is done -/
section MM206
variable {X : mX} {w : Bool} {i i' : Nat → Nat → Int32} {l l' : Nat → Nat → Int64} {m : Nat} {e : Bool × Nat × Nat} {n k j p q c d b b' base : Nat} {x x1 x2 x3 x4 y pr : Int32} {o : mOl} {V : Option mm_R} {ev : mEv} {W : mA × mOl}
noncomputable def wEv (ev : mEv) (o : mOl) : mA × mOl := if ev.1 ≤ 21 then wAct (some ev.1) ev.2.1 ev.2.2.1 ev.2.2.2 o else if ev.1 = 22 then (.inl (some 0), wSyn o) else if ev.1 = 23 then wCra ev.2.2.1 o else wLab ev.2.2.1 ev.2.2.2 o
theorem OV.up (h : OV b o) (hb : b ≤ b') : OV b' o := by
  cases o with
  | none => trivial
  | some q =>
    obtain ⟨h1, h2⟩ := h
    exact ⟨h1.up hb, h2⟩
theorem c_event (hk : ev.1 < 25) (ho : OC w i o) (hv : OV b o) (hb : b + 16 < 2 ^ 29) (hB : OB o) : ∃ i', mm_V 185 0 [some (.ref 0), some (.int (nI ev.1)), some (.int ev.2.1), some (.int ev.2.2.1), some (.int ev.2.2.2)] [] (mm_Z m w i l e) = some (.inl (some (.int (aCd (wEv ev o).1))), mm_Z m w i' l e) ∧ mG fC i i' ∧ OC w i' (wEv ev o).2 ∧ OV (b + 16) (wEv ev o).2 ∧ OB (wEv ev o).2 ∧ aOkA (wEv ev o).1 := by
  unfold wEv
  by_cases h1 : ev.1 ≤ 21
  · rw [if_pos h1]
    have ha : ∀ k, some ev.1 = some k → k ≤ 21 := fun k z => by cases z; exact h1
    obtain ⟨i1, e1, g1, g2, g3⟩ := c_act (m := m) (l := l) (e := e) (x2 := ev.2.1) (x3 := ev.2.2.1) (x4 := ev.2.2.2) ha ho hv hb
    obtain ⟨k1, k2⟩ := ob_act (x2 := ev.2.1) (x3 := ev.2.2.1) (x4 := ev.2.2.2) ha hv hb hB
    exact ⟨i1, e1, g1, g2, g3, k2, k1⟩
  · rw [if_neg h1]
    by_cases h2 : ev.1 = 22
    · rw [if_pos h2, h2]
      obtain ⟨i1, e1, g1, g2, g3⟩ := c_sync (m := m) (l := l) (e := e) (x2 := ev.2.1) (x3 := ev.2.2.1) (x4 := ev.2.2.2) ho hv
      exact ⟨i1, e1, g1, g2, g3.up (by omega), ob_sy hB, show (-50 : Int32) < 0 by decide⟩
    · rw [if_neg h2]
      by_cases h3 : ev.1 = 23
      · rw [if_pos h3, h3]
        obtain ⟨i1, e1, g1, g2, g3⟩ := c_crash (m := m) (l := l) (e := e) (x2 := ev.2.1) (x3 := ev.2.2.1) (x4 := ev.2.2.2) ho hv
        exact ⟨i1, e1, g1, g2, g3.up (by omega), ob_cr hB, ok_cr⟩
      · rw [if_neg h3, show ev.1 = 24 by omega]
        obtain ⟨i1, e1, g1, g2, g3⟩ := c_label (m := m) (l := l) (e := e) (x2 := ev.2.1) (x3 := ev.2.2.1) (x4 := ev.2.2.2) ho hv
        exact ⟨i1, e1, g1, g2, g3.up (by omega), ob_la hB, ok_la⟩
theorem aOp_n (h : k ≤ c) (hc : c < 2 ^ 31) : aOp base c (nI k) = some (base + k) := by
  have hr : inR (nI k) (nI c) = true := decide_eq_true ⟨nI_nn (by omega), fun z => by have := (nI_ltI (by omega) (by omega)).mp z; omega⟩
  unfold aOp
  rw [if_pos hr, nI_clamp (by omega)]
theorem rm_ev {F : Option Value → mm_M → Option mm_R} (h : RM m w l e i V W) (hF : ∀ y i', F (some (.int y)) (mm_Z m w i' l e) = some (.inl (some (.int y)), mm_Z m w i' l e)) : RM m w l e i (mm_bi true V F) W := by
  obtain ⟨y, i', h1, h2, h3, h4⟩ := h
  rw [h1, mb_l, hF]
  exact ⟨y, i', rfl, h2, h3, h4⟩
theorem cr_0 {v : Int32} (h : (wCra x o).1 = .inl (some v)) : (0 : Int32) = v := by
  cases o with
  | none => cases h
  | some q =>
    rw [wCra] at h
    split at h
    · cases h; rfl
    · cases h
theorem la_0 {v : Int32} (h : (wLab x x2 o).1 = .inl (some v)) : (0 : Int32) = v := by
  cases o with
  | none => cases h
  | some q =>
    rw [wLab] at h
    split at h
    · cases h
    · split at h
      · cases h
      · cases h; rfl
theorem r_event (hn : n < 300) (hS : SE i n ev) (ho : OR i o) (hv : OV b o) (hb : b + 16 < 2 ^ 29) : RM m w l e i (mm_V 331 0 [some (.ref 83), some (.int (nI n)), none, none, none, none] [] (mm_Z m w i l e)) (wEv ev o) := by
  obtain ⟨k, pr, a, b4⟩ := ev
  obtain ⟨s1, s2, s3, s4, s5, s6, hk⟩ := hS
  have s1 : i 131 n = nI (rI k) := s1
  have s2 : i 132 n = pr := s2
  have s3 : 1 ≤ eNu k → i 133 n = a := s3
  have s4 : 2 ≤ eNu k → i 134 n = b4 := s4
  have s5 : eNu k = 0 → a = 0 := s5
  have s6 : eNu k ≤ 1 → b4 = 0 := s6
  have hk : k < 25 := hk
  have no := no_out (len := 300) hn (by omega)
  rw [mr_331_0, if_neg no, if_neg no, if_neg no, if_neg no, nI_clamp (by omega), s2]
  match k, hk, s1, s3, s4, s5, s6 with
  | 0, _, s1, s3, s4, s5, s6 =>
    have s1 : i 131 n = nI 0 := s1
    rw [s3 (show 1 ≤ 1 by decide)]
    have s6 : b4 = 0 := s6 (show 1 ≤ 1 by decide)
    subst s6
    rw [s1, if_pos (by decide)]
    have t := r_onPath (m := m) (w := w) (l := l) (e := e) (x1 := pr) (x2 := nI 0) (x3 := a) ho hv hb
    rw [aOp_n (by decide) (by decide)] at t
    exact rm_ev t (fun y i' => mr_331_43 _ _ _ _ _ _ _ _ _ _ _)
  | 1, _, s1, s3, s4, s5, s6 =>
    have s1 : i 131 n = nI 1 := s1
    rw [s3 (show 1 ≤ 1 by decide)]
    have s6 : b4 = 0 := s6 (show 1 ≤ 1 by decide)
    subst s6
    rw [s1, if_pos (by decide)]
    have t := r_onPath (m := m) (w := w) (l := l) (e := e) (x1 := pr) (x2 := nI 1) (x3 := a) ho hv hb
    rw [aOp_n (by decide) (by decide)] at t
    exact rm_ev t (fun y i' => mr_331_43 _ _ _ _ _ _ _ _ _ _ _)
  | 2, _, s1, s3, s4, s5, s6 =>
    have s1 : i 131 n = nI 2 := s1
    rw [s3 (show 1 ≤ 1 by decide)]
    have s6 : b4 = 0 := s6 (show 1 ≤ 1 by decide)
    subst s6
    rw [s1, if_pos (by decide)]
    have t := r_onPath (m := m) (w := w) (l := l) (e := e) (x1 := pr) (x2 := nI 2) (x3 := a) ho hv hb
    rw [aOp_n (by decide) (by decide)] at t
    exact rm_ev t (fun y i' => mr_331_43 _ _ _ _ _ _ _ _ _ _ _)
  | 3, _, s1, s3, s4, s5, s6 =>
    have s1 : i 131 n = nI 3 := s1
    rw [s3 (show 1 ≤ 1 by decide)]
    have s6 : b4 = 0 := s6 (show 1 ≤ 1 by decide)
    subst s6
    rw [s1, if_pos (by decide)]
    have t := r_onPath (m := m) (w := w) (l := l) (e := e) (x1 := pr) (x2 := nI 3) (x3 := a) ho hv hb
    rw [aOp_n (by decide) (by decide)] at t
    exact rm_ev t (fun y i' => mr_331_43 _ _ _ _ _ _ _ _ _ _ _)
  | 4, _, s1, s3, s4, s5, s6 =>
    have s1 : i 131 n = nI 4 := s1
    rw [s3 (show 1 ≤ 1 by decide)]
    have s6 : b4 = 0 := s6 (show 1 ≤ 1 by decide)
    subst s6
    rw [s1, if_pos (by decide)]
    have t := r_onPath (m := m) (w := w) (l := l) (e := e) (x1 := pr) (x2 := nI 4) (x3 := a) ho hv hb
    rw [aOp_n (by decide) (by decide)] at t
    exact rm_ev t (fun y i' => mr_331_43 _ _ _ _ _ _ _ _ _ _ _)
  | 5, _, s1, s3, s4, s5, s6 =>
    have s1 : i 131 n = nI 5 := s1
    rw [s3 (show 1 ≤ 2 by decide)]
    rw [s4 (show 2 ≤ 2 by decide)]
    rw [s1, if_neg (by decide), if_pos (by decide)]
    rw [show nI 5 - 5 = nI 0 by decide]
    have t := r_onPaths (m := m) (w := w) (l := l) (e := e) (x1 := pr) (x2 := nI 0) (x3 := a) (x4 := b4) ho hv hb
    rw [aOp_n (by decide) (by decide)] at t
    exact rm_ev t (fun y i' => mr_331_62 _ _ _ _ _ _ _ _ _ _ _)
  | 6, _, s1, s3, s4, s5, s6 =>
    have s1 : i 131 n = nI 6 := s1
    rw [s3 (show 1 ≤ 2 by decide)]
    rw [s4 (show 2 ≤ 2 by decide)]
    rw [s1, if_neg (by decide), if_pos (by decide)]
    rw [show nI 6 - 5 = nI 1 by decide]
    have t := r_onPaths (m := m) (w := w) (l := l) (e := e) (x1 := pr) (x2 := nI 1) (x3 := a) (x4 := b4) ho hv hb
    rw [aOp_n (by decide) (by decide)] at t
    exact rm_ev t (fun y i' => mr_331_62 _ _ _ _ _ _ _ _ _ _ _)
  | 7, _, s1, s3, s4, s5, s6 =>
    have s1 : i 131 n = nI 7 := s1
    rw [s3 (show 1 ≤ 2 by decide)]
    rw [s4 (show 2 ≤ 2 by decide)]
    rw [s1, if_neg (by decide), if_pos (by decide)]
    rw [show nI 7 - 5 = nI 2 by decide]
    have t := r_onPaths (m := m) (w := w) (l := l) (e := e) (x1 := pr) (x2 := nI 2) (x3 := a) (x4 := b4) ho hv hb
    rw [aOp_n (by decide) (by decide)] at t
    exact rm_ev t (fun y i' => mr_331_62 _ _ _ _ _ _ _ _ _ _ _)
  | 8, _, s1, s3, s4, s5, s6 =>
    have s1 : i 131 n = nI 8 := s1
    rw [s3 (show 1 ≤ 2 by decide)]
    rw [s4 (show 2 ≤ 2 by decide)]
    rw [s1, if_neg (by decide), if_pos (by decide)]
    rw [show nI 8 - 5 = nI 3 by decide]
    have t := r_onPaths (m := m) (w := w) (l := l) (e := e) (x1 := pr) (x2 := nI 3) (x3 := a) (x4 := b4) ho hv hb
    rw [aOp_n (by decide) (by decide)] at t
    exact rm_ev t (fun y i' => mr_331_62 _ _ _ _ _ _ _ _ _ _ _)
  | 9, _, s1, s3, s4, s5, s6 =>
    have s1 : i 131 n = nI 9 := s1
    rw [s3 (show 1 ≤ 1 by decide)]
    have s6 : b4 = 0 := s6 (show 1 ≤ 1 by decide)
    subst s6
    rw [s1, if_neg (by decide), if_neg (by decide), if_pos (by decide)]
    rw [show nI 9 - 9 = nI 0 by decide]
    have t := r_onHandle (m := m) (w := w) (l := l) (e := e) (x1 := pr) (x2 := nI 0) (x3 := a) ho hv hb
    rw [aOp_n (by decide) (by decide)] at t
    exact rm_ev t (fun y i' => mr_331_80 _ _ _ _ _ _ _ _ _ _ _)
  | 10, _, s1, s3, s4, s5, s6 =>
    have s1 : i 131 n = nI 10 := s1
    rw [s3 (show 1 ≤ 1 by decide)]
    have s6 : b4 = 0 := s6 (show 1 ≤ 1 by decide)
    subst s6
    rw [s1, if_neg (by decide), if_neg (by decide), if_pos (by decide)]
    rw [show nI 10 - 9 = nI 1 by decide]
    have t := r_onHandle (m := m) (w := w) (l := l) (e := e) (x1 := pr) (x2 := nI 1) (x3 := a) ho hv hb
    rw [aOp_n (by decide) (by decide)] at t
    exact rm_ev t (fun y i' => mr_331_80 _ _ _ _ _ _ _ _ _ _ _)
  | 11, _, s1, s3, s4, s5, s6 =>
    have s1 : i 131 n = nI 11 := s1
    rw [s3 (show 1 ≤ 1 by decide)]
    have s6 : b4 = 0 := s6 (show 1 ≤ 1 by decide)
    subst s6
    rw [s1, if_neg (by decide), if_neg (by decide), if_pos (by decide)]
    rw [show nI 11 - 9 = nI 2 by decide]
    have t := r_onHandle (m := m) (w := w) (l := l) (e := e) (x1 := pr) (x2 := nI 2) (x3 := a) ho hv hb
    rw [aOp_n (by decide) (by decide)] at t
    exact rm_ev t (fun y i' => mr_331_80 _ _ _ _ _ _ _ _ _ _ _)
  | 12, _, s1, s3, s4, s5, s6 =>
    have s1 : i 131 n = nI 12 := s1
    rw [s3 (show 1 ≤ 1 by decide)]
    have s6 : b4 = 0 := s6 (show 1 ≤ 1 by decide)
    subst s6
    rw [s1, if_neg (by decide), if_neg (by decide), if_pos (by decide)]
    rw [show nI 12 - 9 = nI 3 by decide]
    have t := r_onHandle (m := m) (w := w) (l := l) (e := e) (x1 := pr) (x2 := nI 3) (x3 := a) ho hv hb
    rw [aOp_n (by decide) (by decide)] at t
    exact rm_ev t (fun y i' => mr_331_80 _ _ _ _ _ _ _ _ _ _ _)
  | 13, _, s1, s3, s4, s5, s6 =>
    have s1 : i 131 n = nI 13 := s1
    rw [s3 (show 1 ≤ 1 by decide)]
    have s6 : b4 = 0 := s6 (show 1 ≤ 1 by decide)
    subst s6
    rw [s1, if_neg (by decide), if_neg (by decide), if_pos (by decide)]
    rw [show nI 13 - 9 = nI 4 by decide]
    have t := r_onHandle (m := m) (w := w) (l := l) (e := e) (x1 := pr) (x2 := nI 4) (x3 := a) ho hv hb
    rw [aOp_n (by decide) (by decide)] at t
    exact rm_ev t (fun y i' => mr_331_80 _ _ _ _ _ _ _ _ _ _ _)
  | 14, _, s1, s3, s4, s5, s6 =>
    have s1 : i 131 n = nI 14 := s1
    rw [s3 (show 1 ≤ 2 by decide)]
    rw [s4 (show 2 ≤ 2 by decide)]
    rw [s1, if_neg (by decide), if_neg (by decide), if_neg (by decide)]
    simp only [mm_sw]
    rw [if_pos (by decide)]
    exact rm_ev (r_write ho hv hb) (fun y i' => mr_331_145 _ _ _ _ _ _ _ _ _ _ _)
  | 15, _, s1, s3, s4, s5, s6 =>
    have s1 : i 131 n = nI 15 := s1
    rw [s3 (show 1 ≤ 2 by decide)]
    rw [s4 (show 2 ≤ 2 by decide)]
    rw [s1, if_neg (by decide), if_neg (by decide), if_neg (by decide)]
    simp only [mm_sw]
    rw [if_neg (by decide), if_pos (by decide)]
    exact rm_ev (r_seek ho hv hb) (fun y i' => mr_331_155 _ _ _ _ _ _ _ _ _ _ _)
  | 16, _, s1, s3, s4, s5, s6 =>
    have s1 : i 131 n = nI 19 := s1
    have s5 : a = 0 := s5 rfl
    subst s5
    have s6 : b4 = 0 := s6 (show 0 ≤ 1 by decide)
    subst s6
    rw [s1, if_neg (by decide), if_neg (by decide), if_neg (by decide)]
    simp only [mm_sw]
    rw [if_neg (by decide), if_neg (by decide), if_neg (by decide), if_neg (by decide), if_neg (by decide), if_pos (by decide)]
    rw [show nI 19 - 19 = nI 0 by decide]
    have t := r_alone (m := m) (w := w) (l := l) (e := e) (x1 := pr) (x2 := nI 0) ho hv hb
    rw [aOp_n (by decide) (by decide)] at t
    exact rm_ev t (fun y i' => mr_331_185 _ _ _ _ _ _ _ _ _ _ _)
  | 17, _, s1, s3, s4, s5, s6 =>
    have s1 : i 131 n = nI 20 := s1
    have s5 : a = 0 := s5 rfl
    subst s5
    have s6 : b4 = 0 := s6 (show 0 ≤ 1 by decide)
    subst s6
    rw [s1, if_neg (by decide), if_neg (by decide), if_neg (by decide)]
    simp only [mm_sw]
    rw [if_neg (by decide), if_neg (by decide), if_neg (by decide), if_neg (by decide), if_neg (by decide), if_neg (by decide), if_pos (by decide)]
    rw [show nI 20 - 19 = nI 1 by decide]
    have t := r_alone (m := m) (w := w) (l := l) (e := e) (x1 := pr) (x2 := nI 1) ho hv hb
    rw [aOp_n (by decide) (by decide)] at t
    exact rm_ev t (fun y i' => mr_331_185 _ _ _ _ _ _ _ _ _ _ _)
  | 18, _, s1, s3, s4, s5, s6 =>
    have s1 : i 131 n = nI 21 := s1
    have s5 : a = 0 := s5 rfl
    subst s5
    have s6 : b4 = 0 := s6 (show 0 ≤ 1 by decide)
    subst s6
    rw [s1, if_neg (by decide), if_neg (by decide), if_neg (by decide)]
    simp only [mm_sw]
    rw [if_neg (by decide), if_neg (by decide), if_neg (by decide), if_neg (by decide), if_neg (by decide), if_neg (by decide), if_neg (by decide), if_pos (by decide)]
    rw [show nI 21 - 19 = nI 2 by decide]
    have t := r_alone (m := m) (w := w) (l := l) (e := e) (x1 := pr) (x2 := nI 2) ho hv hb
    rw [aOp_n (by decide) (by decide)] at t
    exact rm_ev t (fun y i' => mr_331_185 _ _ _ _ _ _ _ _ _ _ _)
  | 19, _, s1, s3, s4, s5, s6 =>
    have s1 : i 131 n = nI 17 := s1
    rw [s3 (show 1 ≤ 1 by decide)]
    have s6 : b4 = 0 := s6 (show 1 ≤ 1 by decide)
    subst s6
    rw [s1, if_neg (by decide), if_neg (by decide), if_neg (by decide)]
    simp only [mm_sw]
    rw [if_neg (by decide), if_neg (by decide), if_neg (by decide), if_pos (by decide)]
    rw [show nI 17 - 17 = nI 0 by decide]
    have t := r_onProcess (m := m) (w := w) (l := l) (e := e) (x1 := pr) (x2 := nI 0) (x3 := a) ho hv hb
    rw [aOp_n (by decide) (by decide)] at t
    exact rm_ev t (fun y i' => mr_331_175 _ _ _ _ _ _ _ _ _ _ _)
  | 20, _, s1, s3, s4, s5, s6 =>
    have s1 : i 131 n = nI 18 := s1
    rw [s3 (show 1 ≤ 1 by decide)]
    have s6 : b4 = 0 := s6 (show 1 ≤ 1 by decide)
    subst s6
    rw [s1, if_neg (by decide), if_neg (by decide), if_neg (by decide)]
    simp only [mm_sw]
    rw [if_neg (by decide), if_neg (by decide), if_neg (by decide), if_neg (by decide), if_pos (by decide)]
    rw [show nI 18 - 17 = nI 1 by decide]
    have t := r_onProcess (m := m) (w := w) (l := l) (e := e) (x1 := pr) (x2 := nI 1) (x3 := a) ho hv hb
    rw [aOp_n (by decide) (by decide)] at t
    exact rm_ev t (fun y i' => mr_331_175 _ _ _ _ _ _ _ _ _ _ _)
  | 21, _, s1, s3, s4, s5, s6 =>
    have s1 : i 131 n = nI 16 := s1
    rw [s3 (show 1 ≤ 1 by decide)]
    have s6 : b4 = 0 := s6 (show 1 ≤ 1 by decide)
    subst s6
    rw [s1, if_neg (by decide), if_neg (by decide), if_neg (by decide)]
    simp only [mm_sw]
    rw [if_neg (by decide), if_neg (by decide), if_pos (by decide)]
    exact rm_ev (r_switch ho hv hb) (fun y i' => mr_331_163 _ _ _ _ _ _ _ _ _ _ _)
  | 22, _, s1, s3, s4, s5, s6 =>
    have s1 : i 131 n = nI 22 := s1
    have s5 : a = 0 := s5 rfl
    subst s5
    have s6 : b4 = 0 := s6 (show 0 ≤ 1 by decide)
    subst s6
    rw [s1, if_neg (by decide), if_neg (by decide), if_neg (by decide)]
    simp only [mm_sw]
    rw [if_neg (by decide), if_neg (by decide), if_neg (by decide), if_neg (by decide), if_neg (by decide), if_neg (by decide), if_neg (by decide), if_neg (by decide), if_pos (by decide)]
    obtain ⟨i1, e1, g1, g2, g3⟩ := r_sync (m := m) (w := w) (l := l) (e := e) ho hv
    rw [e1, mb_l, mb_0, mr_331_190]
    exact ⟨0, i1, rfl, ⟨g1, fun v z => by cases z; rfl⟩, g2, g3⟩
  | 23, _, s1, s3, s4, s5, s6 =>
    have s1 : i 131 n = nI 23 := s1
    rw [s3 (show 1 ≤ 1 by decide)]
    have s6 : b4 = 0 := s6 (show 1 ≤ 1 by decide)
    subst s6
    rw [s1, if_neg (by decide), if_neg (by decide), if_neg (by decide)]
    simp only [mm_sw]
    rw [if_neg (by decide), if_neg (by decide), if_neg (by decide), if_neg (by decide), if_neg (by decide), if_neg (by decide), if_neg (by decide), if_neg (by decide), if_neg (by decide), if_pos (by decide)]
    obtain ⟨i1, e1, g1, g2, g3⟩ := r_crash (m := m) (w := w) (l := l) (e := e) (x1 := a) ho hv
    rw [e1, mb_l, mb_0, mr_331_198]
    exact ⟨0, i1, rfl, ⟨g1, fun v z => cr_0 z⟩, g2, g3⟩
  | 24, _, s1, s3, s4, s5, s6 =>
    have s1 : i 131 n = nI 24 := s1
    rw [s3 (show 1 ≤ 2 by decide)]
    rw [s4 (show 2 ≤ 2 by decide)]
    rw [s1, if_neg (by decide), if_neg (by decide), if_neg (by decide)]
    simp only [mm_sw]
    rw [if_neg (by decide), if_neg (by decide), if_neg (by decide), if_neg (by decide), if_neg (by decide), if_neg (by decide), if_neg (by decide), if_neg (by decide), if_neg (by decide), if_neg (by decide)]
    obtain ⟨i1, e1, g1, g2, g3⟩ := r_label (m := m) (w := w) (l := l) (e := e) (x1 := a) (x2 := b4) ho hv
    rw [e1, mb_l, mb_0, mr_331_208]
    exact ⟨0, i1, rfl, ⟨g1, fun v z => la_0 z⟩, g2, g3⟩
  | k + 25, hk, _, _, _, _, _ => exact absurd hk (by omega)
end MM206
