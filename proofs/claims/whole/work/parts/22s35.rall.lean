/-! ALL STATEMENTS, in the reference -/
section MM171
variable {X : mX} {t : m3} {w : Bool} {i i' i0 : Nat → Nat → Int32} {l : Nat → Nat → Int64} {δ : mQ} {m : Nat} {e : Bool × Nat × Nat} {n k s a b c p g y d : Nat} {x x1 x2 : Int32}
theorem PTb.fr (h : PTb i) (hf : mG fRp i i') : PTb i' := fun c hc k hk => by rw [hf _ _ (by unfold fRp; omega)]; exact h c hc k hk
theorem rwd_s (hk : k < 244) (hn : ¬ (200 ≤ k ∧ k ≤ 209)) : rwd k = 0 ∨ 11 ≤ rwd k := by
  unfold rwd
  repeat' split
  all_goals omega
/-- a statement, but for its end -/
theorem r_stm (h : TZ X i t) (hW : WDS l) (hP : PTb i) (hD : DRf 9 i δ) (hd : DW δ) (hE : dE δ ≤ t.1) : ∃ i', mm_V 234 0 [some (.ref 83)] [] (mm_Z m w i l e) = mm_V 234 117 [some (.ref 83)] [] (mm_Z m w i' l e) ∧ mG fRp i i' ∧ (match sSta X t δ with
  | .inl p => i' 83 46 = nI p ∧ p ≤ 1200
  | .inr q => TZ X i' q.1 ∧ DRf 9 i' q.2 ∧ DW q.2 ∧ t.1 < q.1.1 ∧ dE q.2 ≤ q.1.1) := by
  have hkd := h.tk.kd h.xw
  have pos : ∀ {V : Option mm_R} {i1 : Nat → Nat → Int32}, (match sSta X t δ with
      | .inl p => i1 83 46 = nI p ∧ p ≤ 1200
      | .inr q => TZ X i1 q.1 ∧ DRf 9 i1 q.2) → (∀ q, sSta X t δ = .inr q → t.2.2 = 209 → dE q.2 ≤ q.1.1) → (match sSta X t δ with
      | .inl p => i1 83 46 = nI p ∧ p ≤ 1200
      | .inr q => TZ X i1 q.1 ∧ DRf 9 i1 q.2 ∧ DW q.2 ∧ t.1 < q.1.1 ∧ dE q.2 ≤ q.1.1) := fun {V i1} z1 z2 => by
    cases hr : sSta X t δ with
    | inl p => rw [hr] at z1; exact z1
    | inr q =>
      rw [hr] at z1
      obtain ⟨s1, s2, s3⟩ := st_ok h.xw hd h.tk hr
      refine ⟨z1.1, z1.2, s1, s2.2, ?_⟩
      by_cases q9 : t.2.2 = 209
      · exact z2 q hr q9
      · rw [s3 q9]; have := s2.2; omega
  rw [mr_234_0, h.k5]
  by_cases k0 : t.2.2 = 200
  · have es : sSta X t δ = sAtt X t δ := by unfold sSta; rw [if_pos k0]
    obtain ⟨i1, e1, e2, e3⟩ := r_att (m := m) (w := w) (l := l) (e := e) h hW hD hd k0
    rw [k0, show mm_sw (nI (rwd 200)) _ _ = _ from rfl, e1, mb_l, mb_0, mr_234_64]
    exact ⟨i1, rfl, e2, pos (V := none) (by rw [es]; exact e3) (fun q _ z => by omega)⟩
  by_cases k1 : t.2.2 = 201
  · have es : sSta X t δ = sTyp X t δ := by unfold sSta; rw [if_neg k0, if_pos k1]
    obtain ⟨i1, e1, e2, e3⟩ := r_typ (m := m) (w := w) (l := l) (e := e) h hW hD hd k1
    rw [k1, show mm_sw (nI (rwd 201)) _ _ = _ from rfl, e1, mb_l, mb_0, mr_234_71]
    exact ⟨i1, rfl, e2, pos (V := none) (by rw [es]; exact e3) (fun q _ z => by omega)⟩
  by_cases k2 : t.2.2 = 202
  · have es : sSta X t δ = sRol X t δ := by unfold sSta; rw [if_neg k0, if_neg k1, if_pos k2]
    obtain ⟨i1, e1, e2, e3⟩ := r_rol (m := m) (w := w) (l := l) (e := e) h hW hD hd k2
    rw [k2, show mm_sw (nI (rwd 202)) _ _ = _ from rfl, e1, mb_l, mb_0, mr_234_78]
    exact ⟨i1, rfl, e2, pos (V := none) (by rw [es]; exact e3) (fun q _ z => by omega)⟩
  by_cases k3 : t.2.2 = 203
  · have es : sSta X t δ = sUse X t δ := by unfold sSta; rw [if_neg k0, if_neg k1, if_neg k2, if_pos k3]
    obtain ⟨i1, e1, e2, e3⟩ := r_use (m := m) (w := w) (l := l) (e := e) h hW hD hd k3
    rw [k3, show mm_sw (nI (rwd 203)) _ _ = _ from rfl, e1, mb_l, mb_0, mr_234_85]
    exact ⟨i1, rfl, e2, pos (V := none) (by rw [es]; exact e3) (fun q _ z => by omega)⟩
  by_cases k4 : 204 ≤ t.2.2 ∧ t.2.2 ≤ 207
  · have es : sSta X t δ = sRul X t δ := by unfold sSta; rw [if_neg k0, if_neg k1, if_neg k2, if_neg k3, if_pos k4]
    obtain ⟨i1, e1, e2, e3⟩ := r_rul (m := m) (w := w) (l := l) (e := e) h hW hP hD hd k4
    refine ⟨i1, ?_, e2, pos (V := none) (by rw [es]; exact e3) (fun q _ z => by omega)⟩
    rcases (show t.2.2 = 204 ∨ t.2.2 = 205 ∨ t.2.2 = 206 ∨ t.2.2 = 207 by omega) with z | z | z | z <;> rw [z]
    · rw [show mm_sw (nI (rwd 204)) _ _ = _ from rfl, e1, mb_l, mb_0, mr_234_92]; rfl
    · rw [show mm_sw (nI (rwd 205)) _ _ = _ from rfl, e1, mb_l, mb_0, mr_234_92]; rfl
    · rw [show mm_sw (nI (rwd 206)) _ _ = _ from rfl, e1, mb_l, mb_0, mr_234_92]; rfl
    · rw [show mm_sw (nI (rwd 207)) _ _ = _ from rfl, e1, mb_l, mb_0, mr_234_92]; rfl
  by_cases k5 : t.2.2 = 208
  · have es : sSta X t δ = sMov X t δ := by unfold sSta; rw [if_neg k0, if_neg k1, if_neg k2, if_neg k3, if_neg k4, if_pos k5]
    obtain ⟨i1, e1, e2, e3⟩ := r_mov (m := m) (w := w) (l := l) (e := e) h hW hD hd k5
    rw [k5, show mm_sw (nI (rwd 208)) _ _ = _ from rfl, e1, mb_l, mb_0, mr_234_99]
    exact ⟨i1, rfl, e2, pos (V := none) (by rw [es]; exact e3) (fun q _ z => by omega)⟩
  by_cases k6 : t.2.2 = 209
  · have es : sSta X t δ = sLim X t δ := by unfold sSta; rw [if_neg k0, if_neg k1, if_neg k2, if_neg k3, if_neg k4, if_neg k5, if_pos k6]
    obtain ⟨⟨i1, e1, e2, e3⟩, e4⟩ := r_lim (m := m) (w := w) (l := l) (e := e) h hW hP hD hd k6 hE
    rw [k6, show mm_sw (nI (rwd 209)) _ _ = _ from rfl, e1, mb_l, mb_0, mr_234_106]
    exact ⟨i1, rfl, e2, pos (V := none) (by rw [es]; exact e3) (fun q z _ => e4 q (by rw [← es]; exact z))⟩
  · have es : sSta X t δ = .inl t.1 := by unfold sSta; rw [if_neg k0, if_neg k1, if_neg k2, if_neg k3, if_neg k4, if_neg k5, if_neg k6]
    obtain ⟨e1, e2, e3, e4⟩ := h.fl (m := m) (w := w) (l := l) (e := e)
    have hw := rwd_s hkd (show ¬ (200 ≤ t.2.2 ∧ t.2.2 ≤ 209) by omega)
    have hl := rwd_lt hkd
    have ee : ∀ k, 1 ≤ k → k ≤ 10 → ¬ nI (rwd t.2.2) = nI k := fun k z1 z2 z => by
      have := (nI_eq (by omega) (by omega)).mp z
      omega
    rw [es]
    refine ⟨_, ?_, e2.mo (fun a b y => fTk_R y), e3, e4⟩
    simp only [mm_sw]
    rw [if_neg (show ¬ nI (rwd t.2.2) = 1 from ee 1 (by omega) (by omega)), if_neg (show ¬ nI (rwd t.2.2) = 2 from ee 2 (by omega) (by omega)), if_neg (show ¬ nI (rwd t.2.2) = 3 from ee 3 (by omega) (by omega)), if_neg (show ¬ nI (rwd t.2.2) = 4 from ee 4 (by omega) (by omega)), if_neg (show ¬ nI (rwd t.2.2) = 5 from ee 5 (by omega) (by omega)), if_neg (show ¬ nI (rwd t.2.2) = 6 from ee 6 (by omega) (by omega)), if_neg (show ¬ nI (rwd t.2.2) = 7 from ee 7 (by omega) (by omega)), if_neg (show ¬ nI (rwd t.2.2) = 8 from ee 8 (by omega) (by omega)), if_neg (show ¬ nI (rwd t.2.2) = 9 from ee 9 (by omega) (by omega)), if_neg (show ¬ nI (rwd t.2.2) = 10 from ee 10 (by omega) (by omega)), e1, mb_l, mb_0]
/-- a statement -/
theorem r_sta (h : TZ X i t) (hW : WDS l) (hP : PTb i) (hD : DRf 9 i δ) (hd : DW δ) (hE : dE δ ≤ t.1) : ∃ i', mm_V 234 0 [some (.ref 83)] [] (mm_Z m w i l e) = some (.inl none, mm_Z m w i' l e) ∧ mG fRp i i' ∧ (match eB (sSta X t δ) (fun r => eB (sEnd X r.1) (fun t' => (.inr (t', r.2) : mE (m3 × mQ)))) with
  | .inl p => i' 83 46 = nI p ∧ p ≤ 1200
  | .inr q => TZ X i' q.1 ∧ DRf 9 i' q.2 ∧ DW q.2 ∧ t.1 < q.1.1 ∧ dE q.2 ≤ q.1.1) := by
  obtain ⟨i1, e1, e2, e3⟩ := r_stm (m := m) (w := w) (l := l) (e := e) h hW hP hD hd hE
  rw [e1, mr_234_117]
  cases hr : sSta X t δ with
  | inl p =>
    rw [hr] at e3
    have e3' : i1 83 46 = nI p ∧ p ≤ 1200 := e3
    rw [r_needs e3'.1 e3'.2, mb_l, mb_0, mr_234_122]
    exact ⟨i1, rfl, e2, e3'⟩
  | inr q =>
    rw [hr] at e3
    have e3' : TZ X i1 q.1 ∧ DRf 9 i1 q.2 ∧ DW q.2 ∧ t.1 < q.1.1 ∧ dE q.2 ≤ q.1.1 := e3
    obtain ⟨a1, a2, a3, a4, a5⟩ := e3'
    obtain ⟨i2, f1, f2, f3⟩ := a1.need (m := m) (w := w) (l := l) (e := e) (x := 5) (k := 5) hW rfl (by omega) rkk_5 (by omega)
    rw [f1, mb_l, mb_0, mr_234_122, eB_r]
    refine ⟨i2, rfl, fRt e2 f2, ?_⟩
    unfold sEnd
    by_cases q5 : q.1.2.2 = 59
    · rw [if_pos q5] at f3 ⊢
      have g1 := a1.tk.gt (by omega) (by omega)
      exact ⟨f3, a2.tk f2, a3, by
        show t.1 < (nx X q.1).1
        omega, by
        show dE q.2 ≤ (nx X q.1).1
        omega⟩
    · rw [if_neg q5] at f3 ⊢
      exact f3
/-- all statements -/
theorem r_all (hW : WDS l) : ∀ (f : Nat) (t : m3) (δ : mQ) (i : Nat → Nat → Int32), TZ X i t → PTb i → DRf 9 i δ → DW δ → dE δ ≤ t.1 → 1200 ≤ t.1 + f → ∃ i', mm_V 235 66 [some (.ref 83)] [] (mm_Z m w i l e) = mm_V 235 87 [some (.ref 83)] [] (mm_Z m w i' l e) ∧ mG fRp i i' ∧ (match sAll X f t δ with
  | .inl p => i' 83 46 = nI p ∧ p ≤ 1200
  | .inr q => i' 83 46 = -1 ∧ DRf 9 i' q ∧ DW q ∧ dE q ≤ 1200) := by
  intro f
  have stop : ∀ (t : m3) (δ : mQ) (i : Nat → Nat → Int32), TZ X i t → DRf 9 i δ → DW δ → dE δ ≤ t.1 → t.2.2 = 0 → ∃ i', mm_V 235 66 [some (.ref 83)] [] (mm_Z m w i l e) = mm_V 235 87 [some (.ref 83)] [] (mm_Z m w i' l e) ∧ mG fRp i i' ∧ (i' 83 46 = -1 ∧ DRf 9 i' δ ∧ DW δ ∧ dE δ ≤ 1200) := fun t δ i h hD hd hE k0 => by
    have := h.ok
    rw [mr_235_66, r_live h.k6, mb_l, mb_v, mr_235_70, if_neg (by decide), if_pos ((h.isK (x := 0) (k := 0) rfl (by omega)).mpr (rkk_0.mpr k0))]
    exact ⟨i, rfl, mG.rf, h.k6, hD, hd, by omega⟩
  induction f with
  | zero =>
    intro t δ i h hP hD hd hE hf
    have hz := h.xw.1
    exact stop t δ i h hD hd hE (h.tk.ok.2.2.2.2.mpr (by omega))
  | succ f ih =>
    intro t δ i h hP hD hd hE hf
    rw [sAll]
    by_cases q : t.2.2 = 0
    · rw [if_pos q]
      exact stop t δ i h hD hd hE q
    · rw [if_neg q]
      obtain ⟨i1, e1, e2, e3⟩ := r_sta (m := m) (w := w) (l := l) (e := e) h hW hP hD hd hE
      have e84 : mm_V 235 66 [some (.ref 83)] [] (mm_Z m w i l e) = mm_V 235 66 [some (.ref 83)] [] (mm_Z m w i1 l e) := by
        rw [mr_235_66, r_live h.k6, mb_l, mb_v, mr_235_70, if_neg (by decide), if_neg (fun z => q (rkk_0.mp ((h.isK (x := 0) (k := 0) rfl (by omega)).mp z))), e1, mb_l, mb_0, mr_235_84]
      rw [e84]
      have dead : ∀ p, i1 83 46 = nI p → p ≤ 1200 → mm_V 235 66 [some (.ref 83)] [] (mm_Z m w i1 l e) = mm_V 235 87 [some (.ref 83)] [] (mm_Z m w i1 l e) := fun p z1 z2 => by
        rw [mr_235_66, r_dead z1 z2, mb_l, mb_v, mr_235_70, if_pos rfl]
      cases hr : sSta X t δ with
      | inl p =>
        rw [hr] at e3
        have e3' : i1 83 46 = nI p ∧ p ≤ 1200 := e3
        exact ⟨i1, dead p e3'.1 e3'.2, e2, e3'⟩
      | inr r =>
        rw [hr, eB_r] at e3
        rw [eB_r]
        cases hr2 : sEnd X r.1 with
        | inl p =>
          rw [hr2] at e3
          have e3' : i1 83 46 = nI p ∧ p ≤ 1200 := e3
          exact ⟨i1, dead p e3'.1 e3'.2, e2, e3'⟩
        | inr t' =>
          rw [hr2] at e3
          have e3' : TZ X i1 t' ∧ DRf 9 i1 r.2 ∧ DW r.2 ∧ t.1 < t'.1 ∧ dE r.2 ≤ t'.1 := e3
          obtain ⟨a1, a2, a3, a4, a5⟩ := e3'
          obtain ⟨i2, f1, f2, f3⟩ := ih t' r.2 i1 a1 (hP.fr e2) a2 a3 a5 (by omega)
          exact ⟨i2, f1, e2.tr f2, f3⟩
end MM171
