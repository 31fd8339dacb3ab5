/-! ACTS, in the reference: the methods -/
section MM194
variable {w : Bool} {i i0 i' : Nat → Nat → Int32} {l : Nat → Nat → Int64} {m : Nat} {e : Bool × Nat × Nat} {n k j b B p h M v c base : Nat} {x y x1 x2 x3 x4 : Int32} {π : mP} {ψ : mS} {L N : List Nat} {o : mOl} {a : Option Nat} {η : mH} {g g3 : Bool} {F : Option Value → mm_M → Option mm_R} {X : Option mm_R} {r : Int32 × mS}
/-- the act that a group's number tells -/
def aOp (base c : Nat) (x : Int32) : Option Nat := if inR x (nI c) = true then some (base + x.toNatClampNeg) else none
theorem aOp_t (h : inR x (nI c) = true) (hc : c < 2 ^ 31) : ∃ k, k ≤ c ∧ x = nI k ∧ aOp base c x = some (base + k) := by
  obtain ⟨k, k1, k2⟩ := inR_n h hc
  refine ⟨k, k1, k2, ?_⟩
  unfold aOp
  rw [if_pos h, k2, nI_clamp (by omega)]
theorem aOp_f (h : inR x (nI c) = false) : aOp base c x = none := by
  unfold aOp
  rw [if_neg (by rw [h]; exact Bool.false_ne_true)]
theorem aOp_le (hc : c < 2 ^ 31) : ∀ k, aOp base c x = some k → k ≤ base + c := fun k z => by
  cases h : inR x (nI c) with
  | false => rw [aOp_f h] at z; cases z
  | true =>
    obtain ⟨k', k1, _, k3⟩ := aOp_t (base := base) h hc
    rw [k3] at z
    cases z
    omega
/-- what a call of the reference does -/
def RM (m : Nat) (w : Bool) (l : Nat → Nat → Int64) (e : Bool × Nat × Nat) (i : Nat → Nat → Int32) (V : Option mm_R) (W : mA × mOl) : Prop := ∃ y i', V = some (.inl (some (.int y)), mm_Z m w i' l e) ∧ RA0 fAc W.1 i' y ∧ mG fRc i i' ∧ OR i' W.2
theorem aPq_1 (h1 : a ≠ some 19) (h2 : a ≠ some 20) : aPq a x3 η = true := by
  unfold aPq
  rw [if_neg (by rintro (z | z); exact h1 z; exact h2 z)]
theorem x_pa (h : pOk x = true) : ∃ L, pO L ∧ pLs x = L ∧ x = nI (pc L) := ⟨pLs x, (pLs_s h).1, rfl, (pLs_s h).2⟩
theorem x_ha {c : Nat} (h : inR x (nI c) = true) (hc : c < 2 ^ 31) : ∃ k, k ≤ c ∧ x = nI k ∧ x.toNatClampNeg = k := by
  obtain ⟨k, k1, k2⟩ := inR_n h hc
  exact ⟨k, k1, k2, by rw [k2, nI_clamp (by omega)]⟩
theorem r_onPath (ho : OR i o) (hv : OV b o) (hb : b + 16 < 2 ^ 29) : RM m w l e i (mm_V 298 0 [some (.ref 83), some (.int x1), some (.int x2), some (.int x3)] [] (mm_Z m w i l e)) (wAct (aOp 0 4 x2) x1 x3 0 o) := by
  have e1 : mm_V 298 0 [some (.ref 83), some (.int x1), some (.int x2), some (.int x3)] [] (mm_Z m w i l e) = mm_V 298 23 [some (.ref 83), some (.int x1), some (.int x2), some (.int x3)] [.int (bI (inR x2 4 && pOk x3)), .int x1, .ref 83] (mm_Z m w i l e) := by
    rw [mr_298_0, rf_in, mb_l, mb_v, mr_298_8]
    show (if bI (inR x2 4) = 0 then _ else _) = _
    cases inR x2 4
    · rw [if_bf]; rfl
    · rw [if_bt, rp_isPath, mb_l, mb_v, mr_298_15, Bool.true_and]
      cases pOk x3
      · rw [if_bf]; rfl
      · rw [if_bt]; rfl
  rw [e1, mr_298_23]
  refine r_fin (g3 := true) ho hv ?_ (fun q _ _ => (aPq_1 ?_ ?_).symm) (fun i' => by rw [mb_v, mr_298_27, if_neg (by decide)]) ?_
  · cases h : inR x2 4 with
    | false => rw [aOp_f h]; rfl
    | true =>
      obtain ⟨k, k1, k2, k3⟩ := aOp_t (base := 0) (c := 4) h (by omega)
      rw [k3, Bool.true_and]
      match k, k1 with
      | 0, _ => rfl
      | 1, _ => rfl
      | 2, _ => rfl
      | 3, _ => rfl
      | 4, _ => rfl
      | k + 5, k1 => exact absurd k1 (by omega)
  · intro z
    have := aOp_le (by omega) _ z
    omega
  · intro z
    have := aOp_le (by omega) _ z
    omega
  · intro q p i1 hp ep hP0 hr _ hD
    cases h : inR x2 4 with
    | false => rw [aOp_f h] at hr; cases hr
    | true =>
      obtain ⟨k, k1, k2, k3⟩ := aOp_t (base := 0) (c := 4) h (by omega)
      rw [k3] at hr ⊢
      rw [mb_v, mr_298_27, if_pos rfl, ep, k2]
      match k, k1 with
      | 0, _ =>
        simp only [mm_sw]
        rw [if_pos (by decide)]
        obtain ⟨L, a1, a2, a3⟩ := x_pa (show pOk x3 = true from hr)
        show RA _ _ _ _ _ _ _ _ (aGo q.1 0 p x3 0 q.2.2)
        rw [aGo, a2, a3]
        exact RA.bi (ra_look hD hb hp hP0 a1) (fun i' => mr_298_70 _ _ _ _ _ _ _ _ _)
      | 1, _ =>
        simp only [mm_sw]
        rw [if_neg (by decide), if_pos (by decide)]
        obtain ⟨L, a1, a2, a3⟩ := x_pa (show pOk x3 = true from hr)
        show RA _ _ _ _ _ _ _ _ (aGo q.1 1 p x3 0 q.2.2)
        rw [aGo, a2, a3]
        exact RA.bi (ra_mkd hD hb hp hP0 a1) (fun i' => mr_298_77 _ _ _ _ _ _ _ _ _)
      | 2, _ =>
        simp only [mm_sw]
        rw [if_neg (by decide), if_neg (by decide), if_pos (by decide)]
        obtain ⟨L, a1, a2, a3⟩ := x_pa (show pOk x3 = true from hr)
        show RA _ _ _ _ _ _ _ _ (aGo q.1 2 p x3 0 q.2.2)
        rw [aGo, a2, a3]
        exact RA.bi (ra_rmd hD hb hp hP0 a1) (fun i' => mr_298_84 _ _ _ _ _ _ _ _ _)
      | 3, _ =>
        simp only [mm_sw]
        rw [if_neg (by decide), if_neg (by decide), if_neg (by decide), if_pos (by decide)]
        obtain ⟨L, a1, a2, a3⟩ := x_pa (show pOk x3 = true from hr)
        show RA _ _ _ _ _ _ _ _ (aGo q.1 3 p x3 0 q.2.2)
        rw [aGo, a2, a3]
        exact RA.bi (ra_unl hD hb hp hP0 a1) (fun i' => mr_298_91 _ _ _ _ _ _ _ _ _)
      | 4, _ =>
        simp only [mm_sw]
        rw [if_neg (by decide), if_neg (by decide), if_neg (by decide), if_neg (by decide)]
        obtain ⟨L, a1, a2, a3⟩ := x_pa (show pOk x3 = true from hr)
        show RA _ _ _ _ _ _ _ _ (aGo q.1 4 p x3 0 q.2.2)
        rw [aGo, a2, a3]
        exact RA.bi (ra_run hD hb hp hP0 a1) (fun i' => mr_298_98 _ _ _ _ _ _ _ _ _)
      | k + 5, k1 => exact absurd k1 (by omega)
theorem r_onPaths (ho : OR i o) (hv : OV b o) (hb : b + 16 < 2 ^ 29) : RM m w l e i (mm_V 308 0 [some (.ref 83), some (.int x1), some (.int x2), some (.int x3), some (.int x4), none] [] (mm_Z m w i l e)) (wAct (aOp 5 3 x2) x1 x3 x4 o) := by
  obtain ⟨s, e0, hs⟩ : ∃ s, mm_V 308 0 [some (.ref 83), some (.int x1), some (.int x2), some (.int x3), some (.int x4), none] [] (mm_Z m w i l e) = mm_V 308 38 [some (.ref 83), some (.int x1), some (.int x2), some (.int x3), some (.int x4), none] [.int (bI s)] (mm_Z m w i l e) ∧ aRg (aOp 5 3 x2) x3 x4 = (inR x2 3 && (pOk x3 && s)) := by
    rw [mr_308_0]
    by_cases z0 : x2 = 0
    · refine ⟨inR x4 31, by rw [if_pos z0, rf_in, mb_l, mb_v, mr_308_12]; rfl, ?_⟩
      rw [z0]; rfl
    · rw [if_neg z0]
      by_cases z3 : x2 = 3
      · refine ⟨decide (¬ x4 < 0), ?_, by rw [z3]; rfl⟩
        rw [if_pos z3]
        by_cases y : x4 < 0
        · rw [if_pos y, decide_eq_false (fun q => q y)]; rfl
        · rw [if_neg y, decide_eq_true y]; rfl
      · refine ⟨pOk x4, by rw [if_neg z3, rp_isPath, mb_l, mb_v], ?_⟩
        cases h : inR x2 3 with
        | false => rw [aOp_f h]; rfl
        | true =>
          obtain ⟨k, k1, k2, k3⟩ := aOp_t (base := 5) (c := 3) h (by omega)
          rw [k3, Bool.true_and]
          match k, k1 with
          | 0, _ => exact absurd k2 z0
          | 1, _ => rfl
          | 2, _ => rfl
          | 3, _ => exact absurd k2 z3
          | k + 4, k1 => exact absurd k1 (by omega)
  have e1 : mm_V 308 38 [some (.ref 83), some (.int x1), some (.int x2), some (.int x3), some (.int x4), none] [.int (bI s)] (mm_Z m w i l e) = mm_V 308 68 [some (.ref 83), some (.int x1), some (.int x2), some (.int x3), some (.int x4), some (.int (bI s))] [.int (bI (inR x2 3 && (pOk x3 && s))), .int x1, .ref 83] (mm_Z m w i l e) := by
    rw [mr_308_38, rf_in, mb_l, mb_v, mr_308_48]
    show (if bI (inR x2 3) = 0 then _ else _) = _
    cases inR x2 3
    · rw [if_bf]; rfl
    · rw [if_bt, rp_isPath, mb_l, mb_v, mr_308_55, Bool.true_and]
      cases pOk x3
      · rw [if_bf]; rfl
      · rw [if_bt, Bool.true_and]
        cases s
        · rw [if_bf]; rfl
        · rw [if_bt]; rfl
  rw [e0, e1, mr_308_68]
  refine r_fin (g3 := true) ho hv hs.symm (fun q _ _ => (aPq_1 ?_ ?_).symm) (fun i' => by rw [mb_v, mr_308_72, if_neg (by decide)]) ?_
  · intro z
    have := aOp_le (by omega) _ z
    omega
  · intro z
    have := aOp_le (by omega) _ z
    omega
  · intro q p i1 hp ep hP0 hr _ hD
    cases h : inR x2 3 with
    | false => rw [aOp_f h] at hr; cases hr
    | true =>
      obtain ⟨k, k1, k2, k3⟩ := aOp_t (base := 5) (c := 3) h (by omega)
      rw [k3] at hr ⊢
      rw [mb_v, mr_308_72, if_pos rfl, ep, k2]
      match k, k1 with
      | 0, _ =>
        simp only [mm_sw]
        rw [if_pos (by decide)]
        obtain ⟨h1, h2⟩ := (Bool.and_eq_true _ _).mp (show (pOk x3 && _) = true from hr)
        obtain ⟨L, a1, a2, a3⟩ := x_pa (show pOk x3 = true from h1)
        obtain ⟨M, b1, b2⟩ := inR_n (n := 31) h2 (by omega)
        show RA _ _ _ _ _ _ _ _ (aGo q.1 5 p x3 x4 q.2.2)
        rw [aGo, a2, a3, b2, nI_clamp (by omega)]
        exact RA.bi (ra_opn hD hb hp hP0 a1 (by omega)) (fun i' => mr_308_112 _ _ _ _ _ _ _ _ _ _ _)
      | 1, _ =>
        simp only [mm_sw]
        rw [if_neg (by decide), if_pos (by decide)]
        obtain ⟨h1, h2⟩ := (Bool.and_eq_true _ _).mp (show (pOk x3 && _) = true from hr)
        obtain ⟨L, a1, a2, a3⟩ := x_pa (show pOk x3 = true from h1)
        obtain ⟨N, b1, b2, b3⟩ := x_pa (show pOk x4 = true from h2)
        show RA _ _ _ _ _ _ _ _ (aGo q.1 6 p x3 x4 q.2.2)
        rw [aGo, a2, a3, b2, b3]
        exact RA.bi (ra_lnk hD hb hp hP0 a1 b1) (fun i' => mr_308_121 _ _ _ _ _ _ _ _ _ _ _)
      | 2, _ =>
        simp only [mm_sw]
        rw [if_neg (by decide), if_neg (by decide), if_pos (by decide)]
        obtain ⟨h1, h2⟩ := (Bool.and_eq_true _ _).mp (show (pOk x3 && _) = true from hr)
        obtain ⟨L, a1, a2, a3⟩ := x_pa (show pOk x3 = true from h1)
        obtain ⟨N, b1, b2, b3⟩ := x_pa (show pOk x4 = true from h2)
        show RA _ _ _ _ _ _ _ _ (aGo q.1 7 p x3 x4 q.2.2)
        rw [aGo, a2, a3, b2, b3]
        exact RA.bi (ra_ren hD hb hp hP0 a1 b1) (fun i' => mr_308_130 _ _ _ _ _ _ _ _ _ _ _)
      | 3, _ =>
        simp only [mm_sw]
        rw [if_neg (by decide), if_neg (by decide), if_neg (by decide)]
        obtain ⟨h1, h2⟩ := (Bool.and_eq_true _ _).mp (show (pOk x3 && _) = true from hr)
        obtain ⟨L, a1, a2, a3⟩ := x_pa (show pOk x3 = true from h1)
        show RA _ _ _ _ _ _ _ _ (aGo q.1 8 p x3 x4 q.2.2)
        rw [aGo, a2, a3]
        exact RA.bi (ra_rel hD hb hp hP0 a1) (fun i' => mr_308_139 _ _ _ _ _ _ _ _ _ _ _)
      | k + 4, k1 => exact absurd k1 (by omega)
theorem r_onHandle (ho : OR i o) (hv : OV b o) (hb : b + 16 < 2 ^ 29) : RM m w l e i (mm_V 317 0 [some (.ref 83), some (.int x1), some (.int x2), some (.int x3), none, none] [] (mm_Z m w i l e)) (wAct (aOp 9 4 x2) x1 x3 0 o) := by
  have e1 : mm_V 317 0 [some (.ref 83), some (.int x1), some (.int x2), some (.int x3), none, none] [] (mm_Z m w i l e) = mm_V 317 25 [some (.ref 83), some (.int x1), some (.int x2), some (.int x3), none, none] [.int (bI (inR x2 4 && inR x3 5)), .int x1, .ref 83] (mm_Z m w i l e) := by
    rw [mr_317_0, rf_in, mb_l, mb_v, mr_317_8]
    show (if bI (inR x2 4) = 0 then _ else _) = _
    cases inR x2 4
    · rw [if_bf]; rfl
    · rw [if_bt, rf_in, mb_l, mb_v, mr_317_17, Bool.true_and]
      show (if bI (inR x3 5) = 0 then _ else _) = _
      cases inR x3 5
      · rw [if_bf]; rfl
      · rw [if_bt]; rfl
  rw [e1, mr_317_25]
  refine r_fin (g3 := true) ho hv ?_ (fun q _ _ => (aPq_1 ?_ ?_).symm) (fun i' => by rw [mb_v, mr_317_29, if_neg (by decide)]) ?_
  · cases h : inR x2 4 with
    | false => rw [aOp_f h]; rfl
    | true =>
      obtain ⟨k, k1, k2, k3⟩ := aOp_t (base := 9) (c := 4) h (by omega)
      rw [k3, Bool.true_and]
      match k, k1 with
      | 0, _ => rfl
      | 1, _ => rfl
      | 2, _ => rfl
      | 3, _ => rfl
      | 4, _ => rfl
      | k + 5, k1 => exact absurd k1 (by omega)
  · intro z
    have := aOp_le (by omega) _ z
    omega
  · intro z
    have := aOp_le (by omega) _ z
    omega
  · intro q p i1 hp ep hP0 hr _ hD
    cases h : inR x2 4 with
    | false => rw [aOp_f h] at hr; cases hr
    | true =>
      obtain ⟨k, k1, k2, k3⟩ := aOp_t (base := 9) (c := 4) h (by omega)
      rw [k3] at hr ⊢
      rw [mb_v, ep, k2]
      match k, k1 with
      | 0, _ =>
        obtain ⟨h, a1, a2, a3⟩ := x_ha (c := 5) (show inR x3 5 = true from hr) (by omega)
        show RA _ _ _ _ _ _ _ _ (aGo q.1 9 p x3 0 q.2.2)
        rw [aGo, a3, a2]
        exact ra_cls hD (by omega) hp (by omega)
      | 1, _ =>
        obtain ⟨h, a1, a2, a3⟩ := x_ha (c := 5) (show inR x3 5 = true from hr) (by omega)
        show RA _ _ _ _ _ _ _ _ (aGo q.1 10 p x3 0 q.2.2)
        rw [aGo, a3, a2]
        exact ra_dup hD (by omega) (by omega) hp hP0 (by omega)
      | 2, _ =>
        obtain ⟨h, a1, a2, a3⟩ := x_ha (c := 5) (show inR x3 5 = true from hr) (by omega)
        show RA _ _ _ _ _ _ _ _ (aGo q.1 11 p x3 0 q.2.2)
        rw [aGo, a3, a2]
        exact ra_rd hD (by omega) (by omega) hp hP0 (by omega)
      | 3, _ =>
        obtain ⟨h, a1, a2, a3⟩ := x_ha (c := 5) (show inR x3 5 = true from hr) (by omega)
        show RA _ _ _ _ _ _ _ _ (aGo q.1 12 p x3 0 q.2.2)
        rw [aGo, a3, a2]
        exact ra_lst hD (by omega) (by omega) hp hP0 (by omega)
      | 4, _ =>
        obtain ⟨h, a1, a2, a3⟩ := x_ha (c := 5) (show inR x3 5 = true from hr) (by omega)
        show RA _ _ _ _ _ _ _ _ (aGo q.1 13 p x3 0 q.2.2)
        rw [aGo, a3, a2]
        exact ra_emp hD (by omega) (by omega) hp hP0 (by omega)
      | k + 5, k1 => exact absurd k1 (by omega)
theorem r_write (ho : OR i o) (hv : OV b o) (hb : b + 16 < 2 ^ 29) : RM m w l e i (mm_V 318 0 [some (.ref 83), some (.int x1), some (.int x2), some (.int x3), none, none, none] [] (mm_Z m w i l e)) (wAct (some 14) x1 x2 x3 o) := by
  rw [mr_318_0, rf_in, mb_l, mb_v, mr_318_8]
  refine r_fin (g := inR x2 5) (g3 := true) ho hv rfl (fun q _ _ => (aPq_1 (by decide) (by decide)).symm) (fun i' => by rw [mb_v, mr_318_12, if_neg (by decide)]) ?_
  intro q p i1 hp ep hP0 hr _ hD
  obtain ⟨h, a1, a2, a3⟩ := x_ha (c := 5) (show inR x2 5 = true from hr) (by omega)
  show RA _ _ _ _ _ _ _ _ (aGo q.1 14 p x2 x3 q.2.2)
  rw [aGo, a3, a2, mb_v, ep]
  exact ra_wr hD (by omega) (by omega) hp hP0 (by omega) (and_255n x3) rfl
theorem r_seek (ho : OR i o) (hv : OV b o) (hb : b + 16 < 2 ^ 29) : RM m w l e i (mm_V 319 0 [some (.ref 83), some (.int x1), some (.int x2), some (.int x3), none] [] (mm_Z m w i l e)) (wAct (some 15) x1 x2 x3 o) := by
  have e1 : mm_V 319 0 [some (.ref 83), some (.int x1), some (.int x2), some (.int x3), none] [] (mm_Z m w i l e) = mm_V 319 26 [some (.ref 83), some (.int x1), some (.int x2), some (.int x3), none] [.int (bI (inR x2 5 && inR x3 24)), .int x1, .ref 83] (mm_Z m w i l e) := by
    rw [mr_319_0, rf_in, mb_l, mb_v, mr_319_8]
    show (if bI (inR x2 5) = 0 then _ else _) = _
    cases inR x2 5
    · rw [if_bf]; rfl
    · rw [if_bt, rf_in, mb_l, mb_v, mr_319_18, Bool.true_and]
      show (if bI (inR x3 24) = 0 then _ else _) = _
      cases inR x3 24
      · rw [if_bf]; rfl
      · rw [if_bt]; rfl
  rw [e1, mr_319_26]
  refine r_fin (g3 := true) ho hv rfl (fun q _ _ => (aPq_1 (by decide) (by decide)).symm) (fun i' => by rw [mb_v, mr_319_30, if_neg (by decide)]) ?_
  intro q p i1 hp ep hP0 hr _ hD
  obtain ⟨h1, h2⟩ := (Bool.and_eq_true _ _).mp (show (inR x2 5 && inR x3 24) = true from hr)
  obtain ⟨h, a1, a2, a3⟩ := x_ha (c := 5) h1 (by omega)
  obtain ⟨v, b1, b2, b3⟩ := x_ha (c := 24) h2 (by omega)
  show RA _ _ _ _ _ _ _ _ (aGo q.1 15 p x2 x3 q.2.2)
  rw [aGo, a3, a2, b3, b2, mb_v, ep]
  exact ra_sek hD (by omega) (by omega) hp hP0 (by omega) b1
theorem r_alone (ho : OR i o) (hv : OV b o) (hb : b + 16 < 2 ^ 29) : RM m w l e i (mm_V 323 0 [some (.ref 83), some (.int x1), some (.int x2)] [] (mm_Z m w i l e)) (wAct (aOp 16 2 x2) x1 0 0 o) := by
  rw [mr_323_0, rf_in, mb_l, mb_v, mr_323_8]
  refine r_fin (g := inR x2 2) (g3 := true) ho hv ?_ (fun q _ _ => (aPq_1 ?_ ?_).symm) (fun i' => by rw [mb_v, mr_323_12, if_neg (by decide)]) ?_
  · cases h : inR x2 2 with
    | false => rw [aOp_f h]; rfl
    | true =>
      obtain ⟨k, k1, k2, k3⟩ := aOp_t (base := 16) (c := 2) h (by omega)
      rw [k3]
      match k, k1 with
      | 0, _ => rfl
      | 1, _ => rfl
      | 2, _ => rfl
      | k + 3, k1 => exact absurd k1 (by omega)
  · intro z
    have := aOp_le (by omega) _ z
    omega
  · intro z
    have := aOp_le (by omega) _ z
    omega
  · intro q p i1 hp ep hP0 hr _ hD
    cases h : inR x2 2 with
    | false => rw [aOp_f h] at hr; cases hr
    | true =>
      obtain ⟨k, k1, k2, k3⟩ := aOp_t (base := 16) (c := 2) h (by omega)
      rw [k3]
      rw [mb_v, mr_323_12, if_pos rfl, ep, k2]
      match k, k1 with
      | 0, _ =>
        rw [if_neg (by decide), if_pos (by decide)]
        exact RA.bi (ra_frk hD (by omega) (by omega) hp hP0) (fun i' => by rw [mb_v, mr_323_38, mr_323_46])
      | 1, _ =>
        rw [if_neg (by decide), if_neg (by decide)]
        exact RA.bi (ra_pip hD (by omega) (by omega) hp hP0) (fun i' => mr_323_46 _ _ _ _ _ _ _ _)
      | 2, _ =>
        rw [if_pos (by decide)]
        obtain ⟨i2, e2, g2⟩ := RD.fi (m := m) (w := w) (l := l) (e := e) hD hp
        rw [e2, mb_l, mb_0, mr_323_27]
        exact ⟨i2, _, _, _, rfl, g2.1, g2.2.1.up (by omega), g2.2.2⟩
      | k + 3, k1 => exact absurd k1 (by omega)
theorem r_onProcess (ho : OR i o) (hv : OV b o) (hb : b + 16 < 2 ^ 29) : RM m w l e i (mm_V 324 0 [some (.ref 83), some (.int x1), some (.int x2), some (.int x3)] [] (mm_Z m w i l e)) (wAct (aOp 19 1 x2) x1 x3 0 o) := by
  have e1 : mm_V 324 0 [some (.ref 83), some (.int x1), some (.int x2), some (.int x3)] [] (mm_Z m w i l e) = mm_V 324 26 [some (.ref 83), some (.int x1), some (.int x2), some (.int x3)] [.int (bI (inR x2 1 && inR x3 7)), .int x1, .ref 83] (mm_Z m w i l e) := by
    rw [mr_324_0, rf_in, mb_l, mb_v, mr_324_8]
    show (if bI (inR x2 1) = 0 then _ else _) = _
    cases inR x2 1
    · rw [if_bf]; rfl
    · rw [if_bt, rf_in, mb_l, mb_v, mr_324_18, Bool.true_and]
      show (if bI (inR x3 7) = 0 then _ else _) = _
      cases inR x3 7
      · rw [if_bf]; rfl
      · rw [if_bt]; rfl
  obtain ⟨z, e2, e3⟩ := r_isp (m := m) (w := w) (l := l) (e := e) (i := i) (x1 := x3)
  have hg : (inR x2 1 && inR x3 7) = aRg (aOp 19 1 x2) x3 0 := by
    cases h : inR x2 1 with
    | false => rw [aOp_f h]; rfl
    | true =>
      obtain ⟨k, k1, k2, k3⟩ := aOp_t (base := 19) (c := 1) h (by omega)
      rw [k3, Bool.true_and]
      match k, k1 with
      | 0, _ => rfl
      | 1, _ => rfl
      | k + 2, k1 => exact absurd k1 (by omega)
  rw [e1, mr_324_26, e2, mb_l, mb_v, mr_324_31]
  refine r_fin ho hv hg (fun q hq hr => ?_) (fun i' => by rw [mb_v, mr_324_34, if_neg (by decide)]) ?_
  · obtain ⟨r1, r2⟩ := (Bool.and_eq_true _ _).mp hr
    subst hq
    rw [e3 (yH q.2.2) ho.1.2.2.2.1 hv.1.hw r2]
    obtain ⟨k, k1, k2, k3⟩ := aOp_t (base := 19) (c := 1) r1 (by omega)
    rw [k3]
    match k, k1 with
    | 0, _ => rfl
    | 1, _ => rfl
    | k + 2, k1 => exact absurd k1 (by omega)
  · intro q p i1 hp ep hP0 hr hq hD
    rw [← hg] at hr
    obtain ⟨r1, r2⟩ := (Bool.and_eq_true _ _).mp hr
    obtain ⟨k, k1, k2, k3⟩ := aOp_t (base := 19) (c := 1) r1 (by omega)
    obtain ⟨c, c1, c2, c3⟩ := x_ha (c := 7) r2 (by omega)
    rw [k3] at hq ⊢
    rw [mb_v, ep, k2]
    match k, k1 with
    | 0, _ =>
      have hq : decide (hP (yH q.2.2) x3.toNatClampNeg ≠ 0) = true := hq
      rw [c3] at hq
      show RA _ _ _ _ _ _ _ _ (aGo q.1 19 p x3 0 q.2.2)
      rw [aGo, c3, c2]
      exact ra_sig hD (by omega) (by omega) hp hP0 (by omega) (of_decide_eq_true hq)
    | 1, _ =>
      have hq : decide (hP (yH q.2.2) x3.toNatClampNeg ≠ 0) = true := hq
      rw [c3] at hq
      show RA _ _ _ _ _ _ _ _ (aGo q.1 20 p x3 0 q.2.2)
      rw [aGo, c3, c2]
      exact ra_trc hD (by omega) (by omega) hp hP0 (by omega) (of_decide_eq_true hq)
    | k + 2, k1 => exact absurd k1 (by omega)
theorem r_switch (ho : OR i o) (hv : OV b o) (hb : b + 16 < 2 ^ 29) : RM m w l e i (mm_V 325 0 [some (.ref 83), some (.int x1), some (.int x2)] [] (mm_Z m w i l e)) (wAct (some 21) x1 x2 0 o) := by
  have e1 : mm_V 325 0 [some (.ref 83), some (.int x1), some (.int x2)] [] (mm_Z m w i l e) = mm_V 325 11 [some (.ref 83), some (.int x1), some (.int x2)] [.int (bI (decide (¬ x2 < 0))), .int x1, .ref 83] (mm_Z m w i l e) := by
    rw [mr_325_0]
    by_cases z : x2 < 0
    · rw [if_pos z, decide_eq_false (fun y => y z)]; rfl
    · rw [if_neg z, decide_eq_true z]; rfl
  rw [e1, mr_325_11]
  refine r_fin (g3 := true) ho hv rfl (fun q _ _ => (aPq_1 (by decide) (by decide)).symm) (fun i' => by rw [mb_v, mr_325_15, if_neg (by decide)]) ?_
  intro q p i1 hp ep hP0 hr _ hD
  show RA _ _ _ _ _ _ _ _ (aGo q.1 21 p x2 0 q.2.2)
  rw [mb_v, ep]
  exact ra_swi hD (by omega) (by omega) hp hP0
end MM194
