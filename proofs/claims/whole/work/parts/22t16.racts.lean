/-! ACTS, in the reference: refusals -/
section MM193
variable {w : Bool} {i i0 i' : Nat → Nat → Int32} {l : Nat → Nat → Int64} {m : Nat} {e : Bool × Nat × Nat} {n k j b B p h M v : Nat} {x y x1 x2 x3 x4 : Int32} {π : mP} {ψ : mS} {L N : List Nat} {o : mOl} {a : Option Nat} {η : mH} {g g3 : Bool} {F : Option Value → mm_M → Option mm_R} {X : Option mm_R} {r : Int32 × mS}
/-- is there a process? -/
theorem r_isp : ∃ z : Bool, mm_V 289 0 [some (.ref 83), some (.int x1)] [] (mm_Z m w i l e) = some (.inl (some (.int (bI z))), mm_Z m w i l e) ∧ ∀ η, HR i η → HW η → inR x1 7 = true → z = decide (hP η x1.toNatClampNeg ≠ 0) := by
  rw [mr_289_0, rf_in, mb_l, mb_v, mr_289_11]
  by_cases z1 : ¬ x1 < 0 ∧ ¬ 7 < x1
  · obtain ⟨p, p1, p2⟩ := i_nat (n := 7) z1.1 z1.2 (by omega)
    subst p2
    rw [decide_eq_true z1, if_bt, if_neg (no_out (by omega) (by omega)), if_neg0]
    refine ⟨_, rfl, fun η H hW _ => ?_⟩
    rw [nI_clamp (by omega), H.1 p (by omega)]
    have h1 := m1_lt (a := hP η p) (by have := (hW.1 p (by omega)).1; omega)
    by_cases z : hP η p = 0
    · rw [decide_eq_false (fun y => y (h1.mpr z)), decide_eq_false (fun y => y z)]
    · rw [decide_eq_true (show ¬ (nI (hP η p) - 1 < 0) from fun y => z (h1.mp y)), decide_eq_true z]
  · rw [decide_eq_false z1, if_bf, if_neg0]
    exact ⟨_, rfl, fun η _ _ z => absurd (of_decide_eq_true z) z1⟩
/-- how an act is refused: 0 not at all -/
def cRf (o : mOl) (x1 : Int32) (g g3 : Bool) : Nat := match o with
  | none => 1
  | some q => if (inR x1 7 && g) = false then 2 else if (decide (hP (yH q.2.2) x1.toNatClampNeg ≠ 0) && g3) = false then 3 else 0
theorem RS.w81 (h : RS π i ψ) : RS π (mm_ww i 83 81 x) ψ := h.rg (by omega)
theorem OR.w81 (h : OR i o) : OR (mm_ww i 83 81 x) o := by
  have far : ∀ k j, ¬ (k = 83 ∧ j = 81) → mm_ww i 83 81 x k j = i k j := fun k j a => mw_ne a
  cases o with
  | none =>
    obtain ⟨h1, h2, h3, h4⟩ := h
    exact ⟨h1.kp (fun k j a b => far k j (by omega)), h2.kp (far _ _ (by omega)) (fun j => far _ _ (by omega)), h3.kp (fun j _ => far _ _ (by omega)) (fun k j a b => far k j (by omega)), (far _ _ (by omega)).trans h4⟩
  | some q => exact ⟨h.1.w81, h.2.kp (far _ _ (by omega)) (fun j => far _ _ (by omega))⟩
theorem r_290 (ho : OR i o) (hv : OV b o) : mm_V 290 0 [some (.ref 83), some (.int x1), some (.int (bI g)), some (.int (bI g3)), none] [] (mm_Z m w i l e) = some (.inl (some (.int (bI (decide (cRf o x1 g g3 ≠ 0))))), mm_Z m w (mm_ww (mm_ww i 83 81 0) 83 0 (nI (cRf o x1 g g3))) l e) := by
  have t85 : ∀ (a b c : Bool) (x4 : Int32) (i : Nat → Nat → Int32), mm_V 290 85 [some (.ref 83), some (.int x1), some (.int (bI g)), some (.int (bI g3)), some (.int x4)] [.int (bI c), .int (bI b), .int (bI a), .ref 83] (mm_Z m w i l e) = some (.inl (some (.int (bI (a || b || c)))), mm_Z m w (mm_ww i 83 0 (nI (if a = true then 1 else if b = true then 2 else if c = true then 3 else 0))) l e) := fun a b c x4 i => by
    rw [mr_290_85, r_refuse, mb_l, mb_v, mr_290_88, if_pos (bI_01 _)]
  rw [mr_290_0]
  cases o with
  | none =>
    have h4 := ho.2.2.2
    have t := t85 true false false 0 (mm_ww i 83 81 0)
    have t : mm_V 290 85 [some (.ref 83), some (.int x1), some (.int (bI g)), some (.int (bI g3)), some (.int 0)] [.int 0, .int 0, .int 1, .ref 83] (mm_Z m w (mm_ww i 83 81 0) l e) = _ := t
    rw [if_pos h4, mr_290_26, if_pos h4, mr_290_46, if_pos (by rw [mw_j (by decide)]; exact h4), mr_290_63, if_pos rfl, t]
    rfl
  | some q =>
    have ho : RS q.1 i q.2.2 ∧ XKp q.2.1 i := ho
    have h5 : ¬ i 83 5 = 0 := by rw [ho.1.2.2.2.2.2.2]; decide
    have h5' : ¬ mm_ww i 83 81 0 83 5 = 0 := by rw [mw_j (by decide)]; exact h5
    have hW := hv.1.hw
    have bad : mm_V 290 26 [some (.ref 83), some (.int x1), some (.int (bI g)), some (.int (bI g3)), none] [.int 0] (mm_Z m w i l e) = some (.inl (some (.int 1)), mm_Z m w (mm_ww (mm_ww i 83 81 0) 83 0 (nI 2)) l e) := by
      have t := t85 false true false 0 (mm_ww i 83 81 0)
      have t : mm_V 290 85 [some (.ref 83), some (.int x1), some (.int (bI g)), some (.int (bI g3)), some (.int 0)] [.int 0, .int 1, .int 0, .ref 83] (mm_Z m w (mm_ww i 83 81 0) l e) = _ := t
      rw [mr_290_26, if_neg h5, mr_290_46, if_neg h5', if_pos rfl, mr_290_63, if_pos rfl, t]
      rfl
    rw [if_neg h5, rf_in, mb_l, mb_v, mr_290_14, cRf]
    by_cases z1 : ¬ x1 < 0 ∧ ¬ 7 < x1
    · have e1 : inR x1 7 = true := decide_eq_true z1
      rw [decide_eq_true z1, if_bt, e1, Bool.true_and]
      cases g with
      | false =>
        rw [if_bf, if_pos rfl]
        exact bad
      | true =>
        rw [if_bt, if_neg (fun z => by cases z), mr_290_26, if_neg h5, mr_290_46, if_neg h5', if_neg (by decide), mr_290_63, if_neg (by decide)]
        obtain ⟨z, e2, e3⟩ := r_isp (m := m) (w := w) (l := l) (e := e) (i := mm_ww i 83 81 0) (x1 := x1)
        have e3 := e3 (yH q.2.2) ho.1.w81.2.2.2.1 hW e1
        rw [e2, mb_l, mb_v, mr_290_73, ← e3]
        cases z with
        | false =>
          have t := t85 false false true 1 (mm_ww i 83 81 0)
          rw [if_bf, Bool.false_and, if_pos rfl]
          exact t
        | true =>
          rw [if_bt, Bool.true_and]
          cases g3 with
          | false =>
            have t := t85 false false true 1 (mm_ww i 83 81 0)
            rw [if_bf, if_pos rfl]
            exact t
          | true =>
            have t := t85 false false false 1 (mm_ww i 83 81 0)
            rw [if_bt, if_neg (fun z => by cases z)]
            exact t
    · have e1 : inR x1 7 = false := decide_eq_false z1
      rw [decide_eq_false z1, if_bf, e1, Bool.false_and, if_pos rfl]
      exact bad
theorem RA.bi (hX : RA m w l e π i0 B X r) (hk : ∀ i', F (some (.int r.1)) (mm_Z m w i' l e) = some (.inl (some (.int r.1)), mm_Z m w i' l e)) : RA m w l e π i0 B (mm_bi true X F) r := by
  obtain ⟨i', s, a, x, e1, g⟩ := hX
  rw [e1, mb_l, hk]
  exact ⟨i', s, a, x, rfl, g⟩
theorem RA.up {C : Nat} (hX : RA m w l e π i0 B X r) (hc : B ≤ C) : RA m w l e π i0 C X r := by
  obtain ⟨i', s, a, x, e1, g1, g2, g3⟩ := hX
  exact ⟨i', s, a, x, e1, g1, g2.up hc, g3⟩
def fRc (k j : Nat) : Prop := fR k j ∨ (k = 83 ∧ j = 0)
/-- how a refusal is told -/
def fAc (c : Nat) : Nat := if c = 2 then 1 else if c = 0 then 2 else 3
/-- an act of the reference, behind its rights -/
theorem r_fin (ho : OR i o) (hv : OV b o) (hg : g = aRg a x3 x4) (hg3 : ∀ q, o = some q → g = true → g3 = aPq a x3 (yH q.2.2)) (h0 : ∀ i', F (some (.int 1)) (mm_Z m w i' l e) = some (.inl (some (.int 0)), mm_Z m w i' l e)) (h1 : ∀ (q : mP × mX × mS) (p : Nat) (i1 : Nat → Nat → Int32), p < 8 → x1 = nI p → hP (yH q.2.2) p ≠ 0 → aRg a x3 x4 = true → aPq a x3 (yH q.2.2) = true → RD q.1 i1 b i1 q.2.2 0 (i1 83 82) (i1 83 83) → RA m w l e q.1 i1 (b + 16) (F (some (.int 0)) (mm_Z m w i1 l e)) (aGo q.1 (a.getD 0) p x3 x4 q.2.2)) : ∃ y i', mm_bi true (mm_V 290 0 [some (.ref 83), some (.int x1), some (.int (bI g)), some (.int (bI g3)), none] [] (mm_Z m w i l e)) F = some (.inl (some (.int y)), mm_Z m w i' l e) ∧ RA0 fAc (wAct a x1 x3 x4 o).1 i' y ∧ mG fRc i i' ∧ OR i' (wAct a x1 x3 x4 o).2 := by
  rw [r_290 ho hv, mb_l]
  have fr : ∀ c, mG fRc i (mm_ww (mm_ww i 83 81 0) 83 0 (nI c)) := fun c => (mG.ww (by unfold fRc fR; omega)).tr (mG.ww (by unfold fRc fR; omega))
  have ho' : ∀ c, OR (mm_ww (mm_ww i 83 81 0) 83 0 (nI c)) o := fun c => ho.w81.w0
  have bad : ∀ c t, cRf o x1 g g3 = c → c ≠ 0 → fAc t = c → wAct a x1 x3 x4 o = (.inr t, o) → ∃ y i', F (some (.int (bI (decide (cRf o x1 g g3 ≠ 0))))) (mm_Z m w (mm_ww (mm_ww i 83 81 0) 83 0 (nI (cRf o x1 g g3))) l e) = some (.inl (some (.int y)), mm_Z m w i' l e) ∧ RA0 fAc (wAct a x1 x3 x4 o).1 i' y ∧ mG fRc i i' ∧ OR i' (wAct a x1 x3 x4 o).2 := fun c t a1 a2 a3 a4 => by
    have e1 := h0 (mm_ww (mm_ww i 83 81 0) 83 0 (nI c))
    rw [a1, decide_eq_true a2, show bI true = (1 : Int32) from rfl, e1, a4]
    exact ⟨0, _, rfl, ⟨by rw [mw_s]; show nI c = nI (fAc t); rw [a3], fun v z => by cases z⟩, fr c, ho' c⟩
  cases o with
  | none => exact bad 1 2 rfl (by decide) rfl rfl
  | some q =>
    have hR : RS q.1 i q.2.2 ∧ XKp q.2.1 i := ho
    by_cases z1 : (inR x1 7 && g) = false
    · refine bad 2 0 ?_ (by decide) rfl ?_
      · unfold cRf; simp only [if_pos z1]
      · unfold wAct; rw [← hg]; simp only [if_pos z1]
    · have z1' : (inR x1 7 && g) = true := by cases h : (inR x1 7 && g) <;> simp_all
      obtain ⟨r1, r2⟩ := (Bool.and_eq_true _ _).mp z1'
      have hg3 := hg3 q rfl r2
      by_cases z2 : (decide (hP (yH q.2.2) x1.toNatClampNeg ≠ 0) && g3) = false
      · refine bad 3 3 ?_ (by decide) rfl ?_
        · unfold cRf; simp only [if_neg z1, if_pos z2]
        · unfold wAct; simp only [← hg, ← hg3, if_neg z1, if_pos z2]
      · have z2' : (decide (hP (yH q.2.2) x1.toNatClampNeg ≠ 0) && g3) = true := by cases h : (decide (hP (yH q.2.2) x1.toNatClampNeg ≠ 0) && g3) <;> simp_all
        obtain ⟨s1, s2⟩ := (Bool.and_eq_true _ _).mp z2'
        obtain ⟨p, p1, p2⟩ := inR_n (n := 7) r1 (by omega)
        have ec : cRf (some q) x1 g g3 = 0 := by unfold cRf; simp only [if_neg z1, if_neg z2]
        have ep : x1.toNatClampNeg = p := by rw [p2, nI_clamp (by omega)]
        have ew : wAct a x1 x3 x4 (some q) = (.inl (some (aGo q.1 (a.getD 0) p x3 x4 q.2.2).1), some (q.1, q.2.1, (aGo q.1 (a.getD 0) p x3 x4 q.2.2).2)) := by
          unfold wAct
          simp only [← hg, ← hg3, if_neg z1, if_neg z2]
          rw [ep]
        rw [ec, ew]
        have hD : RD q.1 (mm_ww (mm_ww i 83 81 0) 83 0 (nI 0)) b (mm_ww (mm_ww i 83 81 0) 83 0 (nI 0)) q.2.2 0 (mm_ww (mm_ww i 83 81 0) 83 0 (nI 0) 83 82) (mm_ww (mm_ww i 83 81 0) 83 0 (nI 0) 83 83) := ⟨(ho' 0).1, hv.1, mG.rf, by rw [mw_j (by decide), mw_s], rfl, rfl⟩
        rw [ep] at s1
        obtain ⟨i', s, a', x, e1, g1, g2, g3', _⟩ := h1 q p _ (by omega) p2 (of_decide_eq_true s1) (by rw [← hg]; exact r2) (by rw [← hg3]; exact s2) hD
        have g3'' : mG fRc i i' := (fr 0).tr (g3'.mo (fun k j z => by unfold fR at z; unfold fRc fR; omega))
        refine ⟨_, i', e1, ⟨?_, fun v z => by cases z; rfl⟩, g3'', g1, ?_⟩
        · rw [g3' 83 0 (by unfold fR; omega), mw_s]; rfl
        · exact hR.2.kp (g3'' _ _ (by unfold fRc fR; omega)) (fun j => g3'' _ _ (by unfold fRc fR; omega))
end MM193
