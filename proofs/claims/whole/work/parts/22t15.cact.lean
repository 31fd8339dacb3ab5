/-! ACTS: what is right, in the class; act -/
section MM192
variable {w : Bool} {i i0 i' : Nat → Nat → Int32} {l : Nat → Nat → Int64} {m : Nat} {e : Bool × Nat × Nat} {n k j b B p q h M v : Nat} {x y x1 x2 x3 x4 : Int32} {π : mP} {ψ : mS} {L N : List Nat} {o : mOl} {a : Option Nat} {η : mH}
theorem lt_8 : x < 8 ↔ ¬ 7 < x := by
  rw [Int32.lt_iff_toInt_lt, Int32.lt_iff_toInt_lt]
  show x.toInt < 8 ↔ ¬ 7 < x.toInt
  omega
theorem lt_6 : x < 6 ↔ ¬ 5 < x := by
  rw [Int32.lt_iff_toInt_lt, Int32.lt_iff_toInt_lt]
  show x.toInt < 6 ↔ ¬ 5 < x.toInt
  omega
theorem lt_32 : x < 32 ↔ ¬ 31 < x := by
  rw [Int32.lt_iff_toInt_lt, Int32.lt_iff_toInt_lt]
  show x.toInt < 32 ↔ ¬ 31 < x.toInt
  omega
theorem if_inL {α : Type} {A B : α} {c d : Int32} (h : x < c ↔ ¬ d < x) : (if x < 0 then B else if x < c then A else B) = if inR x d = true then A else B := by
  unfold inR
  by_cases z1 : x < 0
  · rw [if_pos z1, if_neg (by simp [z1])]
  · rw [if_neg z1]
    by_cases z2 : x < c
    · rw [if_pos z2, if_pos (decide_eq_true ⟨z1, h.mp z2⟩)]
    · rw [if_neg z2, if_neg (fun z => z2 (h.mpr (of_decide_eq_true z).2))]
theorem if_inG {α : Type} {A B : α} {d : Int32} : (if x < 0 then B else if d < x then B else A) = if inR x d = true then A else B := by
  unfold inR
  by_cases z1 : x < 0
  · rw [if_pos z1, if_neg (by simp [z1])]
  · rw [if_neg z1]
    by_cases z2 : d < x
    · rw [if_pos z2, if_neg (fun z => (of_decide_eq_true z).2 z2)]
    · rw [if_neg z2, if_pos (decide_eq_true ⟨z1, z2⟩)]
theorem if_tf {α : Type} {A B : α} : (if true = false then A else B) = B := rfl
theorem if_ret {b : Bool} {μ : mm_M} : (if b = true then (some (.inl (some (.int 1)), μ) : Option mm_R) else some (.inl (some (.int 0)), μ)) = some (.inl (some (.int (bI b))), μ) := by
  cases b <;> rfl
theorem if_neg0 {μ : mm_M} : (if x < 0 then (some (.inl (some (.int 0)), μ) : Option mm_R) else some (.inl (some (.int 1)), μ)) = some (.inl (some (.int (bI (decide (¬ x < 0))))), μ) := by
  by_cases z : x < 0
  · rw [if_pos z, decide_eq_false (fun y => y z)]; rfl
  · rw [if_neg z, decide_eq_true z]; rfl
/-- what stands behind a path -/
def aBe (k : Nat) (x4 : Int32) : Bool := if k = 5 then inR x4 31 else if k = 6 ∨ k = 7 then pOk x4 else if k = 8 then decide (¬ x4 < 0) else true
theorem c_behind (hk : k ≤ 8) : mm_V 187 0 [some (.int (nI k)), some (.int x4)] [] (mm_Z m w i l e) = some (.inl (some (.int (bI (aBe k x4)))), mm_Z m w i l e) := by
  have pa : ∀ k, mm_V 187 33 [some (.int (nI k)), some (.int x4)] [] (mm_Z m w i l e) = some (.inl (some (.int (bI (pOk x4)))), mm_Z m w i l e) := fun k => by
    rw [mr_187_33, cp_isPath, mb_l, mb_v, mr_187_37, if_pos (bI_01 _)]
  match k, hk with
  | 0, _ => rw [mr_187_0, if_neg (by decide), if_neg (by decide), if_neg (by decide), if_neg (by decide)]; rfl
  | 1, _ => rw [mr_187_0, if_neg (by decide), if_neg (by decide), if_neg (by decide), if_neg (by decide)]; rfl
  | 2, _ => rw [mr_187_0, if_neg (by decide), if_neg (by decide), if_neg (by decide), if_neg (by decide)]; rfl
  | 3, _ => rw [mr_187_0, if_neg (by decide), if_neg (by decide), if_neg (by decide), if_neg (by decide)]; rfl
  | 4, _ => rw [mr_187_0, if_neg (by decide), if_neg (by decide), if_neg (by decide), if_neg (by decide)]; rfl
  | 5, _ => rw [mr_187_0, if_pos (by decide), if_inG, if_ret]; rfl
  | 6, _ => rw [mr_187_0, if_neg (by decide), if_pos (by decide)]; exact pa 6
  | 7, _ => rw [mr_187_0, if_neg (by decide), if_neg (by decide), if_pos (by decide)]; exact pa 7
  | 8, _ => rw [mr_187_0, if_neg (by decide), if_neg (by decide), if_neg (by decide), if_pos (by decide), if_neg0]; rfl
  | k + 9, hk => exact absurd hk (by omega)
theorem c_right (h0 : ¬ x2 < 0) (h8 : x2 < 8) (hk : k ≤ 21) : mm_V 186 0 [some (.ref 0), some (.int (nI k)), some (.int x2), some (.int x3), some (.int x4)] [] (mm_Z m w i l e) = some (.inl (some (.int (bI (aRb k x3 x4)))), mm_Z m w i l e) := by
  have pa : ∀ k, k ≤ 8 → mm_bi false (mm_V 87 0 [some (.int x3), none, none] [] (mm_Z m w i l e)) (fun v μ => mm_V 186 90 [some (.ref 0), some (.int (nI k)), some (.int x2), some (.int x3), some (.int x4)] (v.toList ++ []) μ) = some (.inl (some (.int (bI (pOk x3 && aBe k x4)))), mm_Z m w i l e) := fun k hk => by
    rw [cp_isPath, mb_l, mb_v, mr_186_90]
    cases pOk x3
    · rw [if_bf]; rfl
    · rw [if_bt, c_behind hk, mb_l, mb_v, mr_186_99, Bool.true_and]
      cases aBe k x4
      · rw [if_bf]; rfl
      · rw [if_bt]; rfl
  have pr : ∀ k, mm_V 186 160 [some (.ref 0), some (.int (nI k)), some (.int x2), some (.int x3), some (.int x4)] [] (mm_Z m w i l e) = some (.inl (some (.int (bI (inR x3 7)))), mm_Z m w i l e) := fun k => by
    rw [mr_186_160, if_inL lt_8, if_ret]
  match k, hk with
  | 0, _ => rw [mr_186_0, if_neg (by decide), if_neg (by decide), if_neg (by decide), if_neg h0, if_pos h8, if_neg (by decide)]; refine (pa 0 (by omega)).trans ?_; rw [show aBe 0 x4 = true from rfl, Bool.and_true]; rfl
  | 1, _ => rw [mr_186_0, if_neg (by decide), if_neg (by decide), if_neg (by decide), if_neg h0, if_pos h8, if_neg (by decide)]; refine (pa 1 (by omega)).trans ?_; rw [show aBe 1 x4 = true from rfl, Bool.and_true]; rfl
  | 2, _ => rw [mr_186_0, if_neg (by decide), if_neg (by decide), if_neg (by decide), if_neg h0, if_pos h8, if_neg (by decide)]; refine (pa 2 (by omega)).trans ?_; rw [show aBe 2 x4 = true from rfl, Bool.and_true]; rfl
  | 3, _ => rw [mr_186_0, if_neg (by decide), if_neg (by decide), if_neg (by decide), if_neg h0, if_pos h8, if_neg (by decide)]; refine (pa 3 (by omega)).trans ?_; rw [show aBe 3 x4 = true from rfl, Bool.and_true]; rfl
  | 4, _ => rw [mr_186_0, if_neg (by decide), if_neg (by decide), if_neg (by decide), if_neg h0, if_pos h8, if_neg (by decide)]; refine (pa 4 (by omega)).trans ?_; rw [show aBe 4 x4 = true from rfl, Bool.and_true]; rfl
  | 5, _ => rw [mr_186_0, if_neg (by decide), if_neg (by decide), if_neg (by decide), if_neg h0, if_pos h8, if_neg (by decide)]; refine (pa 5 (by omega)).trans ?_; rfl
  | 6, _ => rw [mr_186_0, if_neg (by decide), if_neg (by decide), if_neg (by decide), if_neg h0, if_pos h8, if_neg (by decide)]; refine (pa 6 (by omega)).trans ?_; rfl
  | 7, _ => rw [mr_186_0, if_neg (by decide), if_neg (by decide), if_neg (by decide), if_neg h0, if_pos h8, if_neg (by decide)]; refine (pa 7 (by omega)).trans ?_; rfl
  | 8, _ => rw [mr_186_0, if_neg (by decide), if_neg (by decide), if_neg (by decide), if_neg h0, if_pos h8, if_neg (by decide)]; refine (pa 8 (by omega)).trans ?_; rfl
  | 9, _ => rw [mr_186_0, if_neg (by decide), if_neg (by decide), if_neg (by decide), if_neg h0, if_pos h8, if_pos (by decide), if_neg (by decide), if_neg (show ¬ nI 9 = 15 from by decide), if_inL lt_6, if_ret]; rfl
  | 10, _ => rw [mr_186_0, if_neg (by decide), if_neg (by decide), if_neg (by decide), if_neg h0, if_pos h8, if_pos (by decide), if_neg (by decide), if_neg (show ¬ nI 10 = 15 from by decide), if_inL lt_6, if_ret]; rfl
  | 11, _ => rw [mr_186_0, if_neg (by decide), if_neg (by decide), if_neg (by decide), if_neg h0, if_pos h8, if_pos (by decide), if_neg (by decide), if_neg (show ¬ nI 11 = 15 from by decide), if_inL lt_6, if_ret]; rfl
  | 12, _ => rw [mr_186_0, if_neg (by decide), if_neg (by decide), if_neg (by decide), if_neg h0, if_pos h8, if_pos (by decide), if_neg (by decide), if_neg (show ¬ nI 12 = 15 from by decide), if_inL lt_6, if_ret]; rfl
  | 13, _ => rw [mr_186_0, if_neg (by decide), if_neg (by decide), if_neg (by decide), if_neg h0, if_pos h8, if_pos (by decide), if_neg (by decide), if_neg (show ¬ nI 13 = 15 from by decide), if_inL lt_6, if_ret]; rfl
  | 14, _ => rw [mr_186_0, if_neg (by decide), if_neg (by decide), if_neg (by decide), if_neg h0, if_pos h8, if_pos (by decide), if_neg (by decide), if_neg (show ¬ nI 14 = 15 from by decide), if_inL lt_6, if_ret]; rfl
  | 15, _ => rw [mr_186_0, if_neg (by decide), if_neg (by decide), if_neg (by decide), if_neg h0, if_pos h8, if_pos (by decide), if_neg (by decide), if_pos (show nI 15 = 15 from rfl), if_inG, if_inL lt_6]; show _ = (some (.inl (some (.int (bI (inR x3 5 && inR x4 24)))), mm_Z m w i l e) : Option mm_R); cases inR x3 5 <;> cases inR x4 24 <;> rfl
  | 16, _ => rw [mr_186_0, if_neg (by decide), if_neg (by decide), if_neg (by decide), if_neg h0, if_pos h8, if_pos (by decide), if_pos (by decide), if_neg (by decide), if_neg (by decide), if_neg (by decide)]; rfl
  | 17, _ => rw [mr_186_0, if_neg (by decide), if_neg (by decide), if_neg (by decide), if_neg h0, if_pos h8, if_pos (by decide), if_pos (by decide), if_neg (by decide), if_neg (by decide), if_neg (by decide)]; rfl
  | 18, _ => rw [mr_186_0, if_neg (by decide), if_neg (by decide), if_neg (by decide), if_neg h0, if_pos h8, if_pos (by decide), if_pos (by decide), if_neg (by decide), if_neg (by decide), if_neg (by decide)]; rfl
  | 19, _ => rw [mr_186_0, if_neg (by decide), if_neg (by decide), if_neg (by decide), if_neg h0, if_pos h8, if_pos (by decide), if_pos (by decide), if_pos (by decide)]; exact pr 19
  | 20, _ => rw [mr_186_0, if_neg (by decide), if_neg (by decide), if_neg (by decide), if_neg h0, if_pos h8, if_pos (by decide), if_pos (by decide), if_neg (by decide), if_pos (by decide)]; exact pr 20
  | 21, _ => rw [mr_186_0, if_neg (by decide), if_neg (by decide), if_neg (by decide), if_neg h0, if_pos h8, if_pos (by decide), if_pos (by decide), if_neg (by decide), if_neg (by decide), if_pos (by decide), if_neg0]; rfl
  | k + 22, hk => exact absurd hk (by omega)
/-- the number of an act; how its answer is told inside -/
def aI (a : Option Nat) : Int32 := match a with
  | none => -1
  | some k => nI k
def aCd : mA → Int32
  | .inl (some x) => x
  | .inl none => 0
  | .inr c => if c = 2 then -102 else if c = 0 then -100 else -101
theorem c_rightA (ha : ∀ k, a = some k → k ≤ 21) : mm_V 186 0 [some (.ref 0), some (.int (aI a)), some (.int x2), some (.int x3), some (.int x4)] [] (mm_Z m w i l e) = some (.inl (some (.int (bI (inR x2 7 && aRg a x3 x4)))), mm_Z m w i l e) := by
  cases a with
  | none =>
    show mm_V 186 0 [some (.ref 0), some (.int (-1)), some (.int x2), some (.int x3), some (.int x4)] [] (mm_Z m w i l e) = _
    rw [mr_186_0, if_neg (by decide), if_neg (by decide), if_pos (by decide), aRg, Bool.and_false]; rfl
  | some k =>
    have hk := ha k rfl
    show mm_V 186 0 [some (.ref 0), some (.int (nI k)), some (.int x2), some (.int x3), some (.int x4)] [] (mm_Z m w i l e) = _
    have n23 : ¬ nI k = 23 := fun z => by have := (nI_eq (a := k) (b := 23) (by omega) (by omega)).mp z; omega
    have n24 : ¬ nI k = 24 := fun z => by have := (nI_eq (a := k) (b := 24) (by omega) (by omega)).mp z; omega
    by_cases z1 : x2 < 0
    · rw [mr_186_0, if_neg n23, if_neg n24, if_neg (nI_nn (by omega)), if_pos z1, show inR x2 7 = false from decide_eq_false (fun z => z.1 z1)]; rfl
    · by_cases z2 : x2 < 8
      · rw [c_right z1 z2 hk, show inR x2 7 = true from decide_eq_true ⟨z1, lt_8.mp z2⟩]; rfl
      · rw [mr_186_0, if_neg n23, if_neg n24, if_neg (nI_nn (by omega)), if_neg z1, if_neg z2, show inR x2 7 = false from decide_eq_false (fun z => z2 (lt_8.mpr z.2))]; rfl
theorem c_act (ha : ∀ k, a = some k → k ≤ 21) (ho : OC w i o) (hv : OV b o) (hb : b + 16 < 2 ^ 29) : ∃ i', mm_V 185 0 [some (.ref 0), some (.int (aI a)), some (.int x2), some (.int x3), some (.int x4)] [] (mm_Z m w i l e) = some (.inl (some (.int (aCd (wAct a x2 x3 x4 o).1))), mm_Z m w i' l e) ∧ mG fC i i' ∧ OC w i' (wAct a x2 x3 x4 o).2 ∧ OV (b + 16) (wAct a x2 x3 x4 o).2 := by
  have n22 : ∀ c, 22 ≤ c → c < 30 → ¬ aI a = nI c := fun c h1 h2 z => by
    cases a with
    | none => exact ne_m1 (by omega) z.symm
    | some k =>
      have := ha k rfl
      have := (nI_eq (a := k) (b := c) (by omega) (by omega)).mp z
      omega
  rw [mr_185_0, if_neg (show ¬ aI a = 22 from n22 22 (by omega) (by omega))]
  cases o with
  | none =>
    rw [if_pos ho.2.2.2.2]
    exact ⟨i, rfl, mG.rf, ho, trivial⟩
  | some q =>
    have ho : CS w q.1 i q.2.2 := ho
    obtain ⟨hI, hK⟩ := hv
    have h1 : i 30 1 = 1 := ho.2.2.2.2.2.2
    have hv' : OV (b + 16) (some q) := ⟨hI.up (by omega), hK⟩
    rw [if_neg (by rw [h1]; decide), c_rightA ha, mb_l, mb_v, mr_185_33]
    unfold wAct
    simp only
    cases hr : (inR x2 7 && aRg a x3 x4) with
    | false =>
      rw [if_bf, if_pos rfl]
      exact ⟨i, rfl, mG.rf, ho, hv'⟩
    | true =>
      obtain ⟨r1, r2⟩ := (Bool.and_eq_true _ _).mp hr
      obtain ⟨p, p1, p2⟩ := inR_n (n := 7) r1 (by omega)
      have hp : p < 8 := by omega
      subst p2
      rw [if_bt, if_neg (show ¬ aI a = 23 from n22 23 (by omega) (by omega)), if_neg (show ¬ aI a = 24 from n22 24 (by omega) (by omega)), hc_isProcess ho.2.2.2.1 hI.hw hp, mb_l, mb_v, mr_185_73, nI_clamp (by omega), if_tf]
      cases a with
      | none => cases r2
      | some k =>
        have hk := ha k rfl
        by_cases z : hP (yH q.2.2) p ≠ 0
        · rw [decide_eq_true z, if_bt, Bool.true_and]
          have fin : aPq (some k) x3 (yH q.2.2) = true → ∃ i', mm_V 185 102 [some (.ref 0), some (.int (aI (some k))), some (.int (nI p)), some (.int x3), some (.int x4)] [] (mm_Z m w i l e) = some (.inl (some (.int (aGo q.1 k p x3 x4 q.2.2).1)), mm_Z m w i' l e) ∧ mG fC i i' ∧ CS w q.1 i' (aGo q.1 k p x3 x4 q.2.2).2 ∧ IV q.1 (b + 16) (aGo q.1 k p x3 x4 q.2.2).2 := fun hq => by
            have g : CD w q.1 i b i q.2.2 (i 80 4) (i 80 5) := ⟨ho, hI, mG.rf, rfl, rfl⟩
            obtain ⟨i', x, y, e1, g1, g2, g3, _⟩ := c_go (m := m) (l := l) (e := e) g hb hp z hk r2 hq
            exact ⟨i', e1, g3, g1, g2⟩
          by_cases zk : k = 19 ∨ k = 20
          · obtain ⟨c, c1, c2⟩ : ∃ c, c < 8 ∧ x3 = nI c := by
              have : inR x3 7 = true := by rcases zk with zk | zk <;> (subst zk; exact r2)
              obtain ⟨c, c1, c2⟩ := inR_n (n := 7) this (by omega)
              exact ⟨c, by omega, c2⟩
            have e88 : (if aI (some k) = 19 then mm_V 185 88 [some (.ref 0), some (.int (aI (some k))), some (.int (nI p)), some (.int x3), some (.int x4)] [] (mm_Z m w i l e) else if aI (some k) = 20 then mm_V 185 88 [some (.ref 0), some (.int (aI (some k))), some (.int (nI p)), some (.int x3), some (.int x4)] [] (mm_Z m w i l e) else mm_V 185 102 [some (.ref 0), some (.int (aI (some k))), some (.int (nI p)), some (.int x3), some (.int x4)] [] (mm_Z m w i l e)) = mm_V 185 88 [some (.ref 0), some (.int (aI (some k))), some (.int (nI p)), some (.int x3), some (.int x4)] [] (mm_Z m w i l e) := by
              rcases zk with zk | zk
              · rw [if_pos (by rw [zk]; rfl)]
              · rw [if_neg (by rw [zk]; decide), if_pos (by rw [zk]; rfl)]
            have ep : aPq (some k) x3 (yH q.2.2) = decide (hP (yH q.2.2) c ≠ 0) := by
              unfold aPq
              rw [if_pos (by rcases zk with zk | zk <;> simp [zk]), c2, nI_clamp (by omega)]
            rw [e88, mr_185_88, c2, hc_isProcess ho.2.2.2.1 hI.hw c1, mb_l, mb_v, mr_185_96, ← c2, ep]
            by_cases zc : hP (yH q.2.2) c ≠ 0
            · rw [decide_eq_true zc, if_bt, if_tf]
              obtain ⟨i', e1, e2, e3, e4⟩ := fin (by rw [ep]; exact decide_eq_true zc)
              exact ⟨i', e1, e2, e3, e4, hK⟩
            · rw [decide_eq_false zc, if_bf, if_pos rfl]
              exact ⟨i, rfl, mG.rf, ho, hv'⟩
          · have ep : aPq (some k) x3 (yH q.2.2) = true := by
              unfold aPq
              rw [if_neg (by simp only [Option.some.injEq]; exact zk)]
            rw [if_neg (show ¬ aI (some k) = 19 from fun y => zk (Or.inl ((nI_eq (a := k) (b := 19) (by omega) (by omega)).mp y))), if_neg (show ¬ aI (some k) = 20 from fun y => zk (Or.inr ((nI_eq (a := k) (b := 20) (by omega) (by omega)).mp y))), ep, if_tf]
            obtain ⟨i', e1, e2, e3, e4⟩ := fin ep
            exact ⟨i', e1, e2, e3, e4, hK⟩
        · rw [decide_eq_false z, if_bf, Bool.false_and, if_pos rfl]
          exact ⟨i, rfl, mG.rf, ho, hv'⟩
end MM192
