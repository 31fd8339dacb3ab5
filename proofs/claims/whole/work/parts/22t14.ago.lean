/-! ACTS: what an act by its number does; act of the class -/
section MM191
variable {w : Bool} {i i0 i' : Nat → Nat → Int32} {l : Nat → Nat → Int64} {m : Nat} {e : Bool × Nat × Nat} {n k j b B p q h M v : Nat} {x y x1 x2 x3 x4 : Int32} {π : mP} {ψ : mS} {L N : List Nat} {o : mOl} {a : Option Nat} {η : mH}
noncomputable def pLs (x : Int32) : List Nat := if h : pOk x = true then Classical.choose (pOk_L h) else []
theorem pLs_s (h : pOk x = true) : pO (pLs x) ∧ x = nI (pc (pLs x)) := by
  unfold pLs
  rw [dif_pos h]
  exact Classical.choose_spec (pOk_L h)
noncomputable def aGo (π : mP) (a p : Nat) (x3 x4 : Int32) (ψ : mS) : Int32 × mS := match a with
  | 0 => aLook π p (pLs x3) ψ
  | 1 => aMkd π p (pLs x3) ψ
  | 2 => aRmd π p (pLs x3) ψ
  | 3 => aUnl π p (pLs x3) ψ
  | 4 => aRun π p (pLs x3) ψ
  | 5 => aOpn π p (pLs x3) x4.toNatClampNeg ψ
  | 6 => aLnk π p (pLs x3) (pLs x4) ψ
  | 7 => aRen π p (pLs x3) (pLs x4) ψ
  | 8 => aRel π p (pLs x3) x4 ψ
  | 9 => aCls p x3.toNatClampNeg ψ
  | 10 => aDup π p x3.toNatClampNeg ψ
  | 11 => aRd π p x3.toNatClampNeg ψ
  | 12 => aLst π p x3.toNatClampNeg ψ
  | 13 => aEmp π p x3.toNatClampNeg ψ
  | 14 => aWr π p x3.toNatClampNeg (x4 &&& 255) ψ
  | 15 => aSek π p x3.toNatClampNeg x4.toNatClampNeg ψ
  | 16 => aFrk π p ψ
  | 17 => aPip π p ψ
  | 18 => aLv p ψ
  | 19 => aSig π p x3.toNatClampNeg ψ
  | 20 => aTrc π p x3.toNatClampNeg ψ
  | _ => aSwi π p x3 ψ
/-- between 0 and n -/
def inR (x : Int32) (n : Int32) : Bool := decide (¬ x < 0 ∧ ¬ n < x)
theorem inR_n (h : inR x (nI n) = true) (hn : n < 2 ^ 31) : ∃ a, a ≤ n ∧ x = nI a := by
  have := of_decide_eq_true h
  exact i_nat this.1 this.2 hn
theorem inR_t (ha : k ≤ n) (hn : n < 2 ^ 31) : inR (nI k) (nI n) = true := decide_eq_true ⟨nI_nn (by omega), fun z => by
  have := (nI_ltI (by omega) (by omega)).mp z
  omega⟩
/-- what is right behind the process -/
def aRb (a : Nat) (x3 x4 : Int32) : Bool := match a with
  | 0 => pOk x3
  | 1 => pOk x3
  | 2 => pOk x3
  | 3 => pOk x3
  | 4 => pOk x3
  | 5 => pOk x3 && inR x4 31
  | 6 => pOk x3 && pOk x4
  | 7 => pOk x3 && pOk x4
  | 8 => pOk x3 && decide (¬ x4 < 0)
  | 9 => inR x3 5
  | 10 => inR x3 5
  | 11 => inR x3 5
  | 12 => inR x3 5
  | 13 => inR x3 5
  | 14 => inR x3 5
  | 15 => inR x3 5 && inR x4 24
  | 16 => true
  | 17 => true
  | 18 => true
  | 19 => inR x3 7
  | 20 => inR x3 7
  | _ => decide (¬ x3 < 0)
def aRg (a : Option Nat) (x3 x4 : Int32) : Bool := match a with
  | none => false
  | some a => aRb a x3 x4
/-- the other process is there -/
def aPq (a : Option Nat) (x3 : Int32) (η : mH) : Bool := if a = some 19 ∨ a = some 20 then decide (hP η x3.toNatClampNeg ≠ 0) else true
noncomputable def wAct (a : Option Nat) (x2 x3 x4 : Int32) (o : mOl) : mA × mOl := match o with
  | none => (.inr 2, none)
  | some q => if (inR x2 7 && aRg a x3 x4) = false then (.inr 0, some q) else if (decide (hP (yH q.2.2) x2.toNatClampNeg ≠ 0) && aPq a x3 (yH q.2.2)) = false then (.inr 3, some q) else (.inl (some (aGo q.1 (a.getD 0) x2.toNatClampNeg x3 x4 q.2.2).1), some (q.1, q.2.1, (aGo q.1 (a.getD 0) x2.toNatClampNeg x3 x4 q.2.2).2))
theorem c_go (g : CD w π i0 b i ψ x y) (hb : b + 16 < 2 ^ 29) (hp : p < 8) (hP0 : hP (yH ψ) p ≠ 0) (hk : k ≤ 21) (hr : aRb k x3 x4 = true) (hq : aPq (some k) x3 (yH ψ) = true) : CA m w l e π i0 (b + 16) (mm_V 185 102 [some (.ref 0), some (.int (nI k)), some (.int (nI p)), some (.int x3), some (.int x4)] [] (mm_Z m w i l e)) (aGo π k p x3 x4 ψ) := by
  have one : ∀ x3, pOk x3 = true → ∃ L, pO L ∧ pLs x3 = L ∧ x3 = nI (pc L) := fun x3 z => ⟨pLs x3, (pLs_s z).1, rfl, (pLs_s z).2⟩
  have han : inR x3 5 = true → ∃ h, h < 6 ∧ x3 = nI h ∧ x3.toNatClampNeg = h := fun z => by
    obtain ⟨h, h1, h2⟩ := inR_n (n := 5) z (by omega)
    exact ⟨h, by omega, h2, by rw [h2, nI_clamp (by omega)]⟩
  have pro : inR x3 7 = true → ∃ h, h < 8 ∧ x3 = nI h ∧ x3.toNatClampNeg = h := fun z => by
    obtain ⟨h, h1, h2⟩ := inR_n (n := 7) z (by omega)
    exact ⟨h, by omega, h2, by rw [h2, nI_clamp (by omega)]⟩
  match k, hk with
  | 0, _ => obtain ⟨L, a1, a2, a3⟩ := one x3 hr; rw [aGo, a2, a3]; exact cg_0 g hb hp hP0 a1
  | 1, _ => obtain ⟨L, a1, a2, a3⟩ := one x3 hr; rw [aGo, a2, a3]; exact cg_1 g hb hp hP0 a1
  | 2, _ => obtain ⟨L, a1, a2, a3⟩ := one x3 hr; rw [aGo, a2, a3]; exact cg_2 g hb hp hP0 a1
  | 3, _ => obtain ⟨L, a1, a2, a3⟩ := one x3 hr; rw [aGo, a2, a3]; exact cg_3 g hb hp hP0 a1
  | 4, _ => obtain ⟨L, a1, a2, a3⟩ := one x3 hr; rw [aGo, a2, a3]; exact cg_4 g hb hp hP0 a1
  | 5, _ =>
    obtain ⟨h1, h2⟩ := (Bool.and_eq_true _ _).mp hr
    obtain ⟨L, a1, a2, a3⟩ := one x3 h1
    obtain ⟨M, b1, b2⟩ := inR_n (n := 31) h2 (by omega)
    rw [aGo, a2, a3, b2, nI_clamp (by omega)]; exact cg_5 g hb hp hP0 a1 (by omega)
  | 6, _ =>
    obtain ⟨h1, h2⟩ := (Bool.and_eq_true _ _).mp hr
    obtain ⟨L, a1, a2, a3⟩ := one x3 h1
    obtain ⟨N, b1, b2, b3⟩ := one x4 h2
    rw [aGo, a2, a3, b2, b3]; exact cg_6 g hb hp hP0 a1 b1
  | 7, _ =>
    obtain ⟨h1, h2⟩ := (Bool.and_eq_true _ _).mp hr
    obtain ⟨L, a1, a2, a3⟩ := one x3 h1
    obtain ⟨N, b1, b2, b3⟩ := one x4 h2
    rw [aGo, a2, a3, b2, b3]; exact cg_7 g hb hp hP0 a1 b1
  | 8, _ =>
    obtain ⟨h1, h2⟩ := (Bool.and_eq_true _ _).mp hr
    obtain ⟨L, a1, a2, a3⟩ := one x3 h1
    rw [aGo, a2, a3]; exact cg_8 g hb hp hP0 a1
  | 9, _ => obtain ⟨h, a1, a2, a3⟩ := han hr; rw [aGo, a3, a2]; exact cg_9 g hb hp hP0 a1
  | 10, _ => obtain ⟨h, a1, a2, a3⟩ := han hr; rw [aGo, a3, a2]; exact cg_10 g hb hp hP0 a1
  | 11, _ => obtain ⟨h, a1, a2, a3⟩ := han hr; rw [aGo, a3, a2]; exact cg_11 g hb hp hP0 a1
  | 12, _ => obtain ⟨h, a1, a2, a3⟩ := han hr; rw [aGo, a3, a2]; exact cg_12 g hb hp hP0 a1
  | 13, _ => obtain ⟨h, a1, a2, a3⟩ := han hr; rw [aGo, a3, a2]; exact cg_13 g hb hp hP0 a1
  | 14, _ => obtain ⟨h, a1, a2, a3⟩ := han hr; rw [aGo, a3, a2]; exact cg_14 g hb hp hP0 a1
  | 15, _ =>
    obtain ⟨h1, h2⟩ := (Bool.and_eq_true _ _).mp hr
    obtain ⟨h, a1, a2, a3⟩ := han h1
    obtain ⟨v, b1, b2⟩ := inR_n (n := 24) h2 (by omega)
    rw [aGo, a3, a2, b2, nI_clamp (by omega)]; exact cg_15 g hb hp hP0 a1 b1
  | 16, _ => exact cg_16 g hb hp hP0
  | 17, _ => exact cg_17 g hb hp hP0
  | 18, _ => exact cg_18 g hb hp hP0
  | 19, _ =>
    obtain ⟨h, a1, a2, a3⟩ := pro hr
    have hq : decide (hP (yH ψ) x3.toNatClampNeg ≠ 0) = true := hq
    rw [a3] at hq
    rw [aGo, a3, a2]; exact cg_19 g hb hp hP0 a1 (of_decide_eq_true hq)
  | 20, _ =>
    obtain ⟨h, a1, a2, a3⟩ := pro hr
    have hq : decide (hP (yH ψ) x3.toNatClampNeg ≠ 0) = true := hq
    rw [a3] at hq
    rw [aGo, a3, a2]; exact cg_20 g hb hp hP0 a1 (of_decide_eq_true hq)
  | 21, _ => exact cg_21 g hb hp hP0
  | k + 22, hk => exact absurd hk (by omega)
end MM191
