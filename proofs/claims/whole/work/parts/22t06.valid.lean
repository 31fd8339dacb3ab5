/-! WHETHER ALL CONTEXTS ARE VALID, in the class -/
section MM181
variable {w p t : Bool} {i : Nat → Nat → Int32} {l : Nat → Nat → Int64} {m : Nat} {e : Bool × Nat × Nat} {π : mP} {τ : mT} {η : mH} {n k j a d : Nat}
def tAl (f : Nat → Bool) : Nat → Nat → Bool
  | 0, _ => true
  | d + 1, k => f k && tAl f d (k + 1)
def vT (π : mP) (τ : mT) (k : Nat) : Bool := decide (tk τ k = 0) || pVal π (tc τ k)
def vPr (π : mP) (η : mH) (k : Nat) : Bool := decide (hP η k = 0) || pVal π (nI (hP η k) - 1)
def vOp (π : mP) (η : mH) (k : Nat) : Bool := decide (hCt η k = 0) || pVal π (nI (hO η k).2.2.2.2)
def vCn (π : mP) (η : mH) (k : Nat) : Bool := decide (hC η k = 0) || pVal π (nI (hC η k) - 1)
theorem m1_iff (ha : a < 2 ^ 31) : (nI a - 1 = -1) ↔ a = 0 := by
  constructor
  · intro h
    rcases Nat.eq_zero_or_pos a with z | z
    · exact z
    · rw [na_1, na_sub z] at h
      exact absurd h (na_m1 (by omega))
  · intro h; rw [h]; rfl
theorem c_tv (h : TC t i τ) (hw : TW τ) (hp : PC0 p i π) (hW : PW π) : ∀ (d k : Nat), k + d = 32 → mm_V 144 2 [some (.ref (mm_Tr t)), some (.ref (mm_P p)), some (.int (nI k))] [] (mm_Z m w i l e) = some (.inl (some (.int (bI (tAl (vT π τ) d k)))), mm_Z m w i l e) := by
  intro d
  induction d with
  | zero =>
    intro k hk
    rw [mr_144_2, if_neg (show ¬ nI k < 32 from fun z => by have := (nI_ltI (b := 32) (by omega) (by omega)).mp z; omega)]
    rfl
  | succ d ih =>
    intro k hk
    rw [mr_144_2, if_pos (show nI k < 32 from (nI_ltI (b := 32) (by omega) (by omega)).mpr (by omega)), tc_isThere h hw (by omega), mb_l, mb_v, mr_144_13, tAl]
    unfold vT
    by_cases z : tk τ k = 0
    · rw [if_pos z, if_pos rfl, nI_1, ih (k + 1) (by omega), decide_eq_true z, Bool.true_or, Bool.true_and]
      rfl
    · rw [if_neg z, if_neg (by decide), if_neg (no_out (by omega) (by omega)), nI_clamp (by omega), (h k (by omega)).2.1, pc_isValid hp hW, mb_l, mb_v, mr_144_26, decide_eq_false z, Bool.false_or]
      cases pVal π (tc τ k)
      · rw [if_bf, Bool.false_and]; rfl
      · rw [if_bt, nI_1, ih (k + 1) (by omega), Bool.true_and]
        rfl
theorem c_hv3 (h : HC i η) (hb : ∀ k, k < 4 → hC η k < 2 ^ 31) (hp : PC0 p i π) (hW : PW π) : ∀ (d k : Nat), k + d = 4 → mm_V 63 79 [some (.ref 68), some (.ref (mm_P p)), some (.int (nI k))] [] (mm_Z m w i l e) = some (.inl (some (.int (bI (tAl (vCn π η) d k)))), mm_Z m w i l e) := by
  intro d
  induction d with
  | zero =>
    intro k hk
    rw [mr_63_79, if_neg (show ¬ nI k < 4 from fun z => by have := (nI_ltI (b := 4) (by omega) (by omega)).mp z; omega)]
    rfl
  | succ d ih =>
    intro k hk
    have ek : i 77 (nI k).toNatClampNeg = nI (hC η k) - 1 := by rw [nI_clamp (by omega)]; exact (h.2.2.2 k (by omega)).1
    rw [mr_63_79, if_pos (show nI k < 4 from (nI_ltI (b := 4) (by omega) (by omega)).mpr (by omega)), if_neg (no_out (by omega) (by omega)), tAl]
    simp only [ek]
    unfold vCn
    by_cases z : hC η k = 0
    · rw [if_pos ((m1_iff (hb k (by omega))).mpr z), nI_1, ih (k + 1) (by omega), decide_eq_true z, Bool.true_or, Bool.true_and]
      rfl
    · rw [if_neg (fun y => z ((m1_iff (hb k (by omega))).mp y)), if_neg (no_out (by omega) (by omega)), pc_isValid hp hW, mb_l, mb_v, mr_63_104, decide_eq_false z, Bool.false_or]
      cases pVal π (nI (hC η k) - 1)
      · rw [if_bf, Bool.false_and]; rfl
      · rw [if_bt, nI_1, ih (k + 1) (by omega), Bool.true_and]
        rfl
theorem c_hv2 (h : HC i η) (hc : ∀ k, k < 16 → hCt η k < 2 ^ 31) (hb : ∀ k, k < 4 → hC η k < 2 ^ 31) (hp : PC0 p i π) (hW : PW π) : ∀ (d k : Nat), k + d = 16 → mm_V 63 41 [some (.ref 68), some (.ref (mm_P p)), some (.int (nI k))] [] (mm_Z m w i l e) = some (.inl (some (.int (bI (tAl (vOp π η) d k && tAl (vCn π η) 4 0)))), mm_Z m w i l e) := by
  intro d
  induction d with
  | zero =>
    intro k hk
    have e1 := c_hv3 (m := m) (w := w) (l := l) (e := e) h hb hp hW 4 0 (by omega)
    have e1 : mm_V 63 79 [some (.ref 68), some (.ref (mm_P p)), some (.int 0)] [] (mm_Z m w i l e) = _ := e1
    rw [mr_63_41, if_neg (show ¬ nI k < 16 from fun z => by have := (nI_ltI (b := 16) (by omega) (by omega)).mp z; omega), e1, show tAl (vOp π η) 0 k = true from rfl, Bool.true_and]
  | succ d ih =>
    intro k hk
    have e71 : i 71 (nI k).toNatClampNeg = nI (hCt η k) := by rw [nI_clamp (by omega)]; exact (h.2.2.1 k (by omega)).1
    rw [mr_63_41, if_pos (show nI k < 16 from (nI_ltI (b := 16) (by omega) (by omega)).mpr (by omega)), if_neg (no_out (by omega) (by omega)), tAl]
    simp only [e71]
    unfold vOp
    by_cases z : hCt η k = 0
    · rw [if_neg (show ¬ (0 : Int32) < nI (hCt η k) by rw [z]; decide), nI_1, ih (k + 1) (by omega), decide_eq_true z, Bool.true_or, Bool.true_and]
      rfl
    · have e76 : i 76 (nI k).toNatClampNeg = nI (hO η k).2.2.2.2 := by rw [nI_clamp (by omega)]; exact ((h.2.2.1 k (by omega)).2 z).2.2.2.2
      have hk2 := hc k (by omega)
      rw [if_pos (show (0 : Int32) < nI (hCt η k) from (nI_ltI (a := 0) (by omega) hk2).mpr (by omega)), if_neg (no_out (by omega) (by omega)), e76, pc_isValid hp hW, mb_l, mb_v, mr_63_66, decide_eq_false z, Bool.false_or]
      cases pVal π (nI (hO η k).2.2.2.2)
      · rw [if_bf, Bool.false_and, Bool.false_and]; rfl
      · rw [if_bt, nI_1, ih (k + 1) (by omega), Bool.true_and]
        rfl
theorem c_hv1 (h : HC i η) (ha : ∀ k, k < 8 → hP η k < 2 ^ 31) (hc : ∀ k, k < 16 → hCt η k < 2 ^ 31) (hb : ∀ k, k < 4 → hC η k < 2 ^ 31) (hp : PC0 p i π) (hW : PW π) : ∀ (d k : Nat), k + d = 8 → mm_V 63 2 [some (.ref 68), some (.ref (mm_P p)), some (.int (nI k))] [] (mm_Z m w i l e) = some (.inl (some (.int (bI (tAl (vPr π η) d k && (tAl (vOp π η) 16 0 && tAl (vCn π η) 4 0))))), mm_Z m w i l e) := by
  intro d
  induction d with
  | zero =>
    intro k hk
    have e1 := c_hv2 (m := m) (w := w) (l := l) (e := e) h hc hb hp hW 16 0 (by omega)
    have e1 : mm_V 63 41 [some (.ref 68), some (.ref (mm_P p)), some (.int 0)] [] (mm_Z m w i l e) = _ := e1
    rw [mr_63_2, if_neg (show ¬ nI k < 8 from fun z => by have := (nI_ltI (b := 8) (by omega) (by omega)).mp z; omega), e1, show tAl (vPr π η) 0 k = true from rfl, Bool.true_and]
  | succ d ih =>
    intro k hk
    have ek : i 69 (nI k).toNatClampNeg = nI (hP η k) - 1 := by rw [nI_clamp (by omega)]; exact h.1 k (by omega)
    rw [mr_63_2, if_pos (show nI k < 8 from (nI_ltI (b := 8) (by omega) (by omega)).mpr (by omega)), if_neg (no_out (by omega) (by omega)), tAl]
    simp only [ek]
    unfold vPr
    by_cases z : hP η k = 0
    · rw [if_pos ((m1_iff (ha k (by omega))).mpr z), nI_1, ih (k + 1) (by omega), decide_eq_true z, Bool.true_or, Bool.true_and]
      rfl
    · rw [if_neg (fun y => z ((m1_iff (ha k (by omega))).mp y)), if_neg (no_out (by omega) (by omega)), pc_isValid hp hW, mb_l, mb_v, mr_63_28, decide_eq_false z, Bool.false_or]
      cases pVal π (nI (hP η k) - 1)
      · rw [if_bf, Bool.false_and, Bool.false_and]; rfl
      · rw [if_bt, nI_1, ih (k + 1) (by omega), Bool.true_and]
        rfl
/-- every context in use is valid by the policy -/
def aVd (π : mP) (τ : mT) (η : mH) : Bool := tAl (vT π τ) 32 0 && (tAl (vPr π η) 8 0 && (tAl (vOp π η) 16 0 && tAl (vCn π η) 4 0))
theorem c_taken (hT : TC true i τ) (hw : TW τ) (h : HC i η) (ha : ∀ k, k < 8 → hP η k < 2 ^ 31) (hc : ∀ k, k < 16 → hCt η k < 2 ^ 31) (hb : ∀ k, k < 4 → hC η k < 2 ^ 31) (hp : PC0 p i π) (hW : PW π) : mm_V 160 0 [some (.ref 0), some (.ref (mm_P p))] [] (mm_Z m w i l e) = some (.inl (some (.int (bI (pVal π 0 && aVd π τ η)))), mm_Z m w i l e) := by
  have e1 := c_tv (m := m) (w := w) (l := l) (e := e) hT hw hp hW 32 0 (by omega)
  have e1 : mm_V 144 2 [some (.ref (mm_Tr true)), some (.ref (mm_P p)), some (.int 0)] [] (mm_Z m w i l e) = _ := e1
  have e2 := c_hv1 (m := m) (w := w) (l := l) (e := e) h ha hc hb hp hW 8 0 (by omega)
  have e2 : mm_V 63 2 [some (.ref 68), some (.ref (mm_P p)), some (.int 0)] [] (mm_Z m w i l e) = _ := e2
  rw [mr_160_0, pc_isValid hp hW, mb_l, mb_v, mr_160_5]
  unfold aVd
  cases pVal π 0
  · rw [if_bf, Bool.false_and]; rfl
  · rw [if_bt, mr_144_0, e1, mb_l, mb_v, mr_160_19, Bool.true_and]
    cases tAl (vT π τ) 32 0
    · rw [if_bf, Bool.false_and]; rfl
    · rw [if_bt, mr_63_0, e2, mb_l, mb_v, mr_160_30, Bool.true_and]
      cases (tAl (vPr π η) 8 0 && (tAl (vOp π η) 16 0 && tAl (vCn π η) 4 0))
      · rw [if_bf]; rfl
      · rw [if_bt]; rfl
end MM181
