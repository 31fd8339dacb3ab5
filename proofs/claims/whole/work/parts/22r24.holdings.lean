/-! HOLDINGS: what they are; what is read of them -/
section MM83
/-- processes (0 none, else context + 1); handles (0 none, else opening + 1); openings (of a pipe?, number, mode, place, opener); pipes (0 none, else context + 1), their sizes, bytes -/
abbrev mH : Type := (Nat → Nat) × (Nat → Nat) × (Nat → Bool × Nat × Nat × Nat × Nat) × (Nat → Nat) × (Nat → Nat) × (Nat → Nat → Int32)
def hP (η : mH) : Nat → Nat := η.1
def hH (η : mH) : Nat → Nat := η.2.1
def hO (η : mH) : Nat → Bool × Nat × Nat × Nat × Nat := η.2.2.1
def hC (η : mH) : Nat → Nat := η.2.2.2.1
def hS (η : mH) : Nat → Nat := η.2.2.2.2.1
def hB (η : mH) : Nat → Nat → Int32 := η.2.2.2.2.2
/-- how many handles tell opening o -/
def hCt (η : mH) (o : Nat) : Nat := tCnt (fun k => hH η k == o + 1) 48 0
def HC (i : Nat → Nat → Int32) (η : mH) : Prop := (∀ p, p < 8 → i 69 p = nI (hP η p) - 1) ∧ (∀ k, k < 48 → i 70 k = nI (hH η k) - 1) ∧ (∀ o, o < 16 → i 71 o = nI (hCt η o) ∧ (hCt η o ≠ 0 → i 72 o = (if (hO η o).1 = true then -1 else nI (hO η o).2.1) ∧ i 73 o = (if (hO η o).1 = true then nI (hO η o).2.1 else -1) ∧ i 74 o = nI (hO η o).2.2.1 ∧ i 75 o = nI (hO η o).2.2.2.1 ∧ i 76 o = nI (hO η o).2.2.2.2)) ∧ (∀ k, k < 4 → i 77 k = nI (hC η k) - 1 ∧ (hC η k ≠ 0 → i 78 k = nI (hS η k) ∧ ∀ j, j < hS η k → i 79 (8 * k + j) = hB η k j))
/-- the reference's number of an opening -/
def hN (x : Bool × Nat × Nat × Nat × Nat) : Nat := if x.1 = true then (if x.2.2.1 = 1 then 100 else 300) + x.2.1 else x.2.1
def HR (i : Nat → Nat → Int32) (η : mH) : Prop := (∀ p, p < 8 → i 121 p = nI (hP η p) - 1) ∧ (∀ k, k < 48 → i 122 k = nI (hH η k) - 1) ∧ (∀ o, o < 16 → i 123 o = (if hCt η o = 0 then -1 else nI (hN (hO η o))) ∧ (hCt η o ≠ 0 → i 124 o = nI (hO η o).2.2.1 ∧ i 125 o = nI (hO η o).2.2.2.1 ∧ i 126 o = nI (hO η o).2.2.2.2)) ∧ (∀ k, k < 4 → i 127 k = nI (hC η k) - 1 ∧ (hC η k ≠ 0 → i 128 k = nI (hS η k) ∧ ∀ j, j < hS η k → i 129 (8 * k + j) = hB η k j))
def HW (η : mH) : Prop := (∀ p, p < 8 → hP η p < 2 ^ 30 ∧ (hP η p = 0 → ∀ h, h < 6 → hH η (6 * p + h) = 0)) ∧ (∀ k, k < 48 → hH η k ≤ 16) ∧ (∀ o, o < 16 → hCt η o ≠ 0 → ((hO η o).1 = true → (hO η o).2.1 < 4 ∧ hC η (hO η o).2.1 ≠ 0 ∧ ((hO η o).2.2.1 = 1 ∨ (hO η o).2.2.1 = 2)) ∧ ((hO η o).1 = false → (hO η o).2.1 < 32) ∧ (hO η o).2.2.1 ≤ 7 ∧ (hO η o).2.2.2.1 ≤ 24 ∧ (hO η o).2.2.2.2 < 2 ^ 30) ∧ (∀ k, k < 4 → hC η k < 2 ^ 30 ∧ hS η k ≤ 8 ∧ (hC η k ≠ 0 → ∃ o, o < 16 ∧ hCt η o ≠ 0 ∧ (hO η o).1 = true ∧ (hO η o).2.1 = k))
theorem nz_m1 {k : Nat} (h : k < 2 ^ 31) : (nI k - 1 = -1) ↔ k = 0 := by
  cases k with
  | zero => decide
  | succ j => rw [nI_pred]; exact ⟨fun q => absurd q (na_m1 (by omega)), fun q => by omega⟩
theorem nz_ng {k : Nat} (h : k < 2 ^ 31) : (nI k - 1 < 0) ↔ k = 0 := by
  cases k with
  | zero => decide
  | succ j => rw [nI_pred]; exact ⟨fun q => absurd q (nI_pos (by omega)), fun q => by omega⟩
theorem nz_gt {k : Nat} (h : k < 2 ^ 31) : (0 < nI k) ↔ k ≠ 0 := by
  rw [na_0, nI_ltI (by omega) h]; omega
theorem nz_eq {k : Nat} (h : k < 2 ^ 31) : (nI k = 0) ↔ k = 0 := by
  rw [na_0, nI_eq h (by omega)]
theorem cnt_48 (η : mH) (o : Nat) : hCt η o ≤ 48 := tCnt_le _ _ _
theorem cnt_fst {f : Nat → Bool} : ∀ (d k : Nat), (tCnt (fun j => !f j) d k < d) ↔ (tFst f d k < k + d)
  | 0, k => by
    unfold tCnt tFst
    omega
  | d + 1, k => by
    have ih := cnt_fst (f := f) d (k + 1)
    have hc := tCnt_le (fun j => !f j) d (k + 1)
    have hf := (tFst_le f d (k + 1)).2
    rw [tCnt, tFst]
    cases hk : f k
    · simp only [Bool.not_false, if_true, Bool.false_eq_true, if_false]
      omega
    · simp only [Bool.not_true, Bool.false_eq_true, if_false, if_true]
      omega
/-- the first free handle of p, the first free opening -/
def hFh (η : mH) (p : Nat) : Nat := tFst (fun h => hH η (6 * p + h) == 0) 6 0
def hFo (η : mH) : Nat := tFst (fun o => hCt η o == 0) 16 0
variable {w : Bool} {i : Nat → Nat → Int32} {l : Nat → Nat → Int64} {e : Bool × Nat × Nat} {η : mH} {m p h o q : Nat}
theorem hc_isProcess (H : HC i η) (hw : HW η) (hp : p < 8) : mm_V 62 0 [some (.ref 68), some (.int (nI p))] [] (mm_Z m w i l e) = some (.inl (some (.int (bI (decide (hP η p ≠ 0))))), mm_Z m w i l e) := by
  have hb := (hw.1 p hp).1
  rw [mr_62_0, if_neg (nI_pos (by omega)), na_8, if_pos ((nI_ltI (by omega) (by omega)).mpr hp), if_neg (no_out hp (by omega))]
  simp only [nI_clamp (show p < 2 ^ 31 by omega), H.1 p hp, nz_m1 (show hP η p < 2 ^ 31 by omega)]
  by_cases z : hP η p = 0
  · rw [if_pos z]; simp [z]; rfl
  · rw [if_neg z]; simp [z]; rfl
theorem hc_opening (H : HC i η) (hp : p < 8) (hh : h < 6) : mm_V 67 0 [some (.ref 68), some (.int (nI p)), some (.int (nI h))] [] (mm_Z m w i l e) = some (.inl (some (.int (nI (hH η (6 * p + h)) - 1))), mm_Z m w i l e) := by
  rw [mr_67_0, na_6, na_mul, nI_add, if_neg (no_out (by omega) (by omega)), nI_clamp (by omega), Nat.mul_comm p 6, H.2.1 _ (by omega)]
theorem hc_hcnt_loop (H : HC i η) (hw : HW η) (hp : p < 8) : ∀ (D k c : Nat), k + D = 6 → mm_V 66 4 [some (.ref 68), some (.int (nI p)), some (.int (nI c)), some (.int (nI k))] [] (mm_Z m w i l e) = some (.inl (some (.int (nI (c + tCnt (fun h => !(hH η (6 * p + h) == 0)) D k)))), mm_Z m w i l e)
  | 0, k, c, hk => by
    rw [mr_66_4, na_6, if_neg (by rw [nI_ltI (by omega) (by omega)]; omega)]
    rfl
  | D + 1, k, c, hk => by
    have hb := hw.2.1 (6 * p + k) (by omega)
    rw [mr_66_4]
    simp only [na_6, na_mul, nI_add, nI_1, nI_ltI (show k < 2 ^ 31 by omega) (show 6 < 2 ^ 31 by omega), Nat.mul_comm p 6, nI_clamp (show 6 * p + k < 2 ^ 31 by omega), H.2.1 (6 * p + k) (by omega), nz_m1 (show hH η (6 * p + k) < 2 ^ 31 by omega)]
    rw [if_pos (by omega), if_neg (no_out (by omega) (by omega)), tCnt]
    by_cases z : hH η (6 * p + k) = 0
    · rw [if_pos z, show (0 : Int32) = nI 0 from rfl, nI_add, hc_hcnt_loop H hw hp D (k + 1) (c + 0) (by omega), if_neg (by simp [z]), Nat.add_zero, Nat.zero_add]
    · rw [if_neg z, hc_hcnt_loop H hw hp D (k + 1) (c + 1) (by omega), if_pos (by simp [z]), Nat.add_assoc]
theorem hc_handleCount (H : HC i η) (hw : HW η) (hp : p < 8) : mm_V 66 0 [some (.ref 68), some (.int (nI p)), none, none] [] (mm_Z m w i l e) = some (.inl (some (.int (nI (tCnt (fun h => !(hH η (6 * p + h) == 0)) 6 0)))), mm_Z m w i l e) := by
  rw [mr_66_0, na_0, hc_hcnt_loop H hw hp 6 0 0 rfl, Nat.zero_add]
theorem hc_ocnt_loop (H : HC i η) : ∀ (D k c : Nat), k + D = 16 → mm_V 64 4 [some (.ref 68), some (.int (nI c)), some (.int (nI k))] [] (mm_Z m w i l e) = some (.inl (some (.int (nI (c + tCnt (fun o => !(hCt η o == 0)) D k)))), mm_Z m w i l e)
  | 0, k, c, hk => by
    rw [mr_64_4, na_16, if_neg (by rw [nI_ltI (by omega) (by omega)]; omega)]
    rfl
  | D + 1, k, c, hk => by
    have hb := cnt_48 η k
    rw [mr_64_4]
    simp only [na_16, nI_1, nI_ltI (show k < 2 ^ 31 by omega) (show 16 < 2 ^ 31 by omega), nI_clamp (show k < 2 ^ 31 by omega), (H.2.2.1 k (by omega)).1, nz_gt (show hCt η k < 2 ^ 31 by omega)]
    rw [if_pos (by omega), if_neg (no_out (by omega) (by omega)), tCnt]
    by_cases z : hCt η k = 0
    · rw [if_neg (by omega), show (0 : Int32) = nI 0 from rfl, nI_add, hc_ocnt_loop H D (k + 1) (c + 0) (by omega), if_neg (by simp [z]), Nat.add_zero, Nat.zero_add]
    · rw [if_pos z, hc_ocnt_loop H D (k + 1) (c + 1) (by omega), if_pos (by simp [z]), Nat.add_assoc]
theorem hc_openingCount (H : HC i η) : mm_V 64 0 [some (.ref 68), none, none] [] (mm_Z m w i l e) = some (.inl (some (.int (nI (tCnt (fun o => !(hCt η o == 0)) 16 0)))), mm_Z m w i l e) := by
  rw [mr_64_0, na_0, hc_ocnt_loop H 16 0 0 rfl, Nat.zero_add]
theorem hc_hasRoom (H : HC i η) (hw : HW η) (hp : p < 8) : mm_V 68 0 [some (.ref 68), some (.int (nI p))] [] (mm_Z m w i l e) = some (.inl (some (.int (bI (decide (hFh η p < 6 ∧ hFo η < 16))))), mm_Z m w i l e) := by
  have h1 := cnt_fst (f := fun h => hH η (6 * p + h) == 0) 6 0
  have h2 := cnt_fst (f := fun o => hCt η o == 0) 16 0
  have b1 := tCnt_le (fun h => !(hH η (6 * p + h) == 0)) 6 0
  have b2 := tCnt_le (fun o => !(hCt η o == 0)) 16 0
  rw [mr_68_0, hc_handleCount H hw hp, mb_l, mb_v, mr_68_5, na_6]
  simp only [nI_ltI (show tCnt (fun h => !(hH η (6 * p + h) == 0)) 6 0 < 2 ^ 31 by omega) (show 6 < 2 ^ 31 by omega), h1]
  by_cases z : tFst (fun h => hH η (6 * p + h) == 0) 6 0 < 0 + 6
  · rw [if_pos z, hc_openingCount H, mb_l, mb_v, mr_68_14, na_16]
    simp only [nI_ltI (show tCnt (fun o => !(hCt η o == 0)) 16 0 < 2 ^ 31 by omega) (show 16 < 2 ^ 31 by omega), h2]
    by_cases z2 : tFst (fun o => hCt η o == 0) 16 0 < 0 + 16
    · rw [if_pos z2, decide_eq_true ⟨by unfold hFh; omega, by unfold hFo; omega⟩]; rfl
    · rw [if_neg z2, decide_eq_false (fun y => z2 (by have := y.2; unfold hFo at this; omega))]; rfl
  · rw [if_neg z, decide_eq_false (fun y => z (by have := y.1; unfold hFh at this; omega))]; rfl
/-- less than HW: what opening needs -/
def HWo (η : mH) : Prop := (∀ k, k < 48 → hH η k ≤ 16) ∧ ∀ o, o < 16 → hCt η o ≠ 0 → ((hO η o).1 = true → (hO η o).2.1 < 4) ∧ ((hO η o).1 = false → (hO η o).2.1 < 32)
theorem HW.wo {η : mH} (hw : HW η) : HWo η := ⟨hw.2.1, fun o ho z => ⟨fun y => ((hw.2.2.1 o ho z).1 y).1, (hw.2.2.1 o ho z).2.1⟩⟩
theorem hr_fh_loop_o (H : HR i η) (hw : HWo η) (hp : p < 8) : ∀ (D k : Nat), k + D = 6 → mm_V 299 2 [some (.ref 83), some (.int (nI p)), some (.int (nI k))] [] (mm_Z m w i l e) = some (.inl (some (.int (nI (tFst (fun h => hH η (6 * p + h) == 0) D k)))), mm_Z m w i l e)
  | 0, k, hk => by
    rw [mr_299_2, na_6, if_neg (by rw [nI_ltI (by omega) (by omega)]; omega)]
    rfl
  | D + 1, k, hk => by
    have hb := hw.1 (6 * p + k) (by omega)
    rw [mr_299_2]
    simp only [na_6, na_mul, nI_add, nI_1, nI_ltI (show k < 2 ^ 31 by omega) (show 6 < 2 ^ 31 by omega), nI_clamp (show 6 * p + k < 2 ^ 31 by omega), H.2.1 (6 * p + k) (by omega), nz_ng (show hH η (6 * p + k) < 2 ^ 31 by omega)]
    rw [if_pos (by omega), if_neg (no_out (by omega) (by omega)), tFst]
    by_cases z : hH η (6 * p + k) = 0
    · rw [if_pos z, if_pos (by simp [z])]
    · rw [if_neg z, hr_fh_loop_o H hw hp D (k + 1) (by omega), if_neg (by simp [z])]
theorem hr_freeHandle_o (H : HR i η) (hw : HWo η) (hp : p < 8) : mm_V 299 0 [some (.ref 83), some (.int (nI p)), none] [] (mm_Z m w i l e) = some (.inl (some (.int (nI (hFh η p)))), mm_Z m w i l e) := by
  rw [mr_299_0, na_0, hr_fh_loop_o H hw hp 6 0 rfl]
  rfl
theorem hr_freeHandle (H : HR i η) (hw : HW η) (hp : p < 8) : mm_V 299 0 [some (.ref 83), some (.int (nI p)), none] [] (mm_Z m w i l e) = some (.inl (some (.int (nI (hFh η p)))), mm_Z m w i l e) := hr_freeHandle_o H hw.wo hp
theorem hN_lt {x : Bool × Nat × Nat × Nat × Nat} (h1 : x.1 = true → x.2.1 < 4) (h2 : x.1 = false → x.2.1 < 32) : hN x < 400 := by
  unfold hN
  cases hx : x.1
  · have := h2 hx; simp; omega
  · have := h1 hx; simp; split <;> omega
theorem hr_isOpening_o (H : HR i η) (hw : HWo η) (ho : o < 16) : mm_V 252 0 [some (.ref 83), some (.int (nI o))] [] (mm_Z m w i l e) = some (.inl (some (.int (bI (decide (hCt η o ≠ 0))))), mm_Z m w i l e) := by
  rw [mr_252_0, if_neg (no_out ho (by omega))]
  simp only [nI_clamp (show o < 2 ^ 31 by omega), (H.2.2.1 o ho).1]
  by_cases z : hCt η o = 0
  · simp only [if_pos z]
    rw [if_pos (by decide), decide_eq_false (by omega)]; rfl
  · simp only [if_neg z]
    have hn := hN_lt (x := hO η o) (hw.2 o ho z).1 (hw.2 o ho z).2
    rw [if_neg (nI_pos (by omega)), decide_eq_true z]; rfl
theorem hr_isOpening (H : HR i η) (hw : HW η) (ho : o < 16) : mm_V 252 0 [some (.ref 83), some (.int (nI o))] [] (mm_Z m w i l e) = some (.inl (some (.int (bI (decide (hCt η o ≠ 0))))), mm_Z m w i l e) := hr_isOpening_o H hw.wo ho
theorem hr_fo_loop_o (H : HR i η) (hw : HWo η) : ∀ (D k : Nat), k + D = 16 → mm_V 300 2 [some (.ref 83), some (.int (nI k))] [] (mm_Z m w i l e) = some (.inl (some (.int (nI (tFst (fun o => hCt η o == 0) D k)))), mm_Z m w i l e)
  | 0, k, hk => by
    rw [mr_300_2, na_16, if_neg (by rw [nI_ltI (by omega) (by omega)]; omega)]
    rfl
  | D + 1, k, hk => by
    rw [mr_300_2, na_16, if_pos ((nI_ltI (by omega) (by omega)).mpr (by omega)), hr_isOpening_o H hw (by omega), mb_l, mb_v, mr_300_13, tFst]
    simp only [bI_0]
    by_cases z : hCt η k = 0
    · rw [if_pos (by simp [z]), if_pos (by simp [z])]
    · rw [if_neg (by simp [z]), nI_1, hr_fo_loop_o H hw D (k + 1) (by omega), if_neg (by simp [z])]
theorem hr_freeOpening_o (H : HR i η) (hw : HWo η) : mm_V 300 0 [some (.ref 83), none] [] (mm_Z m w i l e) = some (.inl (some (.int (nI (hFo η)))), mm_Z m w i l e) := by
  rw [mr_300_0, na_0, hr_fo_loop_o H hw 16 0 rfl]
  rfl
theorem hr_freeOpening (H : HR i η) (hw : HW η) : mm_V 300 0 [some (.ref 83), none] [] (mm_Z m w i l e) = some (.inl (some (.int (nI (hFo η)))), mm_Z m w i l e) := hr_freeOpening_o H hw.wo
/-- is node n held? -/
def hHe (η : mH) (n : Nat) : Bool := tAny (fun o => decide (hCt η o ≠ 0 ∧ (hO η o).1 = false ∧ (hO η o).2.1 = n)) 16 0
theorem hc_io_loop (H : HC i η) (hw : HW η) {n : Nat} (hn : n < 32) : ∀ (D k : Nat), k + D = 16 → mm_V 73 2 [some (.ref 68), some (.int (nI n)), some (.int (nI k))] [] (mm_Z m w i l e) = some (.inl (some (.int (bI (tAny (fun o => decide (hCt η o ≠ 0 ∧ (hO η o).1 = false ∧ (hO η o).2.1 = n)) D k)))), mm_Z m w i l e)
  | 0, k, hk => by
    rw [mr_73_2, na_16, if_neg (by rw [nI_ltI (by omega) (by omega)]; omega)]
    rfl
  | D + 1, k, hk => by
    have hb := cnt_48 η k
    have ih := hc_io_loop H hw hn D (k + 1) (by omega)
    rw [mr_73_2]
    simp only [na_16, nI_1, nI_ltI (show k < 2 ^ 31 by omega) (show 16 < 2 ^ 31 by omega), nI_clamp (show k < 2 ^ 31 by omega), (H.2.2.1 k (by omega)).1, nz_gt (show hCt η k < 2 ^ 31 by omega)]
    rw [if_pos (by omega), if_neg (no_out (by omega) (by omega)), tAny]
    by_cases z : hCt η k = 0
    · rw [if_neg (by omega), ih, decide_eq_false (fun y => y.1 z), Bool.false_or]
    · have hx := ((H.2.2.1 k (by omega)).2 z).1
      have hwk := hw.2.2.1 k (by omega) z
      rw [if_pos z, if_neg (no_out (by omega) (by omega))]
      simp only [hx]
      cases hq : (hO η k).1
      · have := hwk.2.1 hq
        simp only [Bool.false_eq_true, if_false, nI_eq (show (hO η k).2.1 < 2 ^ 31 by omega) (show n < 2 ^ 31 by omega)]
        by_cases z2 : (hO η k).2.1 = n
        · rw [if_pos z2, decide_eq_true ⟨z, trivial, z2⟩, Bool.true_or]; rfl
        · rw [if_neg z2, ih, decide_eq_false (fun y => z2 y.2.2), Bool.false_or]
      · simp only [if_true]
        rw [if_neg (fun y => na_m1 (show n < 2 ^ 31 by omega) y.symm), ih, decide_eq_false (fun y => by cases y.2.1), Bool.false_or]
theorem hc_isOpen (H : HC i η) (hw : HW η) {n : Nat} (hn : n < 32) : mm_V 73 0 [some (.ref 68), some (.int (nI n)), none] [] (mm_Z m w i l e) = some (.inl (some (.int (bI (hHe η n)))), mm_Z m w i l e) := by
  rw [mr_73_0, na_0, hc_io_loop H hw hn 16 0 rfl]
  rfl
theorem tAny_cong {f g : Nat → Bool} : ∀ (d k : Nat), (∀ j, k ≤ j → j < k + d → f j = g j) → tAny f d k = tAny g d k
  | 0, _, _ => rfl
  | d + 1, k, h => by
    rw [tAny, tAny, h k (Nat.le_refl _) (by omega), tAny_cong d (k + 1) (fun j a b => h j (by omega) (by omega))]
/-- what the reference holds is held -/
theorem hr_held (H : HR i η) (hw : HW η) {n : Nat} (hn : n < 32) : hHe η n = tAny (fun o => decide (i 123 o = nI n)) 16 0 := by
  unfold hHe
  refine tAny_cong 16 0 (fun o _ ho => ?_)
  have h1 := (H.2.2.1 o (by omega)).1
  rw [h1]
  by_cases z : hCt η o = 0
  · rw [if_pos z, decide_eq_false (fun y => y.1 z), decide_eq_false (fun y => na_m1 (show n < 2 ^ 31 by omega) y.symm)]
  · have hwk := hw.2.2.1 o (by omega) z
    have hl := hN_lt (x := hO η o) (fun y => (hwk.1 y).1) hwk.2.1
    rw [if_neg z]
    simp only [nI_eq (show hN (hO η o) < 2 ^ 31 by omega) (show n < 2 ^ 31 by omega)]
    cases hq : (hO η o).1
    · simp [hN, hq, z]
    · have : hN (hO η o) ≠ n := by unfold hN; rw [if_pos hq]; split <;> omega
      rw [decide_eq_false (fun y => by cases y.2.1), decide_eq_false this]
end MM83
