/-! A NEW PIPE -/
section MM124
variable {w : Bool} {l : Nat → Nat → Int64} {e : Bool × Nat × Nat} {π : mP} {m : Nat} {ψ : mS} {b B p n h o k q : Nat} {i0 i i' : Nat → Nat → Int32} {s a x y v : Int32} {r : Int32 × mS} {η : mH}
/-- the first free pipe -/
def hFq (η : mH) : Nat := tFst (fun k => hC η k == 0) 4 0
theorem fq_0 (hf : hFq η < 4) : hC η (hFq η) = 0 := by
  have h1 : tFst (fun k => hC η k == 0) 4 0 < 0 + 4 := by have : tFst (fun k => hC η k == 0) 4 0 < 4 := hf; omega
  have h2 : (hC η (hFq η) == 0) = true := tFst_at (fun k => hC η k == 0) 4 0 h1
  simpa using h2
theorem hc_fq_loop (H : HC i η) (hw : HW η) : ∀ (D k : Nat), k + D = 4 → mm_V 75 2 [some (.ref 68), some (.int (nI k))] [] (mm_Z m w i l e) = some (.inl (some (.int (if tFst (fun q => hC η q == 0) D k < 4 then nI (tFst (fun q => hC η q == 0) D k) else -1))), mm_Z m w i l e)
  | 0, k, hk => by
    have e0 : tFst (fun q => hC η q == 0) 0 k = k := rfl
    rw [mr_75_2, if_neg (by rw [na_4, nI_ltI (by omega) (by omega)]; omega), e0, if_neg (by omega)]
  | D + 1, k, hk => by
    have e9 : i 77 (nI k).toNatClampNeg = nI (hC η k) - 1 := by rw [nI_clamp (by omega), (H.2.2.2 k (by omega)).1]
    have hb := (hw.2.2.2 k (by omega)).1
    rw [mr_75_2, if_pos (by rw [na_4, nI_ltI (by omega) (by omega)]; omega), if_neg (no_out (by omega) (by omega)), tFst]
    by_cases z : hC η k = 0
    · rw [if_pos (by rw [e9, nz_m1 (by omega)]; exact z), if_pos (show (hC η k == 0) = true by simp [z]), if_pos (by omega)]
    · rw [if_neg (by rw [e9, nz_m1 (by omega)]; exact z), if_neg (show ¬ (hC η k == 0) = true by simp [z]), nI_1, hc_fq_loop H hw D (k + 1) (by omega)]
theorem hc_freePipe (H : HC i η) (hw : HW η) : mm_V 75 0 [some (.ref 68), none] [] (mm_Z m w i l e) = some (.inl (some (.int (if hFq η < 4 then nI (hFq η) else -1))), mm_Z m w i l e) := by
  have e0 := hc_fq_loop (m := m) (w := w) (l := l) (e := e) H hw 4 0 rfl
  have e0 : mm_V 75 2 [some (.ref 68), some (.int 0)] [] (mm_Z m w i l e) = _ := e0
  rw [mr_75_0, e0]
  rfl
theorem hr_fq_loop (H : HR i η) (hw : HW η) {x1 : Int32} : ∀ (D k : Nat), k + D = 4 → mm_V 321 20 [some (.ref 83), some (.int x1), some (.int (nI k)), none, none, none, none] [] (mm_Z m w i l e) = mm_V 321 48 [some (.ref 83), some (.int x1), some (.int (nI (tFst (fun q => hC η q == 0) D k))), some (.int 0), some (.int 0), some (.int 0), none] [] (mm_Z m w i l e)
  | 0, k, hk => by
    have e0 : tFst (fun q => hC η q == 0) 0 k = k := rfl
    rw [mr_321_20, if_neg (by rw [na_4, nI_ltI (by omega) (by omega)]; omega), e0]
  | D + 1, k, hk => by
    have e9 : i 127 (nI k).toNatClampNeg = nI (hC η k) - 1 := by rw [nI_clamp (by omega), (H.2.2.2 k (by omega)).1]
    have hb := (hw.2.2.2 k (by omega)).1
    rw [mr_321_20, if_pos (by rw [na_4, nI_ltI (by omega) (by omega)]; omega), if_neg (no_out (by omega) (by omega)), tFst]
    by_cases z : hC η k = 0
    · rw [if_pos (by rw [e9, nz_ng (by omega)]; exact z), if_pos (show (hC η k == 0) = true by simp [z])]
    · rw [if_neg (by rw [e9, nz_ng (by omega)]; exact z), if_neg (show ¬ (hC η k == 0) = true by simp [z]), nI_1, hr_fq_loop H hw D (k + 1) (by omega)]
/-- how many openings, how many handles of p -/
def hCo (η : mH) : Nat := tCnt (fun o => !(hCt η o == 0)) 16 0
def hCh (η : mH) (p : Nat) : Nat := tCnt (fun h => !(hH η (6 * p + h) == 0)) 6 0
theorem cnt_not {f : Nat → Bool} : ∀ (d k : Nat), tCnt f d k + tCnt (fun j => !f j) d k = d
  | 0, k => rfl
  | d + 1, k => by
    have ih := cnt_not (f := f) d (k + 1)
    rw [tCnt, tCnt]
    cases hk : f k <;> simp <;> omega
/-- both counts of the reference in one loop -/
theorem hr_pc_loop (H : HR i η) (hw : HW η) (hp : p < 8) {x2 : Int32} : ∀ (D k c d : Nat), k + D = 16 → mm_V 321 48 [some (.ref 83), some (.int (nI p)), some (.int x2), some (.int (nI c)), some (.int (nI d)), some (.int (nI k)), none] [] (mm_Z m w i l e) = mm_V 321 48 [some (.ref 83), some (.int (nI p)), some (.int x2), some (.int (nI (c + tCnt (fun o => hCt η o == 0) D k))), some (.int (nI (d + tCnt (fun h => decide (h < 6) && (hH η (6 * p + h) == 0)) D k))), some (.int (nI 16)), none] [] (mm_Z m w i l e)
  | 0, k, c, d, hk => by
    rw [show k = 16 by omega]; rfl
  | D + 1, k, c, d, hk => by
    have hk16 : k < 16 := by omega
    rw [mr_321_48, if_pos (by rw [na_16, nI_ltI (by omega) (by omega)]; omega), hr_isOpening H hw hk16, mb_l, mb_v, mr_321_61]
    have st : ∀ c', mm_V 321 71 [some (.ref 83), some (.int (nI p)), some (.int x2), some (.int (nI c)), some (.int (nI d)), some (.int (nI k)), none] [.int (nI c')] (mm_Z m w i l e) = mm_V 321 48 [some (.ref 83), some (.int (nI p)), some (.int x2), some (.int (nI c')), some (.int (nI (d + (if (decide (k < 6) && (hH η (6 * p + k) == 0)) = true then 1 else 0)))), some (.int (nI (k + 1))), none] [] (mm_Z m w i l e) := by
      intro c'
      rw [mr_321_71]
      by_cases z : k < 6
      · have e6 : 6 * nI p + nI k = nI (6 * p + k) := by rw [na_6, na_mul, nI_add]
        have e9 : i 122 (6 * nI p + nI k).toNatClampNeg = nI (hH η (6 * p + k)) - 1 := by rw [e6, nI_clamp (by omega), H.2.1 _ (by omega)]
        have h16 := hw.2.1 (6 * p + k) (by omega)
        have k6 : nI k < 6 := by rw [na_6, nI_ltI (by omega) (by omega)]; omega
        rw [if_pos k6, if_pos k6, mr_321_100, if_neg (by rw [e6]; exact no_out (by omega) (by omega))]
        by_cases y : hH η (6 * p + k) = 0
        · rw [if_pos (by rw [e9, nz_ng (by omega)]; exact y), if_pos (by simp [z, y]), nI_1, nI_1]
        · rw [if_neg (by rw [e9, nz_ng (by omega)]; exact y), if_neg (by simp [z, y]), nI_1]
          rfl
      · rw [if_neg (by rw [na_6, nI_ltI (by omega) (by omega)]; omega), if_neg (by simp [z]), nI_1]
        rfl
    have ed : d + tCnt (fun h => decide (h < 6) && (hH η (6 * p + h) == 0)) (D + 1) k = d + (if (decide (k < 6) && (hH η (6 * p + k) == 0)) = true then 1 else 0) + tCnt (fun h => decide (h < 6) && (hH η (6 * p + h) == 0)) D (k + 1) := by rw [tCnt]; omega
    rw [ed]
    by_cases z : hCt η k = 0
    · have ec : c + tCnt (fun o => hCt η o == 0) (D + 1) k = c + 1 + tCnt (fun o => hCt η o == 0) D (k + 1) := by rw [tCnt, if_pos (by simp [z])]; omega
      rw [if_pos (by rw [bI_0]; simp [z]), nI_1, st, hr_pc_loop H hw hp D (k + 1) _ _ (by omega), ec]
    · have ec : c + tCnt (fun o => hCt η o == 0) (D + 1) k = c + tCnt (fun o => hCt η o == 0) D (k + 1) := by rw [tCnt, if_neg (by simp [z])]; omega
      rw [if_neg (by rw [bI_0]; simp [z]), st, hr_pc_loop H hw hp D (k + 1) _ _ (by omega), ec]
theorem cnt_split {f : Nat → Bool} : ∀ (a c k : Nat), tCnt f (a + c) k = tCnt f a k + tCnt f c (k + a)
  | 0, c, k => by rw [Nat.zero_add, tCnt, Nat.zero_add, Nat.add_zero]
  | a + 1, c, k => by
    rw [show a + 1 + c = (a + c) + 1 by omega, tCnt, tCnt, cnt_split a c (k + 1), show k + 1 + a = k + (a + 1) by omega]; omega
theorem own_eq : tCnt (fun h => decide (h < 6) && (hH η (6 * p + h) == 0)) 16 0 + hCh η p = 6 := by
  have e1 := cnt_split (f := fun h => decide (h < 6) && (hH η (6 * p + h) == 0)) 6 10 0
  have e2 : tCnt (fun h => decide (h < 6) && (hH η (6 * p + h) == 0)) 10 (0 + 6) = 0 := cnt_no 10 (0 + 6) (fun j h1 _ => by rw [decide_eq_false (by omega)]; rfl)
  have e3 : tCnt (fun h => decide (h < 6) && (hH η (6 * p + h) == 0)) 6 0 = tCnt (fun h => hH η (6 * p + h) == 0) 6 0 := cnt_cong 6 0 (fun j _ h2 => by rw [decide_eq_true (by omega)]; rfl)
  have e4 := cnt_not (f := fun h => hH η (6 * p + h) == 0) 6 0
  have e5 : hCh η p = tCnt (fun h => !(hH η (6 * p + h) == 0)) 6 0 := rfl
  have e6 : (6 : Nat) + 10 = 16 := rfl
  rw [e6] at e1
  omega
theorem free_eq : tCnt (fun o => hCt η o == 0) 16 0 + hCo η = 16 := cnt_not 16 0
theorem hr_pc (H : HR i η) (hw : HW η) (hp : p < 8) : ∃ x3 x4 x5 : Int32, mm_V 321 18 [some (.ref 83), some (.int (nI p)), none, none, none, none, none] [] (mm_Z m w i l e) = mm_V 321 144 [some (.ref 83), some (.int (nI p)), some (.int (nI (hFq η))), some (.int x3), some (.int x4), some (.int x5), none] [.int (bI (decide (hFq η < 4 ∧ hCo η ≤ 14 ∧ hCh η p ≤ 4))), .ref 83] (mm_Z m w i l e) := by
  have e0 := hr_fq_loop (m := m) (w := w) (l := l) (e := e) H hw (x1 := nI p) 4 0 rfl
  have e0 : mm_V 321 20 [some (.ref 83), some (.int (nI p)), some (.int 0), none, none, none, none] [] (mm_Z m w i l e) = mm_V 321 48 [some (.ref 83), some (.int (nI p)), some (.int (nI (hFq η))), some (.int 0), some (.int 0), some (.int 0), none] [] (mm_Z m w i l e) := e0
  have e1 := hr_pc_loop (m := m) (w := w) (l := l) (e := e) H hw hp (x2 := nI (hFq η)) 16 0 0 0 rfl
  have e1 : mm_V 321 48 [some (.ref 83), some (.int (nI p)), some (.int (nI (hFq η))), some (.int 0), some (.int 0), some (.int 0), none] [] (mm_Z m w i l e) = _ := e1
  have o1 := own_eq (η := η) (p := p)
  have o2 := free_eq (η := η)
  have q4 : hFq η ≤ 4 := by have := (tFst_le (fun k => hC η k == 0) 4 0).2; unfold hFq; omega
  rw [mr_321_18, e0, e1, Nat.zero_add, Nat.zero_add]
  generalize tCnt (fun h => decide (h < 6) && (hH η (6 * p + h) == 0)) 16 0 = c6 at o1
  generalize tCnt (fun o => hCt η o == 0) 16 0 = c16 at o2
  refine ⟨nI c16, nI c6, nI 16, ?_⟩
  rw [mr_321_48, if_neg (by rw [na_16, nI_ltI (by omega) (by omega)]; omega)]
  simp only [na_4, na_2, nI_ltI (show hFq η < 2 ^ 31 by omega) (show 4 < 2 ^ 31 by omega), nI_ltI (show c16 < 2 ^ 31 by omega) (show 2 < 2 ^ 31 by omega), nI_ltI (show c6 < 2 ^ 31 by omega) (show 2 < 2 ^ 31 by omega)]
  by_cases z1 : hFq η < 4
  · rw [if_pos z1]
    by_cases z2 : c16 < 2
    · rw [if_pos z2, decide_eq_false (by omega)]; rfl
    · rw [if_neg z2]
      by_cases z3 : c6 < 2
      · rw [if_pos z3, decide_eq_false (by omega)]; rfl
      · rw [if_neg z3, decide_eq_true (by omega)]; rfl
  · rw [if_neg z1, decide_eq_false (by omega)]; rfl
/-- pipe k begins -/
def hPi (η : mH) (k x : Nat) : mH := (hP η, hH η, hO η, va_up (hC η) k x, va_up (hS η) k 0, hB η)
theorem HC_pi (H : HC i η) {x : Nat} {y : Int32} (hy : y = nI x - 1) : HC (mm_ww (mm_ww i 77 k y) 78 k 0) (hPi η k x) := by
  obtain ⟨a1, a2, a3, a4⟩ := H
  refine ⟨fun p hp => by rw [mw_k (by omega), mw_k (by omega)]; exact a1 p hp, fun p hp => by rw [mw_k (by omega), mw_k (by omega)]; exact a2 p hp, fun o ho => ?_, fun j hj => ?_⟩
  · simp only [mw_k (show 71 ≠ 78 by omega), mw_k (show 72 ≠ 78 by omega), mw_k (show 73 ≠ 78 by omega), mw_k (show 74 ≠ 78 by omega), mw_k (show 75 ≠ 78 by omega), mw_k (show 76 ≠ 78 by omega), mw_k (show 71 ≠ 77 by omega), mw_k (show 72 ≠ 77 by omega), mw_k (show 73 ≠ 77 by omega), mw_k (show 74 ≠ 77 by omega), mw_k (show 75 ≠ 77 by omega), mw_k (show 76 ≠ 77 by omega)]
    exact a3 o ho
  · show _ = nI (va_up (hC η) k x j) - 1 ∧ (va_up (hC η) k x j ≠ 0 → _ = nI (va_up (hS η) k 0 j) ∧ ∀ t, t < va_up (hS η) k 0 j → _ = hB η j t)
    rw [mw_k (show 77 ≠ 78 by omega)]
    by_cases z : j = k
    · subst z
      rw [up_s, up_s, mw_s, mw_s]
      exact ⟨hy, fun _ => ⟨rfl, fun t ht => absurd ht (Nat.not_lt_zero t)⟩⟩
    · rw [up_n z, up_n z, mw_j z, mw_j z, mw_k (show 78 ≠ 77 by omega), mw_k (show 79 ≠ 78 by omega), mw_k (show 79 ≠ 77 by omega)]
      exact a4 j hj
theorem HR_pi (H : HR i η) {x : Nat} {y : Int32} (hy : y = nI x - 1) : HR (mm_ww (mm_ww i 127 k y) 128 k 0) (hPi η k x) := by
  obtain ⟨a1, a2, a3, a4⟩ := H
  refine ⟨fun p hp => by rw [mw_k (by omega), mw_k (by omega)]; exact a1 p hp, fun p hp => by rw [mw_k (by omega), mw_k (by omega)]; exact a2 p hp, fun o ho => ?_, fun j hj => ?_⟩
  · simp only [mw_k (show 123 ≠ 128 by omega), mw_k (show 124 ≠ 128 by omega), mw_k (show 125 ≠ 128 by omega), mw_k (show 126 ≠ 128 by omega), mw_k (show 123 ≠ 127 by omega), mw_k (show 124 ≠ 127 by omega), mw_k (show 125 ≠ 127 by omega), mw_k (show 126 ≠ 127 by omega)]
    exact a3 o ho
  · show _ = nI (va_up (hC η) k x j) - 1 ∧ (va_up (hC η) k x j ≠ 0 → _ = nI (va_up (hS η) k 0 j) ∧ ∀ t, t < va_up (hS η) k 0 j → _ = hB η j t)
    rw [mw_k (show 127 ≠ 128 by omega)]
    by_cases z : j = k
    · subst z
      rw [up_s, up_s, mw_s, mw_s]
      exact ⟨hy, fun _ => ⟨rfl, fun t ht => absurd ht (Nat.not_lt_zero t)⟩⟩
    · rw [up_n z, up_n z, mw_j z, mw_j z, mw_k (show 128 ≠ 127 by omega), mw_k (show 129 ≠ 128 by omega), mw_k (show 129 ≠ 127 by omega)]
      exact a4 j hj
theorem HWw_pi (hw : HW η) {x : Nat} (hx : x ≠ 0) (hx2 : x < 2 ^ 30) : HWw (hPi η k x) := by
  refine ⟨hw.1, hw.2.1, fun o ho z => ?_, fun j hj => ?_⟩
  · have z : hCt η o ≠ 0 := z
    obtain ⟨a1, a2⟩ := hw.2.2.1 o ho z
    refine ⟨fun y => ?_, a2⟩
    have y : (hO η o).1 = true := y
    obtain ⟨b1, b2, b3⟩ := a1 y
    refine ⟨b1, ?_, b3⟩
    show va_up (hC η) k x (hO η o).2.1 ≠ 0
    rw [up_if]
    split
    · exact hx
    · exact b2
  · show va_up (hC η) k x j < 2 ^ 30 ∧ va_up (hS η) k 0 j ≤ 8
    rw [up_if, up_if]
    split
    · exact ⟨hx2, by omega⟩
    · exact ⟨(hw.2.2.2 j hj).1, (hw.2.2.2 j hj).2.1⟩
theorem HWw.wo (hw : HWw η) : HWo η := ⟨hw.2.1, fun o ho z => ⟨fun y => ((hw.2.2.1 o ho z).1 y).1, (hw.2.2.1 o ho z).2.1⟩⟩
theorem cnt_one {f g : Nat → Bool} {c : Nat} : ∀ (d k : Nat), (∀ j, j ≠ c → g j = f j) → tCnt g d k ≤ tCnt f d k + (if k ≤ c then 1 else 0)
  | 0, k, _ => by rw [tCnt, tCnt]; omega
  | d + 1, k, h => by
    have ih := cnt_one (f := f) (g := g) (c := c) d (k + 1) h
    rw [tCnt, tCnt]
    by_cases z : k = c
    · rw [if_neg (show ¬ k + 1 ≤ c by omega)] at ih
      rw [if_pos (show k ≤ c by omega)]
      have u1 : (if g k = true then 1 else 0) ≤ 1 := by split <;> omega
      omega
    · rw [h k z]
      by_cases z2 : k ≤ c
      · rw [if_pos (show k + 1 ≤ c by omega)] at ih
        rw [if_pos z2]; omega
      · rw [if_neg (show ¬ k + 1 ≤ c by omega)] at ih
        rw [if_neg z2]; omega
theorem rmm_0 {f : Nat → Bool} {d : Nat} (hf : tCnt (fun j => !f j) d 0 < d) : tFst f d 0 < d := by
  have b := (cnt_fst (f := f) d 0).mp hf
  omega
theorem rmm_1 {f g : Nat → Bool} {c d : Nat} (h : ∀ j, j ≠ c → g j = f j) (hf : tCnt (fun j => !f j) d 0 + 1 < d) : tFst g d 0 < d := by
  have a := cnt_one (f := fun j => !f j) (g := fun j => !g j) (c := c) d 0 (fun j z => by rw [h j z])
  rw [if_pos (Nat.zero_le _)] at a
  exact rmm_0 (by omega)
/-- there is room for the second opening -/
theorem op_room {v : Bool × Nat × Nat × Nat × Nat} (hp : p < 8) (hh : hFh η p < 6) (h1 : hCo η ≤ 14) (h2 : hCh η p ≤ 4) : hFh (hOp η p v) p < 6 ∧ hFo (hOp η p v) < 16 := by
  have h1' : hCo η + 1 < 16 := by omega
  have h2' : hCh η p + 1 < 6 := by omega
  refine ⟨rmm_1 (d := 6) (f := fun h => hH η (6 * p + h) == 0) (c := hFh η p) (fun j z => ?_) h2', rmm_1 (d := 16) (f := fun o => hCt η o == 0) (c := hFo η) (fun j z => ?_) h1'⟩
  · have : hH (hOp η p v) (6 * p + j) = hH η (6 * p + j) := up_n (by omega)
    rw [this]
  · have := op_ct (η := η) (v := v) hp hh j
    rw [if_neg z, Nat.add_zero] at this
    rw [this]
theorem op_room0 (h1 : hCo η ≤ 14) (h2 : hCh η p ≤ 4) : hFh η p < 6 ∧ hFo η < 16 := by
  have h1' : hCo η < 16 := by omega
  have h2' : hCh η p < 6 := by omega
  exact ⟨rmm_0 (d := 6) (f := fun h => hH η (6 * p + h) == 0) h2', rmm_0 (d := 16) (f := fun o => hCt η o == 0) h1'⟩
/-- holdings where openings of pipes came -/
theorem iv_nw {η' : mH} (hI : IV π b ψ) (hw : HW η') (h1 : ∀ p, p < 8 → hP η' p = hP (yH ψ) p) (h2 : ∀ o, o < 16 → hCt η' o ≠ 0 → (hCt (yH ψ) o ≠ 0 ∧ hO η' o = hO (yH ψ) o) ∨ ((hO η' o).1 = true ∧ pVal π (nI (hO η' o).2.2.2.2) = true)) (h3 : ∀ o, o < 16 → hCt (yH ψ) o ≠ 0 → hCt η' o ≠ 0 ∧ hO η' o = hO (yH ψ) o) (h4 : ∀ k, k < 4 → hC η' k ≠ 0 → pVal π (nI (hC η' k - 1)) = true) : IV π b (yh ψ η') := by
  refine ⟨hI.ti, hI.tv, ⟨fun n' g1 g2 g3 g4 => ?_, fun o g1 g2 g3 => ?_⟩, hw, ⟨fun p hp z => ?_, fun o g1 g2 => ?_, h4⟩, hI.jv, hI.kv, ⟨hI.pw, hI.po⟩, fun o g1 g2 g3 g4 => ?_⟩
  · have := hI.th.1 n' g1 g2 g3 g4
    rw [he_iff] at this
    obtain ⟨o, o1, o2, o3, o4⟩ := this
    obtain ⟨y1, y2⟩ := h3 o o1 o2
    exact (he_iff η' n').mpr ⟨o, o1, y1, by rw [y2]; exact o3, by rw [y2]; exact o4⟩
  · have g2 : hCt η' o ≠ 0 := g2
    have g3 : (hO η' o).1 = false := g3
    show tk (yT ψ) (hO η' o).2.1 ≠ 0
    rcases h2 o g1 g2 with ⟨y1, y2⟩ | ⟨y1, y2⟩
    · rw [y2] at g3 ⊢; exact hI.th.2 o g1 y1 g3
    · rw [y1] at g3; cases g3
  · have z : hP η' p ≠ 0 := z
    show pVal π (nI (hP η' p - 1)) = true
    rw [h1 p hp] at z ⊢; exact hI.hv.1 p hp z
  · have g2 : hCt η' o ≠ 0 := g2
    show pVal π (nI (hO η' o).2.2.2.2) = true
    rcases h2 o g1 g2 with ⟨y1, y2⟩ | ⟨y1, y2⟩
    · rw [y2]; exact hI.hv.2.1 o g1 y1
    · exact y2
  · have g2 : hCt η' o ≠ 0 := g2
    have g3 : (hO η' o).1 = false := g3
    have g4 : tk (yT ψ) (hO η' o).2.1 = 2 := g4
    show (hO η' o).2.2.1 = 1
    rcases h2 o g1 g2 with ⟨y1, y2⟩ | ⟨y1, y2⟩
    · rw [y2] at g3 g4 ⊢; exact hI.hm o g1 y1 g3 g4
    · rw [y1] at g3; cases g3
/-- a pipe with its two ends -/
def hP1 (η : mH) (p k : Nat) : mH := hOp (hPi η k (hP η p)) p (true, k, 1, 0, hP η p - 1)
def hP2 (η : mH) (p k : Nat) : mH := hOp (hP1 η p k) p (true, k, 2, 0, hP η p - 1)
theorem p2_w (hw : HW η) (hp : p < 8) (hP0 : hP η p ≠ 0) (hk : k < 4) (h1 : hCo η ≤ 14) (h2 : hCh η p ≤ 4) : HWw (hP1 η p k) ∧ HW (hP2 η p k) := by
  obtain ⟨r1, r2⟩ := op_room0 (p := p) h1 h2
  have r1 : hFh (hPi η k (hP η p)) p < 6 := r1
  have r2 : hFo (hPi η k (hP η p)) < 16 := r2
  obtain ⟨r3, r4⟩ := op_room (η := hPi η k (hP η p)) (v := (true, k, 1, 0, hP η p - 1)) hp r1 h1 h2
  have c1 : hC (hPi η k (hP η p)) k = hP η p := up_s
  have hb := (hw.1 p hp).1
  have w1 : HWw (hP1 η p k) := HWw_op (HWw_pi hw hP0 hb) hp hP0 r1 r2 (fun _ => ⟨hk, by show hC (hPi η k (hP η p)) k ≠ 0; rw [c1]; exact hP0, Or.inl rfl⟩) (fun z => absurd (show true = false from z) (by decide)) (by show 1 ≤ 7; omega) (Nat.zero_le 24) (by show hP η p - 1 < 2 ^ 30; omega)
  have w2 : HWw (hP2 η p k) := HWw_op w1 hp hP0 r3 r4 (fun _ => ⟨hk, by show hC (hPi η k (hP η p)) k ≠ 0; rw [c1]; exact hP0, Or.inr rfl⟩) (fun z => absurd (show true = false from z) (by decide)) (by show 2 ≤ 7; omega) (Nat.zero_le 24) (by show hP η p - 1 < 2 ^ 30; omega)
  refine ⟨w1, HW.of w2 (fun j hj z => ?_)⟩
  have z : va_up (hC η) k (hP η p) j ≠ 0 := z
  by_cases y : j = k
  · subst y
    have t1 : hCt (hP1 η p j) (hFo η) ≠ 0 := by
      have := op_ct (η := hPi η j (hP η p)) (v := (true, j, 1, 0, hP η p - 1)) hp r1 (hFo η)
      have e1 : hFo (hPi η j (hP η p)) = hFo η := rfl
      rw [e1, if_pos rfl] at this
      show hCt (hOp (hPi η j (hP η p)) p (true, j, 1, 0, hP η p - 1)) (hFo η) ≠ 0
      omega
    have t2 : hO (hP1 η p j) (hFo η) = (true, j, 1, 0, hP η p - 1) := by
      have := op_o (η := hPi η j (hP η p)) (p := p) (v := (true, j, 1, 0, hP η p - 1)) (hFo η)
      have e1 : hFo (hPi η j (hP η p)) = hFo η := rfl
      rw [e1, if_pos rfl] at this
      exact this
    obtain ⟨y1, y2⟩ := op_old (η := hP1 η p j) (v := (true, j, 2, 0, hP η p - 1)) hp r3 r4 t1
    have y2 : hO (hP2 η p j) (hFo η) = (true, j, 1, 0, hP η p - 1) := y2.trans t2
    exact ⟨hFo η, r2, y1, by rw [y2], by rw [y2]⟩
  · rw [up_n y] at z
    obtain ⟨o, o1, o2, o3, o4⟩ := (hw.2.2.2 j hj).2.2 z
    have o2 : hCt (hPi η k (hP η p)) o ≠ 0 := o2
    obtain ⟨y1, y2⟩ := op_old (v := (true, k, 1, 0, hP η p - 1)) hp r1 r2 o2
    obtain ⟨y3, y4⟩ := op_old (η := hP1 η p k) (v := (true, k, 2, 0, hP η p - 1)) hp r3 r4 y1
    have e5 : hO (hP2 η p k) o = hO η o := y4.trans y2
    exact ⟨o, o1, y3, by rw [e5]; exact o3, by rw [e5]; exact o4⟩
theorem iv_p2 (hI : IV π b ψ) (hp : p < 8) (hP0 : hP (yH ψ) p ≠ 0) (hk : k < 4) (h1 : hCo (yH ψ) ≤ 14) (h2 : hCh (yH ψ) p ≤ 4) : IV π b (yh ψ (hP2 (yH ψ) p k)) := by
  obtain ⟨r1, r2⟩ := op_room0 (p := p) h1 h2
  have r1 : hFh (hPi (yH ψ) k (hP (yH ψ) p)) p < 6 := r1
  have r2 : hFo (hPi (yH ψ) k (hP (yH ψ) p)) < 16 := r2
  obtain ⟨r3, r4⟩ := op_room (η := hPi (yH ψ) k (hP (yH ψ) p)) (v := (true, k, 1, 0, hP (yH ψ) p - 1)) hp r1 h1 h2
  have hv := hI.hv.1 p hp hP0
  refine iv_nw hI (p2_w hI.hw hp hP0 hk h1 h2).2 (fun _ _ => rfl) (fun o ho z => ?_) (fun o ho z => ?_) (fun j hj z => ?_)
  · rcases op_cs (η := hP1 (yH ψ) p k) (v := (true, k, 2, 0, hP (yH ψ) p - 1)) hp r3 z with ⟨z1, z2⟩ | ⟨z1, z2⟩
    · exact Or.inr ⟨by rw [show hO (hP2 (yH ψ) p k) o = _ from z2], by rw [show hO (hP2 (yH ψ) p k) o = _ from z2]; exact hv⟩
    · rcases op_cs (η := hPi (yH ψ) k (hP (yH ψ) p)) (v := (true, k, 1, 0, hP (yH ψ) p - 1)) hp r1 z1 with ⟨z3, z4⟩ | ⟨z3, z4⟩
      · have e5 : hO (hP2 (yH ψ) p k) o = (true, k, 1, 0, hP (yH ψ) p - 1) := (show hO (hP2 (yH ψ) p k) o = hO (hP1 (yH ψ) p k) o from z2).trans z4
        exact Or.inr ⟨by rw [e5], by rw [e5]; exact hv⟩
      · exact Or.inl ⟨z3, (show hO (hP2 (yH ψ) p k) o = hO (hP1 (yH ψ) p k) o from z2).trans z4⟩
  · have z : hCt (hPi (yH ψ) k (hP (yH ψ) p)) o ≠ 0 := z
    obtain ⟨y1, y2⟩ := op_old (v := (true, k, 1, 0, hP (yH ψ) p - 1)) hp r1 r2 z
    obtain ⟨y3, y4⟩ := op_old (η := hP1 (yH ψ) p k) (v := (true, k, 2, 0, hP (yH ψ) p - 1)) hp r3 r4 y1
    exact ⟨y3, (show hO (hP2 (yH ψ) p k) o = hO (hP1 (yH ψ) p k) o from y4).trans y2⟩
  · have z : va_up (hC (yH ψ)) k (hP (yH ψ) p) j ≠ 0 := z
    show pVal π (nI (va_up (hC (yH ψ)) k (hP (yH ψ) p) j - 1)) = true
    by_cases y : j = k
    · rw [y, up_s]; exact hv
    · rw [up_n y] at z ⊢; exact hI.hv.2.2 j hj z
def aPip (π : mP) (p : Nat) (ψ : mS) : Int32 × mS := aCk π (cP (yH ψ) p) (cP (yH ψ) p) 3 4 ψ (fun ψ1 => aMu (decide (hFq (yH ψ) < 4 ∧ hCo (yH ψ) ≤ 14 ∧ hCh (yH ψ) p ≤ 4)) (-7) ψ1 (nI (10 * hFh (hP1 (yH ψ) p (hFq (yH ψ))) p + hFh (yH ψ) p), yh ψ1 (hP2 (yH ψ) p (hFq (yH ψ)))))
theorem ca_pip (g : CD w π i0 b i ψ x y) (hb : b < 2 ^ 29) (hB' : b + 1 ≤ B) (hp : p < 8) (hP0 : hP (yH ψ) p ≠ 0) : CA m w l e π i0 B (mm_V 56 0 [some (.ref 81), some (.int (nI p)), none, none, none, none] [] (mm_Z m w i l e)) (aPip π p ψ) := by
  have hu := g.iv.cp hp hP0
  have c16 : hCo (yH ψ) ≤ 16 := tCnt_le _ _ _
  have c6 : hCh (yH ψ) p ≤ 6 := tCnt_le _ _ _
  unfold aPip
  rw [mr_56_0, if_neg (no_out (by omega) (by omega)), nI_clamp (by omega), g.1.pr hp hP0, show some (Value.int 3) = some (Value.int (nI 3)) from rfl]
  refine CA.gr g hb hu hu (by omega) hB' (fun i1 κ g1 => ?_) (fun i1 => by rw [mb_l, mb_v, mr_56_21, if_bf])
  have H1 : HC i1 (yH ψ) := g1.1.2.2.2.1
  rw [mb_l, mb_v, mr_56_21, if_bt, hc_freePipe H1 g.iv.hw, mb_l, mb_v, mr_56_34]
  by_cases q : hFq (yH ψ) < 4
  · rw [if_pos q, if_neg (na_m1 (by omega)), hc_openingCount H1, mb_l, mb_v, mr_56_47]
    have eo : ((14 : Int32) < nI (tCnt (fun o => !(hCt (yH ψ) o == 0)) 16 0)) ↔ 14 < hCo (yH ψ) := by
      rw [show (14 : Int32) = nI 14 by decide]; exact nI_ltI (by omega) (by show hCo (yH ψ) < 2 ^ 31; omega)
    by_cases q2 : hCo (yH ψ) ≤ 14
    · rw [if_neg (fun z => by have := eo.mp z; omega), hc_handleCount H1 g.iv.hw hp, mb_l, mb_v, mr_56_60]
      have eh : ((4 : Int32) < nI (tCnt (fun h => !(hH (yH ψ) (6 * p + h) == 0)) 6 0)) ↔ 4 < hCh (yH ψ) p := by
        rw [na_4]; exact nI_ltI (by omega) (by show hCh (yH ψ) p < 2 ^ 31; omega)
      by_cases q3 : hCh (yH ψ) p ≤ 4
      · obtain ⟨r1, r2⟩ := op_room0 (p := p) q2 q3
        obtain ⟨r3, r4⟩ := op_room (η := hPi (yH ψ) (hFq (yH ψ)) (hP (yH ψ) p)) (v := (true, hFq (yH ψ), 1, 0, hP (yH ψ) p - 1)) hp r1 q2 q3
        have w0 := HWw_pi (k := hFq (yH ψ)) g.iv.hw hP0 (g.iv.hw.1 p hp).1
        obtain ⟨w1, w2⟩ := p2_w g.iv.hw hp hP0 q q2 q3
        have ho16 : ¬ mm_out (nI (hFq (yH ψ))) 4 := no_out q (by omega)
        have H2 : HC (mm_ww (mm_ww i1 77 (hFq (yH ψ)) (nI (cP (yH ψ) p))) 78 (hFq (yH ψ)) 0) (hPi (yH ψ) (hFq (yH ψ)) (hP (yH ψ) p)) := HC_pi H1 (by rw [nz_s hP0]; rfl)
        obtain ⟨i2, e1, e2, e3⟩ := hc_open_o (m := m) (w := w) (l := l) (e := e) H2 w0.wo hp hP0 (b := true) (n := hFq (yH ψ)) (md := 1) (x4 := 1) (by decide) r1 r2
        obtain ⟨i3, f1, f2, f3⟩ := hc_open_o (m := m) (w := w) (l := l) (e := e) (η := hP1 (yH ψ) p (hFq (yH ψ))) e2 w1.wo hp hP0 (b := true) (n := hFq (yH ψ)) (md := 2) (x4 := 2) (by decide) r3 r4
        have e1 : mm_V 69 0 [some (.ref 68), some (.int (nI p)), some (.int (-1)), some (.int (nI (hFq (yH ψ)))), some (.int 1), none] [] (mm_Z m w (mm_ww (mm_ww i1 77 (hFq (yH ψ)) (nI (cP (yH ψ) p))) 78 (hFq (yH ψ)) 0) l e) = some (.inl (some (.int (nI (hFh (yH ψ) p)))), mm_Z m w i2 l e) := e1
        have f1 : mm_V 69 0 [some (.ref 68), some (.int (nI p)), some (.int (-1)), some (.int (nI (hFq (yH ψ)))), some (.int 2), none] [] (mm_Z m w i2 l e) = some (.inl (some (.int (nI (hFh (hP1 (yH ψ) p (hFq (yH ψ))) p)))), mm_Z m w i3 l e) := f1
        refine CA.mt (decide_eq_true ⟨q, q2, q3⟩) ?_
        rw [if_neg (fun z => by have := eh.mp z; omega), mr_76_0, if_neg ho16, if_neg ho16, nI_clamp (by omega), mb_l, mb_0, mr_56_76, e1, mb_l, mb_v, mr_56_87, f1, mb_l, mb_v, mr_56_100, na_10, na_mul, nI_add]
        exact CA.dead (g1.hd f2 (fun k j z => by rw [f3 k (by omega), e3 k (by omega), mw_k (by omega), mw_k (by omega)]) (iv_p2 g1.iv hp hP0 q q2 q3)) hB' rfl
      · rw [if_pos (eh.mpr (by omega))]
        exact CA.mf (decide_eq_false (by omega)) (CA.dead g1 hB' rfl)
    · rw [if_pos (eo.mpr (by omega))]
      exact CA.mf (decide_eq_false (by omega)) (CA.dead g1 hB' rfl)
  · rw [if_neg q, if_pos rfl]
    exact CA.mf (decide_eq_false (by omega)) (CA.dead g1 hB' rfl)
theorem ra_pip (g : RD π i0 b i ψ 0 a x) (hb : b < 2 ^ 29) (hB' : b + 1 ≤ B) (hp : p < 8) (hP0 : hP (yH ψ) p ≠ 0) : RA m w l e π i0 B (mm_V 321 0 [some (.ref 83), some (.int (nI p)), none, none, none, none, none] [] (mm_Z m w i l e)) (aPip π p ψ) := by
  have hu := g.iv.cp hp hP0
  have t : ∀ (b' : Nat) (i1 : Nat → Nat → Int32) (ψ' : mS) (a' x' s' x2 x3 x4 x5 : Int32), s' < 0 → RD π i0 b' i1 ψ' s' a' x' → mm_V 321 149 [some (.ref 83), some (.int (nI p)), some (.int x2), some (.int x3), some (.int x4), some (.int x5), none] [] (mm_Z m w i1 l e) = some (.inl (some (.int s')), mm_Z m w i1 l e) := fun b' i1 ψ' a' x' s' x2 x3 x4 x5 hs g1 => by
    rw [mr_321_149, g1.bd hs, mb_l, mb_v, mr_321_153, if_bf, g1.hs]
  unfold aPip
  rw [mr_321_0, if_neg (no_out (by omega) (by omega)), if_neg (no_out (by omega) (by omega)), nI_clamp (by omega), g.1.pr hp hP0, show some (Value.int 3) = some (Value.int (nI 3)) from rfl]
  refine RA.ck g hb (by decide) hu hu (by omega) (fun i1 κ g1 => ?_) (fun i1 κ g1 => RA.dead g1 hB' ?_)
  · have H1 : HR i1 (yH ψ) := g1.1.2.2.2.1
    obtain ⟨x3, x4, x5, ep⟩ := hr_pc (m := m) (w := w) (l := l) (e := e) H1 g.iv.hw hp
    rw [mb_l, mb_0, ep, mr_321_144]
    refine RA.mu g1 (fun i2 g2 z => ?_) (fun i2 g2 z => RA.dead g2 hB' (by rw [mb_l, mb_0, t _ _ _ _ _ _ _ _ _ _ (by decide) g2]))
    obtain ⟨q, q2, q3⟩ := of_decide_eq_true z
    have H2 : HR i2 (yH ψ) := g2.1.2.2.2.1
    obtain ⟨r1, r2⟩ := op_room0 (p := p) q2 q3
    obtain ⟨r3, r4⟩ := op_room (η := hPi (yH ψ) (hFq (yH ψ)) (hP (yH ψ) p)) (v := (true, hFq (yH ψ), 1, 0, hP (yH ψ) p - 1)) hp r1 q2 q3
    have w0 := HWw_pi (k := hFq (yH ψ)) g.iv.hw hP0 (g.iv.hw.1 p hp).1
    obtain ⟨w1, w2⟩ := p2_w g.iv.hw hp hP0 q q2 q3
    have ho4 : ¬ mm_out (nI (hFq (yH ψ))) 4 := no_out q (by omega)
    have H3 : HR (mm_ww (mm_ww i2 127 (hFq (yH ψ)) (i2 121 p)) 128 (hFq (yH ψ)) 0) (hPi (yH ψ) (hFq (yH ψ)) (hP (yH ψ) p)) := HR_pi H2 (H2.1 p hp)
    obtain ⟨i3, e1, e2, e3⟩ := hr_openNode_o (m := m) (w := w) (l := l) (e := e) H3 w0.wo hp hP0 (b := true) (n := hFq (yH ψ)) (md := 1) r1 r2
    obtain ⟨i4, f1, f2, f3⟩ := hr_openNode_o (m := m) (w := w) (l := l) (e := e) (η := hP1 (yH ψ) p (hFq (yH ψ))) e2 w1.wo hp hP0 (b := true) (n := hFq (yH ψ)) (md := 2) r3 r4
    have n1 : hN (true, hFq (yH ψ), 1, 0, hP (yH ψ) p - 1) = 100 + hFq (yH ψ) := rfl
    have n2 : hN (true, hFq (yH ψ), 2, 0, hP (yH ψ) p - 1) = 300 + hFq (yH ψ) := rfl
    have e1 : mm_V 301 0 [some (.ref 83), some (.int (nI p)), some (.int (nI (hN (true, hFq (yH ψ), 1, 0, hP (yH ψ) p - 1)))), some (.int 1), none, none] [] (mm_Z m w (mm_ww (mm_ww i2 127 (hFq (yH ψ)) (i2 121 p)) 128 (hFq (yH ψ)) 0) l e) = some (.inl (some (.int (nI (hFh (yH ψ) p)))), mm_Z m w i3 l e) := e1
    have f1 : mm_V 301 0 [some (.ref 83), some (.int (nI p)), some (.int (nI (hN (true, hFq (yH ψ), 2, 0, hP (yH ψ) p - 1)))), some (.int 2), none, none] [] (mm_Z m w i3 l e) = some (.inl (some (.int (nI (hFh (hP1 (yH ψ) p (hFq (yH ψ))) p)))), mm_Z m w i4 l e) := f1
    rw [n1] at e1
    rw [n2] at f1
    rw [mb_l, mb_0, mr_321_149, g2.gd, mb_l, mb_v, mr_321_153, if_bt, if_neg (no_out (by omega) (by omega)), if_neg ho4, if_neg ho4, nI_clamp (show hFq (yH ψ) < 2 ^ 31 by omega), nI_clamp (show p < 2 ^ 31 by omega), na_100, nI_add, e1, mb_l, mb_v, mr_321_190, show (300 : Int32) = nI 300 by decide, nI_add, f1, mb_l, mb_v, mr_321_203, na_10, na_mul, nI_add]
    exact RA.ret (r := (nI (10 * hFh (hP1 (yH ψ) p (hFq (yH ψ))) p + hFh (yH ψ) p), yh (yk ψ κ) (hP2 (yH ψ) p (hFq (yH ψ))))) (g2.hd f2 (fun k j z => by rw [f3 k (by omega), e3 k (by omega), mw_k (by omega), mw_k (by omega)]) (iv_p2 g2.iv hp hP0 q q2 q3)) hB'
  · have H1 : HR i1 (yH ψ) := g1.1.2.2.2.1
    obtain ⟨x3, x4, x5, ep⟩ := hr_pc (m := m) (w := w) (l := l) (e := e) H1 g.iv.hw hp
    rw [mb_l, mb_0, ep, mr_321_144, g1.mn (by decide), mb_l, mb_0, t _ _ _ _ _ _ _ _ _ _ (by decide) g1]
end MM124
