/-! HOLDINGS: a new opening -/
section MM86
variable {w : Bool} {l : Nat → Nat → Int64} {e : Bool × Nat × Nat} {η : mH} {m p h o q : Nat}
def hOp (η : mH) (p : Nat) (x : Bool × Nat × Nat × Nat × Nat) : mH := hTl (hSo η (hFo η) x) (6 * p + hFh η p) (hFo η)
theorem HC_so {i : Nat → Nat → Int32} {x : Bool × Nat × Nat × Nat × Nat} (H : HC i η) (h0 : hCt η o = 0) {y2 y3 y4 y5 y6 : Int32} : HC (mm_ww (mm_ww (mm_ww (mm_ww (mm_ww i 72 o y2) 73 o y3) 74 o y4) 75 o y5) 76 o y6) (hSo η o x) := by
  obtain ⟨a1, a2, a3, a4⟩ := H
  have f : ∀ k, k < 72 ∨ 76 < k → (mm_ww (mm_ww (mm_ww (mm_ww (mm_ww i 72 o y2) 73 o y3) 74 o y4) 75 o y5) 76 o y6) k = i k := by
    intro k hk
    rw [mw_k (by omega), mw_k (by omega), mw_k (by omega), mw_k (by omega), mw_k (by omega)]
  refine ⟨fun p hp => by rw [f 69 (by omega)]; exact a1 p hp, fun j hj => by rw [f 70 (by omega)]; exact a2 j hj, fun y hy => ?_, fun y hy => by rw [f 77 (by omega), f 78 (by omega), f 79 (by omega)]; exact a4 y hy⟩
  obtain ⟨b1, b2⟩ := a3 y hy
  rw [f 71 (by omega)]
  refine ⟨b1, fun z => ?_⟩
  have z : hCt η y ≠ 0 := z
  have hy : y ≠ o := fun q => z (by rw [q]; exact h0)
  have := b2 z
  have e0 : hO (hSo η o x) y = hO η y := up_n hy
  rw [e0, mw_k (show 72 ≠ 76 by omega), mw_k (show 72 ≠ 75 by omega), mw_k (show 72 ≠ 74 by omega), mw_k (show 72 ≠ 73 by omega), mw_j hy, mw_k (show 73 ≠ 76 by omega), mw_k (show 73 ≠ 75 by omega), mw_k (show 73 ≠ 74 by omega), mw_j hy, mw_k (show 73 ≠ 72 by omega), mw_k (show 74 ≠ 76 by omega), mw_k (show 74 ≠ 75 by omega), mw_j hy, mw_k (show 74 ≠ 73 by omega), mw_k (show 74 ≠ 72 by omega), mw_k (show 75 ≠ 76 by omega), mw_j hy, mw_k (show 75 ≠ 74 by omega), mw_k (show 75 ≠ 73 by omega), mw_k (show 75 ≠ 72 by omega), mw_j hy, mw_k (show 76 ≠ 75 by omega), mw_k (show 76 ≠ 74 by omega), mw_k (show 76 ≠ 73 by omega), mw_k (show 76 ≠ 72 by omega)]
  exact this
theorem hSo_s (η : mH) (o : Nat) (x : Bool × Nat × Nat × Nat × Nat) : hO (hSo η o x) o = x := up_s
/-- bounds, where opening o isn't told -/
theorem HW_so {x : Bool × Nat × Nat × Nat × Nat} (hw : HW η) (h0 : hCt η o = 0) : HW (hSo η o x) := by
  obtain ⟨a1, a2, a3, a4⟩ := hw
  refine ⟨a1, a2, fun y hy z => ?_, fun k hk => ⟨(a4 k hk).1, (a4 k hk).2.1, fun z => ?_⟩⟩
  · have z : hCt η y ≠ 0 := z
    have e0 : hO (hSo η o x) y = hO η y := up_n (fun q => z (by rw [q]; exact h0))
    rw [e0]
    exact a3 y hy z
  · obtain ⟨y, b1, b2, b3, b4⟩ := (a4 k hk).2.2 z
    have e0 : hO (hSo η o x) y = hO η y := up_n (fun q => b2 (by rw [q]; exact h0))
    exact ⟨y, b1, b2, by rw [e0]; exact b3, by rw [e0]; exact b4⟩
theorem HWo_so {x : Bool × Nat × Nat × Nat × Nat} (hw : HWo η) (h0 : hCt η o = 0) : HWo (hSo η o x) := by
  refine ⟨hw.1, fun y hy z => ?_⟩
  have z : hCt η y ≠ 0 := z
  have e0 : hO (hSo η o x) y = hO η y := up_n (fun q => z (by rw [q]; exact h0))
  rw [e0]
  exact hw.2 y hy z
theorem hc_op_loop_o {i : Nat → Nat → Int32} (H : HC i η) (hw : HWo η) (hp : p < 8) (hP0 : hP η p ≠ 0) {b : Bool} {n md : Nat} {x4 : Int32} (h4 : x4 &&& 7 = nI md) : ∀ (D k : Nat), k + D = 16 → mm_V 69 3 [some (.ref 68), some (.int (nI p)), some (.int (if b = true then -1 else nI n)), some (.int (if b = true then nI n else -1)), some (.int x4), some (.int (nI k))] [] (mm_Z m w i l e) = if tFst (fun o => hCt η o == 0) D k < 16 then mm_bi true (mm_V 70 0 [some (.ref 68), some (.int (nI p)), some (.int (nI (tFst (fun o => hCt η o == 0) D k))), none] [] (mm_Z m w (mm_ww (mm_ww (mm_ww (mm_ww (mm_ww i 72 (tFst (fun o => hCt η o == 0) D k) (if b = true then -1 else nI n)) 73 (tFst (fun o => hCt η o == 0) D k) (if b = true then nI n else -1)) 74 (tFst (fun o => hCt η o == 0) D k) (nI md)) 75 (tFst (fun o => hCt η o == 0) D k) 0) 76 (tFst (fun o => hCt η o == 0) D k) (nI (hP η p - 1))) l e)) (fun v μ => mm_V 69 76 [some (.ref 68), some (.int (nI p)), some (.int (if b = true then -1 else nI n)), some (.int (if b = true then nI n else -1)), some (.int x4), some (.int (nI (tFst (fun o => hCt η o == 0) D k)))] (v.toList ++ []) μ) else some (.inl (some (.int (-7))), mm_Z m w i l e)
  | 0, k, hk => by
    have e0 : tFst (fun o => hCt η o == 0) 0 k = k := rfl
    rw [mr_69_3, na_16, if_neg (by rw [nI_ltI (by omega) (by omega)]; omega), e0, if_neg (by omega)]
  | D + 1, k, hk => by
    have hb := cnt_48 η k
    have ho : ¬ mm_out (nI k) 16 := no_out (by omega) (by omega)
    have e9 : i 69 p = nI (hP η p - 1) := by
      rw [H.1 p hp, na_1, na_sub (by omega)]
    rw [mr_69_3]
    simp only [na_16, nI_1, nI_ltI (show k < 2 ^ 31 by omega) (show 16 < 2 ^ 31 by omega), nI_clamp (show k < 2 ^ 31 by omega), nI_clamp (show p < 2 ^ 31 by omega), (H.2.2.1 k (by omega)).1, nz_eq (show hCt η k < 2 ^ 31 by omega), if_neg ho, h4, e9]
    rw [if_pos (show k < 16 by omega), if_neg (no_out hp (by omega)), tFst]
    by_cases z : hCt η k = 0
    · rw [if_pos z, if_pos (show (hCt η k == 0) = true by simp [z]), if_pos (show k < 16 by omega)]
    · rw [if_neg z, if_neg (show ¬ (hCt η k == 0) = true by simp [z])]
      exact hc_op_loop_o H hw hp hP0 h4 D (k + 1) (by omega)
theorem hc_open_o {i : Nat → Nat → Int32} (H : HC i η) (hw : HWo η) (hp : p < 8) (hP0 : hP η p ≠ 0) {b : Bool} {n md : Nat} {x4 : Int32} (h4 : x4 &&& 7 = nI md) (hh : hFh η p < 6) (ho : hFo η < 16) : ∃ i', mm_V 69 0 [some (.ref 68), some (.int (nI p)), some (.int (if b = true then -1 else nI n)), some (.int (if b = true then nI n else -1)), some (.int x4), none] [] (mm_Z m w i l e) = some (.inl (some (.int (nI (hFh η p)))), mm_Z m w i' l e) ∧ HC i' (hOp η p (b, n, md, 0, hP η p - 1)) ∧ mF 70 76 i i' := by
  have hF0 := hFo_0 ho
  have hT : HC (mm_ww (mm_ww (mm_ww (mm_ww (mm_ww i 72 (hFo η) (if b = true then -1 else nI n)) 73 (hFo η) (if b = true then nI n else -1)) 74 (hFo η) (nI md)) 75 (hFo η) 0) 76 (hFo η) (nI (hP η p - 1))) (hSo η (hFo η) (b, n, md, 0, hP η p - 1)) := HC_so H hF0
  have hW2 : HWo (hSo η (hFo η) (b, n, md, 0, hP η p - 1)) := HWo_so hw hF0
  have e0 := hc_op_loop_o (m := m) (w := w) (l := l) (e := e) H hw hp hP0 (b := b) (n := n) h4 16 0 rfl
  have e0 : mm_V 69 3 [some (.ref 68), some (.int (nI p)), some (.int (if b = true then -1 else nI n)), some (.int (if b = true then nI n else -1)), some (.int x4), some (.int (nI 0))] [] (mm_Z m w i l e) = if hFo η < 16 then mm_bi true (mm_V 70 0 [some (.ref 68), some (.int (nI p)), some (.int (nI (hFo η))), none] [] (mm_Z m w (mm_ww (mm_ww (mm_ww (mm_ww (mm_ww i 72 (hFo η) (if b = true then -1 else nI n)) 73 (hFo η) (if b = true then nI n else -1)) 74 (hFo η) (nI md)) 75 (hFo η) 0) 76 (hFo η) (nI (hP η p - 1))) l e)) (fun v μ => mm_V 69 76 [some (.ref 68), some (.int (nI p)), some (.int (if b = true then -1 else nI n)), some (.int (if b = true then nI n else -1)), some (.int x4), some (.int (nI (hFo η)))] (v.toList ++ []) μ) else some (.inl (some (.int (-7))), mm_Z m w i l e) := e0
  have hh2 : hFh (hSo η (hFo η) (b, n, md, 0, hP η p - 1)) p = hFh η p := rfl
  rw [mr_69_0, na_0, e0, if_pos ho, hc_tell_o hT hW2 hp ho, hh2, if_pos hh, mb_l, mb_v, mr_69_76]
  refine ⟨_, rfl, ?_, ?_⟩
  · refine HC_tl hT (by omega) ho (show hH η (6 * p + hFh η p) = 0 from hFh_0 hh) ?_
    rw [hSo_s]
    dsimp only
    refine ⟨?_, ?_, ?_, ?_, ?_⟩
    · rw [mw_k (by omega), mw_k (by omega), mw_k (by omega), mw_k (by omega), mw_s]
    · rw [mw_k (by omega), mw_k (by omega), mw_k (by omega), mw_s]
    · rw [mw_k (by omega), mw_k (by omega), mw_s]
    · rw [mw_k (by omega), mw_s]; rfl
    · rw [mw_s]
  · intro k hk
    rw [mw_k (by omega), mw_k (by omega), mw_k (by omega), mw_k (by omega), mw_k (by omega), mw_k (by omega), mw_k (by omega)]
theorem hc_open {i : Nat → Nat → Int32} (H : HC i η) (hw : HW η) (hp : p < 8) (hP0 : hP η p ≠ 0) {b : Bool} {n md : Nat} {x4 : Int32} (h4 : x4 &&& 7 = nI md) (hh : hFh η p < 6) (ho : hFo η < 16) : ∃ i', mm_V 69 0 [some (.ref 68), some (.int (nI p)), some (.int (if b = true then -1 else nI n)), some (.int (if b = true then nI n else -1)), some (.int x4), none] [] (mm_Z m w i l e) = some (.inl (some (.int (nI (hFh η p)))), mm_Z m w i' l e) ∧ HC i' (hOp η p (b, n, md, 0, hP η p - 1)) ∧ mF 70 76 i i' := hc_open_o H hw.wo hp hP0 h4 hh ho
theorem HR_so {i : Nat → Nat → Int32} {x : Bool × Nat × Nat × Nat × Nat} (H : HR i η) (h0 : hCt η o = 0) : ∀ y, y < 16 → y ≠ o → i 123 y = (if hCt η y = 0 then -1 else nI (hN (hO (hSo η o x) y))) ∧ (hCt η y ≠ 0 → i 124 y = nI (hO (hSo η o x) y).2.2.1 ∧ i 125 y = nI (hO (hSo η o x) y).2.2.2.1 ∧ i 126 y = nI (hO (hSo η o x) y).2.2.2.2) := by
  intro y hy hne
  have e0 : hO (hSo η o x) y = hO η y := up_n hne
  rw [e0]
  exact H.2.2.1 y hy
theorem hr_openNode_o {i : Nat → Nat → Int32} (H : HR i η) (hw : HWo η) (hp : p < 8) (hP0 : hP η p ≠ 0) {b : Bool} {n md : Nat} (hh : hFh η p < 6) (ho : hFo η < 16) : ∃ i', mm_V 301 0 [some (.ref 83), some (.int (nI p)), some (.int (nI (hN (b, n, md, 0, hP η p - 1)))), some (.int (nI md)), none, none] [] (mm_Z m w i l e) = some (.inl (some (.int (nI (hFh η p)))), mm_Z m w i' l e) ∧ HR i' (hOp η p (b, n, md, 0, hP η p - 1)) ∧ mF 122 126 i i' := by
  have hF0 := hFo_0 ho
  have ho16 : ¬ mm_out (nI (hFo η)) 16 := no_out ho (by omega)
  have e9 : i 121 p = nI (hP η p - 1) := by
    rw [H.1 p hp, na_1, na_sub (by omega)]
  rw [mr_301_0, hr_freeHandle_o H hw hp, mb_l, mb_v, mr_301_5, hr_freeOpening_o H hw, mb_l, mb_v, mr_301_11, na_6, na_mul, nI_add]
  simp only [if_neg ho16, nI_clamp (show hFo η < 2 ^ 31 by omega), nI_clamp (show p < 2 ^ 31 by omega), nI_clamp (show 6 * p + hFh η p < 2 ^ 31 by omega), e9]
  rw [if_neg (no_out hp (by omega)), if_neg (no_out (by omega) (by omega))]
  refine ⟨_, rfl, ?_, ?_⟩
  · have hk : hH η (6 * p + hFh η p) = 0 := hFh_0 hh
    obtain ⟨a1, a2, a3, a4⟩ := H
    have hct : ∀ y, hCt (hOp η p (b, n, md, 0, hP η p - 1)) y = hCt η y + (if y = hFo η then 1 else 0) := fun y => hTl_ct (η := hSo η (hFo η) (b, n, md, 0, hP η p - 1)) (by omega) hk
    have eO : ∀ y, hO (hOp η p (b, n, md, 0, hP η p - 1)) y = va_up (hO η) (hFo η) (b, n, md, 0, hP η p - 1) y := fun _ => rfl
    refine ⟨fun q hq => ?_, fun j hj => ?_, fun y hy => ?_, fun y hy => ?_⟩
    · rw [mw_k (by omega), mw_k (by omega), mw_k (by omega), mw_k (by omega), mw_k (by omega)]; exact a1 q hq
    · show _ = nI (va_up (hH η) (6 * p + hFh η p) (hFo η + 1) j) - 1
      by_cases z : j = 6 * p + hFh η p
      · rw [z, mw_s, up_s, nI_pred]
      · rw [mw_j z, up_n z, mw_k (by omega), mw_k (by omega), mw_k (by omega), mw_k (by omega)]; exact a2 j hj
    · rw [hct, eO, mw_k (show 123 ≠ 122 by omega), mw_k (show 124 ≠ 122 by omega), mw_k (show 125 ≠ 122 by omega), mw_k (show 126 ≠ 122 by omega), mw_k (show 123 ≠ 126 by omega), mw_k (show 123 ≠ 125 by omega), mw_k (show 123 ≠ 124 by omega), mw_k (show 124 ≠ 126 by omega), mw_k (show 124 ≠ 125 by omega), mw_k (show 125 ≠ 126 by omega)]
      by_cases z : y = hFo η
      · rw [z, if_pos rfl, up_s, mw_s, mw_s, mw_s, mw_s, if_neg (by omega)]
        exact ⟨rfl, fun _ => ⟨rfl, rfl, rfl⟩⟩
      · rw [if_neg z, Nat.add_zero, up_n z, mw_j z, mw_j z, mw_j z, mw_j z, mw_k (show 124 ≠ 123 by omega), mw_k (show 125 ≠ 124 by omega), mw_k (show 125 ≠ 123 by omega), mw_k (show 126 ≠ 125 by omega), mw_k (show 126 ≠ 124 by omega), mw_k (show 126 ≠ 123 by omega)]
        exact a3 y hy
    · simp only [mw_k (show 127 ≠ 122 by omega), mw_k (show 128 ≠ 122 by omega), mw_k (show 129 ≠ 122 by omega), mw_k (show 127 ≠ 123 by omega), mw_k (show 128 ≠ 123 by omega), mw_k (show 129 ≠ 123 by omega), mw_k (show 127 ≠ 124 by omega), mw_k (show 128 ≠ 124 by omega), mw_k (show 129 ≠ 124 by omega), mw_k (show 127 ≠ 125 by omega), mw_k (show 128 ≠ 125 by omega), mw_k (show 129 ≠ 125 by omega), mw_k (show 127 ≠ 126 by omega), mw_k (show 128 ≠ 126 by omega), mw_k (show 129 ≠ 126 by omega)]
      exact a4 y hy
  · intro k hk
    rw [mw_k (by omega), mw_k (by omega), mw_k (by omega), mw_k (by omega), mw_k (by omega)]
theorem hr_openNode {i : Nat → Nat → Int32} (H : HR i η) (hw : HW η) (hp : p < 8) (hP0 : hP η p ≠ 0) {b : Bool} {n md : Nat} (hh : hFh η p < 6) (ho : hFo η < 16) : ∃ i', mm_V 301 0 [some (.ref 83), some (.int (nI p)), some (.int (nI (hN (b, n, md, 0, hP η p - 1)))), some (.int (nI md)), none, none] [] (mm_Z m w i l e) = some (.inl (some (.int (nI (hFh η p)))), mm_Z m w i' l e) ∧ HR i' (hOp η p (b, n, md, 0, hP η p - 1)) ∧ mF 122 126 i i' := hr_openNode_o H hw.wo hp hP0 hh ho
end MM86
