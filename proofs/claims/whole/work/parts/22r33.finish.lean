/-! A PROCESS STOPS: class and reference -/
section MM92
variable {w : Bool} {l : Nat → Nat → Int64} {e : Bool × Nat × Nat} {η : mH} {τ : mT} {m p h o q : Nat}
/-- process p is none -/
def hSp (η : mH) (p : Nat) : mH := (va_up (hP η) p 0, hH η, hO η, hC η, hS η, hB η)
/-- process p stops -/
def hFi (η : mH) (p : Nat) : mH := hCl (hSp (hUm η p 6) p)
def tFi (τ : mT) (η : mH) (p : Nat) : mT := tGo (hHe (hUm η p 6)) τ
theorem HWw_um {n : Nat} (hw : HWw η) : HWw (hUm η p n) := by
  obtain ⟨a, b, c, d⟩ := hw
  refine ⟨fun q hq => ⟨(a q hq).1, fun z h hh => ?_⟩, fun j hj => ?_, fun o ho z => c o ho (by have := hUm_le (η := η) (p := p) n o; omega), d⟩
  · show (if 6 * p ≤ 6 * q + h ∧ 6 * q + h < 6 * p + n then 0 else hH η (6 * q + h)) = 0
    split
    · rfl
    · exact (a q hq).2 z h hh
  · show (if 6 * p ≤ j ∧ j < 6 * p + n then 0 else hH η j) ≤ 16
    split
    · omega
    · exact b j hj
theorem HWw_sp (hw : HWw η) (h0 : ∀ h, h < 6 → hH η (6 * p + h) = 0) : HWw (hSp η p) := by
  obtain ⟨a, b, c, d⟩ := hw
  refine ⟨fun q hq => ?_, b, c, d⟩
  by_cases z : q = p
  · subst z
    exact ⟨by show va_up (hP η) q 0 q < 2 ^ 30; rw [up_s]; omega, fun _ h hh => h0 h hh⟩
  · have e1 : hP (hSp η p) q = hP η q := up_n z
    rw [e1]
    exact a q hq
theorem HC_sp {i : Nat → Nat → Int32} (H : HC i η) : HC (mm_ww i 69 p (-1)) (hSp η p) := by
  obtain ⟨a1, a2, a3, a4⟩ := H
  refine ⟨fun q hq => ?_, fun j hj => by rw [mw_k (by omega)]; exact a2 j hj, fun y hy => by rw [mw_k (show 71 ≠ 69 by omega), mw_k (show 72 ≠ 69 by omega), mw_k (show 73 ≠ 69 by omega), mw_k (show 74 ≠ 69 by omega), mw_k (show 75 ≠ 69 by omega), mw_k (show 76 ≠ 69 by omega)]; exact a3 y hy, fun y hy => by rw [mw_k (show 77 ≠ 69 by omega), mw_k (show 78 ≠ 69 by omega), mw_k (show 79 ≠ 69 by omega)]; exact a4 y hy⟩
  show _ = nI (va_up (hP η) p 0 q) - 1
  by_cases z : q = p
  · rw [z, mw_s, up_s]; decide
  · rw [mw_j z, up_n z]; exact a1 q hq
theorem hc_stop {i : Nat → Nat → Int32} (H : HC i η) (hW : HW η) (hCT : TC true i τ) (hT : TE τ) (hTw : TW τ) (hTh : TH τ η) (h0 : tk τ 0 = 2) (hp : p < 8) : ∃ i', mm_V 81 0 [some (.ref 68), some (.int (nI p)), none] [] (mm_Z m w i l e) = some (.inl none, mm_Z m w i' l e) ∧ HC i' (hFi η p) ∧ TC true i' (tFi τ η p) ∧ (∀ q, q ≠ 58 → q ≠ 69 → q ≠ 70 → q ≠ 71 → q ≠ 77 → i' q = i q) := by
  have ec : hCl (hUm η p 0) = η := by
    rw [hUm_0]
    have : (fun k => if k < 4 ∧ hLv η k = false then 0 else hC η k) = hC η := by
      funext k
      by_cases y : k < 4 ∧ hLv η k = false
      · rw [if_pos y]
        cases hq : hC η k with
        | zero => rfl
        | succ n =>
          exfalso
          obtain ⟨o2, p1, p2, p3, p4⟩ := (hW.2.2.2 k y.1).2.2 (by rw [hq]; omega)
          have : hLv η k = true := (lv_iff _ k).mpr ⟨o2, p1, p2, p3, p4⟩
          rw [y.2] at this; cases this
      · rw [if_neg y]
    exact congrArg (fun f => ((hP η, hH η, hO η, f, hS η, hB η) : mH)) this
  have et : tGo (hHe (hUm η p 0)) τ = τ := by
    rw [hUm_0]; exact go_id hTh.1
  obtain ⟨i', e1, e2, e3, e4, e5⟩ := hc_stop_loop (m := m) (w := w) (l := l) (e := e) (η := η) hT hTw h0 hW.weak hp hTh.2 6 0 i rfl (by rw [ec]; exact H) (by rw [hUm_0]; exact hW.weak) (by rw [et]; exact hCT)
  refine ⟨mm_ww i' 69 p (-1), ?_, ?_, ?_, fun q q1 q2 q3 q4 q5 => by rw [mw_k q2, e5 q q1 q3 q4 q5]⟩
  · rw [mr_81_0, na_0, e1]
  · exact HC_sp e2
  · exact e4.kp (fun k j h1 h2 => by
      simp only [mm_Tr, cond_true] at h1 h2
      rw [mw_k (by omega)])
theorem hr_fi_loop (hp : p < 8) : ∀ (D k : Nat) (i : Nat → Nat → Int32), k + D = 6 → ∃ i', mm_V 322 9 [some (.ref 83), some (.int (nI p)), some (.int (nI k))] [] (mm_Z m w i l e) = mm_V 322 9 [some (.ref 83), some (.int (nI p)), some (.int (nI 6))] [] (mm_Z m w i' l e) ∧ (∀ j, 6 * p + k ≤ j → j < 6 * p + 6 → i' 122 j = -1) ∧ (∀ j, j < 6 * p + k ∨ 6 * p + 6 ≤ j → i' 122 j = i 122 j) ∧ (∀ q, q ≠ 122 → i' q = i q)
  | 0, k, i, hk => ⟨i, by rw [show k = 6 by omega], fun j h1 h2 => by omega, fun _ _ => rfl, fun _ _ => rfl⟩
  | D + 1, k, i, hk => by
    obtain ⟨i', e1, e2, e3, e4⟩ := hr_fi_loop hp D (k + 1) (mm_ww i 122 (6 * p + k) (-1)) (by omega)
    refine ⟨i', ?_, ?_, ?_, fun q hq => by rw [e4 q hq, mw_k hq]⟩
    · rw [mr_322_9, ← e1]
      simp only [na_6, na_mul, nI_add, nI_1, nI_ltI (show k < 2 ^ 31 by omega) (show 6 < 2 ^ 31 by omega), nI_clamp (show 6 * p + k < 2 ^ 31 by omega)]
      rw [if_pos (by omega), if_neg (no_out (by omega) (by omega))]
    · intro j h1 h2
      by_cases z : j = 6 * p + k
      · rw [z, e3 _ (by omega), mw_s]
      · exact e2 j (by omega) h2
    · intro j hj
      rw [e3 j (by omega), mw_j (by omega)]
theorem hr_finish {i : Nat → Nat → Int32} (H : HR i η) (hW : HW η) (hCT : TR i τ) (hT : TE τ) (hTw : TW τ) (hp : p < 8) : ∃ i', mm_V 322 0 [some (.ref 83), some (.int (nI p)), none] [] (mm_Z m w i l e) = some (.inl none, mm_Z m w i' l e) ∧ HR i' (hFi η p) ∧ TR i' (tFi τ η p) ∧ (∀ q, q ≠ 121 → q ≠ 122 → q ≠ 123 → q ≠ 127 → q ≠ 113 → i' q = i q) := by
  obtain ⟨a1, a2, a3, a4⟩ := H
  obtain ⟨i1, b1, b2, b3, b4⟩ := hr_fi_loop (m := m) (w := w) (l := l) (e := e) hp 6 0 (mm_ww i 121 p (-1)) rfl
  have H1 : HRw i1 (hSp (hUm η p 6) p) := by
    refine ⟨fun q hq => ?_, fun j hj => ?_, fun y hy z => ?_, fun y hy => ?_⟩
    · rw [b4 _ (by omega)]
      show _ = nI (va_up (hP η) p 0 q) - 1
      by_cases z : q = p
      · rw [z, mw_s, up_s]; decide
      · rw [mw_j z, up_n z]; exact a1 q hq
    · show _ = nI (if 6 * p ≤ j ∧ j < 6 * p + 6 then 0 else hH η j) - 1
      by_cases z : 6 * p ≤ j ∧ j < 6 * p + 6
      · rw [if_pos z, b2 j (by omega) (by omega)]; decide
      · rw [if_neg z, b3 j (by omega), mw_k (by omega)]; exact a2 j hj
    · have z : hCt (hUm η p 6) y ≠ 0 := z
      have z2 : hCt η y ≠ 0 := by have := hUm_le (η := η) (p := p) 6 y; omega
      obtain ⟨c1, c2⟩ := a3 y hy
      rw [b4 123 (by omega), b4 124 (by omega), b4 125 (by omega), b4 126 (by omega), mw_k (show 123 ≠ 121 by omega), mw_k (show 124 ≠ 121 by omega), mw_k (show 125 ≠ 121 by omega), mw_k (show 126 ≠ 121 by omega)]
      rw [if_neg z2] at c1
      exact ⟨c1, c2 z2⟩
    · rw [b4 127 (by omega), b4 128 (by omega), b4 129 (by omega), mw_k (show 127 ≠ 121 by omega), mw_k (show 128 ≠ 121 by omega), mw_k (show 129 ≠ 121 by omega)]
      exact a4 y hy
  have hw1 : HWw (hSp (hUm η p 6) p) := HWw_sp (HWw_um hW.weak) (fun h hh => by
    show (if 6 * p ≤ 6 * p + h ∧ 6 * p + h < 6 * p + 6 then 0 else hH η (6 * p + h)) = 0
    rw [if_pos (by omega)])
  have T1 : TR i1 τ := hCT.kp (fun k j h1 h2 => by rw [b4 k (by omega), mw_k (by omega)])
  obtain ⟨i2, c1, c2, c3, c4⟩ := hr_clean (m := m) (w := w) (l := l) (e := e) H1 hw1 T1 hTw
  refine ⟨i2, ?_, c2, ?_, fun q q1 q2 q3 q4 q5 => by rw [c4 q q3 q4 q5, b4 q q2, mw_k q1]⟩
  · rw [mr_322_0, if_neg (no_out hp (by omega)), nI_clamp (by omega), na_0, b1, mr_322_9, na_6, if_neg (by rw [nI_ltI (by omega) (by omega)]; omega), c1, mb_l, mb_0, mr_322_37]
  · rw [swp_eq hT] at c3
    exact c3
end MM92
