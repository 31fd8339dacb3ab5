/-! HOLDINGS: a new opening, a new handle -/
section MM85
variable {w : Bool} {l : Nat → Nat → Int64} {e : Bool × Nat × Nat} {η : mH} {m p h o q : Nat}
theorem cnt_cong {f g : Nat → Bool} : ∀ (d k : Nat), (∀ j, k ≤ j → j < k + d → f j = g j) → tCnt f d k = tCnt g d k
  | 0, _, _ => rfl
  | d + 1, k, h => by
    rw [tCnt, tCnt, h k (Nat.le_refl _) (by omega), cnt_cong d (k + 1) (fun j a b => h j (by omega) (by omega))]
theorem cnt_up {f : Nat → Nat} {k v y : Nat} : ∀ (d a : Nat), a ≤ k → k < a + d → tCnt (fun j => va_up f k v j == y) d a + (if f k = y then 1 else 0) = tCnt (fun j => f j == y) d a + (if v = y then 1 else 0)
  | 0, a, h1, h2 => by omega
  | d + 1, a, h1, h2 => by
    rw [tCnt, tCnt]
    by_cases z : a = k
    · subst z
      have e1 : tCnt (fun j => va_up f a v j == y) d (a + 1) = tCnt (fun j => f j == y) d (a + 1) := cnt_cong d (a + 1) (fun j q1 q2 => by rw [up_n (by omega)])
      rw [e1, up_s]
      by_cases z1 : f a = y <;> by_cases z2 : v = y <;> simp [z1, z2] <;> omega
    · have ih := cnt_up (f := f) (k := k) (v := v) (y := y) d (a + 1) (by omega) (by omega)
      rw [up_n z]
      omega
/-- handle k of opening o -/
def hTl (η : mH) (k o : Nat) : mH := (hP η, va_up (hH η) k (o + 1), hO η, hC η, hS η, hB η)
theorem hTl_ct {k y : Nat} (hk : k < 48) (h0 : hH η k = 0) : hCt (hTl η k o) y = hCt η y + (if y = o then 1 else 0) := by
  have := cnt_up (f := hH η) (k := k) (v := o + 1) (y := y + 1) 48 0 (Nat.zero_le _) (by omega)
  rw [h0, if_neg (by omega), Nat.add_zero] at this
  have e1 : hCt (hTl η k o) y = tCnt (fun j => va_up (hH η) k (o + 1) j == y + 1) 48 0 := rfl
  have e2 : hCt η y = tCnt (fun j => hH η j == y + 1) 48 0 := rfl
  rw [e1, e2, this]
  by_cases z : y = o
  · rw [if_pos (show o + 1 = y + 1 by omega), if_pos z]
  · rw [if_neg (show ¬ o + 1 = y + 1 by omega), if_neg z]
/-- opening o as x -/
def hSo (η : mH) (o : Nat) (x : Bool × Nat × Nat × Nat × Nat) : mH := (hP η, hH η, va_up (hO η) o x, hC η, hS η, hB η)
theorem HC_tl {i : Nat → Nat → Int32} {k : Nat} (H : HC i η) (hk : k < 48) (ho : o < 16) (h0 : hH η k = 0) (hx : i 72 o = (if (hO η o).1 = true then -1 else nI (hO η o).2.1) ∧ i 73 o = (if (hO η o).1 = true then nI (hO η o).2.1 else -1) ∧ i 74 o = nI (hO η o).2.2.1 ∧ i 75 o = nI (hO η o).2.2.2.1 ∧ i 76 o = nI (hO η o).2.2.2.2) : HC (mm_ww (mm_ww i 70 k (nI o)) 71 o (nI (hCt η o + 1))) (hTl η k o) := by
  obtain ⟨a1, a2, a3, a4⟩ := H
  refine ⟨fun p hp => ?_, fun j hj => ?_, fun y hy => ?_, fun y hy => ?_⟩
  · rw [mw_k (by omega), mw_k (by omega)]; exact a1 p hp
  · rw [mw_k (by omega)]
    show _ = nI (va_up (hH η) k (o + 1) j) - 1
    by_cases z : j = k
    · subst z; rw [mw_s, up_s, nI_pred]
    · rw [mw_j z, up_n z]; exact a2 j hj
  · rw [hTl_ct hk h0]
    obtain ⟨b1, b2⟩ := a3 y hy
    simp only [mw_k (show 72 ≠ 71 by omega), mw_k (show 72 ≠ 70 by omega), mw_k (show 73 ≠ 71 by omega), mw_k (show 73 ≠ 70 by omega), mw_k (show 74 ≠ 71 by omega), mw_k (show 74 ≠ 70 by omega), mw_k (show 75 ≠ 71 by omega), mw_k (show 75 ≠ 70 by omega), mw_k (show 76 ≠ 71 by omega), mw_k (show 76 ≠ 70 by omega)]
    by_cases z : y = o
    · subst z
      rw [mw_s, if_pos rfl]
      exact ⟨rfl, fun _ => hx⟩
    · rw [mw_j z, mw_k (by omega), if_neg z, Nat.add_zero]
      exact ⟨b1, b2⟩
  · simp only [mw_k (show 77 ≠ 71 by omega), mw_k (show 77 ≠ 70 by omega), mw_k (show 78 ≠ 71 by omega), mw_k (show 78 ≠ 70 by omega), mw_k (show 79 ≠ 71 by omega), mw_k (show 79 ≠ 70 by omega)]
    exact a4 y hy
theorem HR_tl {i : Nat → Nat → Int32} {k : Nat} (H : HR i η) (hk : k < 48) (ho : o < 16) (h0 : hH η k = 0) (hx : i 123 o = nI (hN (hO η o)) ∧ i 124 o = nI (hO η o).2.2.1 ∧ i 125 o = nI (hO η o).2.2.2.1 ∧ i 126 o = nI (hO η o).2.2.2.2) : HR (mm_ww i 122 k (nI o)) (hTl η k o) := by
  obtain ⟨a1, a2, a3, a4⟩ := H
  refine ⟨fun p hp => ?_, fun j hj => ?_, fun y hy => ?_, fun y hy => ?_⟩
  · rw [mw_k (by omega)]; exact a1 p hp
  · show _ = nI (va_up (hH η) k (o + 1) j) - 1
    by_cases z : j = k
    · subst z; rw [mw_s, up_s, nI_pred]
    · rw [mw_j z, up_n z]; exact a2 j hj
  · rw [hTl_ct hk h0]
    obtain ⟨b1, b2⟩ := a3 y hy
    simp only [mw_k (show 123 ≠ 122 by omega), mw_k (show 124 ≠ 122 by omega), mw_k (show 125 ≠ 122 by omega), mw_k (show 126 ≠ 122 by omega)]
    by_cases z : y = o
    · subst z
      rw [if_pos rfl, if_neg (by omega)]
      exact ⟨hx.1, fun _ => hx.2⟩
    · rw [if_neg z, Nat.add_zero]
      exact ⟨b1, b2⟩
  · simp only [mw_k (show 127 ≠ 122 by omega), mw_k (show 128 ≠ 122 by omega), mw_k (show 129 ≠ 122 by omega)]
    exact a4 y hy
theorem hFh_0 (hh : hFh η p < 6) : hH η (6 * p + hFh η p) = 0 := by
  have := tFst_at (fun h => hH η (6 * p + h) == 0) 6 0 (by unfold hFh at hh; omega)
  unfold hFh
  simpa using this
theorem hFo_0 (hh : hFo η < 16) : hCt η (hFo η) = 0 := by
  have := tFst_at (fun o => hCt η o == 0) 16 0 (by unfold hFo at hh; omega)
  unfold hFo
  simpa using this
theorem hc_tell_loop_o {i : Nat → Nat → Int32} (H : HC i η) (hw : HWo η) (hp : p < 8) (ho : o < 16) : ∀ (D k : Nat), k + D = 6 → mm_V 70 2 [some (.ref 68), some (.int (nI p)), some (.int (nI o)), some (.int (nI k))] [] (mm_Z m w i l e) = if tFst (fun h => hH η (6 * p + h) == 0) D k < 6 then some (.inl (some (.int (nI (tFst (fun h => hH η (6 * p + h) == 0) D k)))), mm_Z m w (mm_ww (mm_ww i 70 (6 * p + tFst (fun h => hH η (6 * p + h) == 0) D k) (nI o)) 71 o (nI (hCt η o + 1))) l e) else some (.inl (some (.int (-7))), mm_Z m w i l e)
  | 0, k, hk => by
    have e0 : tFst (fun h => hH η (6 * p + h) == 0) 0 k = k := rfl
    rw [mr_70_2, na_6, if_neg (by rw [nI_ltI (by omega) (by omega)]; omega), e0, if_neg (by omega)]
  | D + 1, k, hk => by
    have hb := hw.1 (6 * p + k) (by omega)
    rw [mr_70_2]
    simp only [na_6, na_mul, nI_add, nI_1, nI_ltI (show k < 2 ^ 31 by omega) (show 6 < 2 ^ 31 by omega), Nat.mul_comm p 6, nI_clamp (show 6 * p + k < 2 ^ 31 by omega), nI_clamp (show o < 2 ^ 31 by omega), H.2.1 (6 * p + k) (by omega), (H.2.2.1 o ho).1, nz_m1 (show hH η (6 * p + k) < 2 ^ 31 by omega)]
    rw [if_pos (by omega), if_neg (no_out (by omega) (by omega)), if_neg (no_out (by omega) (by omega)), if_neg (no_out ho (by omega)), if_neg (no_out ho (by omega)), tFst]
    by_cases z : hH η (6 * p + k) = 0
    · rw [if_pos z, if_pos (show (hH η (6 * p + k) == 0) = true by simp [z]), if_pos (show k < 6 by omega)]
    · rw [if_neg z, hc_tell_loop_o H hw hp ho D (k + 1) (by omega), if_neg (show ¬ (hH η (6 * p + k) == 0) = true by simp [z])]
theorem hc_tell_o {i : Nat → Nat → Int32} (H : HC i η) (hw : HWo η) (hp : p < 8) (ho : o < 16) : mm_V 70 0 [some (.ref 68), some (.int (nI p)), some (.int (nI o)), none] [] (mm_Z m w i l e) = if hFh η p < 6 then some (.inl (some (.int (nI (hFh η p)))), mm_Z m w (mm_ww (mm_ww i 70 (6 * p + hFh η p) (nI o)) 71 o (nI (hCt η o + 1))) l e) else some (.inl (some (.int (-7))), mm_Z m w i l e) := by
  rw [mr_70_0, na_0, hc_tell_loop_o H hw hp ho 6 0 rfl]
  rfl
theorem hc_tell {i : Nat → Nat → Int32} (H : HC i η) (hw : HW η) (hp : p < 8) (ho : o < 16) : mm_V 70 0 [some (.ref 68), some (.int (nI p)), some (.int (nI o)), none] [] (mm_Z m w i l e) = if hFh η p < 6 then some (.inl (some (.int (nI (hFh η p)))), mm_Z m w (mm_ww (mm_ww i 70 (6 * p + hFh η p) (nI o)) 71 o (nI (hCt η o + 1))) l e) else some (.inl (some (.int (-7))), mm_Z m w i l e) := hc_tell_o H hw.wo hp ho
end MM85
