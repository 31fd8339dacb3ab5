/-! A PROCESS LIKE ANOTHER -/
section MM93
variable {w : Bool} {l : Nat → Nat → Int64} {e : Bool × Nat × Nat} {η : mH} {m p h o q : Nat}
def hSq (η : mH) (q x : Nat) : mH := (va_up (hP η) q x, hH η, hO η, hC η, hS η, hB η)
/-- the first n handles of q are p's -/
def hFn (η : mH) (q p n : Nat) : mH := (hP η, fun k => if 6 * q ≤ k ∧ k < 6 * q + n then hH η (6 * p + (k - 6 * q)) else hH η k, hO η, hC η, hS η, hB η)
theorem hFn_0 : hFn η q p 0 = η := by
  have : (fun k => if 6 * q ≤ k ∧ k < 6 * q + 0 then hH η (6 * p + (k - 6 * q)) else hH η k) = hH η := by
    funext k; rw [if_neg (by omega)]
  exact congrArg (fun f => ((hP η, f, hO η, hC η, hS η, hB η) : mH)) this
theorem hFn_s {n x : Nat} (hx : hH η (6 * p + n) = x) : (hP η, va_up (hH (hFn η q p n)) (6 * q + n) x, hO η, hC η, hS η, hB η) = hFn η q p (n + 1) := by
  have : va_up (hH (hFn η q p n)) (6 * q + n) x = (fun k => if 6 * q ≤ k ∧ k < 6 * q + (n + 1) then hH η (6 * p + (k - 6 * q)) else hH η k) := by
    funext k
    have e0 : hH (hFn η q p n) k = if 6 * q ≤ k ∧ k < 6 * q + n then hH η (6 * p + (k - 6 * q)) else hH η k := rfl
    by_cases z : k = 6 * q + n
    · rw [z, up_s, if_pos (by omega), show 6 * q + n - 6 * q = n by omega, hx]
    · rw [up_n z, e0]
      by_cases y : 6 * q ≤ k ∧ k < 6 * q + n
      · rw [if_pos y, if_pos (by omega)]
      · rw [if_neg y, if_neg (by omega)]
  exact congrArg (fun f => ((hP η, f, hO η, hC η, hS η, hB η) : mH)) this
theorem hFn_p {n h : Nat} (hpq : p ≠ q) (hh : h < 6) : hH (hFn η q p n) (6 * p + h) = if n ≤ 6 then hH η (6 * p + h) else hH (hFn η q p n) (6 * p + h) := by
  by_cases hn : n ≤ 6
  · rw [if_pos hn]
    show (if 6 * q ≤ 6 * p + h ∧ 6 * p + h < 6 * q + n then _ else hH η (6 * p + h)) = _
    rw [if_neg (by omega)]
  · rw [if_neg hn]
theorem hFn_q {n : Nat} : hH (hFn η q p n) (6 * q + n) = hH η (6 * q + n) := by
  show (if 6 * q ≤ 6 * q + n ∧ 6 * q + n < 6 * q + n then _ else hH η (6 * q + n)) = _
  rw [if_neg (by omega)]
theorem cnt_pos {f : Nat → Bool} : ∀ (d k j : Nat), k ≤ j → j < k + d → f j = true → tCnt f d k ≠ 0
  | 0, k, j, h1, h2, _ => by omega
  | d + 1, k, j, h1, h2, h3 => by
    rw [tCnt]
    by_cases z : j = k
    · rw [← z, h3]; simp only [if_true]; omega
    · have := cnt_pos d (k + 1) j (by omega) (by omega) h3
      omega
theorem told_of {k : Nat} (hk : k < 48) (ho : hH η k = o + 1) : hCt η o ≠ 0 := cnt_pos 48 0 k (Nat.zero_le _) (by omega) (by simp [ho])
theorem HC_n {i : Nat → Nat → Int32} {k : Nat} (H : HC i η) (h0 : hH η k = 0) : HC (mm_ww i 70 k (-1)) η := by
  obtain ⟨a1, a2, a3, a4⟩ := H
  refine ⟨fun q hq => by rw [mw_k (by omega)]; exact a1 q hq, fun j hj => ?_, fun y hy => by rw [mw_k (show 71 ≠ 70 by omega), mw_k (show 72 ≠ 70 by omega), mw_k (show 73 ≠ 70 by omega), mw_k (show 74 ≠ 70 by omega), mw_k (show 75 ≠ 70 by omega), mw_k (show 76 ≠ 70 by omega)]; exact a3 y hy, fun y hy => by rw [mw_k (show 77 ≠ 70 by omega), mw_k (show 78 ≠ 70 by omega), mw_k (show 79 ≠ 70 by omega)]; exact a4 y hy⟩
  by_cases z : j = k
  · rw [z, mw_s, h0]; decide
  · rw [mw_j z]; exact a2 j hj
theorem HR_n {i : Nat → Nat → Int32} {k : Nat} (H : HR i η) (h0 : hH η k = 0) : HR (mm_ww i 122 k (-1)) η := by
  obtain ⟨a1, a2, a3, a4⟩ := H
  refine ⟨fun q hq => by rw [mw_k (by omega)]; exact a1 q hq, fun j hj => ?_, fun y hy => by rw [mw_k (show 123 ≠ 122 by omega), mw_k (show 124 ≠ 122 by omega), mw_k (show 125 ≠ 122 by omega), mw_k (show 126 ≠ 122 by omega)]; exact a3 y hy, fun y hy => by rw [mw_k (show 127 ≠ 122 by omega), mw_k (show 128 ≠ 122 by omega), mw_k (show 129 ≠ 122 by omega)]; exact a4 y hy⟩
  by_cases z : j = k
  · rw [z, mw_s, h0]; decide
  · rw [mw_j z]; exact a2 j hj
theorem hFn_z {n : Nat} (hx : hH η (6 * p + n) = 0) (hq : hH η (6 * q + n) = 0) : hFn η q p (n + 1) = hFn η q p n := by
  rw [← hFn_s hx]
  have : va_up (hH (hFn η q p n)) (6 * q + n) 0 = hH (hFn η q p n) := by
    funext k
    by_cases z : k = 6 * q + n
    · rw [z, up_s, hFn_q, hq]
    · rw [up_n z]
  exact congrArg (fun f => ((hP η, f, hO η, hC η, hS η, hB η) : mH)) this
theorem hc_fk_loop (hb : ∀ k, k < 48 → hH η k ≤ 16) (hp : p < 8) (hq : q < 8) (hpq : p ≠ q) (hq0 : ∀ h, h < 6 → hH η (6 * q + h) = 0) : ∀ (D n : Nat) (i : Nat → Nat → Int32) (u : Option Value), n + D = 6 → HC i (hFn η q p n) → ∃ i', mm_V 80 14 [some (.ref 68), some (.int (nI q)), some (.int (nI p)), some (.int (nI n)), u] [] (mm_Z m w i l e) = some (.inl none, mm_Z m w i' l e) ∧ HC i' (hFn η q p 6) ∧ (∀ r, r ≠ 70 → r ≠ 71 → i' r = i r)
  | 0, n, i, u, hn, H => by
    refine ⟨i, ?_, by rw [← show n = 6 by omega]; exact H, fun _ _ _ => rfl⟩
    rw [mr_80_14, na_6, if_neg (by rw [nI_ltI (by omega) (by omega)]; omega)]
  | D + 1, n, i, u, hn, H => by
    have hbk := hb (6 * p + n) (by omega)
    have hP1 : hH (hFn η q p n) (6 * p + n) = hH η (6 * p + n) := by rw [hFn_p hpq (by omega), if_pos (by omega)]
    have hQ1 : hH (hFn η q p n) (6 * q + n) = 0 := by rw [hFn_q]; exact hq0 n (by omega)
    rw [mr_80_14, na_6, if_pos ((nI_ltI (by omega) (by omega)).mpr (by omega)), hc_opening H hp (by omega), mb_l, mb_v, mr_80_26, hP1, na_6, na_mul, nI_add, if_neg (no_out (by omega) (by omega)), nI_clamp (by omega), Nat.mul_comm q 6, nI_1]
    simp only [nz_m1 (show hH η (6 * p + n) < 2 ^ 31 by omega)]
    by_cases z : hH η (6 * p + n) = 0
    · rw [if_pos z, z, show (nI 0 - 1 : Int32) = -1 by decide]
      obtain ⟨i', e1, e2, e3⟩ := hc_fk_loop hb hp hq hpq hq0 D (n + 1) (mm_ww i 70 (6 * q + n) (-1)) (some (.int (-1))) (by omega) (by rw [hFn_z z (hq0 n (by omega))]; exact HC_n H hQ1)
      exact ⟨i', e1, e2, fun r h1 h2 => by rw [e3 r h1 h2, mw_k h1]⟩
    · obtain ⟨o, ho⟩ : ∃ o, hH η (6 * p + n) = o + 1 := ⟨hH η (6 * p + n) - 1, by omega⟩
      have ho16 : ¬ mm_out (nI o) 16 := no_out (by omega) (by omega)
      have ht : hCt (hFn η q p n) o ≠ 0 := told_of (k := 6 * p + n) (by omega) (by rw [hP1, ho])
      have c2 := (H.2.2.1 o (by omega)).2 ht
      have H1 := HC_tl H (k := 6 * q + n) (o := o) (by omega) (by omega) hQ1 c2
      have eT : hTl (hFn η q p n) (6 * q + n) o = hFn η q p (n + 1) := hFn_s ho
      rw [eT] at H1
      rw [if_neg z, ho, nI_pred, if_neg ho16, if_neg ho16, nI_clamp (by omega), (H.2.2.1 o (by omega)).1, nI_1]
      obtain ⟨i', e1, e2, e3⟩ := hc_fk_loop hb hp hq hpq hq0 D (n + 1) (mm_ww (mm_ww i 70 (6 * q + n) (nI o)) 71 o (nI (hCt (hFn η q p n) o + 1))) (some (.int (nI o))) (by omega) H1
      exact ⟨i', e1, e2, fun r h1 h2 => by rw [e3 r h1 h2, mw_k h2, mw_k h1]⟩
/-- q like p -/
def hFk (η : mH) (q p : Nat) : mH := hFn (hSq η q (hP η p)) q p 6
theorem HC_sq {i : Nat → Nat → Int32} (H : HC i η) {x : Nat} {y : Int32} (hy : y = nI x - 1) : HC (mm_ww i 69 q y) (hSq η q x) := by
  subst hy
  obtain ⟨a1, a2, a3, a4⟩ := H
  refine ⟨fun j hj => ?_, fun j hj => by rw [mw_k (by omega)]; exact a2 j hj, fun y hy => by rw [mw_k (show 71 ≠ 69 by omega), mw_k (show 72 ≠ 69 by omega), mw_k (show 73 ≠ 69 by omega), mw_k (show 74 ≠ 69 by omega), mw_k (show 75 ≠ 69 by omega), mw_k (show 76 ≠ 69 by omega)]; exact a3 y hy, fun y hy => by rw [mw_k (show 77 ≠ 69 by omega), mw_k (show 78 ≠ 69 by omega), mw_k (show 79 ≠ 69 by omega)]; exact a4 y hy⟩
  show _ = nI (va_up (hP η) q x j) - 1
  by_cases z : j = q
  · rw [z, mw_s, up_s]
  · rw [mw_j z, up_n z]; exact a1 j hj
theorem HR_sq {i : Nat → Nat → Int32} (H : HR i η) {x : Nat} {y : Int32} (hy : y = nI x - 1) : HR (mm_ww i 121 q y) (hSq η q x) := by
  subst hy
  obtain ⟨a1, a2, a3, a4⟩ := H
  refine ⟨fun j hj => ?_, fun j hj => by rw [mw_k (by omega)]; exact a2 j hj, fun y hy => by rw [mw_k (show 123 ≠ 121 by omega), mw_k (show 124 ≠ 121 by omega), mw_k (show 125 ≠ 121 by omega), mw_k (show 126 ≠ 121 by omega)]; exact a3 y hy, fun y hy => by rw [mw_k (show 127 ≠ 121 by omega), mw_k (show 128 ≠ 121 by omega), mw_k (show 129 ≠ 121 by omega)]; exact a4 y hy⟩
  show _ = nI (va_up (hP η) q x j) - 1
  by_cases z : j = q
  · rw [z, mw_s, up_s]
  · rw [mw_j z, up_n z]; exact a1 j hj
theorem hc_startLike {i : Nat → Nat → Int32} (H : HC i η) (hw : HW η) (hp : p < 8) (hq : q < 8) (hpq : p ≠ q) (hq0 : hP η q = 0) : ∃ i', mm_V 80 0 [some (.ref 68), some (.int (nI q)), some (.int (nI p)), none, none] [] (mm_Z m w i l e) = some (.inl none, mm_Z m w i' l e) ∧ HC i' (hFk η q p) ∧ (∀ r, r ≠ 69 → r ≠ 70 → r ≠ 71 → i' r = i r) := by
  have H1 : HC (mm_ww i 69 q (i 69 p)) (hSq η q (hP η p)) := HC_sq H (H.1 p hp)
  obtain ⟨i', e1, e2, e3⟩ := hc_fk_loop (m := m) (w := w) (l := l) (e := e) (η := hSq η q (hP η p)) hw.2.1 hp hq hpq (fun h hh => (hw.1 q hq).2 hq0 h hh) 6 0 _ none rfl (by rw [hFn_0]; exact H1)
  refine ⟨i', ?_, e2, fun r h1 h2 h3 => by rw [e3 r h2 h3, mw_k h1]⟩
  rw [mr_80_0, if_neg (no_out hp (by omega)), if_neg (no_out hq (by omega)), nI_clamp (by omega), nI_clamp (by omega), na_0]
  exact e1
theorem hr_fk_loop (hb : ∀ k, k < 48 → hH η k ≤ 16) (hp : p < 8) (hq : q < 8) (hpq : p ≠ q) (hq0 : ∀ h, h < 6 → hH η (6 * q + h) = 0) : ∀ (D n : Nat) (i : Nat → Nat → Int32), n + D = 6 → HR i (hFn η q p n) → ∃ i', mm_V 320 84 [some (.ref 83), some (.int (nI p)), some (.int (nI q)), some (.int (nI n))] [] (mm_Z m w i l e) = some (.inl (some (.int (nI q))), mm_Z m w i' l e) ∧ HR i' (hFn η q p 6) ∧ (∀ r, r ≠ 122 → i' r = i r)
  | 0, n, i, hn, H => by
    refine ⟨i, ?_, by rw [← show n = 6 by omega]; exact H, fun _ _ => rfl⟩
    rw [mr_320_84, na_6, if_neg (by rw [nI_ltI (by omega) (by omega)]; omega)]
  | D + 1, n, i, hn, H => by
    have hbk := hb (6 * p + n) (by omega)
    have hP1 : hH (hFn η q p n) (6 * p + n) = hH η (6 * p + n) := by rw [hFn_p hpq (by omega), if_pos (by omega)]
    have hQ1 : hH (hFn η q p n) (6 * q + n) = 0 := by rw [hFn_q]; exact hq0 n (by omega)
    have e2 : i 122 (6 * p + n) = nI (hH η (6 * p + n)) - 1 := by rw [H.2.1 _ (by omega), hP1]
    rw [mr_320_84]
    simp only [na_6, na_mul, nI_add, nI_1, nI_ltI (show n < 2 ^ 31 by omega) (show 6 < 2 ^ 31 by omega), nI_clamp (show 6 * p + n < 2 ^ 31 by omega), nI_clamp (show 6 * q + n < 2 ^ 31 by omega), e2]
    rw [if_pos (by omega), if_neg (no_out (by omega) (by omega)), if_neg (no_out (by omega) (by omega))]
    by_cases z : hH η (6 * p + n) = 0
    · rw [z, show (nI 0 - 1 : Int32) = -1 by decide]
      obtain ⟨i', e1, e2, e3⟩ := hr_fk_loop hb hp hq hpq hq0 D (n + 1) (mm_ww i 122 (6 * q + n) (-1)) (by omega) (by rw [hFn_z z (hq0 n (by omega))]; exact HR_n H hQ1)
      exact ⟨i', e1, e2, fun r h1 => by rw [e3 r h1, mw_k h1]⟩
    · obtain ⟨o, ho⟩ : ∃ o, hH η (6 * p + n) = o + 1 := ⟨hH η (6 * p + n) - 1, by omega⟩
      have ht : hCt (hFn η q p n) o ≠ 0 := told_of (k := 6 * p + n) (by omega) (by rw [hP1, ho])
      obtain ⟨c1, c2⟩ := H.2.2.1 o (by omega)
      rw [if_neg ht] at c1
      have H1 := HR_tl H (k := 6 * q + n) (o := o) (by omega) (by omega) hQ1 ⟨c1, c2 ht⟩
      have eT : hTl (hFn η q p n) (6 * q + n) o = hFn η q p (n + 1) := hFn_s ho
      rw [eT] at H1
      rw [ho, nI_pred]
      obtain ⟨i', e1, e2, e3⟩ := hr_fk_loop hb hp hq hpq hq0 D (n + 1) (mm_ww i 122 (6 * q + n) (nI o)) (by omega) H1
      exact ⟨i', e1, e2, fun r h1 => by rw [e3 r h1, mw_k h1]⟩
end MM93
