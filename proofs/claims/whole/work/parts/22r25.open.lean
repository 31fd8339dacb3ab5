/-! HOLDINGS: start, tell, open -/
section MM84
variable {w : Bool} {l : Nat → Nat → Int64} {e : Bool × Nat × Nat} {η : mH} {m p h o q : Nat}
theorem fill_loop {a ln : Nat} {x : Int32} (ha : mm_oc (mm_T0 m) (147, e) a 1 = true) (hl : (mm_T0 m a).2 = ln) (hb : ln < 2 ^ 30) : ∀ (D k : Nat) (i : Nat → Nat → Int32), k + D = ln → (∀ j, j < k → i a j = x) → ∃ i', mm_V 361 5 [some (.ref a), some (.int x), some (.int (nI k)), some (.int (nI ln))] [] (mm_Z m w i l e) = some (.inl none, mm_Z m w i' l e) ∧ (∀ j, j < ln → i' a j = x) ∧ (∀ q, q ≠ a → i' q = i q)
  | 0, k, i, hk, hx => by
    refine ⟨i, ?_, fun j hj => hx j (by omega), fun _ _ => rfl⟩
    rw [mr_361_5 m w i l e ha hl, if_neg (by rw [nI_ltI (by omega) (by omega)]; omega)]
  | D + 1, k, i, hk, hx => by
    obtain ⟨i', e1, e2, e3⟩ := fill_loop ha hl hb D (k + 1) (mm_ww i a k x) (by omega) (fun j hj => by
      rw [mw_r]
      by_cases z : j = k
      · rw [if_pos z]
      · rw [if_neg z]; exact hx j (by omega))
    refine ⟨i', ?_, e2, fun q hq => by rw [e3 q hq, mw_k hq]⟩
    rw [mr_361_5 m w i l e ha hl]
    simp only [nI_ltI (show k < 2 ^ 31 by omega) (show ln < 2 ^ 31 by omega), nI_clamp (show k < 2 ^ 31 by omega), nI_1]
    rw [if_pos (by omega), if_neg (no_out (by omega) (by omega))]
    exact e1
theorem fill_all {a ln : Nat} {x : Int32} {i : Nat → Nat → Int32} (ha : mm_oc (mm_T0 m) (147, e) a 1 = true) (hl : (mm_T0 m a).2 = ln) (hb : ln < 2 ^ 30) : ∃ i', mm_V 361 0 [some (.ref a), some (.int x), none, none] [] (mm_Z m w i l e) = some (.inl none, mm_Z m w i' l e) ∧ (∀ j, j < ln → i' a j = x) ∧ (∀ q, q ≠ a → i' q = i q) := by
  rw [mr_361_0 m w i l e ha hl, na_0]
  exact fill_loop ha hl hb ln 0 i (by omega) (fun j hj => by omega)
/-- one process, nothing held -/
def hNew (η : mH) : mH := (fun p => if p = 0 then 1 else 0, fun _ => 0, hO η, fun _ => 0, hS η, hB η)
theorem cnt_no {f : Nat → Bool} : ∀ (d k : Nat), (∀ j, k ≤ j → j < k + d → f j = false) → tCnt f d k = 0
  | 0, _, _ => rfl
  | d + 1, k, h => by
    rw [tCnt, h k (Nat.le_refl _) (by omega), cnt_no d (k + 1) (fun j a b => h j (by omega) (by omega))]
    rfl
theorem hNew_ct (η : mH) (o : Nat) : hCt (hNew η) o = 0 := cnt_no 48 0 (fun j _ _ => by simp [hNew, hH])
theorem hNew_w (η : mH) (hw : HW η) : HW (hNew η) := by
  refine ⟨fun p hp => ⟨?_, fun _ h _ => rfl⟩, fun k hk => Nat.zero_le _, fun o ho z => absurd (hNew_ct η o) z, fun k hk => ⟨by show 0 < 2 ^ 30; omega, (hw.2.2.2 k hk).2.1, fun z => absurd rfl z⟩⟩
  show (if p = 0 then 1 else 0) < 2 ^ 30
  split <;> omega
theorem hc_startAnew {i : Nat → Nat → Int32} : ∃ i', mm_V 61 0 [some (.ref 68)] [] (mm_Z m w i l e) = some (.inl none, mm_Z m w i' l e) ∧ HC i' (hNew η) ∧ (∀ q, q ≠ 69 → q ≠ 70 → q ≠ 71 → q ≠ 77 → i' q = i q) := by
  obtain ⟨i1, a1, a2, a3⟩ := fill_all (m := m) (w := w) (l := l) (e := e) (a := 69) (ln := 8) (x := -1) (i := i) rfl rfl (by omega)
  obtain ⟨i2, b1, b2, b3⟩ := fill_all (m := m) (w := w) (l := l) (e := e) (a := 70) (ln := 48) (x := -1) (i := i1) rfl rfl (by omega)
  obtain ⟨i3, c1, c2, c3⟩ := fill_all (m := m) (w := w) (l := l) (e := e) (a := 71) (ln := 16) (x := 0) (i := i2) rfl rfl (by omega)
  obtain ⟨i4, d1, d2, d3⟩ := fill_all (m := m) (w := w) (l := l) (e := e) (a := 77) (ln := 4) (x := -1) (i := i3) rfl rfl (by omega)
  refine ⟨mm_ww i4 69 0 0, ?_, ⟨?_, ?_, ?_, ?_⟩, ?_⟩
  · rw [mr_61_0, a1, mb_l, mb_0, mr_61_8, b1, mb_l, mb_0, mr_61_16, c1, mb_l, mb_0, mr_61_24, d1, mb_l, mb_0, mr_61_32]
  · intro p hp
    by_cases z : p = 0
    · subst z; rw [mw_s]; show (0 : Int32) = nI 1 - 1; decide
    · rw [mw_j z, d3 _ (by omega), c3 _ (by omega), b3 _ (by omega), a2 p hp]
      show _ = nI (if p = 0 then 1 else 0) - 1
      rw [if_neg z]; decide
  · intro k hk
    rw [mw_k (by omega), d3 _ (by omega), c3 _ (by omega), b2 k hk]
    show _ = nI 0 - 1
    decide
  · intro o ho
    rw [mw_k (by omega), d3 _ (by omega), c2 o ho, hNew_ct]
    exact ⟨rfl, fun z => absurd rfl z⟩
  · intro k hk
    rw [mw_k (by omega), d2 k hk]
    exact ⟨by show _ = nI 0 - 1; decide, fun z => absurd rfl z⟩
  · intro q h1 h2 h3 h4
    rw [mw_k h1, d3 q h4, c3 q h3, b3 q h2, a3 q h1]
/-- a row of the reference, filled -/
theorem sp_1 : ∀ (D k : Nat) (i : Nat → Nat → Int32), k + D = 48 → (∀ j, j < k → i 122 j = -1) → ∃ i', mm_V 254 2 [some (.ref 83), some (.int (nI k))] [] (mm_Z m w i l e) = mm_V 254 23 [some (.ref 83), some (.int (nI 0))] [] (mm_Z m w i' l e) ∧ (∀ j, j < 48 → i' 122 j = -1) ∧ (∀ q, q ≠ 122 → i' q = i q)
  | 0, k, i, hk, hx => by
    refine ⟨i, ?_, fun j hj => hx j (by omega), fun _ _ => rfl⟩
    rw [mr_254_2, na_48, if_neg (by rw [nI_ltI (by omega) (by omega)]; omega)]
    rfl
  | D + 1, k, i, hk, hx => by
    obtain ⟨i', e1, e2, e3⟩ := sp_1 D (k + 1) (mm_ww i 122 k (-1)) (by omega) (fun j hj => by
      rw [mw_r]
      by_cases z : j = k
      · rw [if_pos z]
      · rw [if_neg z]; exact hx j (by omega))
    refine ⟨i', ?_, e2, fun q hq => by rw [e3 q hq, mw_k hq]⟩
    rw [mr_254_2]
    simp only [na_48, nI_ltI (show k < 2 ^ 31 by omega) (show 48 < 2 ^ 31 by omega), nI_clamp (show k < 2 ^ 31 by omega), nI_1]
    rw [if_pos (by omega), if_neg (no_out (by omega) (by omega))]
    exact e1
theorem sp_2 : ∀ (D k : Nat) (i : Nat → Nat → Int32), k + D = 16 → (∀ j, j < k → i 123 j = -1) → ∃ i', mm_V 254 23 [some (.ref 83), some (.int (nI k))] [] (mm_Z m w i l e) = mm_V 254 44 [some (.ref 83), some (.int (nI 0))] [] (mm_Z m w i' l e) ∧ (∀ j, j < 16 → i' 123 j = -1) ∧ (∀ q, q ≠ 123 → i' q = i q)
  | 0, k, i, hk, hx => by
    refine ⟨i, ?_, fun j hj => hx j (by omega), fun _ _ => rfl⟩
    rw [mr_254_23, na_16, if_neg (by rw [nI_ltI (by omega) (by omega)]; omega)]
    rfl
  | D + 1, k, i, hk, hx => by
    obtain ⟨i', e1, e2, e3⟩ := sp_2 D (k + 1) (mm_ww i 123 k (-1)) (by omega) (fun j hj => by
      rw [mw_r]
      by_cases z : j = k
      · rw [if_pos z]
      · rw [if_neg z]; exact hx j (by omega))
    refine ⟨i', ?_, e2, fun q hq => by rw [e3 q hq, mw_k hq]⟩
    rw [mr_254_23]
    simp only [na_16, nI_ltI (show k < 2 ^ 31 by omega) (show 16 < 2 ^ 31 by omega), nI_clamp (show k < 2 ^ 31 by omega), nI_1]
    rw [if_pos (by omega), if_neg (no_out (by omega) (by omega))]
    exact e1
theorem sp_3 : ∀ (D k : Nat) (i : Nat → Nat → Int32), k + D = 8 → (∀ j, j < k → i 121 j = -1) → ∃ i', mm_V 254 44 [some (.ref 83), some (.int (nI k))] [] (mm_Z m w i l e) = mm_V 254 65 [some (.ref 83), some (.int (nI 0))] [] (mm_Z m w i' l e) ∧ (∀ j, j < 8 → i' 121 j = -1) ∧ (∀ q, q ≠ 121 → i' q = i q)
  | 0, k, i, hk, hx => by
    refine ⟨i, ?_, fun j hj => hx j (by omega), fun _ _ => rfl⟩
    rw [mr_254_44, na_8, if_neg (by rw [nI_ltI (by omega) (by omega)]; omega)]
    rfl
  | D + 1, k, i, hk, hx => by
    obtain ⟨i', e1, e2, e3⟩ := sp_3 D (k + 1) (mm_ww i 121 k (-1)) (by omega) (fun j hj => by
      rw [mw_r]
      by_cases z : j = k
      · rw [if_pos z]
      · rw [if_neg z]; exact hx j (by omega))
    refine ⟨i', ?_, e2, fun q hq => by rw [e3 q hq, mw_k hq]⟩
    rw [mr_254_44]
    simp only [na_8, nI_ltI (show k < 2 ^ 31 by omega) (show 8 < 2 ^ 31 by omega), nI_clamp (show k < 2 ^ 31 by omega), nI_1]
    rw [if_pos (by omega), if_neg (no_out (by omega) (by omega))]
    exact e1
theorem sp_4 : ∀ (D k : Nat) (i : Nat → Nat → Int32), k + D = 4 → (∀ j, j < k → i 127 j = -1) → ∃ i', mm_V 254 65 [some (.ref 83), some (.int (nI k))] [] (mm_Z m w i l e) = some (.inl none, mm_Z m w (mm_ww i' 121 0 0) l e) ∧ (∀ j, j < 4 → i' 127 j = -1) ∧ (∀ q, q ≠ 127 → i' q = i q)
  | 0, k, i, hk, hx => by
    refine ⟨i, ?_, fun j hj => hx j (by omega), fun _ _ => rfl⟩
    rw [mr_254_65, na_4, if_neg (by rw [nI_ltI (by omega) (by omega)]; omega)]
  | D + 1, k, i, hk, hx => by
    obtain ⟨i', e1, e2, e3⟩ := sp_4 D (k + 1) (mm_ww i 127 k (-1)) (by omega) (fun j hj => by
      rw [mw_r]
      by_cases z : j = k
      · rw [if_pos z]
      · rw [if_neg z]; exact hx j (by omega))
    refine ⟨i', ?_, e2, fun q hq => by rw [e3 q hq, mw_k hq]⟩
    rw [mr_254_65]
    simp only [na_4, nI_ltI (show k < 2 ^ 31 by omega) (show 4 < 2 ^ 31 by omega), nI_clamp (show k < 2 ^ 31 by omega), nI_1]
    rw [if_pos (by omega), if_neg (no_out (by omega) (by omega))]
    exact e1
theorem hr_startProcesses {i : Nat → Nat → Int32} : ∃ i', mm_V 254 0 [some (.ref 83), none] [] (mm_Z m w i l e) = some (.inl none, mm_Z m w i' l e) ∧ HR i' (hNew η) ∧ (∀ q, q ≠ 121 → q ≠ 122 → q ≠ 123 → q ≠ 127 → i' q = i q) := by
  obtain ⟨i1, a1, a2, a3⟩ := sp_1 (m := m) (w := w) (l := l) (e := e) 48 0 i rfl (fun j hj => by omega)
  obtain ⟨i2, b1, b2, b3⟩ := sp_2 (m := m) (w := w) (l := l) (e := e) 16 0 i1 rfl (fun j hj => by omega)
  obtain ⟨i3, c1, c2, c3⟩ := sp_3 (m := m) (w := w) (l := l) (e := e) 8 0 i2 rfl (fun j hj => by omega)
  obtain ⟨i4, d1, d2, d3⟩ := sp_4 (m := m) (w := w) (l := l) (e := e) 4 0 i3 rfl (fun j hj => by omega)
  refine ⟨mm_ww i4 121 0 0, ?_, ⟨?_, ?_, ?_, ?_⟩, ?_⟩
  · rw [mr_254_0, na_0, a1, b1, c1, d1]; rfl
  · intro p hp
    by_cases z : p = 0
    · subst z; rw [mw_s]; show (0 : Int32) = nI 1 - 1; decide
    · rw [mw_j z, d3 _ (by omega), c2 p hp]
      show _ = nI (if p = 0 then 1 else 0) - 1
      rw [if_neg z]; decide
  · intro k hk
    rw [mw_k (by omega), d3 _ (by omega), c3 _ (by omega), b3 _ (by omega), a2 k hk]
    show _ = nI 0 - 1
    decide
  · intro o ho
    rw [mw_k (by omega), d3 _ (by omega), c3 _ (by omega), b2 o ho, hNew_ct]
    exact ⟨by rw [if_pos rfl], fun z => absurd rfl z⟩
  · intro k hk
    rw [mw_k (by omega), d2 k hk]
    exact ⟨by show _ = nI 0 - 1; decide, fun z => absurd rfl z⟩
  · intro q h1 h2 h3 h4
    rw [mw_k h1, d3 q h4, c3 q h1, b3 q h3, a3 q h2]
end MM84
