/-! TAKING WHAT IS SURE; THE SWEEP -/
section MM69
variable {t w : Bool} {l : Nat → Nat → Int64} {e : Bool × Nat × Nat} {τ σ : mT} {m : Nat}
theorem tk_1 : ∀ (D k : Nat) (i : Nat → Nat → Int32), k + D = 32 → (∀ n, n < k → i 113 n = i 119 n ∧ i 114 n = i 119 (32 + n) ∧ i 115 n = i 119 (64 + n)) → ∃ i', mm_V 279 2 [some (.ref 83), some (.int (nI k))] [] (mm_Z m w i l e) = mm_V 279 58 [some (.ref 83), some (.int (nI 0))] [] (mm_Z m w i' l e) ∧ (∀ n, n < 32 → i' 113 n = i 119 n ∧ i' 114 n = i 119 (32 + n) ∧ i' 115 n = i 119 (64 + n)) ∧ (∀ q, q < 113 ∨ 115 < q → i' q = i q)
  | 0, k, i, hk, h => by
    refine ⟨i, ?_, fun n hn => h n (by omega), fun _ _ => rfl⟩
    rw [mr_279_2, na_32, if_neg (by rw [nI_ltI (by omega) (by omega)]; omega)]
    rfl
  | D + 1, k, i, hk, h => by
    obtain ⟨i', e1, e2, e3⟩ := tk_1 D (k + 1) (mm_ww (mm_ww (mm_ww i 113 k (i 119 k)) 114 k (i 119 (32 + k))) 115 k (i 119 (64 + k))) (by omega) (fun n hn => by
      rw [mw_k (show 119 ≠ 115 by omega), mw_k (show 119 ≠ 114 by omega), mw_k (show 119 ≠ 113 by omega), mw_k (show 113 ≠ 115 by omega), mw_k (show 113 ≠ 114 by omega), mw_k (show 114 ≠ 115 by omega), mw_r, mw_r, mw_r, mw_k (show 114 ≠ 113 by omega), mw_k (show 115 ≠ 114 by omega), mw_k (show 115 ≠ 113 by omega)]
      by_cases z : n = k
      · subst z; simp
      · simp only [if_neg z]; exact h n (by omega))
    refine ⟨i', ?_, fun n hn => by
      have := e2 n hn
      rw [mw_k (show 119 ≠ 115 by omega), mw_k (show 119 ≠ 114 by omega), mw_k (show 119 ≠ 113 by omega)] at this
      exact this, fun q hq => by rw [e3 q hq, mw_k (by omega), mw_k (by omega), mw_k (by omega)]⟩
    rw [mr_279_2]
    simp only [na_32, na_64, nI_ltI (show k < 2 ^ 31 by omega) (show 32 < 2 ^ 31 by omega), nI_add, nI_1, nI_clamp (show k < 2 ^ 31 by omega), nI_clamp (show 32 + k < 2 ^ 31 by omega), nI_clamp (show 64 + k < 2 ^ 31 by omega)]
    rw [if_pos (by omega), if_neg (no_out (by omega) (by omega)), if_neg (no_out (by omega) (by omega)), if_neg (no_out (by omega) (by omega)), if_neg (no_out (by omega) (by omega)), if_neg (no_out (by omega) (by omega)), if_neg (no_out (by omega) (by omega))]
    exact e1
theorem tk_2 : ∀ (D k : Nat) (i : Nat → Nat → Int32), k + D = 768 → (∀ n, n < k → i 116 n = i 119 (96 + n)) → ∃ i', mm_V 279 58 [some (.ref 83), some (.int (nI k))] [] (mm_Z m w i l e) = mm_V 279 88 [some (.ref 83), some (.int (nI 0))] [] (mm_Z m w i' l e) ∧ (∀ n, n < 768 → i' 116 n = i 119 (96 + n)) ∧ (∀ q, q ≠ 116 → i' q = i q)
  | 0, k, i, hk, h => by
    refine ⟨i, ?_, fun n hn => h n (by omega), fun _ _ => rfl⟩
    rw [mr_279_58, na_768, if_neg (by rw [nI_ltI (by omega) (by omega)]; omega)]
    rfl
  | D + 1, k, i, hk, h => by
    obtain ⟨i', e1, e2, e3⟩ := tk_2 D (k + 1) (mm_ww i 116 k (i 119 (96 + k))) (by omega) (fun n hn => by
      rw [mw_k (show 119 ≠ 116 by omega)]
      by_cases z : n = k
      · subst z; rw [mw_s]
      · rw [mw_j z, h n (by omega)])
    refine ⟨i', ?_, fun n hn => by rw [e2 n hn, mw_k (by omega)], fun q hq => by rw [e3 q hq, mw_k hq]⟩
    rw [mr_279_58]
    simp only [na_768, na_96, nI_ltI (show k < 2 ^ 31 by omega) (show 768 < 2 ^ 31 by omega), nI_add, nI_1, nI_clamp (show k < 2 ^ 31 by omega), nI_clamp (show 96 + k < 2 ^ 31 by omega)]
    rw [if_pos (by omega), if_neg (no_out (by omega) (by omega)), if_neg (no_out (by omega) (by omega))]
    exact e1
theorem tk_3 : ∀ (D k : Nat) (i : Nat → Nat → Int32), k + D = 320 → (∀ n, n < k → i 117 n = i 119 (864 + n) ∧ i 118 n = i 119 (1184 + n)) → ∃ i', mm_V 279 88 [some (.ref 83), some (.int (nI k))] [] (mm_Z m w i l e) = some (.inl none, mm_Z m w i' l e) ∧ (∀ n, n < 320 → i' 117 n = i 119 (864 + n) ∧ i' 118 n = i 119 (1184 + n)) ∧ (∀ q, q < 117 ∨ 118 < q → i' q = i q)
  | 0, k, i, hk, h => by
    refine ⟨i, ?_, fun n hn => h n (by omega), fun _ _ => rfl⟩
    rw [mr_279_88, na_320, if_neg (by rw [nI_ltI (by omega) (by omega)]; omega)]
  | D + 1, k, i, hk, h => by
    obtain ⟨i', e1, e2, e3⟩ := tk_3 D (k + 1) (mm_ww (mm_ww i 117 k (i 119 (864 + k))) 118 k (i 119 (1184 + k))) (by omega) (fun n hn => by
      rw [mw_k (show 119 ≠ 118 by omega), mw_k (show 119 ≠ 117 by omega), mw_k (show 117 ≠ 118 by omega), mw_r, mw_r, mw_k (show 118 ≠ 117 by omega)]
      by_cases z : n = k
      · subst z; simp
      · simp only [if_neg z]; exact h n (by omega))
    refine ⟨i', ?_, fun n hn => by
      have := e2 n hn
      rw [mw_k (show 119 ≠ 118 by omega), mw_k (show 119 ≠ 117 by omega)] at this
      exact this, fun q hq => by rw [e3 q hq, mw_k (by omega), mw_k (by omega)]⟩
    rw [mr_279_88]
    simp only [na_320, na_864, na_1184, nI_ltI (show k < 2 ^ 31 by omega) (show 320 < 2 ^ 31 by omega), nI_add, nI_1, nI_clamp (show k < 2 ^ 31 by omega), nI_clamp (show 864 + k < 2 ^ 31 by omega), nI_clamp (show 1184 + k < 2 ^ 31 by omega)]
    rw [if_pos (by omega), if_neg (no_out (by omega) (by omega)), if_neg (no_out (by omega) (by omega)), if_neg (no_out (by omega) (by omega)), if_neg (no_out (by omega) (by omega))]
    exact e1
theorem jr_takeSure {i : Nat → Nat → Int32} (h : TS i τ) (hw : TW τ) : ∃ i', mm_V 279 0 [some (.ref 83), none] [] (mm_Z m w i l e) = some (.inl none, mm_Z m w i' l e) ∧ TR i' τ ∧ mF 113 118 i i' := by
  obtain ⟨i1, a1, a2, a3⟩ := tk_1 (m := m) (w := w) (l := l) (e := e) 32 0 i rfl (fun n hn => by omega)
  obtain ⟨i2, b1, b2, b3⟩ := tk_2 (m := m) (w := w) (l := l) (e := e) 768 0 i1 rfl (fun n hn => by omega)
  obtain ⟨i3, c1, c2, c3⟩ := tk_3 (m := m) (w := w) (l := l) (e := e) 320 0 i2 rfl (fun n hn => by omega)
  refine ⟨i3, ?_, ?_, fun q hq => by rw [c3 q (by omega), b3 q (by omega), a3 q (by omega)]⟩
  · rw [mr_279_0, na_0, a1, b1, c1]
  · intro n hn
    obtain ⟨h1, h2, h3, h4, h5⟩ := h n hn
    obtain ⟨g0, g1, g2⟩ := hw n hn
    obtain ⟨p1, p2, p3⟩ := a2 n hn
    refine ⟨?_, ?_, ?_, ?_, ?_⟩
    · rw [c3 _ (by omega), b3 _ (by omega), p1, h1]
    · rw [c3 _ (by omega), b3 _ (by omega), p2, h2]
    · rw [c3 _ (by omega), b3 _ (by omega), p3, h3]
    · intro z k hk
      rw [c3 _ (by omega), b2 _ (by omega), a3 _ (by omega)]; exact h4 z k hk
    · intro z k hk
      have := (g2 z).1
      rw [(c2 _ (by omega)).1, (c2 _ (by omega)).2, b3 _ (by omega), a3 _ (by omega)]; exact h5 z k hk
def tAny (p : Nat → Bool) : Nat → Nat → Bool
  | 0, _ => false
  | d + 1, k => p k || tAny p d (k + 1)
theorem tAny_iff (p : Nat → Bool) : ∀ d k, tAny p d k = true ↔ ∃ j, k ≤ j ∧ j < k + d ∧ p j = true
  | 0, k => by simp [tAny]; intro x h1 h2; omega
  | d + 1, k => by
    rw [tAny, Bool.or_eq_true, tAny_iff p d (k + 1)]
    constructor
    · rintro (h | ⟨j, h1, h2, h3⟩)
      · exact ⟨k, Nat.le_refl _, by omega, h⟩
      · exact ⟨j, by omega, by omega, h3⟩
    · rintro ⟨j, h1, h2, h3⟩
      by_cases z : j = k
      · subst z; exact Or.inl h3
      · exact Or.inr ⟨j, by omega, by omega, h3⟩
def bI (b : Bool) : Int32 := if b = true then 1 else 0
theorem bI_t : bI true = 1 := rfl
theorem bI_f : bI false = 0 := rfl
theorem bI_01 (b : Bool) : bI b = 0 ∨ bI b = 1 := by cases b <;> decide
theorem bI_0 {b : Bool} : (bI b = 0) ↔ b = false := by cases b <;> decide
theorem tr_held_loop {i : Nat → Nat → Int32} {n : Nat} : ∀ (D k : Nat) (b : Bool), k + D = 16 → mm_V 271 4 [some (.ref 83), some (.int (nI n)), some (.int (bI b)), some (.int (nI k))] [] (mm_Z m w i l e) = some (.inl (some (.int (bI (b || tAny (fun o => decide (i 123 o = nI n)) D k)))), mm_Z m w i l e)
  | 0, k, b, hk => by
    rw [mr_271_4, na_16, if_neg (by rw [nI_ltI (by omega) (by omega)]; omega), if_pos (bI_01 b), tAny, Bool.or_false]
  | D + 1, k, b, hk => by
    rw [mr_271_4, na_16, if_pos ((nI_ltI (by omega) (by omega)).mpr (by omega)), nI_1]
    cases b with
    | true =>
      rw [bI_t, if_neg (by decide), ← bI_t, tr_held_loop D (k + 1) true (by omega), Bool.true_or, Bool.true_or]
    | false =>
      rw [bI_f, if_pos rfl, if_neg (no_out (by omega) (by omega))]
      simp only [nI_clamp (show k < 2 ^ 31 by omega)]
      by_cases q : i 123 k = nI n
      · rw [if_pos q, ← bI_t, tr_held_loop D (k + 1) true (by omega), tAny]
        simp [q]
      · rw [if_neg q, ← bI_f, tr_held_loop D (k + 1) false (by omega), tAny]
        simp [q]
theorem tr_isHeld {i : Nat → Nat → Int32} {n : Nat} : mm_V 271 0 [some (.ref 83), some (.int (nI n)), none, none] [] (mm_Z m w i l e) = some (.inl (some (.int (bI (tAny (fun o => decide (i 123 o = nI n)) 16 0)))), mm_Z m w i l e) := by
  rw [mr_271_0]
  exact tr_held_loop 16 0 false rfl
/-- the sweep: nodes from k on without links that aren't held go -/
def tSwp (held : Nat → Bool) : Nat → Nat → mT → mT
  | 0, _, τ => τ
  | d + 1, k, τ => tSwp held d (k + 1) (if tk τ k ≠ 0 ∧ tL τ k = 0 ∧ held k = false then tDr τ k else τ)
theorem tw_dr {a : Nat} (h : TW τ) : TW (tDr τ a) := by
  intro n hn
  obtain ⟨g1, g2, g3⟩ := h n hn
  by_cases z : n = a
  · subst z
    simp only [tk_tDr, ts_tDr, tm_tDr, td_tDr, up_s]
    exact ⟨by omega, g2, fun q => by omega⟩
  · simp only [tk_tDr, ts_tDr, tm_tDr, td_tDr, up_n z]
    exact ⟨g1, g2, g3⟩
theorem tn_dr {a : Nat} (h : TN τ) : TN (tDr τ a) := by
  intro n hn hk
  by_cases z : n = a
  · subst z
    simp only [tk_tDr, up_s] at hk
    omega
  · simp only [tk_tDr, up_n z] at hk
    exact h n hn hk
theorem tw_swp {held : Nat → Bool} : ∀ (d k : Nat) (τ : mT), TW τ → TW (tSwp held d k τ)
  | 0, _, _, h => h
  | d + 1, k, τ, h => by
    rw [tSwp]
    split
    · exact tw_swp d (k + 1) _ (tw_dr h)
    · exact tw_swp d (k + 1) _ h
theorem tn_swp {held : Nat → Bool} : ∀ (d k : Nat) (τ : mT), TN τ → TN (tSwp held d k τ)
  | 0, _, _, h => h
  | d + 1, k, τ, h => by
    rw [tSwp]
    split
    · exact tn_swp d (k + 1) _ (tn_dr h)
    · exact tn_swp d (k + 1) _ h
theorem tL_lt (h : TW τ) (x : Nat) : tL τ x < 2 ^ 31 := by
  have : tL τ x ≤ 24 * 32 := tSum_le 32 0 (fun j _ hj => by
    unfold tLd
    split
    · have := tCnt_le (fun k => td τ j k == x) (ts τ j) 0
      have := (h j (by omega)).2.1
      omega
    · omega)
  omega
theorem tr_sweep_loop {held : Nat → Bool} : ∀ (D k : Nat) (i : Nat → Nat → Int32) (τ : mT), k + D = 32 → (∀ n, n < 32 → held n = tAny (fun o => decide (i 123 o = nI n)) 16 0) → TR i τ → TW τ → ∃ i', mm_V 272 2 [some (.ref 83), some (.int (nI k))] [] (mm_Z m w i l e) = some (.inl none, mm_Z m w i' l e) ∧ TR i' (tSwp held D k τ) ∧ (∀ q, q ≠ 113 → i' q = i q)
  | 0, k, i, τ, hk, hh, h, hw => by
    refine ⟨i, ?_, h, fun _ _ => rfl⟩
    rw [mr_272_2, na_32, if_neg (by rw [nI_ltI (by omega) (by omega)]; omega)]
  | D + 1, k, i, τ, hk, hh, h, hw => by
    rw [mr_272_2]
    simp only [na_32, nI_ltI (show k < 2 ^ 31 by omega) (show 32 < 2 ^ 31 by omega), nI_clamp (show k < 2 ^ 31 by omega), (h k (by omega)).1, nk_0 (hw k (by omega)).1, nI_1]
    rw [if_pos (by omega), if_neg (no_out (by omega) (by omega)), tSwp]
    by_cases q1 : tk τ k ≠ 0
    · rw [if_pos q1, tr_linksOf h hw (by omega), mb_l, mb_v, mr_272_22, na_0, nI_1]
      simp only [nI_eq (tL_lt hw k) (show 0 < 2 ^ 31 by omega)]
      by_cases q2 : tL τ k = 0
      · rw [if_pos q2, tr_isHeld, mb_l, mb_v, mr_272_30, nI_1]
        simp only [bI_0, ← hh k (by omega), nI_clamp (show k < 2 ^ 31 by omega)]
        by_cases q3 : held k = false
        · rw [if_pos q3, if_neg (no_out (by omega) (by omega)), if_pos ⟨q1, q2, q3⟩]
          obtain ⟨i', e1, e2, e3⟩ := tr_sweep_loop (held := held) D (k + 1) (mm_ww i 113 k 0) (tDr τ k) (by omega) (fun n hn => (hh n hn).trans (by rw [mw_k (by omega)])) (TR_dr h) (tw_dr hw)
          exact ⟨i', e1, e2, fun q hq => by rw [e3 q hq, mw_k hq]⟩
        · rw [if_neg q3, if_neg (fun z => q3 z.2.2)]
          exact tr_sweep_loop D (k + 1) i τ (by omega) hh h hw
      · rw [if_neg q2, if_neg (fun z => q2 z.2.1)]
        exact tr_sweep_loop D (k + 1) i τ (by omega) hh h hw
    · rw [if_neg q1, if_neg (fun z => q1 z.1)]
      exact tr_sweep_loop D (k + 1) i τ (by omega) hh h hw
theorem tr_sweep {held : Nat → Bool} {i : Nat → Nat → Int32} (hh : ∀ n, n < 32 → held n = tAny (fun o => decide (i 123 o = nI n)) 16 0) (h : TR i τ) (hw : TW τ) : ∃ i', mm_V 272 0 [some (.ref 83), none] [] (mm_Z m w i l e) = some (.inl none, mm_Z m w i' l e) ∧ TR i' (tSwp held 31 1 τ) ∧ (∀ q, q ≠ 113 → i' q = i q) := by
  rw [mr_272_0, na_1]
  exact tr_sweep_loop 31 1 i τ rfl hh h hw
theorem tc_drop_loop : ∀ (D k : Nat) (i : Nat → Nat → Int32) (τ : mT), k + D = 32 → TC t i τ → TW τ → ∃ i', mm_V 155 2 [some (.ref (mm_Tr t)), some (.int (nI k))] [] (mm_Z m w i l e) = some (.inl none, mm_Z m w i' l e) ∧ TC t i' (tSwp (fun _ => false) D k τ) ∧ (∀ q, q ≠ mm_Tr t + 1 → i' q = i q)
  | 0, k, i, τ, hk, h, hw => by
    refine ⟨i, ?_, h, fun _ _ => rfl⟩
    rw [mr_155_2, na_32, if_neg (by rw [nI_ltI (by omega) (by omega)]; omega)]
  | D + 1, k, i, τ, hk, h, hw => by
    rw [mr_155_2, na_32, if_pos ((nI_ltI (by omega) (by omega)).mpr (by omega)), tc_isThere h hw (by omega), mb_l, mb_v, mr_155_13, tSwp]
    by_cases q1 : tk τ k = 0
    · rw [if_pos q1, if_pos rfl, mr_155_29, nI_1, if_neg (fun z => z.1 q1)]
      exact tc_drop_loop D (k + 1) i τ (by omega) h hw
    · rw [if_neg q1, if_neg (by decide), tc_linksOf h hw (by omega), mb_l, mb_v, mr_155_21, na_0]
      simp only [nI_eq (tL_lt hw k) (show 0 < 2 ^ 31 by omega)]
      by_cases q2 : tL τ k = 0
      · rw [if_pos q2, tc_drop (by omega), mb_l, mb_0, mr_155_29, nI_1, if_pos ⟨q1, q2, trivial⟩]
        obtain ⟨i', e1, e2, e3⟩ := tc_drop_loop D (k + 1) (mm_ww i (mm_Tr t + 1) k (-1)) (tDr τ k) (by omega) (TC_dr h) (tw_dr hw)
        exact ⟨i', e1, e2, fun q hq => by rw [e3 q hq, mw_k hq]⟩
      · rw [if_neg q2, mr_155_29, nI_1, if_neg (fun z => q2 z.2.1)]
        exact tc_drop_loop D (k + 1) i τ (by omega) h hw
theorem tc_dropUnlinked {i : Nat → Nat → Int32} (h : TC t i τ) (hw : TW τ) : ∃ i', mm_V 155 0 [some (.ref (mm_Tr t)), none] [] (mm_Z m w i l e) = some (.inl none, mm_Z m w i' l e) ∧ TC t i' (tSwp (fun _ => false) 31 1 τ) ∧ (∀ q, q ≠ mm_Tr t + 1 → i' q = i q) := by
  rw [mr_155_0, na_1]
  exact tc_drop_loop 31 1 i τ rfl h hw
end MM69
