/-! THE TREE: deeds, bytes in the class; the reference -/
section MM64
variable {t w : Bool} {i : Nat → Nat → Int32} {l : Nat → Nat → Int64} {e : Bool × Nat × Nat} {τ : mT} {m n d k x name a b c at_ : Nat} {y : Int32}
/-- a row with zeros from a to b -/
def mZr (f : Nat → Int32) (a b : Nat) : Nat → Int32 := fun q => if a ≤ q ∧ q < b then 0 else f q
theorem mZr_0 (f : Nat → Int32) {a b : Nat} (h : b ≤ a) : mZr f a b = f := by
  funext q
  unfold mZr
  rw [if_neg (by omega)]
theorem mZr_step (f : Nat → Int32) {a b : Nat} (h : a ≤ b) : upd (mZr f a b) b 0 = mZr f a (b + 1) := by
  funext q
  unfold upd mZr
  by_cases e1 : q = b
  · subst e1
    rw [if_pos rfl, if_pos (by omega)]
  · rw [if_neg e1]
    by_cases e2 : a ≤ q ∧ q < b
    · rw [if_pos e2, if_pos (by omega)]
    · rw [if_neg e2, if_neg (by omega)]
theorem TC_wr (h : TC t i τ) (hw : TW τ) (ha : a < 32) (h1 : tk τ a = 1) (hb : b < 24) : TC t (mm_ww (mm_ww (va_up i (mm_Tr t + 4) (mZr (i (mm_Tr t + 4)) (24 * a + ts τ a) (24 * a + b))) (mm_Tr t + 4) (24 * a + b) y) (mm_Tr t + 3) a (nI (max (ts τ a) (b + 1)))) (tWr τ a b y) := by
  have hsa := (hw a ha).2.1
  intro x hx
  obtain ⟨g1, g2, g3, g4, g5⟩ := h x hx
  have hsx := (hw x hx).2.1
  by_cases q : x = a
  · subst q
    refine ⟨?_, ?_, ?_, ?_, ?_⟩
    · simpa [mm_ww, va_up, upd, tWr, tk] using g1
    · simpa [mm_ww, va_up, upd, tWr, tc] using g2
    · simp [mm_ww, va_up, upd, tWr, ts]
    · intro _ k hk
      have hk : k < max (ts τ x) (b + 1) := by simpa [tWr, ts, va_up] using hk
      simp only [tWr, tb, up_s]
      rw [mw_k (by omega), mw_r]
      by_cases r : k = b
      · subst r; rw [if_pos rfl, if_pos rfl]
      · rw [if_neg (by omega), if_neg r, up_s]
        unfold mZr
        by_cases r2 : ts τ x ≤ k
        · rw [if_pos (by omega), if_pos r2]
        · rw [if_neg (by omega), if_neg r2]
          exact g4 h1 k (by omega)
    · intro z; have : tk τ x = 2 := z; omega
  · have hne : ∀ k, k < ts τ x → (mm_ww (mm_ww (va_up i (mm_Tr t + 4) (mZr (i (mm_Tr t + 4)) (24 * a + ts τ a) (24 * a + b))) (mm_Tr t + 4) (24 * a + b) y) (mm_Tr t + 3) a (nI (max (ts τ a) (b + 1)))) (mm_Tr t + 4) (24 * x + k) = i (mm_Tr t + 4) (24 * x + k) := by
      intro k hk
      rw [mw_k (by omega), mw_j (by omega), up_s]
      unfold mZr
      rw [if_neg (by omega)]
    refine ⟨?_, ?_, ?_, ?_, ?_⟩
    · simpa [mm_ww, va_up, upd, tWr, tk] using g1
    · simpa [mm_ww, va_up, upd, tWr, tc] using g2
    · simpa [mm_ww, va_up, upd, tWr, ts, q] using g3
    · intro z k hk
      have hk : k < ts τ x := by simpa [tWr, ts, va_up, q] using hk
      rw [hne k hk]
      simp only [tWr, tb, up_n q]
      exact g4 z k hk
    · intro z k hk
      have hk : k < ts τ x := by simpa [tWr, ts, va_up, q] using hk
      rw [hne k hk]
      exact g5 z k hk
theorem tc_by_loop (ha : a < 32) (hb : b < 24) (f : Nat → Int32) {s : Nat} : ∀ (D k : Nat) (i : Nat → Nat → Int32), i (mm_Tr t + 3) a = nI s → s < 2 ^ 30 → (k + D = b ∨ (b ≤ k ∧ D = 0 ∧ k = s)) → s ≤ k → i (mm_Tr t + 4) = mZr f (24 * a + s) (24 * a + k) → mm_V 153 19 [some (.ref (mm_Tr t)), some (.int (nI a)), some (.int (nI b)), some (.int y), some (.int (nI k))] [] (mm_Z m w i l e) = some (.inl none, mm_Z m w (mm_ww (mm_ww (va_up i (mm_Tr t + 4) (mZr f (24 * a + s) (24 * a + b))) (mm_Tr t + 4) (24 * a + b) y) (mm_Tr t + 3) a (nI (max s (b + 1)))) l e)
  | 0, k, i, hs, hs2, hk, hsk, hi => by
    have ho : ¬ mm_out (nI a) 32 := by rw [na_out (by omega)]; omega
    rw [mr_153_19]
    simp only [nI_clamp (show a < 2 ^ 31 by omega), hs, nI_ltI (show k < 2 ^ 31 by omega) (show b < 2 ^ 31 by omega), na_24, na_1, na_mul, nI_add, Nat.mul_comm a 24, nI_clamp (show 24 * a + b < 2 ^ 31 by omega), nI_ltI (show s < 2 ^ 31 by omega) (show b + 1 < 2 ^ 31 by omega)]
    rw [if_neg (by omega), if_neg (by rw [na_out (by omega)]; omega), if_neg ho, if_neg ho]
    have e1 : va_up i (mm_Tr t + 4) (mZr f (24 * a + s) (24 * a + b)) = i := by
      funext q
      by_cases z : q = mm_Tr t + 4
      · subst z
        rw [up_s, hi]
        rcases hk with hk | hk
        · rw [show k = b by omega]
        · rw [mZr_0 f (by omega), mZr_0 f (by omega)]
      · rw [up_n z]
    have e2 : (if s < b + 1 then nI (b + 1) else nI s) = nI (max s (b + 1)) := by
      split
      · congr 1; omega
      · congr 1; omega
    rw [e1, e2]
  | D + 1, k, i, hs, hs2, hk, hsk, hi => by
    rw [mr_153_19]
    simp only [nI_clamp (show a < 2 ^ 31 by omega), nI_ltI (show k < 2 ^ 31 by omega) (show b < 2 ^ 31 by omega), na_24, na_mul, nI_add, nI_1, Nat.mul_comm a 24, nI_clamp (show 24 * a + k < 2 ^ 31 by omega)]
    rw [if_pos (by omega), if_neg (by rw [na_out (by omega)]; omega)]
    have hi2 : (mm_ww i (mm_Tr t + 4) (24 * a + k) 0) (mm_Tr t + 4) = mZr f (24 * a + s) (24 * a + (k + 1)) := by
      unfold mm_ww
      rw [up_s, hi, mZr_step f (show 24 * a + s ≤ 24 * a + k by omega)]
      rfl
    rw [tc_by_loop ha hb f D (k + 1) (mm_ww i (mm_Tr t + 4) (24 * a + k) 0) (by rw [mw_k (by omega)]; exact hs) hs2 (by omega) (by omega) hi2]
    congr 5
    funext q
    by_cases z : q = mm_Tr t + 4
    · subst z; simp [va_up]
    · simp [va_up, z, mm_ww]
theorem tc_setByte (h : TC t i τ) (hw : TW τ) (ha : a < 32) (hb : b < 24) : mm_V 153 0 [some (.ref (mm_Tr t)), some (.int (nI a)), some (.int (nI b)), some (.int y), none] [] (mm_Z m w i l e) = some (.inl none, mm_Z m w (mm_ww (mm_ww (va_up i (mm_Tr t + 4) (mZr (i (mm_Tr t + 4)) (24 * a + ts τ a) (24 * a + b))) (mm_Tr t + 4) (24 * a + b) y) (mm_Tr t + 3) a (nI (max (ts τ a) (b + 1)))) l e) := by
  have ho : ¬ mm_out (nI a) 32 := by rw [na_out (by omega)]; omega
  have hsa := (hw a ha).2.1
  rw [mr_153_0, if_neg (nI_pos (by omega)), na_24, if_pos ((nI_ltI (by omega) (by omega)).mpr hb), if_neg ho]
  simp only [nI_clamp (show a < 2 ^ 31 by omega), (h a ha).2.2.1]
  refine tc_by_loop ha hb (i (mm_Tr t + 4)) (b - ts τ a) (ts τ a) i (h a ha).2.2.1 (by omega) (by omega) (Nat.le_refl _) ?_
  rw [mZr_0 _ (Nat.le_refl _)]
/-- the reference -/
theorem TR_mk (h : TR i τ) (ha : a < 32) : TR (mm_ww (mm_ww (mm_ww i 113 a (nI c)) 114 a y) 115 a 0) (tMk τ a c y) := by
  intro n hn
  obtain ⟨h1, h2, h3, h4, h5⟩ := h n hn
  by_cases q : n = a
  · subst q
    refine ⟨?_, ?_, ?_, ?_, ?_⟩
    · simp [mm_ww, va_up, upd, tMk, tk]
    · simp [mm_ww, va_up, upd, tMk, tc]
    · simp [mm_ww, va_up, upd, tMk, ts, na_0]
    · intro _ k hk; simp [tMk, ts, va_up] at hk
    · intro _ k hk; simp [tMk, ts, va_up] at hk
  · refine ⟨?_, ?_, ?_, ?_, ?_⟩
    · simpa [mm_ww, va_up, upd, tMk, tk, q] using h1
    · simpa [mm_ww, va_up, upd, tMk, tc, q] using h2
    · simpa [mm_ww, va_up, upd, tMk, ts, q] using h3
    · intro z k hk
      have := h4 (by simpa [tMk, tk, va_up, q] using z) k (by simpa [tMk, ts, va_up, q] using hk)
      simpa [mm_ww, va_up, tMk, tb] using this
    · intro z k hk
      have := h5 (by simpa [tMk, tk, va_up, q] using z) k (by simpa [tMk, ts, va_up, q] using hk)
      simpa [mm_ww, va_up, tMk, tm, td] using this
theorem TR_ad (h : TR i τ) (hw : TW τ) (hd : d < 32) (h2 : tk τ d = 2) (hs : ts τ d < 10) : TR (mm_ww (mm_ww (mm_ww i 117 (10 * d + ts τ d) (nI name)) 118 (10 * d + ts τ d) (nI n)) 115 d (nI (ts τ d + 1))) (tAd τ d name n) := by
  intro x hx
  obtain ⟨g1, g2, g3, g4, g5⟩ := h x hx
  have hsx := (hw x hx).2.2
  by_cases q : x = d
  · subst q
    refine ⟨?_, ?_, ?_, ?_, ?_⟩
    · simpa [mm_ww, va_up, upd, tAd, tk] using g1
    · simpa [mm_ww, va_up, upd, tAd, tc] using g2
    · simp [mm_ww, va_up, upd, tAd, ts]
    · intro z; have : tk τ x = 1 := z; omega
    · intro _ k hk
      have hk : k < ts τ x + 1 := by simpa [tAd, ts, va_up] using hk
      by_cases r : k = ts τ x
      · subst r; simp [mm_ww, va_up, upd, tAd, tm, td, ts]
      · have := g5 h2 k (by omega)
        simpa [mm_ww, va_up, upd, tAd, tm, td, r] using this
  · refine ⟨?_, ?_, ?_, ?_, ?_⟩
    · simpa [mm_ww, va_up, upd, tAd, tk] using g1
    · simpa [mm_ww, va_up, upd, tAd, tc] using g2
    · simpa [mm_ww, va_up, upd, tAd, ts, q] using g3
    · intro z k hk
      have hk : k < ts τ x := by simpa [tAd, ts, va_up, q] using hk
      have := g4 z k hk
      simpa [mm_ww, va_up, upd, tAd, tb] using this
    · intro z k hk
      have hk : k < ts τ x := by simpa [tAd, ts, va_up, q] using hk
      have z2 : tk τ x = 2 := z
      have := g5 z2 k hk
      have hs2 := (hsx z2).1
      have hne : ¬ 10 * x + k = 10 * d + ts τ d := by omega
      simpa [mm_ww, va_up, upd, tAd, tm, td, q, hne] using this
theorem TR_rm (h : TR i τ) (hw : TW τ) (hd : d < 32) (h2 : tk τ d = 2) (ha : at_ < ts τ d) : TR (va_up (va_up (mm_ww i 115 d (nI (ts τ d - 1))) 117 (mSh (i 117) (10 * d + at_) (10 * d + (ts τ d - 1)))) 118 (mSh (i 118) (10 * d + at_) (10 * d + (ts τ d - 1)))) (tRm τ d at_) := by
  have hsd := ((hw d hd).2.2 h2).1
  intro x hx
  obtain ⟨g1, g2, g3, g4, g5⟩ := h x hx
  have hsx := (hw x hx).2.2
  by_cases q : x = d
  · subst q
    refine ⟨?_, ?_, ?_, ?_, ?_⟩
    · simpa [mm_ww, va_up, upd, tRm, tk] using g1
    · simpa [mm_ww, va_up, upd, tRm, tc] using g2
    · simp [mm_ww, va_up, upd, tRm, ts]
    · intro z; have : tk τ x = 1 := z; omega
    · intro _ k hk
      have hk : k < ts τ x - 1 := by simpa [tRm, ts, va_up] using hk
      by_cases r : k < at_
      · have := g5 h2 k (by omega)
        have hne : ¬ (10 * x + at_ ≤ 10 * x + k ∧ 10 * x + k < 10 * x + (ts τ x - 1)) := by omega
        rw [mu_k (show 117 ≠ 118 by omega), up_s, up_s]
        simp only [up_s, mSh, if_neg hne, tRm, tm, td, if_pos r]
        exact this
      · have := g5 h2 (k + 1) (by omega)
        have hne : (10 * x + at_ ≤ 10 * x + k ∧ 10 * x + k < 10 * x + (ts τ x - 1)) := by omega
        rw [mu_k (show 117 ≠ 118 by omega), up_s, up_s]
        simp only [up_s, mSh, if_pos hne, tRm, tm, td, if_neg r]
        exact this
  · refine ⟨?_, ?_, ?_, ?_, ?_⟩
    · simpa [mm_ww, va_up, upd, tRm, tk] using g1
    · simpa [mm_ww, va_up, upd, tRm, tc] using g2
    · simpa [mm_ww, va_up, upd, tRm, ts, q] using g3
    · intro z k hk
      have hk : k < ts τ x := by simpa [tRm, ts, va_up, q] using hk
      have := g4 z k hk
      simpa [mm_ww, va_up, upd, tRm, tb] using this
    · intro z k hk
      have hk : k < ts τ x := by simpa [tRm, ts, va_up, q] using hk
      have z2 : tk τ x = 2 := z
      have hs2 := (hsx z2).1
      have := g5 z2 k hk
      have hne : ¬ (10 * d + at_ ≤ 10 * x + k ∧ 10 * x + k < 10 * d + (ts τ d - 1)) := by omega
      rw [mu_k (show 117 ≠ 118 by omega), up_s, up_s]
      simp only [mSh, if_neg hne, tRm, tm, td, up_n q]
      exact this
theorem TR_sz (h : TR i τ) : TR (mm_ww i 115 a 0) (tEm τ a) := by
  intro n hn
  obtain ⟨h1, h2, h3, h4, h5⟩ := h n hn
  by_cases q : n = a
  · subst q
    refine ⟨by simpa [mm_ww, va_up, tEm, tk] using h1, by simpa [mm_ww, va_up, tEm, tc] using h2, by simp [mm_ww, va_up, upd, tEm, ts, na_0], ?_, ?_⟩
    · intro _ k hk; simp [tEm, ts, va_up] at hk
    · intro _ k hk; simp [tEm, ts, va_up] at hk
  · refine ⟨by simpa [mm_ww, va_up, tEm, tk] using h1, by simpa [mm_ww, va_up, tEm, tc] using h2, by simpa [mm_ww, va_up, upd, tEm, ts, q] using h3, ?_, ?_⟩
    · intro z k hk
      have := h4 z k (by simpa [tEm, ts, va_up, q] using hk)
      simpa [mm_ww, va_up, tEm, tb] using this
    · intro z k hk
      have := h5 z k (by simpa [tEm, ts, va_up, q] using hk)
      simpa [mm_ww, va_up, tEm, tm, td] using this
theorem TR_rl (h : TR i τ) : TR (mm_ww i 114 a y) (tRl τ a y) := by
  intro n hn
  obtain ⟨h1, h2, h3, h4, h5⟩ := h n hn
  refine ⟨by simpa [mm_ww, va_up, tRl, tk] using h1, ?_, by simpa [mm_ww, va_up, upd, tRl, ts] using h3, ?_, ?_⟩
  · by_cases q : n = a
    · subst q; simp [mm_ww, va_up, upd, tRl, tc]
    · simpa [mm_ww, va_up, upd, tRl, tc, q] using h2
  · intro z k hk
    have := h4 z k hk
    simpa [mm_ww, va_up, tRl, tb] using this
  · intro z k hk
    have := h5 z k hk
    simpa [mm_ww, va_up, tRl, tm, td] using this
theorem TR_dr (h : TR i τ) : TR (mm_ww i 113 a 0) (tDr τ a) := by
  intro n hn
  obtain ⟨h1, h2, h3, h4, h5⟩ := h n hn
  by_cases q : n = a
  · subst q
    refine ⟨?_, by simpa [mm_ww, va_up, upd, tDr, tc] using h2, by simpa [mm_ww, va_up, upd, tDr, ts] using h3, ?_, ?_⟩
    · simp only [mw_s, tDr, tk, up_s]; decide
    · intro z; simp [tDr, tk, va_up] at z
    · intro z; simp [tDr, tk, va_up] at z
  · refine ⟨by simpa [mm_ww, va_up, upd, tDr, tk, q] using h1, by simpa [mm_ww, va_up, upd, tDr, tc] using h2, by simpa [mm_ww, va_up, upd, tDr, ts] using h3, ?_, ?_⟩
    · intro z k hk
      have := h4 (by simpa [tDr, tk, va_up, q] using z) k hk
      simpa [mm_ww, va_up, tDr, tb] using this
    · intro z k hk
      have := h5 (by simpa [tDr, tk, va_up, q] using z) k hk
      simpa [mm_ww, va_up, tDr, tm, td] using this
theorem TR_wr (h : TR i τ) (hw : TW τ) (ha : a < 32) (h1 : tk τ a = 1) (hb : b < 24) (f : Nat → Int32) (hf : ∀ k, k < max (ts τ a) (b + 1) → f (24 * a + k) = if k = b then y else if ts τ a ≤ k then 0 else i 116 (24 * a + k)) (hf2 : ∀ q, q < 24 * a ∨ 24 * a + 24 ≤ q → f q = i 116 q) : TR (va_up (mm_ww i 115 a (nI (max (ts τ a) (b + 1)))) 116 f) (tWr τ a b y) := by
  have hsa := (hw a ha).2.1
  intro x hx
  obtain ⟨g1, g2, g3, g4, g5⟩ := h x hx
  have hsx := (hw x hx).2.1
  by_cases q : x = a
  · subst q
    refine ⟨?_, ?_, ?_, ?_, ?_⟩
    · simpa [mm_ww, va_up, upd, tWr, tk] using g1
    · simpa [mm_ww, va_up, upd, tWr, tc] using g2
    · simp [mm_ww, va_up, upd, tWr, ts]
    · intro _ k hk
      have hk : k < max (ts τ x) (b + 1) := by simpa [tWr, ts, va_up] using hk
      simp only [tWr, tb, up_s]
      rw [hf k hk]
      by_cases r : k = b
      · rw [if_pos r, if_pos r]
      · rw [if_neg r, if_neg r]
        by_cases r2 : ts τ x ≤ k
        · rw [if_pos r2, if_pos r2]
        · rw [if_neg r2, if_neg r2]
          exact g4 h1 k (by omega)
    · intro z; have : tk τ x = 2 := z; omega
  · refine ⟨?_, ?_, ?_, ?_, ?_⟩
    · simpa [mm_ww, va_up, upd, tWr, tk] using g1
    · simpa [mm_ww, va_up, upd, tWr, tc] using g2
    · simpa [mm_ww, va_up, upd, tWr, ts, q] using g3
    · intro z k hk
      have hk : k < ts τ x := by simpa [tWr, ts, va_up, q] using hk
      rw [up_s, hf2 _ (by omega)]
      simp only [tWr, tb, up_n q]
      exact g4 z k hk
    · intro z k hk
      have hk : k < ts τ x := by simpa [tWr, ts, va_up, q] using hk
      have := g5 z k hk
      simpa [mm_ww, va_up, upd, tWr, tm, td] using this
theorem tr_addEntry (h : TR i τ) (hw : TW τ) (hd : d < 32) (hs : ts τ d < 10) : mm_V 273 0 [some (.ref 83), some (.int (nI d)), some (.int (nI name)), some (.int (nI n))] [] (mm_Z m w i l e) = some (.inl none, mm_Z m w (mm_ww (mm_ww (mm_ww i 117 (10 * d + ts τ d) (nI name)) 118 (10 * d + ts τ d) (nI n)) 115 d (nI (ts τ d + 1))) l e) := by
  have ho : ¬ mm_out (nI d) 32 := by rw [na_out (by omega)]; omega
  have ho2 : ¬ mm_out (nI (10 * d + ts τ d)) 320 := by rw [na_out (by omega)]; omega
  rw [mr_273_0]
  simp only [nI_clamp (show d < 2 ^ 31 by omega), (h d hd).2.2.1, na_10, na_1, na_mul, nI_add, nI_clamp (show 10 * d + ts τ d < 2 ^ 31 by omega), if_neg ho, if_neg ho2]
theorem tr_rm_loop (hd : d < 32) (hc : c < 10) (f f2 : Nat → Int32) {x2 x3 : Int32} : ∀ (D k : Nat) (i : Nat → Nat → Int32), i 115 d = nI c → k + D = c → at_ ≤ k → i 117 = mSh f (10 * d + at_) (10 * d + k) → i 118 = mSh f2 (10 * d + at_) (10 * d + k) → mm_V 274 20 [some (.ref 83), some (.int (nI d)), some (.int x2), some (.int x3), some (.int (nI k))] [] (mm_Z m w i l e) = some (.inl none, mm_Z m w (va_up (va_up i 117 (mSh f (10 * d + at_) (10 * d + c))) 118 (mSh f2 (10 * d + at_) (10 * d + c))) l e)
  | 0, k, i, hs, hk, ha, hi, hi2 => by
    have ho : ¬ mm_out (nI d) 32 := by rw [na_out (by omega)]; omega
    rw [mr_274_20, if_neg ho]
    simp only [nI_clamp (show d < 2 ^ 31 by omega), hs, nI_ltI (show k < 2 ^ 31 by omega) (show c < 2 ^ 31 by omega)]
    rw [if_neg (by omega)]
    have e : va_up (va_up i 117 (mSh f (10 * d + at_) (10 * d + c))) 118 (mSh f2 (10 * d + at_) (10 * d + c)) = i := by
      funext q
      by_cases z : q = 118
      · subst z; rw [up_s, hi2, show k = c by omega]
      · rw [up_n z]
        by_cases z : q = 117
        · subst z; rw [up_s, hi, show k = c by omega]
        · rw [up_n z]
    rw [e]
  | D + 1, k, i, hs, hk, ha, hi, hi2 => by
    have ho : ¬ mm_out (nI d) 32 := by rw [na_out (by omega)]; omega
    have ho1 : ¬ mm_out (nI (10 * d + k)) 320 := by rw [na_out (by omega)]; omega
    have ho2 : ¬ mm_out (nI (10 * d + k + 1)) 320 := by rw [na_out (by omega)]; omega
    rw [mr_274_20, if_neg ho]
    simp only [nI_clamp (show d < 2 ^ 31 by omega), hs, nI_ltI (show k < 2 ^ 31 by omega) (show c < 2 ^ 31 by omega), na_10, na_mul, na_1, nI_add, nI_clamp (show 10 * d + k < 2 ^ 31 by omega), nI_clamp (show 10 * d + k + 1 < 2 ^ 31 by omega), if_neg ho1, if_neg ho2]
    rw [if_pos (by omega)]
    have g1 : (mm_ww (mm_ww i 117 (10 * d + k) (i 117 (10 * d + k + 1))) 118 (10 * d + k) (i 118 (10 * d + k + 1))) 117 = mSh f (10 * d + at_) (10 * d + (k + 1)) := by
      rw [mw_k (by omega)]
      unfold mm_ww
      rw [up_s, hi, mSh_step f (show 10 * d + at_ ≤ 10 * d + k by omega)]
      rfl
    have g2 : (mm_ww (mm_ww i 117 (10 * d + k) (i 117 (10 * d + k + 1))) 118 (10 * d + k) (i 118 (10 * d + k + 1))) 118 = mSh f2 (10 * d + at_) (10 * d + (k + 1)) := by
      unfold mm_ww
      rw [up_s, up_n (by omega), hi2, mSh_step f2 (show 10 * d + at_ ≤ 10 * d + k by omega)]
      rfl
    rw [tr_rm_loop hd hc f f2 D (k + 1) _ (by rw [mw_k (by omega), mw_k (by omega)]; exact hs) (by omega) (by omega) g1 g2]
    congr 3
    funext q
    by_cases z : q = 118
    · subst z; simp [va_up]
    · by_cases z2 : q = 117
      · subst z2; simp [va_up]
      · simp [va_up, z, z2, mm_ww]
theorem tr_removeEntry (h : TR i τ) (hw : TW τ) (hN : TN τ) (hd : d < 32) (h2 : tk τ d = 2) (hn : name < 2 ^ 31) (ha : tE τ d name < ts τ d) : mm_V 274 0 [some (.ref 83), some (.int (nI d)), some (.int (nI name)), none, none] [] (mm_Z m w i l e) = some (.inl none, mm_Z m w (va_up (va_up (mm_ww i 115 d (nI (ts τ d - 1))) 117 (mSh (i 117) (10 * d + tE τ d name) (10 * d + (ts τ d - 1)))) 118 (mSh (i 118) (10 * d + tE τ d name) (10 * d + (ts τ d - 1)))) l e) := by
  have ho : ¬ mm_out (nI d) 32 := by rw [na_out (by omega)]; omega
  have hsd := ((hw d hd).2.2 h2).1
  rw [mr_274_0, tr_entryOf h hw hN hd h2 hn, mb_l, mb_v, if_pos ha, mr_274_6, if_neg ho, if_neg ho]
  simp only [nI_clamp (show d < 2 ^ 31 by omega), (h d hd).2.2.1, na_1, na_sub (show 1 ≤ ts τ d by omega)]
  refine tr_rm_loop (c := ts τ d - 1) hd (by omega) (i 117) (i 118) (ts τ d - 1 - tE τ d name) (tE τ d name) _ mw_s (by omega) (Nat.le_refl _) ?_ ?_
  · rw [mw_k (by omega), mSh_0]
  · rw [mw_k (by omega), mSh_0]
end MM64
