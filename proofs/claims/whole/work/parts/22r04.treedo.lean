/-! THE TREE: deeds -/
section MM63
/-- nothing but the rows a to b has changed -/
def mF (a b : Nat) (i i' : Nat → Nat → Int32) : Prop := ∀ k, k < a ∨ b < k → i' k = i k
theorem mF.rf (a b : Nat) (i : Nat → Nat → Int32) : mF a b i i := fun _ _ => rfl
theorem mF.tr {a b : Nat} {i j k : Nat → Nat → Int32} (h1 : mF a b i j) (h2 : mF a b j k) : mF a b i k := fun q h => (h2 q h).trans (h1 q h)
theorem mF.wd {a b c d : Nat} {i j : Nat → Nat → Int32} (h : mF a b i j) (h1 : c ≤ a) (h2 : b ≤ d) : mF c d i j := fun q hq => h q (by omega)
theorem mF.ww {a b k : Nat} (i : Nat → Nat → Int32) (j : Nat) (x : Int32) (h1 : a ≤ k) (h2 : k ≤ b) : mF a b i (mm_ww i k j x) := fun q hq => mw_k (by omega)
theorem mF.up {a b k : Nat} (i : Nat → Nat → Int32) (f : Nat → Int32) (h1 : a ≤ k) (h2 : k ≤ b) : mF a b i (va_up i k f) := fun q hq => mu_k (by omega)
def tMk (τ : mT) (a kind : Nat) (x : Int32) : mT := (va_up (tk τ) a kind, va_up (tc τ) a x, va_up (ts τ) a 0, tb τ, tm τ, td τ)
def tAd (τ : mT) (d name n : Nat) : mT := (tk τ, tc τ, va_up (ts τ) d (ts τ d + 1), tb τ, va_up (tm τ) d (va_up (tm τ d) (ts τ d) name), va_up (td τ) d (va_up (td τ d) (ts τ d) n))
def tRm (τ : mT) (d at_ : Nat) : mT := (tk τ, tc τ, va_up (ts τ) d (ts τ d - 1), tb τ, va_up (tm τ) d (fun k => if k < at_ then tm τ d k else tm τ d (k + 1)), va_up (td τ) d (fun k => if k < at_ then td τ d k else td τ d (k + 1)))
def tEm (τ : mT) (a : Nat) : mT := (tk τ, tc τ, va_up (ts τ) a 0, tb τ, tm τ, td τ)
def tWr (τ : mT) (a b : Nat) (x : Int32) : mT := (tk τ, tc τ, va_up (ts τ) a (max (ts τ a) (b + 1)), va_up (tb τ) a (fun k => if k = b then x else if ts τ a ≤ k then 0 else tb τ a k), tm τ, td τ)
def tRl (τ : mT) (a : Nat) (x : Int32) : mT := (tk τ, va_up (tc τ) a x, ts τ, tb τ, tm τ, td τ)
def tDr (τ : mT) (a : Nat) : mT := (va_up (tk τ) a 0, tc τ, ts τ, tb τ, tm τ, td τ)
variable {t w : Bool} {i : Nat → Nat → Int32} {l : Nat → Nat → Int64} {e : Bool × Nat × Nat} {τ : mT} {m n d k x name a c at_ : Nat} {y : Int32}
theorem up_s {α : Type} {f : Nat → α} {k : Nat} {x : α} : va_up f k x k = x := by simp [va_up]
theorem up_n {α : Type} {f : Nat → α} {k j : Nat} {x : α} (h : j ≠ k) : va_up f k x j = f j := by simp [va_up, h]
theorem TC_mk (h : TC t i τ) (ha : a < 32) : TC t (mm_ww (mm_ww (mm_ww i (mm_Tr t + 1) a (nI c - 1)) (mm_Tr t + 2) a y) (mm_Tr t + 3) a 0) (tMk τ a c y) := by
  intro n hn
  obtain ⟨h1, h2, h3, h4, h5⟩ := h n hn
  by_cases q : n = a
  · subst q
    refine ⟨?_, ?_, ?_, ?_, ?_⟩
    · simp [mm_ww, va_up, upd, tMk, tk]
    · simp [mm_ww, va_up, upd, tMk, tc]
    · simp [mm_ww, va_up, upd, tMk, ts, na_0]
    · intro _ k hk; simp [tMk, ts, va_up] at hk
    · intro _ k hk; simp [tMk, ts, va_up] at hk
  · refine ⟨?_, ?_, ?_, ?_, ?_⟩
    · simpa [mm_ww, va_up, upd, tMk, tk, q] using h1
    · simpa [mm_ww, va_up, upd, tMk, tc, q] using h2
    · simpa [mm_ww, va_up, upd, tMk, ts, q] using h3
    · intro z k hk
      have := h4 (by simpa [tMk, tk, va_up, q] using z) k (by simpa [tMk, ts, va_up, q] using hk)
      simpa [mm_ww, va_up, tMk, tb] using this
    · intro z k hk
      have := h5 (by simpa [tMk, tk, va_up, q] using z) k (by simpa [tMk, ts, va_up, q] using hk)
      simpa [mm_ww, va_up, tMk, tm, td] using this
theorem TC_ad (h : TC t i τ) (hw : TW τ) (hd : d < 32) (h2 : tk τ d = 2) (hs : ts τ d < 10) : TC t (mm_ww (mm_ww i (mm_Tr t + 4) (24 * d + ts τ d) (nI (name + 100 * n))) (mm_Tr t + 3) d (nI (ts τ d + 1))) (tAd τ d name n) := by
  intro x hx
  obtain ⟨g1, g2, g3, g4, g5⟩ := h x hx
  have hsx := (hw x hx).2.1
  by_cases q : x = d
  · subst q
    refine ⟨?_, ?_, ?_, ?_, ?_⟩
    · simpa [mm_ww, va_up, upd, tAd, tk] using g1
    · simpa [mm_ww, va_up, upd, tAd, tc] using g2
    · simp [mm_ww, va_up, upd, tAd, ts]
    · intro z; have : tk τ x = 1 := z; omega
    · intro _ k hk
      have hk : k < ts τ x + 1 := by simpa [tAd, ts, va_up] using hk
      by_cases r : k = ts τ x
      · subst r; simp [mm_ww, va_up, upd, tAd, tm, td, ts]
      · have := g5 h2 k (by omega)
        simpa [mm_ww, va_up, upd, tAd, tm, td, r] using this
  · refine ⟨?_, ?_, ?_, ?_, ?_⟩
    · simpa [mm_ww, va_up, upd, tAd, tk] using g1
    · simpa [mm_ww, va_up, upd, tAd, tc] using g2
    · simpa [mm_ww, va_up, upd, tAd, ts, q] using g3
    · intro z k hk
      have hk : k < ts τ x := by simpa [tAd, ts, va_up, q] using hk
      have := g4 z k hk
      have hne : ¬ 24 * x + k = 24 * d + ts τ d := by omega
      simpa [mm_ww, va_up, upd, tAd, tb, hne] using this
    · intro z k hk
      have hk : k < ts τ x := by simpa [tAd, ts, va_up, q] using hk
      have := g5 z k hk
      have hne : ¬ 24 * x + k = 24 * d + ts τ d := by omega
      simpa [mm_ww, va_up, upd, tAd, tm, td, q, hne] using this
/-- a row, moved up by one from a on -/
def mSh (f : Nat → Int32) (a b : Nat) : Nat → Int32 := fun q => if a ≤ q ∧ q < b then f (q + 1) else f q
theorem mSh_0 (f : Nat → Int32) (a : Nat) : mSh f a a = f := by
  funext q
  unfold mSh
  rw [if_neg (by omega)]
theorem mSh_step (f : Nat → Int32) {a b : Nat} (h : a ≤ b) : upd (mSh f a b) b (mSh f a b (b + 1)) = mSh f a (b + 1) := by
  funext q
  unfold upd mSh
  by_cases e1 : q = b
  · subst e1
    rw [if_pos rfl, if_neg (by omega), if_pos (by omega)]
  · rw [if_neg e1]
    by_cases e2 : a ≤ q ∧ q < b
    · rw [if_pos e2, if_pos (by omega)]
    · rw [if_neg e2, if_neg (by omega)]
theorem TC_rm (h : TC t i τ) (hw : TW τ) (hd : d < 32) (h2 : tk τ d = 2) (ha : at_ < ts τ d) : TC t (va_up (mm_ww i (mm_Tr t + 3) d (nI (ts τ d - 1))) (mm_Tr t + 4) (mSh (i (mm_Tr t + 4)) (24 * d + at_) (24 * d + (ts τ d - 1)))) (tRm τ d at_) := by
  have hsd := ((hw d hd).2.2 h2).1
  intro x hx
  obtain ⟨g1, g2, g3, g4, g5⟩ := h x hx
  have hsx := (hw x hx).2.1
  by_cases q : x = d
  · subst q
    refine ⟨?_, ?_, ?_, ?_, ?_⟩
    · simpa [mm_ww, va_up, upd, tRm, tk] using g1
    · simpa [mm_ww, va_up, upd, tRm, tc] using g2
    · simp [mm_ww, va_up, upd, tRm, ts]
    · intro z; have : tk τ x = 1 := z; omega
    · intro _ k hk
      have hk : k < ts τ x - 1 := by simpa [tRm, ts, va_up] using hk
      by_cases r : k < at_
      · have := g5 h2 k (by omega)
        have hne : ¬ (24 * x + at_ ≤ 24 * x + k ∧ 24 * x + k < 24 * x + (ts τ x - 1)) := by omega
        simp only [up_s, mSh, if_neg hne, tRm, tm, td, if_pos r]
        exact this
      · have := g5 h2 (k + 1) (by omega)
        have hne : (24 * x + at_ ≤ 24 * x + k ∧ 24 * x + k < 24 * x + (ts τ x - 1)) := by omega
        simp only [up_s, mSh, if_pos hne, tRm, tm, td, if_neg r]
        exact this
  · refine ⟨?_, ?_, ?_, ?_, ?_⟩
    · simpa [mm_ww, va_up, upd, tRm, tk] using g1
    · simpa [mm_ww, va_up, upd, tRm, tc] using g2
    · simpa [mm_ww, va_up, upd, tRm, ts, q] using g3
    · intro z k hk
      have hk : k < ts τ x := by simpa [tRm, ts, va_up, q] using hk
      have := g4 z k hk
      have hne : ¬ (24 * d + at_ ≤ 24 * x + k ∧ 24 * x + k < 24 * d + (ts τ d - 1)) := by omega
      simp only [up_s, mSh, if_neg hne, tRm, tb]
      exact this
    · intro z k hk
      have hk : k < ts τ x := by simpa [tRm, ts, va_up, q] using hk
      have := g5 z k hk
      have hne : ¬ (24 * d + at_ ≤ 24 * x + k ∧ 24 * x + k < 24 * d + (ts τ d - 1)) := by omega
      simp only [up_s, mSh, if_neg hne, tRm, tm, td, up_n q]
      exact this
theorem TC_sz (h : TC t i τ) : TC t (mm_ww i (mm_Tr t + 3) a 0) (tEm τ a) := by
  intro n hn
  obtain ⟨h1, h2, h3, h4, h5⟩ := h n hn
  by_cases q : n = a
  · subst q
    refine ⟨by simpa [mm_ww, va_up, tEm, tk] using h1, by simpa [mm_ww, va_up, tEm, tc] using h2, by simp [mm_ww, va_up, upd, tEm, ts, na_0], ?_, ?_⟩
    · intro _ k hk; simp [tEm, ts, va_up] at hk
    · intro _ k hk; simp [tEm, ts, va_up] at hk
  · refine ⟨by simpa [mm_ww, va_up, tEm, tk] using h1, by simpa [mm_ww, va_up, tEm, tc] using h2, by simpa [mm_ww, va_up, upd, tEm, ts, q] using h3, ?_, ?_⟩
    · intro z k hk
      have := h4 z k (by simpa [tEm, ts, va_up, q] using hk)
      simpa [mm_ww, va_up, tEm, tb] using this
    · intro z k hk
      have := h5 z k (by simpa [tEm, ts, va_up, q] using hk)
      simpa [mm_ww, va_up, tEm, tm, td] using this
theorem TC_rl (h : TC t i τ) : TC t (mm_ww i (mm_Tr t + 2) a y) (tRl τ a y) := by
  intro n hn
  obtain ⟨h1, h2, h3, h4, h5⟩ := h n hn
  refine ⟨by simpa [mm_ww, va_up, tRl, tk] using h1, ?_, by simpa [mm_ww, va_up, upd, tRl, ts] using h3, ?_, ?_⟩
  · by_cases q : n = a
    · subst q; simp [mm_ww, va_up, upd, tRl, tc]
    · simpa [mm_ww, va_up, upd, tRl, tc, q] using h2
  · intro z k hk
    have := h4 z k hk
    simpa [mm_ww, va_up, tRl, tb] using this
  · intro z k hk
    have := h5 z k hk
    simpa [mm_ww, va_up, tRl, tm, td] using this
theorem TC_dr (h : TC t i τ) : TC t (mm_ww i (mm_Tr t + 1) a (-1)) (tDr τ a) := by
  intro n hn
  obtain ⟨h1, h2, h3, h4, h5⟩ := h n hn
  by_cases q : n = a
  · subst q
    refine ⟨?_, by simpa [mm_ww, va_up, upd, tDr, tc] using h2, by simpa [mm_ww, va_up, upd, tDr, ts] using h3, ?_, ?_⟩
    · simp only [mw_s, tDr, tk, up_s]; decide
    · intro z; simp [tDr, tk, va_up] at z
    · intro z; simp [tDr, tk, va_up] at z
  · refine ⟨by simpa [mm_ww, va_up, upd, tDr, tk, q] using h1, by simpa [mm_ww, va_up, upd, tDr, tc] using h2, by simpa [mm_ww, va_up, upd, tDr, ts] using h3, ?_, ?_⟩
    · intro z k hk
      have := h4 (by simpa [tDr, tk, va_up, q] using z) k hk
      simpa [mm_ww, va_up, tDr, tb] using this
    · intro z k hk
      have := h5 (by simpa [tDr, tk, va_up, q] using z) k hk
      simpa [mm_ww, va_up, tDr, tm, td] using this
/-- the class's methods -/
theorem tc_make (h : TC t i τ) (ha : a < 32) : mm_V 139 0 [some (.ref (mm_Tr t)), some (.int (nI a)), some (.int (nI c - 1)), some (.int y)] [] (mm_Z m w i l e) = some (.inl none, mm_Z m w (mm_ww (mm_ww (mm_ww i (mm_Tr t + 1) a (nI c - 1)) (mm_Tr t + 2) a y) (mm_Tr t + 3) a 0) l e) := by
  have ho : ¬ mm_out (nI a) 32 := by rw [na_out (by omega)]; omega
  rw [mr_139_0, if_neg ho, if_neg ho, if_neg ho, nI_clamp (by omega)]
theorem tc_drop (ha : a < 32) : mm_V 140 0 [some (.ref (mm_Tr t)), some (.int (nI a))] [] (mm_Z m w i l e) = some (.inl none, mm_Z m w (mm_ww i (mm_Tr t + 1) a (-1)) l e) := by
  have ho : ¬ mm_out (nI a) 32 := by rw [na_out (by omega)]; omega
  rw [mr_140_0, if_neg ho, nI_clamp (by omega)]
theorem tc_addEntry (h : TC t i τ) (hw : TW τ) (hd : d < 32) (hs : ts τ d < 10) : mm_V 151 0 [some (.ref (mm_Tr t)), some (.int (nI d)), some (.int (nI name)), some (.int (nI n))] [] (mm_Z m w i l e) = some (.inl none, mm_Z m w (mm_ww (mm_ww i (mm_Tr t + 4) (24 * d + ts τ d) (nI (name + 100 * n))) (mm_Tr t + 3) d (nI (ts τ d + 1))) l e) := by
  have ho : ¬ mm_out (nI d) 32 := by rw [na_out (by omega)]; omega
  rw [mr_151_0, tc_isFull h hw hd, mb_l, mb_v, if_pos hs, mr_151_5, if_pos rfl, if_neg ho]
  simp only [nI_clamp (show d < 2 ^ 31 by omega), (h d hd).2.2.1, na_24, na_100, na_1, na_mul, nI_add, Nat.mul_comm d 24, nI_clamp (show 24 * d + ts τ d < 2 ^ 31 by omega)]
  rw [if_neg (by rw [na_out (by omega)]; omega), if_neg ho, if_neg ho]
theorem tc_rm_loop (hd : d < 32) (hc : c < 10) (f : Nat → Int32) {F : Nat} (hF : F = 24 * d) {x2 x3 : Int32} : ∀ (D k : Nat) (i : Nat → Nat → Int32), i (mm_Tr t + 3) d = nI c → k + D = c → at_ ≤ k → i (mm_Tr t + 4) = mSh f (F + at_) (F + k) → mm_V 152 32 [some (.ref (mm_Tr t)), some (.int (nI d)), some (.int x2), some (.int x3), some (.int (nI F)), some (.int (nI k))] [] (mm_Z m w i l e) = some (.inl none, mm_Z m w (va_up i (mm_Tr t + 4) (mSh f (F + at_) (F + c))) l e)
  | 0, k, i, hs, hk, ha, hi => by
    have ho : ¬ mm_out (nI d) 32 := by rw [na_out (by omega)]; omega
    rw [mr_152_32, if_neg ho]
    simp only [nI_clamp (show d < 2 ^ 31 by omega), hs, nI_ltI (show k < 2 ^ 31 by omega) (show c < 2 ^ 31 by omega)]
    rw [if_neg (by omega)]
    have e : va_up i (mm_Tr t + 4) (mSh f (F + at_) (F + c)) = i := by
      funext q
      by_cases z : q = mm_Tr t + 4
      · subst z; rw [up_s, hi, show k = c by omega]
      · rw [up_n z]
    rw [e]
  | D + 1, k, i, hs, hk, ha, hi => by
    have ho : ¬ mm_out (nI d) 32 := by rw [na_out (by omega)]; omega
    rw [mr_152_32, if_neg ho]
    simp only [nI_clamp (show d < 2 ^ 31 by omega), hs, nI_ltI (show k < 2 ^ 31 by omega) (show c < 2 ^ 31 by omega), na_1, nI_add, nI_clamp (show F + k < 2 ^ 31 by omega), nI_clamp (show F + k + 1 < 2 ^ 31 by omega)]
    rw [if_pos (by omega), if_neg (by rw [na_out (by omega)]; omega), if_neg (by rw [na_out (by omega)]; omega)]
    have hi2 : (mm_ww i (mm_Tr t + 4) (F + k) (i (mm_Tr t + 4) (F + k + 1))) (mm_Tr t + 4) = mSh f (F + at_) (F + (k + 1)) := by
      unfold mm_ww
      rw [up_s, hi, mSh_step f (show F + at_ ≤ F + k by omega)]
      rfl
    rw [tc_rm_loop hd hc f hF D (k + 1) (mm_ww i (mm_Tr t + 4) (F + k) (i (mm_Tr t + 4) (F + k + 1))) (by rw [mw_k (by omega)]; exact hs) (by omega) (by omega) hi2]
    congr 3
    funext q
    by_cases z : q = mm_Tr t + 4
    · subst z; simp [va_up]
    · simp [va_up, z, mm_ww]
theorem tc_removeEntry (h : TC t i τ) (hw : TW τ) (hd : d < 32) (h2 : tk τ d = 2) (hn : name < 2 ^ 31) (ha : tE τ d name < ts τ d) : mm_V 152 0 [some (.ref (mm_Tr t)), some (.int (nI d)), some (.int (nI name)), none, none, none] [] (mm_Z m w i l e) = some (.inl none, mm_Z m w (va_up (mm_ww i (mm_Tr t + 3) d (nI (ts τ d - 1))) (mm_Tr t + 4) (mSh (i (mm_Tr t + 4)) (24 * d + tE τ d name) (24 * d + (ts τ d - 1)))) l e) := by
  have ho : ¬ mm_out (nI d) 32 := by rw [na_out (by omega)]; omega
  have hsd := ((hw d hd).2.2 h2).1
  rw [mr_152_0, tc_entryNamed h hw hd h2 hn, mb_l, mb_v, if_pos ha, mr_152_6, if_neg (na_m1 (by omega)), if_neg ho, if_neg ho]
  simp only [nI_clamp (show d < 2 ^ 31 by omega), (h d hd).2.2.1, na_24, na_mul, na_1, na_sub (show 1 ≤ ts τ d by omega), Nat.mul_comm d 24]
  refine tc_rm_loop (c := ts τ d - 1) hd (by omega) (i (mm_Tr t + 4)) rfl (ts τ d - 1 - tE τ d name) (tE τ d name) _ mw_s (by omega) (Nat.le_refl _) ?_
  rw [mw_k (by omega), mSh_0]
end MM63
