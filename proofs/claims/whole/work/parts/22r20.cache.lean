/-! THE GUARD: cache and records -/
section MM79
variable {p w : Bool} {l : Nat → Nat → Int64} {e : Bool × Nat × Nat} {π : mP} {m : Nat} {κ : mK}
def kHit (C : List (Int32 × Int32 × Int32 × Int32)) (a b c : Int32) (k : Nat) : Bool := decide ((C.getD k kz).1 = a ∧ (C.getD k kz).2.1 = b ∧ (C.getD k kz).2.2.1 = c)
def kRow (C : List (Int32 × Int32 × Int32 × Int32)) (a b c : Int32) : Nat := tFst (kHit C a b c) C.length 0
def kAdd (C : List (Int32 × Int32 × Int32 × Int32)) (x : Int32 × Int32 × Int32 × Int32) : List (Int32 × Int32 × Int32 × Int32) := (if C.length < 6 then C else C.tail) ++ [x]
def kSetC (κ : mK) (C : List (Int32 × Int32 × Int32 × Int32)) : mK := (κ.1, C, κ.2.2)
def kRec (κ : mK) (r : Int32 × Int32 × Int32 × Int32 × Int32) : mK := (κ.1, κ.2.1, (if (kR κ).length < 20 then kR κ else (kR κ).tail) ++ [r], kn κ + 1, κ.2.2.2.2)
def kSetQ (κ : mK) (x : Int32) : mK := (κ.1, κ.2.1, κ.2.2.1, κ.2.2.2.1, x, κ.2.2.2.2.2)
def kSetH (κ : mK) (x : Int32) : mK := (κ.1, κ.2.1, κ.2.2.1, κ.2.2.2.1, κ.2.2.2.2.1, x)
theorem gc_row_loop {i : Nat → Nat → Int32} (h : GC i κ) (hw : GW κ) {a b c : Int32} : ∀ (D k : Nat), k + D = (kC κ).length → mm_V 36 3 [some (.ref 30), some (.int a), some (.int b), some (.int c), some (.int (nI k))] [] (mm_Z m w i l e) = some (.inl (some (.int (if tFst (kHit (kC κ) a b c) D k < (kC κ).length then nI (tFst (kHit (kC κ) a b c) D k) else -1))), mm_Z m w i l e)
  | 0, k, hk => by
    have hl := hw.2.1
    have e0 : tFst (kHit (kC κ) a b c) 0 k = k := rfl
    rw [mr_36_3]
    simp only [h.2.1.1, nI_ltI (show k < 2 ^ 31 by omega) (show (kC κ).length < 2 ^ 31 by omega)]
    rw [if_neg (by omega), e0, if_neg (by omega)]
  | D + 1, k, hk => by
    have hl := hw.2.1
    obtain ⟨r1, r2, r3, r4⟩ := h.2.1.2 k (by omega)
    have ho : ¬ mm_out (nI k) 6 := no_out (by omega) (by omega)
    rw [mr_36_3]
    simp only [h.2.1.1, nI_ltI (show k < 2 ^ 31 by omega) (show (kC κ).length < 2 ^ 31 by omega), nI_clamp (show k < 2 ^ 31 by omega), r1, r2, r3, if_neg ho, nI_1]
    rw [if_pos (by omega)]
    have ih := gc_row_loop h hw (a := a) (b := b) (c := c) D (k + 1) (by omega)
    by_cases q1 : ((kC κ).getD k kz).1 = a
    · rw [if_pos q1]
      by_cases q2 : ((kC κ).getD k kz).2.1 = b
      · rw [if_pos q2]
        by_cases q3 : ((kC κ).getD k kz).2.2.1 = c
        · have e0 : tFst (kHit (kC κ) a b c) (D + 1) k = k := by rw [tFst, if_pos (by unfold kHit; exact decide_eq_true ⟨q1, q2, q3⟩)]
          rw [if_pos q3, e0, if_pos (by omega)]
        · rw [if_neg q3, ih, tFst_step _ _ _ (by unfold kHit; exact decide_eq_false (fun z => q3 z.2.2))]
      · rw [if_neg q2, ih, tFst_step _ _ _ (by unfold kHit; exact decide_eq_false (fun z => q2 z.2.1))]
    · rw [if_neg q1, ih, tFst_step _ _ _ (by unfold kHit; exact decide_eq_false (fun z => q1 z.1))]
theorem gc_cacheRow {i : Nat → Nat → Int32} (h : GC i κ) (hw : GW κ) (a b c : Int32) : mm_V 36 0 [some (.ref 30), some (.int a), some (.int b), some (.int c), none] [] (mm_Z m w i l e) = some (.inl (some (.int (if kRow (kC κ) a b c < (kC κ).length then nI (kRow (kC κ) a b c) else -1))), mm_Z m w i l e) := by
  rw [mr_36_0, na_0, gc_row_loop h hw (kC κ).length 0 (by omega)]
  rfl
theorem len_add (C : List (Int32 × Int32 × Int32 × Int32)) (x : Int32 × Int32 × Int32 × Int32) (h : C.length ≤ 6) : (kAdd C x).length = (if C.length < 6 then C.length + 1 else 6) ∧ (kAdd C x).length ≤ 6 := by
  unfold kAdd
  rw [List.length_append, List.length_singleton]
  split
  · omega
  · rw [List.length_tail]; omega
/-- the cache's rows, behind what is in them; class: rows r .. r + 3 -/
theorem cache_put {i : Nat → Nat → Int32} {r : Nat} {C : List (Int32 × Int32 × Int32 × Int32)} {x : Int32 × Int32 × Int32 × Int32} (h : ∀ k, k < C.length → i r k = (C.getD k kz).1 ∧ i (r + 1) k = (C.getD k kz).2.1 ∧ i (r + 2) k = (C.getD k kz).2.2.1 ∧ i (r + 3) k = (C.getD k kz).2.2.2) : ∀ k, k < (C ++ [x]).length → (mm_ww (mm_ww (mm_ww (mm_ww i r C.length x.1) (r + 1) C.length x.2.1) (r + 2) C.length x.2.2.1) (r + 3) C.length x.2.2.2) r k = ((C ++ [x]).getD k kz).1 ∧ (mm_ww (mm_ww (mm_ww (mm_ww i r C.length x.1) (r + 1) C.length x.2.1) (r + 2) C.length x.2.2.1) (r + 3) C.length x.2.2.2) (r + 1) k = ((C ++ [x]).getD k kz).2.1 ∧ (mm_ww (mm_ww (mm_ww (mm_ww i r C.length x.1) (r + 1) C.length x.2.1) (r + 2) C.length x.2.2.1) (r + 3) C.length x.2.2.2) (r + 2) k = ((C ++ [x]).getD k kz).2.2.1 ∧ (mm_ww (mm_ww (mm_ww (mm_ww i r C.length x.1) (r + 1) C.length x.2.1) (r + 2) C.length x.2.2.1) (r + 3) C.length x.2.2.2) (r + 3) k = ((C ++ [x]).getD k kz).2.2.2 := by
  intro k hk
  rw [List.length_append, List.length_singleton] at hk
  rw [mw_k (show r ≠ r + 3 by omega), mw_k (show r ≠ r + 2 by omega), mw_k (show r ≠ r + 1 by omega), mw_k (show r + 1 ≠ r + 3 by omega), mw_k (show r + 1 ≠ r + 2 by omega), mw_k (show r + 2 ≠ r + 3 by omega)]
  by_cases z : k = C.length
  · subst z
    rw [mw_s, mw_s, mw_s, mw_s, gd_end]
    exact ⟨rfl, rfl, rfl, rfl⟩
  · rw [mw_j z, mw_j z, mw_j z, mw_j z, gd_app (by omega), mw_k (show r + 1 ≠ r by omega), mw_k (show r + 2 ≠ r + 1 by omega), mw_k (show r + 2 ≠ r by omega), mw_k (show r + 3 ≠ r + 2 by omega), mw_k (show r + 3 ≠ r + 1 by omega), mw_k (show r + 3 ≠ r by omega)]
    exact h k (by omega)
theorem gc_cache {i : Nat → Nat → Int32} (h : GC i κ) (hw : GW κ) (x1 x2 x3 x4 : Int32) : ∃ i', mm_V 37 0 [some (.ref 30), some (.int x1), some (.int x2), some (.int x3), some (.int x4), none] [] (mm_Z m w i l e) = some (.inl (some (.int (nI ((kAdd (kC κ) (x1, x2, x3, x4)).length - 1)))), mm_Z m w i' l e) ∧ GC i' (kSetC κ (kAdd (kC κ) (x1, x2, x3, x4))) ∧ i' 54 ((kAdd (kC κ) (x1, x2, x3, x4)).length - 1) = x4 ∧ mG (fun k j => (51 ≤ k ∧ k ≤ 54) ∨ (k = 30 ∧ j = 8)) i i' := by
  have hl := hw.2.1
  -- the row is put behind a cache C that lies in the memory i1
  have put : ∀ (i1 : Nat → Nat → Int32) (C : List (Int32 × Int32 × Int32 × Int32)), C.length < 6 → i1 30 8 = nI C.length → (∀ k, k < C.length → i1 51 k = (C.getD k kz).1 ∧ i1 52 k = (C.getD k kz).2.1 ∧ i1 53 k = (C.getD k kz).2.2.1 ∧ i1 54 k = (C.getD k kz).2.2.2) → (∀ k j, ¬ ((51 ≤ k ∧ k ≤ 54) ∨ (k = 30 ∧ j = 8)) → i1 k j = i k j) → ∃ i', mm_V 37 82 [some (.ref 30), some (.int x1), some (.int x2), some (.int x3), some (.int x4), none] [] (mm_Z m w i1 l e) = some (.inl (some (.int (nI C.length))), mm_Z m w i' l e) ∧ GC i' (kSetC κ (C ++ [(x1, x2, x3, x4)])) ∧ i' 54 C.length = x4 ∧ mG (fun k j => (51 ≤ k ∧ k ≤ 54) ∨ (k = 30 ∧ j = 8)) i i' := by
    intro i1 C hC h8 hR hF
    have ho : ¬ mm_out (nI C.length) 6 := no_out hC (by omega)
    rw [mr_37_82]
    simp only [h8, if_neg ho, nI_clamp (show C.length < 2 ^ 31 by omega), nI_1]
    refine ⟨_, rfl, ?_, ?_, ?_⟩
    · obtain ⟨⟨h1, h2⟩, -, ⟨h5, h6⟩, h7, h8'⟩ := h
      have f : ∀ k j, ¬ ((51 ≤ k ∧ k ≤ 54) ∨ (k = 30 ∧ j = 8)) → (mm_ww (mm_ww (mm_ww (mm_ww (mm_ww i1 51 C.length x1) 52 C.length x2) 53 C.length x3) 54 C.length x4) 30 8 (nI (C.length + 1))) k j = i k j := by
        intro k j hq
        by_cases z : k = 30
        · subst z
          rw [mw_j (by omega), mw_k (by omega), mw_k (by omega), mw_k (by omega), mw_k (by omega)]
          exact hF _ _ hq
        · rw [mw_k z, mw_k (by omega), mw_k (by omega), mw_k (by omega), mw_k (by omega)]
          exact hF _ _ hq
      refine ⟨⟨by rw [f _ _ (by omega)]; exact h1, fun k hk => by rw [f _ _ (by omega)]; exact h2 k hk⟩, ⟨?_, ?_⟩, ⟨by rw [f _ _ (by omega)]; exact h5, fun k hk => ?_⟩, by rw [f _ _ (by omega)]; exact h7, by rw [f _ _ (by omega)]; exact h8'⟩
      · rw [mw_s]; show _ = nI (C ++ [(x1, x2, x3, x4)]).length; rw [List.length_append]; rfl
      · intro k hk
        have := cache_put (r := 51) (x := (x1, x2, x3, x4)) hR k hk
        rw [mw_k (show 51 ≠ 30 by omega), mw_k (show 52 ≠ 30 by omega), mw_k (show 53 ≠ 30 by omega), mw_k (show 54 ≠ 30 by omega)]
        exact this
      · rw [f _ _ (by omega), f _ _ (by omega), f _ _ (by omega), f _ _ (by omega), f _ _ (by omega)]
        exact h6 k hk
    · rw [mw_k (by omega), mw_s]
    · intro k j hq
      by_cases z : k = 30
      · subst z
        rw [mw_j (by omega), mw_k (by omega), mw_k (by omega), mw_k (by omega), mw_k (by omega)]
        exact hF _ _ hq
      · rw [mw_k z, mw_k (by omega), mw_k (by omega), mw_k (by omega), mw_k (by omega)]
        exact hF _ _ hq
  rw [mr_37_0]
  simp only [h.2.1.1]
  by_cases q : (kC κ).length < 6
  · rw [na_6, if_pos ((nI_ltI (by omega) (by omega)).mpr q)]
    have e1 : kAdd (kC κ) (x1, x2, x3, x4) = kC κ ++ [(x1, x2, x3, x4)] := by unfold kAdd; rw [if_pos q]
    have e2 : (kC κ ++ [(x1, x2, x3, x4)]).length - 1 = (kC κ).length := by rw [List.length_append]; rfl
    rw [e1, e2]
    exact put i (kC κ) q h.2.1.1 h.2.1.2 (fun _ _ _ => rfl)
  · have e6 : (kC κ).length = 6 := by omega
    have e1 : kAdd (kC κ) (x1, x2, x3, x4) = (kC κ).tail ++ [(x1, x2, x3, x4)] := by unfold kAdd; rw [if_neg q]
    have e2 : ((kC κ).tail ++ [(x1, x2, x3, x4)]).length - 1 = (kC κ).tail.length := by rw [List.length_append]; rfl
    have e3 : (kC κ).tail.length = 5 := by rw [List.length_tail, e6]
    have c1 : (1 : Int32).toNatClampNeg = 1 := by decide
    have c5 : (5 : Int32).toNatClampNeg = 5 := by decide
    rw [if_neg (by rw [na_6, nI_ltI (by omega) (by omega)]; omega), if_pos (by decide), if_pos (by decide), if_pos (by decide), if_pos (by decide), e1, e2, c1, c5, cl_0]
    have cp : ∀ (f : Nat → Int32) (k : Nat), k < 5 → va_cpy f f 1 0 5 k = f (k + 1) := by
      intro f k hk
      rw [pk_cpy_in (by omega) (by omega)]
      congr 1
      omega
    refine put _ (kC κ).tail (by omega) ?_ ?_ ?_
    · rw [mu_k (by omega), mu_k (by omega), mu_k (by omega), mu_k (by omega), mw_s, e3]; rfl
    · intro k hk
      obtain ⟨r1, r2, r3, r4⟩ := h.2.1.2 (k + 1) (by omega)
      rw [gd_tail, mu_k (show 51 ≠ 54 by omega), mu_k (show 51 ≠ 53 by omega), mu_k (show 51 ≠ 52 by omega), mu_s, mu_k (show 52 ≠ 54 by omega), mu_k (show 52 ≠ 53 by omega), mu_s, mu_k (show 53 ≠ 54 by omega), mu_s, mu_s, cp _ _ (by omega), cp _ _ (by omega), cp _ _ (by omega), cp _ _ (by omega)]
      exact ⟨r1, r2, r3, r4⟩
    · intro k j hq
      rw [mu_k (by omega), mu_k (by omega), mu_k (by omega), mu_k (by omega)]
      by_cases z : k = 30
      · subst z; rw [mw_j (by omega)]
      · rw [mw_k z]
end MM79
