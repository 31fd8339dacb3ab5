/-! THE TREE: what it is, how the class and the reference keep it, what the class's methods answer -/
section MM61
/-- kind (0 not there, 1 a file, 2 a directory), context, size, bytes, names, nodes -/
abbrev mT : Type := (Nat → Nat) × (Nat → Int32) × (Nat → Nat) × (Nat → Nat → Int32) × (Nat → Nat → Nat) × (Nat → Nat → Nat)
abbrev tk (τ : mT) : Nat → Nat := τ.1
abbrev tc (τ : mT) : Nat → Int32 := τ.2.1
abbrev ts (τ : mT) : Nat → Nat := τ.2.2.1
abbrev tb (τ : mT) : Nat → Nat → Int32 := τ.2.2.2.1
abbrev tm (τ : mT) : Nat → Nat → Nat := τ.2.2.2.2.1
abbrev td (τ : mT) : Nat → Nat → Nat := τ.2.2.2.2.2
/-- the class's tree t -/
def TC (t : Bool) (i : Nat → Nat → Int32) (τ : mT) : Prop := ∀ n, n < 32 → i (mm_Tr t + 1) n = nI (tk τ n) - 1 ∧ i (mm_Tr t + 2) n = tc τ n ∧ i (mm_Tr t + 3) n = nI (ts τ n) ∧ (tk τ n = 1 → ∀ k, k < ts τ n → i (mm_Tr t + 4) (24 * n + k) = tb τ n k) ∧ (tk τ n = 2 → ∀ k, k < ts τ n → i (mm_Tr t + 4) (24 * n + k) = nI (tm τ n k + 100 * td τ n k))
/-- the reference's tree -/
def TR (i : Nat → Nat → Int32) (τ : mT) : Prop := ∀ n, n < 32 → i 113 n = nI (tk τ n) ∧ i 114 n = tc τ n ∧ i 115 n = nI (ts τ n) ∧ (tk τ n = 1 → ∀ k, k < ts τ n → i 116 (24 * n + k) = tb τ n k) ∧ (tk τ n = 2 → ∀ k, k < ts τ n → i 117 (10 * n + k) = nI (tm τ n k) ∧ i 118 (10 * n + k) = nI (td τ n k))
/-- the reference's sure one -/
def TS (i : Nat → Nat → Int32) (τ : mT) : Prop := ∀ n, n < 32 → i 119 n = nI (tk τ n) ∧ i 119 (32 + n) = tc τ n ∧ i 119 (64 + n) = nI (ts τ n) ∧ (tk τ n = 1 → ∀ k, k < ts τ n → i 119 (96 + (24 * n + k)) = tb τ n k) ∧ (tk τ n = 2 → ∀ k, k < ts τ n → i 119 (864 + (10 * n + k)) = nI (tm τ n k) ∧ i 119 (1184 + (10 * n + k)) = nI (td τ n k))
/-- its bounds -/
def TW (τ : mT) : Prop := ∀ n, n < 32 → tk τ n ≤ 2 ∧ ts τ n ≤ 24 ∧ (tk τ n = 2 → ts τ n ≤ 10 ∧ ∀ k, k < ts τ n → 1 ≤ tm τ n k ∧ tm τ n k ≤ 99 ∧ 1 ≤ td τ n k ∧ td τ n k < 32)
/-- names in a directory are apart -/
def TN (τ : mT) : Prop := ∀ n, n < 32 → tk τ n = 2 → ∀ a b, a < ts τ n → b < ts τ n → tm τ n a = tm τ n b → a = b
/-- the first of d numbers from k on -/
def tFst (p : Nat → Bool) : Nat → Nat → Nat
  | 0, k => k
  | d + 1, k => if p k = true then k else tFst p d (k + 1)
theorem tFst_le (p : Nat → Bool) : ∀ d k, k ≤ tFst p d k ∧ tFst p d k ≤ k + d
  | 0, k => ⟨Nat.le_refl _, Nat.le_refl _⟩
  | d + 1, k => by
    unfold tFst
    have := tFst_le p d (k + 1)
    split <;> omega
theorem tFst_at (p : Nat → Bool) : ∀ d k, tFst p d k < k + d → p (tFst p d k) = true
  | 0, k, h => by unfold tFst at h; omega
  | d + 1, k, h => by
    unfold tFst at h ⊢
    split
    · assumption
    · rename_i q
      rw [if_neg q] at h
      exact tFst_at p d (k + 1) (by omega)
theorem tFst_no (p : Nat → Bool) : ∀ d k j, k ≤ j → j < tFst p d k → p j = false
  | 0, k, j, h1, h2 => by unfold tFst at h2; omega
  | d + 1, k, j, h1, h2 => by
    unfold tFst at h2
    split at h2
    · omega
    · rename_i q
      by_cases e : j = k
      · subst e; exact Bool.eq_false_iff.mpr q
      · exact tFst_no p d (k + 1) j (by omega) h2
theorem tFst_step (p : Nat → Bool) (d k : Nat) (h : p k = false) : tFst p (d + 1) k = tFst p d (k + 1) := by
  rw [tFst, if_neg (by rw [h]; exact Bool.false_ne_true)]
def tCnt (p : Nat → Bool) : Nat → Nat → Nat
  | 0, _ => 0
  | d + 1, k => (if p k = true then 1 else 0) + tCnt p d (k + 1)
theorem tCnt_le (p : Nat → Bool) : ∀ d k, tCnt p d k ≤ d
  | 0, k => Nat.le_refl _
  | d + 1, k => by
    unfold tCnt
    have := tCnt_le p d (k + 1)
    split <;> omega
def tSum (f : Nat → Nat) : Nat → Nat → Nat
  | 0, _ => 0
  | d + 1, k => f k + tSum f d (k + 1)
theorem tSum_le {f : Nat → Nat} {c : Nat} : ∀ d k, (∀ j, k ≤ j → j < k + d → f j ≤ c) → tSum f d k ≤ c * d
  | 0, k, _ => Nat.zero_le _
  | d + 1, k, h => by
    unfold tSum
    have h1 := tSum_le (f := f) (c := c) d (k + 1) (fun j a b => h j (by omega) (by omega))
    have h2 := h k (Nat.le_refl _) (by omega)
    rw [Nat.mul_succ]
    omega
/-- links of node x -/
def tLd (τ : mT) (x d : Nat) : Nat := if tk τ d = 2 then tCnt (fun k => td τ d k == x) (ts τ d) 0 else 0
def tL (τ : mT) (x : Nat) : Nat := tSum (tLd τ x) 32 0
/-- where a directory has a name: its size if nowhere -/
def tE (τ : mT) (d name : Nat) : Nat := tFst (fun k => tm τ d k == name) (ts τ d) 0
/-- the first node that isn't there -/
def tFree (τ : mT) : Nat := tFst (fun k => tk τ k == 0) 32 0
theorem tE_le (τ : mT) (d name : Nat) : tE τ d name ≤ ts τ d := by have := (tFst_le (fun k => tm τ d k == name) (ts τ d) 0).2; unfold tE; omega
theorem tE_at {τ : mT} {d name : Nat} (h : tE τ d name < ts τ d) : tm τ d (tE τ d name) = name := by
  have := tFst_at (fun k => tm τ d k == name) (ts τ d) 0 (by unfold tE at h; omega)
  unfold tE
  simpa using this
theorem tE_is {τ : mT} {d name k : Nat} (hN : ∀ a b, a < ts τ d → b < ts τ d → tm τ d a = tm τ d b → a = b) (hk : k < ts τ d) : tm τ d k = name ↔ k = tE τ d name := by
  constructor
  · intro h
    rcases Nat.lt_or_ge (tE τ d name) (ts τ d) with q | q
    · exact hN k _ hk q (by rw [tE_at q, h])
    · exfalso
      have := tFst_no (fun k => tm τ d k == name) (ts τ d) 0 k (Nat.zero_le _) (by unfold tE at q; omega)
      simp [h] at this
  · intro h
    subst h
    exact tE_at hk
/-- small kinds -/
theorem nk_m1 {k : Nat} (h : k ≤ 2) : (nI k - 1 = -1) ↔ k = 0 := by
  rcases (show k = 0 ∨ k = 1 ∨ k = 2 by omega) with rfl | rfl | rfl <;> decide
theorem nk_p1 {k : Nat} (h : k ≤ 2) : (nI k - 1 = 1) ↔ k = 2 := by
  rcases (show k = 0 ∨ k = 1 ∨ k = 2 by omega) with rfl | rfl | rfl <;> decide
theorem nk_2 {k : Nat} (h : k ≤ 2) : (nI k = 2) ↔ k = 2 := by
  rcases (show k = 0 ∨ k = 1 ∨ k = 2 by omega) with rfl | rfl | rfl <;> decide
theorem nk_0 {k : Nat} (h : k ≤ 2) : (0 < nI k) ↔ k ≠ 0 := by
  rcases (show k = 0 ∨ k = 1 ∨ k = 2 by omega) with rfl | rfl | rfl <;> decide
variable {t w : Bool} {i : Nat → Nat → Int32} {l : Nat → Nat → Int64} {e : Bool × Nat × Nat} {τ : mT} {m n d k x name : Nat}
theorem tc_isThere (h : TC t i τ) (hw : TW τ) (hn : n < 32) : mm_V 141 0 [some (.ref (mm_Tr t)), some (.int (nI n))] [] (mm_Z m w i l e) = some (.inl (some (.int (if tk τ n = 0 then 0 else 1))), mm_Z m w i l e) := by
  rw [mr_141_0]
  simp only [nI_clamp (show n < 2 ^ 31 by omega), (h n hn).1, na_out (show n < 2 ^ 31 by omega), nk_m1 (hw n hn).1]
  rw [if_neg (by omega)]
  split <;> rfl
theorem tc_isDirectory (h : TC t i τ) (hw : TW τ) (hn : n < 32) : mm_V 142 0 [some (.ref (mm_Tr t)), some (.int (nI n))] [] (mm_Z m w i l e) = some (.inl (some (.int (if tk τ n = 2 then 1 else 0))), mm_Z m w i l e) := by
  rw [mr_142_0]
  simp only [nI_clamp (show n < 2 ^ 31 by omega), (h n hn).1, na_out (show n < 2 ^ 31 by omega), nk_p1 (hw n hn).1]
  rw [if_neg (by omega)]
  split <;> rfl
theorem tc_isFull (h : TC t i τ) (hw : TW τ) (hn : n < 32) : mm_V 143 0 [some (.ref (mm_Tr t)), some (.int (nI n))] [] (mm_Z m w i l e) = some (.inl (some (.int (if ts τ n < 10 then 0 else 1))), mm_Z m w i l e) := by
  have hs := (hw n hn).2.1
  rw [mr_143_0]
  simp only [nI_clamp (show n < 2 ^ 31 by omega), (h n hn).2.2.1, na_out (show n < 2 ^ 31 by omega), na_10, nI_ltI (show ts τ n < 2 ^ 31 by omega) (show 10 < 2 ^ 31 by omega)]
  rw [if_neg (by omega)]
  split <;> rfl
theorem tc_free_loop (h : TC t i τ) (hw : TW τ) : ∀ (d k : Nat), k + d = 32 → mm_V 145 2 [some (.ref (mm_Tr t)), some (.int (nI k))] [] (mm_Z m w i l e) = some (.inl (some (.int (if tFst (fun k => tk τ k == 0) d k < 32 then nI (tFst (fun k => tk τ k == 0) d k) else -1))), mm_Z m w i l e)
  | 0, k, hk => by
    have e : k = 32 := by omega
    subst e
    rw [mr_145_2, if_neg (by decide)]
    rfl
  | d + 1, k, hk => by
    rw [mr_145_2, na_32, if_pos ((nI_ltI (by omega) (by omega)).mpr (by omega)), tc_isThere h hw (by omega), mb_l, mb_v, mr_145_13]
    by_cases q : tk τ k = 0
    · rw [if_pos q, if_pos rfl]
      have e : tFst (fun k => tk τ k == 0) (d + 1) k = k := by rw [tFst, if_pos (by simpa using q)]
      rw [e, if_pos (by omega)]
    · rw [if_neg q, if_neg (by decide), nI_1, tc_free_loop h hw d (k + 1) (by omega), tFst_step _ _ _ (by simpa using q)]
theorem tc_freeNode (h : TC t i τ) (hw : TW τ) : mm_V 145 0 [some (.ref (mm_Tr t)), none] [] (mm_Z m w i l e) = some (.inl (some (.int (if tFree τ < 32 then nI (tFree τ) else -1))), mm_Z m w i l e) := by
  rw [mr_145_0, na_0, tc_free_loop h hw 32 0 rfl]
  rfl
theorem tr_free_loop (h : TR i τ) (hw : TW τ) : ∀ (d k : Nat), k + d = 32 → mm_V 275 2 [some (.ref 83), some (.int (nI k))] [] (mm_Z m w i l e) = some (.inl (some (.int (nI (tFst (fun k => tk τ k == 0) d k)))), mm_Z m w i l e)
  | 0, k, hk => by
    have e : k = 32 := by omega
    subst e
    rw [mr_275_2, if_neg (by decide)]
    rfl
  | d + 1, k, hk => by
    rw [mr_275_2, na_32, if_pos ((nI_ltI (by omega) (by omega)).mpr (by omega)), if_neg (by rw [na_out (by omega)]; omega)]
    simp only [nI_clamp (show k < 2 ^ 31 by omega), (h k (by omega)).1, nk_0 (hw k (by omega)).1]
    by_cases q : tk τ k = 0
    · rw [if_neg (by omega)]
      have e : tFst (fun k => tk τ k == 0) (d + 1) k = k := by rw [tFst, if_pos (by simpa using q)]
      rw [e]
    · rw [if_pos q, nI_1, tr_free_loop h hw d (k + 1) (by omega), tFst_step _ _ _ (by simpa using q)]
theorem tr_freeNode (h : TR i τ) (hw : TW τ) : mm_V 275 0 [some (.ref 83), none] [] (mm_Z m w i l e) = some (.inl (some (.int (nI (tFree τ)))), mm_Z m w i l e) := by
  rw [mr_275_0, na_0, tr_free_loop h hw 32 0 rfl]
  rfl
theorem tr_isDirectory (h : TR i τ) (hw : TW τ) (hn : n < 32) : mm_V 268 0 [some (.ref 83), some (.int (nI n))] [] (mm_Z m w i l e) = some (.inl (some (.int (if tk τ n = 2 then 1 else 0))), mm_Z m w i l e) := by
  rw [mr_268_0]
  simp only [nI_clamp (show n < 2 ^ 31 by omega), (h n hn).1, na_out (show n < 2 ^ 31 by omega), nk_2 (hw n hn).1]
  rw [if_neg (by omega)]
  split <;> rfl
end MM61
