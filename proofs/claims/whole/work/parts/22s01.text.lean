/-! TEXT: signs, blanks, names, packed words -/
section MM130
/-- a text: its size, its signs -/
abbrev mX : Type := Nat × (Nat → Nat)
def xz (X : mX) : Nat := X.1
def xs (X : mX) : Nat → Nat := X.2
def XW (X : mX) : Prop := xz X ≤ 1200 ∧ ∀ k, k < xz X → 10 ≤ xs X k ∧ xs X k ≤ 126
/-- the class's text; the reference's text that it reads; the reference's text that was put -/
def XC (X : mX) (i : Nat → Nat → Int32) : Prop := i 1 1 = nI (xz X) ∧ ∀ k, k < xz X → i 2 k = nI (xs X k)
def XR (X : mX) (i : Nat → Nat → Int32) : Prop := i 83 9 = nI (xz X) ∧ ∀ k, k < xz X → i 88 k = nI (xs X k)
def XP (X : mX) (i : Nat → Nat → Int32) : Prop := i 83 2 = nI (xz X) ∧ ∀ k, k < xz X → i 84 k = nI (xs X k)
/-- behind blanks and comments: in a comment?, how many signs are left, where -/
def bk (X : mX) : Bool → Nat → Nat → Nat
  | _, 0, p => p
  | c, d + 1, p => if xs X p = 35 ∨ (c = true ∧ xs X p ≠ 10) then bk X true d (p + 1) else if xs X p = 32 ∨ xs X p = 10 then bk X false d (p + 1) else p
theorem bk_s (X : mX) (c : Bool) (d p : Nat) : bk X c (d + 1) p = if xs X p = 35 ∨ (c = true ∧ xs X p ≠ 10) then bk X true d (p + 1) else if xs X p = 32 ∨ xs X p = 10 then bk X false d (p + 1) else p := by rw [bk]
theorem bk_le (X : mX) : ∀ (c : Bool) (d p : Nat), p ≤ bk X c d p ∧ bk X c d p ≤ p + d
  | _, 0, p => ⟨Nat.le_refl _, Nat.le_refl _⟩
  | c, d + 1, p => by
    unfold bk
    have h1 := bk_le X true d (p + 1)
    have h2 := bk_le X false d (p + 1)
    split
    · omega
    · split <;> omega
/-- what stands behind blanks is no blank -/
theorem bk_no (X : mX) : ∀ (c : Bool) (d p : Nat), bk X c d p < p + d → xs X (bk X c d p) ≠ 32 ∧ xs X (bk X c d p) ≠ 10 ∧ xs X (bk X c d p) ≠ 35
  | _, 0, p, h => by unfold bk at h; omega
  | c, d + 1, p, h => by
    unfold bk at h ⊢
    split
    · rename_i q
      rw [if_pos q] at h
      exact bk_no X true d (p + 1) (by omega)
    · rename_i q
      rw [if_neg q] at h
      split
      · rename_i q2
        rw [if_pos q2] at h
        exact bk_no X false d (p + 1) (by omega)
      · rename_i q2
        refine ⟨fun z => q2 (Or.inl z), fun z => q2 (Or.inr z), fun z => q (Or.inl z)⟩
variable {w : Bool} {l : Nat → Nat → Int64} {e : Bool × Nat × Nat} {m : Nat} {X : mX} {i i' : Nat → Nat → Int32} {a b c n p q : Nat} {u4 : Option Value} {x1 x2 : Int32}
theorem XW.le (h : XW X) : xz X ≤ 1200 := h.1
theorem XW.bd (h : XW X) (hp : p < xz X) : xs X p < 2 ^ 31 := by have := (h.2 p hp).2; omega
theorem sg_eq {v k : Nat} (h : v ≤ 126) (hk : k < 2 ^ 31) {y : Int32} (hy : y = nI k) : (nI v = y) ↔ v = k := by rw [hy]; exact nI_eq (by omega) hk
theorem xc_at (h : XC X i) (hw : XW X) (hp : p < 2 ^ 31) : mm_V 126 0 [some (.ref 1), some (.int (nI p))] [] (mm_Z m w i l e) = some (.inl (some (.int (if p < xz X then nI (xs X p) else -1))), mm_Z m w i l e) := by
  have hz := hw.le
  rw [mr_126_0, if_neg (nI_pos hp), h.1]
  by_cases q : p < xz X
  · rw [if_pos ((nI_ltI hp (by omega)).mpr q), if_neg (no_out (by omega) (by omega)), nI_clamp hp, h.2 p q, if_pos q]
  · rw [if_neg (fun z => q ((nI_ltI hp (by omega)).mp z)), if_neg q]
theorem xc_bk_loop (h : XC X i) (hw : XW X) : ∀ (d p : Nat) (c : Bool) (u4 : Option Value), p + d = xz X → mm_V 127 4 [some (.ref 1), some (.int x1), some (.int (bI c)), some (.int (nI p)), u4] [] (mm_Z m w i l e) = some (.inl (some (.int (nI (bk X c d p)))), mm_Z m w i l e)
  | 0, p, c, u4, hp => by
    have hz := hw.le
    rw [mr_127_4, h.1, if_neg (fun z => by have := (nI_ltI (by omega) (by omega)).mp z; omega)]
    show _ = some (Sum.inl (some (Value.int (nI p))), _)
    rw [show p = xz X by omega]
  | d + 1, p, c, u4, hp => by
    have hz := hw.le
    have hb := (hw.2 p (by omega)).2
    rw [mr_127_4, h.1, if_pos ((nI_ltI (by omega) (by omega)).mpr (by omega)), xc_at h hw (by omega), if_pos (show p < xz X by omega), mb_l, mb_v, mr_127_17]
    have e35 : (nI (xs X p) = 35) ↔ xs X p = 35 := sg_eq hb (by omega) rfl
    have e10 : (nI (xs X p) = 10) ↔ xs X p = 10 := sg_eq hb (by omega) rfl
    have e32 : (nI (xs X p) = 32) ↔ xs X p = 32 := sg_eq hb (by omega) rfl
    have t1 : mm_V 127 42 [some (.ref 1), some (.int x1), some (.int (bI c)), some (.int (nI p)), some (.int (nI (xs X p)))] [.int 1] (mm_Z m w i l e) = some (.inl (some (.int (nI (bk X true d (p + 1))))), mm_Z m w i l e) := by
      rw [mr_127_42, if_neg (by decide), nI_1, show (some (Value.int 1) : Option Value) = some (.int (bI true)) from rfl, xc_bk_loop h hw d (p + 1) true _ (by omega)]
    have t0 : mm_V 127 42 [some (.ref 1), some (.int x1), some (.int (bI c)), some (.int (nI p)), some (.int (nI (xs X p)))] [.int 0] (mm_Z m w i l e) = some (.inl (some (.int (if xs X p = 32 ∨ xs X p = 10 then nI (bk X false d (p + 1)) else nI p))), mm_Z m w i l e) := by
      rw [mr_127_42, if_pos rfl, nI_1, show (some (Value.int 0) : Option Value) = some (.int (bI false)) from rfl, xc_bk_loop h hw d (p + 1) false _ (by omega)]
      by_cases q1 : xs X p = 32
      · rw [if_pos (e32.mpr q1), if_pos (Or.inl q1)]
      · rw [if_neg (fun z => q1 (e32.mp z))]
        by_cases q2 : xs X p = 10
        · rw [if_pos (e10.mpr q2), if_pos (Or.inr q2)]
        · rw [if_neg (fun z => q2 (e10.mp z)), if_neg (fun z => z.elim q1 q2)]
    unfold bk
    by_cases q1 : xs X p = 35
    · rw [if_pos (e35.mpr q1), t1, if_pos (Or.inl q1)]
    · rw [if_neg (fun z => q1 (e35.mp z)), t0, t1]
      cases c with
      | false =>
        rw [if_pos (show bI false = 0 from rfl), if_neg (show ¬ (xs X p = 35 ∨ (false = true ∧ xs X p ≠ 10)) from fun z => z.elim q1 (fun y => Bool.false_ne_true y.1))]
        by_cases q3 : xs X p = 32 ∨ xs X p = 10
        · rw [if_pos q3, if_pos q3]
        · rw [if_neg q3, if_neg q3]
      | true =>
        rw [if_neg (show ¬ bI true = 0 by decide)]
        by_cases q2 : xs X p = 10
        · rw [if_pos (e10.mpr q2), if_neg (show ¬ (xs X p = 35 ∨ (true = true ∧ xs X p ≠ 10)) from fun z => z.elim q1 (fun y => y.2 q2)), if_pos (Or.inr q2), if_pos (Or.inr q2)]
        · rw [if_neg (fun z => q2 (e10.mp z)), if_pos (Or.inr ⟨rfl, q2⟩)]
/-- where the next token begins -/
def bb (X : mX) (p : Nat) : Nat := bk X false (xz X - p) p
theorem bb_le (hp : p ≤ xz X) : p ≤ bb X p ∧ bb X p ≤ xz X := by
  have := bk_le X false (xz X - p) p
  unfold bb; omega
theorem xc_bk (h : XC X i) (hw : XW X) (hp : p ≤ xz X) : mm_V 127 0 [some (.ref 1), some (.int (nI p)), none, none, none] [] (mm_Z m w i l e) = some (.inl (some (.int (nI (bb X p)))), mm_Z m w i l e) := by
  have e0 := xc_bk_loop (m := m) (w := w) (l := l) (e := e) (x1 := nI p) h hw (xz X - p) p false none (by omega)
  have e0 : mm_V 127 4 [some (.ref 1), some (.int (nI p)), some (.int 0), some (.int (nI p)), none] [] (mm_Z m w i l e) = _ := e0
  rw [mr_127_0, e0]
  rfl
/-- the reference -/
theorem xr_at (h : XR X i) (hw : XW X) (hp : p < 2 ^ 31) : mm_V 198 0 [some (.ref 83), some (.int (nI p))] [] (mm_Z m w i l e) = some (.inl (some (.int (if p < xz X then nI (xs X p) else 0))), mm_Z m w i l e) := by
  have hz := hw.le
  rw [mr_198_0, h.1]
  by_cases q : p < xz X
  · rw [if_pos ((nI_ltI hp (by omega)).mpr q), if_neg (no_out (by omega) (by omega)), nI_clamp hp, h.2 p q, if_pos q]
  · rw [if_neg (fun z => q ((nI_ltI hp (by omega)).mp z)), if_neg q]
theorem xr_sk_step (h : XR X i) (hw : XW X) (hp : p < xz X) (hq : xs X p = 32 ∨ xs X p = 10) : mm_V 201 2 [some (.ref 83), some (.int x1), some (.int (nI p))] [] (mm_Z m w i l e) = mm_V 201 2 [some (.ref 83), some (.int x1), some (.int (nI (p + 1)))] [] (mm_Z m w i l e) := by
  have hz := hw.le
  have hb := (hw.2 p hp).2
  have e35 : (nI (xs X p) = 35) ↔ xs X p = 35 := sg_eq hb (by omega) rfl
  have e10 : (nI (xs X p) = 10) ↔ xs X p = 10 := sg_eq hb (by omega) rfl
  have e32 : (nI (xs X p) = 32) ↔ xs X p = 32 := sg_eq hb (by omega) rfl
  have t : mm_V 201 32 [some (.ref 83), some (.int x1), some (.int (nI p))] [] (mm_Z m w i l e) = mm_V 201 2 [some (.ref 83), some (.int x1), some (.int (nI (p + 1)))] [] (mm_Z m w i l e) := by
    rw [mr_201_32, xr_at h hw (by omega), if_pos hp, mb_l, mb_v, mr_201_37, if_neg (fun z => by have := e35.mp z; omega), nI_1]
  rw [mr_201_2, xr_at h hw (by omega), if_pos hp, mb_l, mb_v, mr_201_7, t]
  by_cases q1 : xs X p = 32
  · rw [if_pos (e32.mpr q1)]
  · rw [if_neg (fun z => q1 (e32.mp z)), xr_at h hw (by omega), if_pos hp, mb_l, mb_v, mr_201_17, if_pos (e10.mpr (hq.resolve_left q1)), t]
theorem xr_sk_com (h : XR X i) (hw : XW X) (hp : p < xz X) (hq : xs X p = 35) : mm_V 201 2 [some (.ref 83), some (.int x1), some (.int (nI p))] [] (mm_Z m w i l e) = mm_V 201 42 [some (.ref 83), some (.int x1), some (.int (nI p))] [] (mm_Z m w i l e) := by
  have hz := hw.le
  have hb := (hw.2 p hp).2
  have e35 : (nI (xs X p) = 35) ↔ xs X p = 35 := sg_eq hb (by omega) rfl
  have e10 : (nI (xs X p) = 10) ↔ xs X p = 10 := sg_eq hb (by omega) rfl
  have e32 : (nI (xs X p) = 32) ↔ xs X p = 32 := sg_eq hb (by omega) rfl
  rw [mr_201_2, xr_at h hw (by omega), if_pos hp, mb_l, mb_v, mr_201_7, if_neg (fun z => by have := e32.mp z; omega), xr_at h hw (by omega), if_pos hp, mb_l, mb_v, mr_201_17, if_neg (fun z => by have := e10.mp z; omega), xr_at h hw (by omega), if_pos hp, mb_l, mb_v, mr_201_27, if_pos (e35.mpr hq), mr_201_32, xr_at h hw (by omega), if_pos hp, mb_l, mb_v, mr_201_37, if_pos (e35.mpr hq)]
theorem xr_sk_end (h : XR X i) (hw : XW X) (hp : p ≤ xz X) (hq : p < xz X → xs X p ≠ 32 ∧ xs X p ≠ 10 ∧ xs X p ≠ 35) : mm_V 201 2 [some (.ref 83), some (.int x1), some (.int (nI p))] [] (mm_Z m w i l e) = some (.inl (some (.int (nI p))), mm_Z m w i l e) := by
  have hz := hw.le
  by_cases q : p < xz X
  · have hb := (hw.2 p q).2
    obtain ⟨q1, q2, q3⟩ := hq q
    have e35 : (nI (xs X p) = 35) ↔ xs X p = 35 := sg_eq hb (by omega) rfl
    have e10 : (nI (xs X p) = 10) ↔ xs X p = 10 := sg_eq hb (by omega) rfl
    have e32 : (nI (xs X p) = 32) ↔ xs X p = 32 := sg_eq hb (by omega) rfl
    rw [mr_201_2, xr_at h hw (by omega), if_pos q, mb_l, mb_v, mr_201_7, if_neg (fun z => q1 (e32.mp z)), xr_at h hw (by omega), if_pos q, mb_l, mb_v, mr_201_17, if_neg (fun z => q2 (e10.mp z)), xr_at h hw (by omega), if_pos q, mb_l, mb_v, mr_201_27, if_neg (fun z => q3 (e35.mp z))]
  · rw [mr_201_2, xr_at h hw (by omega), if_neg q, mb_l, mb_v, mr_201_7, if_neg (by decide), xr_at h hw (by omega), if_neg q, mb_l, mb_v, mr_201_17, if_neg (by decide), xr_at h hw (by omega), if_neg q, mb_l, mb_v, mr_201_27, if_neg (by decide)]
theorem xr_sk_loop (h : XR X i) (hw : XW X) : ∀ (d p : Nat), p + d = xz X → mm_V 201 2 [some (.ref 83), some (.int x1), some (.int (nI p))] [] (mm_Z m w i l e) = some (.inl (some (.int (nI (bk X false d p)))), mm_Z m w i l e) ∧ mm_V 201 42 [some (.ref 83), some (.int x1), some (.int (nI p))] [] (mm_Z m w i l e) = some (.inl (some (.int (nI (bk X true d p)))), mm_Z m w i l e)
  | 0, p, hp => by
    have hz := hw.le
    have t := xr_sk_end (m := m) (w := w) (l := l) (e := e) (x1 := x1) h hw (p := p) (by omega) (fun z => by omega)
    refine ⟨t, ?_⟩
    rw [mr_201_42, h.1, if_neg (fun z => by have := (nI_ltI (by omega) (by omega)).mp z; omega), t]
    rfl
  | d + 1, p, hp => by
    have hz := hw.le
    have hb := (hw.2 p (by omega)).2
    obtain ⟨r1, r2⟩ := xr_sk_loop h hw d (p + 1) (by omega)
    have e10 : (nI (xs X p) = 10) ↔ xs X p = 10 := sg_eq hb (by omega) rfl
    have k42 : mm_V 201 42 [some (.ref 83), some (.int x1), some (.int (nI p))] [] (mm_Z m w i l e) = some (.inl (some (.int (nI (bk X true (d + 1) p)))), mm_Z m w i l e) := by
      rw [mr_201_42, h.1, if_pos ((nI_ltI (by omega) (by omega)).mpr (by omega)), if_neg (no_out (by omega) (by omega)), nI_clamp (by omega), h.2 p (by omega), nI_1, r2]
      rw [bk_s]
      by_cases q : xs X p = 10
      · rw [if_pos (e10.mpr q), xr_sk_step h hw (by omega) (Or.inr q), r1, if_neg (fun z => z.elim (fun y => by omega) (fun y => y.2 q)), if_pos (Or.inr q)]
      · rw [if_neg (fun z => q (e10.mp z)), if_pos (Or.inr ⟨rfl, q⟩)]
    refine ⟨?_, k42⟩
    by_cases q1 : xs X p = 35
    · rw [xr_sk_com h hw (by omega) q1, k42]
      rw [bk_s, bk_s, if_pos (Or.inl q1), if_pos (Or.inl q1)]
    · by_cases q2 : xs X p = 32 ∨ xs X p = 10
      · rw [xr_sk_step h hw (by omega) q2, r1]
        rw [bk_s, if_neg (fun z => z.elim q1 (fun y => Bool.false_ne_true y.1)), if_pos q2]
      · rw [xr_sk_end h hw (by omega) (fun _ => ⟨fun z => q2 (Or.inl z), fun z => q2 (Or.inr z), q1⟩)]
        rw [bk_s, if_neg (fun z => z.elim q1 (fun y => Bool.false_ne_true y.1)), if_neg q2]
theorem xr_sk (h : XR X i) (hw : XW X) (hp : p ≤ xz X) : mm_V 201 0 [some (.ref 83), some (.int (nI p)), none] [] (mm_Z m w i l e) = some (.inl (some (.int (nI (bb X p)))), mm_Z m w i l e) := by
  rw [mr_201_0, (xr_sk_loop h hw (xz X - p) p (by omega)).1]
  rfl
end MM130
