/-! EVENTS: tokens, in the class -/
section MM199
variable {X : mX} {w : Bool} {i i' : Nat → Nat → Int32} {l l' : Nat → Nat → Int64} {m : Nat} {e : Bool × Nat × Nat} {n k j p q c d a : Nat} {x y : Int32} {L : List Nat}
def tAt : List Nat := (mm_sx mm_stb 1000106).getD []
def tLo : List Nat := (mm_sx mm_stb 1000105).getD []
theorem tAt_s : mm_sx mm_stb 1000106 = some tAt := by decide +kernel
theorem tLo_s : mm_sx mm_stb 1000105 = some tLo := by decide +kernel
def WA : List (List Nat) := wds tAt []
def WL : List (List Nat) := wds tLo []
theorem WA_len : WA.length = 22 := by decide +kernel
theorem WL_len : WL.length = 3 := by decide +kernel
theorem tAt_l : tAt.length < 1000 := by decide +kernel
theorem tLo_l : tLo.length < 1000 := by decide +kernel
theorem tAt_k : wOk tAt 0 = true := by decide +kernel
theorem tLo_k : wOk tLo 0 = true := by decide +kernel
theorem WA_g : wGb (wds tAt []) = true := by decide +kernel
theorem WL_g : wGb (wds tLo []) = true := by decide +kernel
/-- the number of a word: 0 .. 24, or 25 -/
def eW (L : List Nat) : Nat := if wI WA L < 22 then wI WA L else if wI WL L < 3 then 22 + wI WL L else 25
/-- where letters end; where digits end -/
def lE (X : mX) (p : Nat) : Nat := tFst (fun q => !isL (xs X q)) (xz X - p) p
def nmE (X : mX) (p : Nat) : Nat := tFst (fun q => !isD (xs X q)) (xz X - p) p
def nmV : Nat → List Nat → Nat
  | a, [] => a
  | a, c :: L => nmV (10 * a + (c - 48)) L
def wl (X : mX) (p : Nat) : List Nat := if lE X p - p ≤ 9 then sg X p (lE X p - p) else []
/-- place, next, kind (0 end, 1 wrong, 2 word, 3 number, 59), value -/
abbrev mTk : Type := Nat × Nat × Nat × Nat
def etk (X : mX) (n : Nat) : mTk := if bb X n < xz X then (if isL (xs X (bb X n)) = true then (bb X n, lE X (bb X n), 2, eW (wl X (bb X n))) else if isD (xs X (bb X n)) = true then (bb X n, nmE X (bb X n), (if 8 < nmE X (bb X n) - bb X n then 1 else 3), nmV 0 (sg X (bb X n) (nmE X (bb X n) - bb X n))) else (bb X n, bb X n + 1, (if xs X (bb X n) = 59 then 59 else 1), 0)) else (bb X n, bb X n, 0, 0)
def EC (i : Nat → Nat → Int32) (l : Nat → Nat → Int64) (t : mTk) : Prop := i 29 1 = nI t.1 ∧ i 29 2 = nI t.2.1 ∧ i 29 3 = nI t.2.2.1 ∧ (t.2.2.1 = 3 → i 29 4 = nI t.2.2.2) ∧ (t.2.2.1 = 2 → ∃ L, wG L ∧ L.length ≤ 9 ∧ l 29 5 = lN (pk 0 L) ∧ eW L = t.2.2.2)
theorem xc_isD (hc : c < 2 ^ 31) : mm_V 124 0 [some (.int (nI c))] [] (mm_Z m w i l e) = some (.inl (some (.int (bI (isD c)))), mm_Z m w i l e) := by
  have a1 : (nI c < 48) ↔ c < 48 := nI_ltI hc (by decide : 48 < 2 ^ 31)
  have a2 : ((57 : Int32) < nI c) ↔ 57 < c := nI_ltI (by decide : 57 < 2 ^ 31) hc
  rw [mr_124_0]
  unfold isD
  by_cases q1 : 48 ≤ c
  · rw [if_neg (fun z => by have := a1.mp z; omega)]
    by_cases q2 : c ≤ 57
    · rw [if_neg (fun z => by have := a2.mp z; omega), decide_eq_true ⟨q1, q2⟩]; rfl
    · rw [if_pos (a2.mpr (by omega)), decide_eq_false (fun z => q2 z.2)]; rfl
  · rw [if_pos (a1.mpr (by omega)), decide_eq_false (fun z => q1 z.1)]; rfl
theorem fs_le {P : Nat → Bool} (hp : p ≤ n) : p ≤ tFst P (n - p) p ∧ tFst P (n - p) p ≤ n := by
  have := tFst_le P (n - p) p
  omega
theorem fs_lt {P : Nat → Bool} (hp : p < n) (h : P p = false) : p < tFst P (n - p) p := by
  obtain ⟨d, hd⟩ : ∃ d, n - p = d + 1 := ⟨n - p - 1, by omega⟩
  rw [hd, tFst_step P d p h]
  have := (tFst_le P d (p + 1)).1
  omega
theorem ec_wd_loop (hw : XW X) : ∀ (d p : Nat) (i : Nat → Nat → Int32), XC X i → i 29 2 = nI p → p + d = xz X → ∃ i', mm_V 30 0 [some (.ref 29)] [] (mm_Z m w i l e) = mm_V 30 44 [some (.ref 29)] [] (mm_Z m w i' l e) ∧ i' 29 2 = nI (tFst (fun q => !isL (xs X q)) d p) ∧ (∀ k j, ¬ (k = 29 ∧ j = 2) → i' k j = i k j)
  | 0, p, i, h, h2, hp => by
    have hz := hw.le
    refine ⟨i, ?_, h2, fun _ _ _ => rfl⟩
    rw [mr_30_0, h2, h.1, if_neg (fun z => by have := (nI_ltI (by omega) (by omega)).mp z; omega)]
  | d + 1, p, i, h, h2, hp => by
    have hz := hw.le
    have hb := (hw.2 p (by omega)).2
    rw [mr_30_0, h2, h.1, if_pos ((nI_ltI (by omega) (by omega)).mpr (by omega)), xc_at h hw (by omega), if_pos (show p < xz X by omega), mb_l, mb_v, mr_30_25, xc_isL (by omega), mb_l, mb_v, mr_30_28, tFst]
    cases q : isL (xs X p) with
    | false =>
      rw [if_bf, if_pos (show (!false) = true from rfl)]
      exact ⟨i, rfl, h2, fun _ _ _ => rfl⟩
    | true =>
      rw [if_bt, if_neg (show ¬ (!true) = true by decide), h2, nI_1]
      obtain ⟨i1, f1, f2, f3⟩ := ec_wd_loop hw d (p + 1) (mm_ww i 29 2 (nI (p + 1))) (h.kp (by rw [mw_k (by omega)]) (fun j => by rw [mw_k (by omega)])) mw_s (by omega)
      exact ⟨i1, f1, f2, fun k j z => by rw [f3 k j z, mw_ne z]⟩
theorem ec_word (h : XC X i) (hw : XW X) (h1 : i 29 1 = nI p) (h2 : i 29 2 = nI p) (hp : p ≤ xz X) : ∃ i', mm_V 30 0 [some (.ref 29)] [] (mm_Z m w i l e) = some (.inl none, mm_Z m w i' (mm_wl l 29 5 (lN (if lE X p - p ≤ 9 then pk 0 (sg X p (lE X p - p)) else 0))) e) ∧ i' 29 2 = nI (lE X p) ∧ i' 29 3 = nI 2 ∧ (∀ k j, ¬ (k = 29 ∧ (j = 2 ∨ j = 3)) → i' k j = i k j) := by
  have hz := hw.le
  obtain ⟨i1, f1, f2, f3⟩ := ec_wd_loop (m := m) (w := w) (l := l) (e := e) hw (xz X - p) p i h h2 (by omega)
  have f2 : i1 29 2 = nI (lE X p) := f2
  have e1 : p ≤ lE X p ∧ lE X p ≤ xz X := fs_le hp
  rw [f1, mr_30_44, f2, f3 29 1 (by omega), h1, xc_packed (h.kp (by rw [mw_k (by omega), f3 _ _ (by omega)]) (fun j => by rw [mw_k (by omega), f3 _ _ (by omega)])) hw e1.1 e1.2, mb_l, mb_v, mr_30_65]
  exact ⟨_, rfl, by rw [mw_j (by omega)]; exact f2, mw_s, fun k j z => by rw [mw_ne (by omega), f3 k j (by omega)]⟩
theorem nmV_app : ∀ (L : List Nat) (a c : Nat), nmV a (L ++ [c]) = 10 * nmV a L + (c - 48)
  | [], a, c => rfl
  | _ :: L, a, c => nmV_app L _ c
theorem sg_app (X : mX) : ∀ (n a : Nat), sg X a (n + 1) = sg X a n ++ [xs X (a + n)]
  | 0, a => by rw [sg, sg, sg]; rfl
  | n + 1, a => by
    rw [sg, sg_app X n (a + 1), sg]
    show _ = xs X a :: (sg X (a + 1) n ++ [xs X (a + (n + 1))])
    rw [show a + 1 + n = a + (n + 1) by omega]
theorem nmV_lt : ∀ (L : List Nat) (a : Nat), (∀ c, c ∈ L → isD c = true) → nmV a L < (a + 1) * 10 ^ L.length
  | [], a, _ => by
    show a < (a + 1) * 10 ^ 0
    omega
  | c :: L, a, h => by
    have h1 := of_decide_eq_true (h c List.mem_cons_self)
    have h2 := nmV_lt L (10 * a + (c - 48)) (fun c' hc => h c' (List.mem_cons_of_mem _ hc))
    have h3 : (10 * a + (c - 48) + 1) * 10 ^ L.length ≤ (a + 1) * 10 * 10 ^ L.length := Nat.mul_le_mul_right _ (by omega)
    show nmV (10 * a + (c - 48)) L < (a + 1) * 10 ^ (L.length + 1)
    rw [Nat.pow_succ, Nat.mul_comm (10 ^ L.length) 10, ← Nat.mul_assoc]
    omega
theorem nmV_8 (hd : ∀ k, p ≤ k → k < p + d → isD (xs X k) = true) (h8 : d ≤ 8) : nmV 0 (sg X p d) < 100000000 := by
  have h1 := nmV_lt (sg X p d) 0 (sg_all d p hd)
  rw [sg_len] at h1
  have h2 : 10 ^ d ≤ 10 ^ 8 := Nat.pow_le_pow_right (by omega) h8
  omega
/-- digits, from p on; r at q -/
theorem ec_nm_loop (hw : XW X) (hp : p ≤ xz X) : ∀ (d q : Nat) (i : Nat → Nat → Int32), XC X i → i 29 2 = nI q → q + d = xz X → p ≤ q → (∀ k, p ≤ k → k < q → isD (xs X k) = true) → (q - p ≤ 8 → i 29 4 = nI (nmV 0 (sg X p (q - p)))) → ∃ i', mm_V 31 5 [some (.ref 29)] [] (mm_Z m w i l e) = mm_V 31 75 [some (.ref 29)] [] (mm_Z m w i' l e) ∧ i' 29 2 = nI (tFst (fun q => !isD (xs X q)) d q) ∧ (tFst (fun q => !isD (xs X q)) d q - p ≤ 8 → i' 29 4 = nI (nmV 0 (sg X p (tFst (fun q => !isD (xs X q)) d q - p)))) ∧ (∀ k j, ¬ (k = 29 ∧ (j = 2 ∨ j = 4)) → i' k j = i k j)
  | 0, q, i, h, h2, hq, hpq, hD, h4 => by
    have hz := hw.le
    refine ⟨i, ?_, h2, h4, fun _ _ _ => rfl⟩
    rw [mr_31_5, h2, h.1, if_neg (fun z => by have := (nI_ltI (by omega) (by omega)).mp z; omega)]
  | d + 1, q, i, h, h2, hq, hpq, hD, h4 => by
    have hz := hw.le
    have hb := (hw.2 q (by omega)).2
    rw [mr_31_5, h2, h.1, if_pos ((nI_ltI (by omega) (by omega)).mpr (by omega)), xc_at h hw (by omega), if_pos (show q < xz X by omega), mb_l, mb_v, mr_31_30, xc_isD (by omega), mb_l, mb_v, mr_31_33, tFst]
    cases hd : isD (xs X q) with
    | false =>
      rw [if_bf, if_pos (show (!false) = true from rfl)]
      exact ⟨i, rfl, h2, h4, fun _ _ _ => rfl⟩
    | true =>
      have hd' := of_decide_eq_true hd
      rw [if_bt, if_neg (show ¬ (!true) = true by decide), h2, xc_at h hw (by omega), if_pos (show q < xz X by omega), mb_l, mb_v, mr_31_55]
      rw [h2, nI_1]
      obtain ⟨i1, f1, f2, f3, f4⟩ := ec_nm_loop hw hp d (q + 1) (mm_ww (mm_ww i 29 4 (i 29 4 * 10 + nI (xs X q) - 48)) 29 2 (nI (q + 1))) (h.kp (by rw [mw_k (by omega), mw_k (by omega)]) (fun j => by rw [mw_k (by omega), mw_k (by omega)])) mw_s (by omega) (by omega) (fun k k1 k2 => by
          by_cases z : k = q
          · rw [z]; exact hd
          · exact hD k k1 (by omega)) (fun h8 => by
          have h4 := h4 (by omega)
          have hl := nmV_8 (X := X) (p := p) (d := q - p) (fun k k1 k2 => hD k k1 (by omega)) (by omega)
          rw [mw_j (by decide), mw_s, h4, show (10 : Int32) = nI 10 from rfl, show (48 : Int32) = nI 48 from rfl, na_mul, nI_add, na_sub (by omega), show q + 1 - p = (q - p) + 1 by omega, sg_app, nmV_app, show p + (q - p) = q by omega]
          congr 1
          omega)
      exact ⟨i1, f1, f2, f3, fun k j z => by rw [f4 k j z, mw_ne (by omega), mw_ne (by omega)]⟩
end MM199
