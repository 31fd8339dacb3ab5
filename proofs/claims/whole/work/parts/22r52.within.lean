/-! WITHIN: the directories above one; rename -/
section MM111
theorem wB_bit {k : Nat} (hk : k < 32) : ∀ (P : List Nat) (x : Int32), (∀ n, n ∈ P → n < 32) → mB (wB x P) k = (mB x k || decide (k ∈ P))
  | [], x, h => by simp [wB]
  | n :: P, x, h => by
    have e : wB x (n :: P) = wB (x ||| (1 <<< (nI n &&& 31))) P := rfl
    rw [e, wB_bit hk P _ (fun z hz => h z (List.mem_cons_of_mem _ hz)), mB_or hk, mB_bit (h n (List.mem_cons_self)) hk]
    rw [Bool.eq_iff_iff]
    simp only [Bool.or_eq_true, decide_eq_true_eq, List.mem_cons]
    constructor
    · rintro ((z | z) | z)
      · exact Or.inl z
      · exact Or.inr (Or.inl z.symm)
      · exact Or.inr (Or.inr z)
    · rintro (z | z | z)
      · exact Or.inl (Or.inl z)
      · exact Or.inl (Or.inr z.symm)
      · exact Or.inr z
/-- q is the one directory with the entry c -/
def isUp (τ : mT) (c q : Nat) : Prop := 1 ≤ c ∧ c < 32 ∧ q < 32 ∧ ∀ x, x < 32 → ((tk τ x = 2 ∧ tAny (fun k => td τ x k == c) (ts τ x) 0 = true) ↔ x = q)
theorem sum_two {f : Nat → Nat} : ∀ (D k i j : Nat), k ≤ i → i < k + D → k ≤ j → j < k + D → i ≠ j → f i + f j ≤ tSum f D k
  | 0, k, i, j, h1, h2, h3, h4, h5 => by omega
  | D + 1, k, i, j, h1, h2, h3, h4, h5 => by
    rw [tSum]
    by_cases q : i = k
    · subst q
      have := sum_ge (f := f) D (i + 1) j (by omega) (by omega)
      omega
    · by_cases z : j = k
      · subst z
        have := sum_ge (f := f) D (j + 1) i (by omega) (by omega)
        omega
      · have := sum_two (f := f) D (k + 1) i j (by omega) (by omega) (by omega) (by omega) h5
        omega
theorem up_of {τ : mT} (hI : TI τ) {q k : Nat} (hq : q < 32) (h2 : tk τ q = 2) (hk : k < ts τ q) (hc : tk τ (td τ q k) = 2) : isUp τ (td τ q k) q := by
  have hb := ((hI.1 q hq).2.2 h2).2 k hk
  have h1 := hI.2.2.2.1 _ hb.2.2.1 hb.2.2.2 hc
  have e1 : tL τ (td τ q k) = tSum (tLd τ (td τ q k)) 32 0 := rfl
  have a1 : ∀ x, tk τ x = 2 → (tAny (fun j => td τ x j == td τ q k) (ts τ x) 0 = true ↔ tLd τ (td τ q k) x ≠ 0) := fun x hx => by
    unfold tLd
    rw [if_pos hx, cnt_any]
    simp
  have aq : tLd τ (td τ q k) q ≠ 0 := by
    unfold tLd
    rw [if_pos h2]
    exact cnt_pos _ 0 k (Nat.zero_le _) (by omega) (by simp)
  refine ⟨hb.2.2.1, hb.2.2.2, hq, fun x hx => ⟨fun ⟨z1, z2⟩ => ?_, fun z => ?_⟩⟩
  · have z3 := (a1 x z1).mp z2
    by_cases y : x = q
    · exact y
    · have := sum_two (f := tLd τ (td τ q k)) 32 0 x q (by omega) (by omega) (by omega) (by omega) y
      omega
  · subst z
    exact ⟨h2, (a1 x h2).mpr aq⟩
/-- a chain of directories upwards, to the root -/
def wCh (τ : mT) : List Nat → Prop
  | [] => True
  | c :: R => isUp τ c (R.headD 0) ∧ wCh τ R
theorem wV_dir {τ : mT} : ∀ (A : List Nat) (c n : Nat), wV τ A c n → tk τ n = 2 → tk τ c = 2
  | [], c, n, h, h2 => by cases h; exact h2
  | x :: A, c, n, h, h2 => h.1
theorem wV_ch {τ : mT} (hI : TI τ) : ∀ (A : List Nat) (a n : Nat) (R : List Nat), a < 32 → R.headD 0 = a → wCh τ R → wV τ A a n → tk τ n = 2 → wCh τ ((wN τ A a).reverse ++ R) ∧ ((wN τ A a).reverse ++ R).headD 0 = n
  | [], a, n, R, ha, hR, hC, h, h2 => by cases h; exact ⟨hC, hR⟩
  | x :: A, a, n, R, ha, hR, hC, h, h2 => by
    obtain ⟨h3, h4, h5⟩ := h
    have hb := ((hI.1 a ha).2.2 h3).2 _ h4
    have hd := wV_dir A _ n h5 h2
    have e : (wN τ (x :: A) a).reverse ++ R = (wN τ A (td τ a (tE τ a x))).reverse ++ (td τ a (tE τ a x) :: R) := by
      rw [wN, List.reverse_cons, List.append_assoc]; rfl
    rw [e]
    refine wV_ch hI A _ n _ hb.2.2.2 rfl ⟨?_, hC⟩ h5 h2
    rw [hR]
    exact up_of hI ha h3 h4 hd
theorem wN_len {τ : mT} : ∀ (A : List Nat) (a : Nat), (wN τ A a).length = A.length
  | [], a => rfl
  | x :: A, a => by rw [wN, List.length_cons, wN_len A, List.length_cons]
theorem wCh_lt {τ : mT} : ∀ (R : List Nat), wCh τ R → ∀ c, c ∈ R → 1 ≤ c ∧ c < 32
  | [], _, c, hc => by simp at hc
  | d :: R, h, c, hc => by
    rcases List.mem_cons.mp hc with z | z
    · subst z; exact ⟨h.1.1, h.1.2.1⟩
    · exact wCh_lt R h.2 c z
variable {w : Bool} {l : Nat → Nat → Int64} {e : Bool × Nat × Nat} {π : mP} {m : Nat} {ψ : mS} {b B p n : Nat} {i0 i i' : Nat → Nat → Int32} {s a x y : Int32} {r : Int32 × mS} {L M : List Nat} {τ : mT}
theorem iw_in (ht : TR i τ) (hw : TW τ) {c q : Nat} (hq : q < 32) (h2 : tk τ q = 2) (hc : c < 32) {x1 x2 x4 x5 : Int32} : ∀ (D k u : Nat), k + D = ts τ q → ∃ u8, mm_V 305 49 [some (.ref 83), some (.int x1), some (.int x2), some (.int (nI c)), some (.int x4), some (.int x5), some (.int (nI u)), some (.int (nI q)), some (.int (nI k))] [] (mm_Z m w i l e) = mm_V 305 39 [some (.ref 83), some (.int x1), some (.int x2), some (.int (nI c)), some (.int x4), some (.int x5), some (.int (nI (if tAny (fun k => td τ q k == c) D k = true then q else u))), some (.int (nI (q + 1))), u8] [] (mm_Z m w i l e)
  | 0, k, u, hk => by
    have hs := ((hw q hq).2.2 h2).1
    refine ⟨some (.int (nI k)), ?_⟩
    have a1 : i 113 (nI q).toNatClampNeg = 2 := by rw [nI_clamp (by omega), (ht q hq).1, h2]; rfl
    have a2 : i 115 (nI q).toNatClampNeg = nI (ts τ q) := by rw [nI_clamp (by omega), (ht q hq).2.2.1]
    rw [mr_305_49, if_neg (no_out (by omega) (by omega)), if_pos a1, if_neg (no_out (by omega) (by omega)), if_neg (by rw [a2, nI_ltI (by omega) (by omega)]; omega), nI_1, tAny, if_neg (by decide)]
  | D + 1, k, u, hk => by
    have hs := ((hw q hq).2.2 h2).1
    have hb := ((hw q hq).2.2 h2).2 k (by omega)
    have ee := ((ht q hq).2.2.2.2 h2 k (by omega)).2
    have a1 : i 113 (nI q).toNatClampNeg = 2 := by rw [nI_clamp (by omega), (ht q hq).1, h2]; rfl
    have a2 : i 115 (nI q).toNatClampNeg = nI (ts τ q) := by rw [nI_clamp (by omega), (ht q hq).2.2.1]
    have a3 : 10 * nI q + nI k = nI (10 * q + k) := by rw [na_10, na_mul, nI_add]
    have a4 : i 118 (10 * nI q + nI k).toNatClampNeg = nI (td τ q k) := by rw [a3, nI_clamp (by omega), ee]
    rw [mr_305_49, if_neg (no_out (by omega) (by omega)), if_pos a1, if_neg (no_out (by omega) (by omega)), if_pos (by rw [a2, nI_ltI (by omega) (by omega)]; omega), if_neg (by rw [a3]; exact no_out (by omega) (by omega)), nI_1]
    simp only [a4, nI_eq (show td τ q k < 2 ^ 31 by omega) (show c < 2 ^ 31 by omega)]
    by_cases z : td τ q k = c
    · obtain ⟨u8, e8⟩ := iw_in ht hw hq h2 hc (x1 := x1) (x2 := x2) (x4 := x4) (x5 := x5) D (k + 1) q (by omega)
      refine ⟨u8, ?_⟩
      rw [if_pos z, e8, tAny]
      have : (td τ q k == c) = true := by simp [z]
      rw [this, Bool.true_or, if_pos rfl]
      split <;> rfl
    · obtain ⟨u8, e8⟩ := iw_in ht hw hq h2 hc (x1 := x1) (x2 := x2) (x4 := x4) (x5 := x5) D (k + 1) u (by omega)
      refine ⟨u8, ?_⟩
      rw [if_neg z, e8, tAny]
      have : (td τ q k == c) = false := by simp [z]
      rw [this, Bool.false_or]
theorem iw_out (ht : TR i τ) (hw : TW τ) {c q : Nat} (hU : isUp τ c q) (hn : n < 32) {x1 x4 x5 : Int32} : ∀ (D k : Nat) (u8 : Option Value) (u : Nat), k + D = 32 → u = (if q < k then q else 0) → ∃ v6 v7 v8, mm_V 305 39 [some (.ref 83), some (.int x1), some (.int (nI n)), some (.int (nI c)), some (.int x4), some (.int x5), some (.int (nI u)), some (.int (nI k)), u8] [] (mm_Z m w i l e) = mm_V 305 17 [some (.ref 83), some (.int x1), some (.int (nI n)), some (.int (nI q)), some (.int (bI (decide (q = n)))), some (.int (x5 + 1)), v6, v7, v8] [] (mm_Z m w i l e)
  | 0, k, u8, u, hk, hu => by
    have hq := hU.2.2.1
    have hk : k = 32 := by omega
    subst hk
    rw [if_pos hq] at hu
    subst hu
    refine ⟨some (.int (nI u)), some (.int (nI 32)), u8, ?_⟩
    rw [mr_305_39, if_neg (by decide)]
    simp only [nI_eq (show u < 2 ^ 31 by omega) (show n < 2 ^ 31 by omega)]
    by_cases z : u = n
    · rw [if_pos z, decide_eq_true z]; rfl
    · rw [if_neg z, decide_eq_false z]; rfl
  | D + 1, k, u8, u, hk, hu => by
    have hq := hU.2.2.1
    have hX := hU.2.2.2 k (by omega)
    rw [mr_305_39, if_pos (by rw [na_32, nI_ltI (by omega) (by omega)]; omega)]
    by_cases h2 : tk τ k = 2
    · obtain ⟨u8', e8⟩ := iw_in (m := m) (w := w) (l := l) (e := e) ht hw (show k < 32 by omega) h2 hU.2.1 (x1 := x1) (x2 := nI n) (x4 := x4) (x5 := x5) (ts τ k) 0 u (by omega)
      have e8 : mm_V 305 49 [some (.ref 83), some (.int x1), some (.int (nI n)), some (.int (nI c)), some (.int x4), some (.int x5), some (.int (nI u)), some (.int (nI k)), some (.int 0)] [] (mm_Z m w i l e) = _ := e8
      rw [e8]
      refine iw_out ht hw hU hn D (k + 1) u8' _ (by omega) ?_
      by_cases z : tAny (fun j => td τ k j == c) (ts τ k) 0 = true
      · have := hX.mp ⟨h2, z⟩
        rw [if_pos z, if_pos (by omega), this]
      · have : k ≠ q := fun y => z (hX.mpr y).2
        rw [if_neg z, hu]
        by_cases y : q < k
        · rw [if_pos y, if_pos (by omega)]
        · rw [if_neg y, if_neg (by omega)]
    · have hkk := (hw k (by omega)).1
      rw [mr_305_49, if_neg (no_out (by omega) (by omega)), if_neg (by rw [nI_clamp (by omega), (ht k (by omega)).1, na_2, nI_eq (by omega) (by omega)]; exact h2), nI_1]
      refine iw_out ht hw hU hn D (k + 1) _ u (by omega) ?_
      have : k ≠ q := fun y => h2 (hX.mpr y).1
      rw [hu]
      by_cases y : q < k
      · rw [if_pos y, if_pos (by omega)]
      · rw [if_neg y, if_neg (by omega)]
theorem iw_loop (ht : TR i τ) (hw : TW τ) (hn1 : 1 ≤ n) (hn : n < 32) {x1 : Int32} : ∀ (R : List Nat) (st : Nat) (u6 u7 u8 : Option Value), wCh τ R → st + R.length < 32 → mm_V 305 17 [some (.ref 83), some (.int x1), some (.int (nI n)), some (.int (nI (R.headD 0))), some (.int (bI (decide (R.headD 0 = n)))), some (.int (nI st)), u6, u7, u8] [] (mm_Z m w i l e) = some (.inl (some (.int (bI (decide (n ∈ R))))), mm_Z m w i l e)
  | [], st, u6, u7, u8, hR, hs => by
    rw [List.length_nil] at hs
    have e0 : ([] : List Nat).headD 0 = 0 := rfl
    rw [e0, decide_eq_false (by omega), mr_305_17, if_pos (by rw [na_32, nI_ltI (by omega) (by omega)]; omega), if_bf, if_neg (by decide), if_pos (bI_01 _)]
    simp
  | c :: R, st, u6, u7, u8, hR, hs => by
    rw [List.length_cons] at hs
    have e0 : (c :: R).headD 0 = c := rfl
    rw [e0, mr_305_17, if_pos (by rw [na_32, nI_ltI (by omega) (by omega)]; omega)]
    by_cases z : c = n
    · rw [decide_eq_true z, if_bt, if_pos (bI_01 _), decide_eq_true (show n ∈ c :: R by rw [z]; exact List.mem_cons_self)]
    · have hc := hR.1
      rw [decide_eq_false z, if_bf, if_pos (by rw [nz_gt (by have := hc.2.1; omega)]; have := hc.1; omega)]
      obtain ⟨v6, v7, v8, e8⟩ := iw_out (m := m) (w := w) (l := l) (e := e) ht hw hc hn (x1 := x1) (x4 := bI false) (x5 := nI st) 32 0 u8 0 (by omega) (by rw [if_neg (by omega)])
      have e8 : mm_V 305 39 [some (.ref 83), some (.int x1), some (.int (nI n)), some (.int (nI c)), some (.int (bI false)), some (.int (nI st)), some (.int 0), some (.int 0), u8] [] (mm_Z m w i l e) = _ := e8
      rw [e8, nI_1, iw_loop ht hw hn1 hn R (st + 1) v6 v7 v8 hR.2 (by omega)]
      have : (n ∈ c :: R) ↔ n ∈ R := by
        rw [List.mem_cons]
        exact ⟨fun y => y.resolve_left (Ne.symm z), Or.inr⟩
      simp only [this]
theorem tr_isWithin (ht : TR i τ) (hI : TI τ) (hn1 : 1 ≤ n) (hn : n < 32) {A : List Nat} {d : Nat} (hd : d < 32) (hA : A.length < 31) (hv : wV τ A 0 d) (h2 : tk τ d = 2) : mm_V 305 0 [some (.ref 83), some (.int (nI d)), some (.int (nI n)), none, none, none, none, none, none] [] (mm_Z m w i l e) = some (.inl (some (.int (bI (decide (n ∈ wN τ A 0))))), mm_Z m w i l e) := by
  obtain ⟨c1, c2⟩ := wV_ch hI A 0 d [] (by omega) rfl trivial hv h2
  rw [List.append_nil] at c1 c2
  have key := iw_loop (m := m) (w := w) (l := l) (e := e) ht hI.1 hn1 hn (x1 := nI d) (wN τ A 0).reverse 0 none none none c1 (by rw [List.length_reverse, wN_len]; omega)
  rw [c2] at key
  simp only [List.mem_reverse] at key
  rw [mr_305_0, ← key]
  simp only [nI_eq (show d < 2 ^ 31 by omega) (show n < 2 ^ 31 by omega)]
  by_cases z : d = n
  · rw [if_pos z, decide_eq_true z]; rfl
  · rw [if_neg z, decide_eq_false z]; rfl
theorem wB_in (hI : TI τ) (hn1 : 1 ≤ n) (hn : n < 32) {A : List Nat} {d : Nat} (hv : wV τ A 0 d) (h2 : tk τ d = 2) : mB (wB 1 (wN τ A 0)) n = decide (n ∈ wN τ A 0) := by
  obtain ⟨c1, c2⟩ := wV_ch hI A 0 d [] (by omega) rfl trivial hv h2
  rw [List.append_nil] at c1
  rw [wB_bit hn _ _ (fun c hc => (wCh_lt _ c1 c (List.mem_reverse.mpr hc)).2), mB_1 hn, decide_eq_false (by omega), Bool.false_or]
end MM111
