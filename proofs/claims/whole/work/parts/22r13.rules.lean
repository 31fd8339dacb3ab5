/-! THE POLICY: moves, rules, new contexts -/
section MM72
variable {p w : Bool} {i : Nat → Nat → Int32} {l : Nat → Nat → Int64} {e : Bool × Nat × Nat} {π : mP} {m : Nat}
/-- the move of a source, a target, a class: how many moves there are if none -/
def pMat (π : mP) (a b c k : Nat) : Bool := decide ((pM π k).1 = a ∧ (pM π k).2.1 = b ∧ (pM π k).2.2.1 = c)
def pMv (π : mP) (a b c : Nat) : Nat := tFst (pMat π a b c) (pN π 5) 0
/-- the type that it tells, or -1 -/
def pTo (π : mP) (a b c : Nat) : Int32 := if pMv π a b c < pN π 5 then nI (pM π (pMv π a b c)).2.2.2 else -1
theorem pc_mv_loop (h : PC0 p i π) (hw : PW π) {a b c : Nat} (ha : a < 2 ^ 31) (hb : b < 2 ^ 31) (hc : c < 2 ^ 31) : ∀ (D k : Nat), k + D = pN π 5 → mm_V 116 3 [some (.ref (mm_P p)), some (.int (nI a)), some (.int (nI b)), some (.int (nI c)), some (.int (nI k))] [] (mm_Z m w i l e) = some (.inl (some (.int (if tFst (pMat π a b c) D k < pN π 5 then nI (pM π (tFst (pMat π a b c) D k)).2.2.2 else -1))), mm_Z m w i l e)
  | 0, k, hk => by
    have h5 : pN π 5 ≤ 12 := hw.2.2.2.2.2.1
    have e0 : tFst (pMat π a b c) 0 k = k := rfl
    rw [mr_116_3]
    simp only [h.1 5 (by omega), nI_ltI (show k < 2 ^ 31 by omega) (show pN π 5 < 2 ^ 31 by omega)]
    rw [if_neg (by omega), e0, if_neg (by omega)]
  | D + 1, k, hk => by
    have h5 : pN π 5 ≤ 12 := hw.2.2.2.2.2.1
    have hm := hw.2.2.2.2.2.2.2.2.1 k (by omega)
    have hk4 := h.2.2.2.2 k (by omega)
    have ho : ¬ mm_out (nI k) 12 := no_out (by omega) (by omega)
    rw [mr_116_3]
    simp only [h.1 5 (by omega), nI_ltI (show k < 2 ^ 31 by omega) (show pN π 5 < 2 ^ 31 by omega), nI_clamp (show k < 2 ^ 31 by omega), hk4.1, hk4.2.1, hk4.2.2.1, hk4.2.2.2, nI_eq (show (pM π k).1 < 2 ^ 31 by omega) ha, nI_eq (show (pM π k).2.1 < 2 ^ 31 by omega) hb, nI_eq (show (pM π k).2.2.1 < 2 ^ 31 by omega) hc, if_neg ho, nI_1]
    rw [if_pos (by omega)]
    have ih := pc_mv_loop h hw ha hb hc D (k + 1) (by omega)
    by_cases q1 : (pM π k).1 = a
    · rw [if_pos q1]
      by_cases q2 : (pM π k).2.1 = b
      · rw [if_pos q2]
        by_cases q3 : (pM π k).2.2.1 = c
        · have e0 : tFst (pMat π a b c) (D + 1) k = k := by rw [tFst, if_pos (by simp [pMat, q1, q2, q3])]
          rw [if_pos q3, e0, if_pos (by omega)]
        · rw [if_neg q3, ih, tFst_step _ _ _ (by simp [pMat, q3])]
      · rw [if_neg q2, ih, tFst_step _ _ _ (by simp [pMat, q2])]
    · rw [if_neg q1, ih, tFst_step _ _ _ (by simp [pMat, q1])]
theorem pc_movedType (h : PC0 p i π) (hw : PW π) {a b c : Nat} (ha : a < 2 ^ 31) (hb : b < 2 ^ 31) (hc : c < 2 ^ 31) : mm_V 116 0 [some (.ref (mm_P p)), some (.int (nI a)), some (.int (nI b)), some (.int (nI c)), none] [] (mm_Z m w i l e) = some (.inl (some (.int (pTo π a b c))), mm_Z m w i l e) := by
  rw [mr_116_0, na_0, pc_mv_loop h hw ha hb hc (pN π 5) 0 (by omega)]
  rfl
theorem pr_mv_loop (h : PR0 i π) (hw : PW π) {a b c : Nat} (ha : a < 2 ^ 31) (hb : b < 2 ^ 31) (hc : c < 2 ^ 31) : ∀ (D k : Nat) (u : Option Value), k + D = pN π 5 → mm_V 250 6 [some (.ref 83), some (.int (nI a)), some (.int (nI b)), some (.int (nI c)), some (.int (if pMv π a b c < k then nI (pM π (pMv π a b c)).2.2.2 else -1)), some (.int (nI k)), u] [] (mm_Z m w i l e) = some (.inl (some (.int (pTo π a b c))), mm_Z m w i l e)
  | 0, k, u, hk => by
    have h5 : pN π 5 ≤ 12 := hw.2.2.2.2.2.1
    rw [mr_250_6]
    simp only [h.1.2.2.2.2.2.1, nI_ltI (show k < 2 ^ 31 by omega) (show pN π 5 < 2 ^ 31 by omega)]
    rw [if_neg (by omega), show k = pN π 5 by omega]
    rfl
  | D + 1, k, u, hk => by
    have h5 : pN π 5 ≤ 12 := hw.2.2.2.2.2.1
    have hm := hw.2.2.2.2.2.2.2.2.1 k (by omega)
    have hU := hw.2.2.2.2.2.2.2.2.2.1
    have hk4 := h.2.2.2.2 k (by omega)
    have ho : ¬ mm_out (nI k) 13 := no_out (by omega) (by omega)
    have hle : pMv π a b c ≤ pN π 5 := by have := (tFst_le (pMat π a b c) (pN π 5) 0).2; unfold pMv; omega
    rw [mr_250_6]
    simp only [h.1.2.2.2.2.2.1, nI_ltI (show k < 2 ^ 31 by omega) (show pN π 5 < 2 ^ 31 by omega), nI_clamp (show k < 2 ^ 31 by omega), hk4.1, hk4.2.1, hk4.2.2.1, nI_eq (show (pM π k).1 < 2 ^ 31 by omega) ha, nI_eq (show (pM π k).2.1 < 2 ^ 31 by omega) hb, nI_eq (show (pM π k).2.2.1 < 2 ^ 31 by omega) hc, if_neg ho]
    rw [if_pos (by omega)]
    by_cases q : pMat π a b c k = true
    · have q' : (pM π k).1 = a ∧ (pM π k).2.1 = b ∧ (pM π k).2.2.1 = c := by simpa [pMat] using q
      rw [if_pos q'.1, if_pos q'.2.1, if_pos q'.2.2, mr_250_53, if_neg (by decide), if_neg ho, nI_clamp (by omega), hk4.2.2.2, nI_1]
      -- the first is at or ahead of k, and tells the same type
      have hlt : pMv π a b c < k + 1 := by
        rcases Nat.lt_or_ge (pMv π a b c) (k + 1) with z | z
        · exact z
        · have := tFst_no (pMat π a b c) (pN π 5) 0 k (by omega) (by unfold pMv at z; omega)
          rw [this] at q; cases q
      have hat : pMat π a b c (pMv π a b c) = true := tFst_at (pMat π a b c) (pN π 5) 0 (by unfold pMv at hlt; omega)
      have hat : (pM π (pMv π a b c)).1 = a ∧ (pM π (pMv π a b c)).2.1 = b ∧ (pM π (pMv π a b c)).2.2.1 = c := by simpa [pMat] using hat
      have hsame := hU k (pMv π a b c) (by omega) (by omega) (by rw [q'.1, hat.1]) (by rw [q'.2.1, hat.2.1]) (by rw [q'.2.2, hat.2.2])
      have ih := pr_mv_loop h hw ha hb hc D (k + 1) (some (.int 1)) (by omega)
      rw [if_pos hlt] at ih
      rw [hsame]
      exact ih
    · have hne : pMv π a b c ≠ k := by
        intro z
        have : pMat π a b c (pMv π a b c) = true := tFst_at (pMat π a b c) (pN π 5) 0 (by unfold pMv at z; omega)
        rw [z] at this
        exact q this
      have ih := pr_mv_loop h hw ha hb hc D (k + 1) (some (.int 0)) (by omega)
      have ei : (pMv π a b c < k + 1) ↔ (pMv π a b c < k) := by omega
      simp only [ei] at ih
      have z0 : mm_V 250 53 [some (.ref 83), some (.int (nI a)), some (.int (nI b)), some (.int (nI c)), some (.int (if pMv π a b c < k then nI (pM π (pMv π a b c)).2.2.2 else -1)), some (.int (nI k)), u] [.int 0] (mm_Z m w i l e) = some (.inl (some (.int (pTo π a b c))), mm_Z m w i l e) := by
        rw [mr_250_53, if_pos rfl, nI_1]; exact ih
      by_cases q1 : (pM π k).1 = a
      · rw [if_pos q1]
        by_cases q2 : (pM π k).2.1 = b
        · rw [if_pos q2]
          by_cases q3 : (pM π k).2.2.1 = c
          · exact absurd (by simp [pMat, q1, q2, q3]) q
          · rw [if_neg q3]; exact z0
        · rw [if_neg q2]; exact z0
      · rw [if_neg q1]; exact z0
theorem pr_moveOf (h : PR0 i π) (hw : PW π) {a b c : Nat} (ha : a < 2 ^ 31) (hb : b < 2 ^ 31) (hc : c < 2 ^ 31) : mm_V 250 0 [some (.ref 83), some (.int (nI a)), some (.int (nI b)), some (.int (nI c)), none, none, none] [] (mm_Z m w i l e) = some (.inl (some (.int (pTo π a b c))), mm_Z m w i l e) := by
  rw [mr_250_0]
  have := pr_mv_loop (m := m) (w := w) (l := l) (e := e) h hw ha hb hc (pN π 5) 0 none (by omega)
  rw [if_neg (by omega)] at this
  exact this
/-- what a number of the reference means -/
theorem pr_meaning {x v : Int32} (h : rM i x v) : mm_V 236 0 [some (.ref 83), some (.int x)] [] (mm_Z m w i l e) = some (.inl (some (.int v)), mm_Z m w i l e) := by
  rw [mr_236_0]
  rcases h with ⟨rfl, rfl⟩ | ⟨a, ha, rfl, rfl⟩ | ⟨a, ha, rfl, rfl⟩
  · rw [if_pos rfl]
  · rw [if_neg (na_m1 (by omega)), na_100, if_pos ((nI_ltI (by omega) (by omega)).mpr (by omega))]
  · rw [if_neg (na_m1 (by omega)), na_100, if_neg (by rw [nI_ltI (by omega) (by omega)]; omega), na_sub (by omega), if_neg (no_out (by omega) (by omega)), nI_clamp (by omega), show 100 + a - 100 = a by omega]
/-- is rule k for the types s, t? -/
def pFor (π : mP) (k s t : Nat) : Bool := mB (pL π k).2.1 s && (if (pL π k).2.2.1 = -1 then decide (s = t) else mB (pL π k).2.2.1 t)
/-- the permissions of the rules of a kind -/
def pRu (π : mP) (kd cl s t : Nat) : Nat → Nat → Int32 → Int32
  | 0, _, x => x
  | D + 1, k, x => pRu π kd cl s t D (k + 1) (if (pL π k).1 = kd ∧ (pL π k).2.2.2.1 = cl ∧ pFor π k s t = true then x ||| (pL π k).2.2.2.2 else x)
def pRuled (π : mP) (kd s t cl : Nat) : Int32 := pRu π kd cl s t (pN π 4) 0 0
theorem pr_isFor (h : PR0 i π) (hw : PW π) {k s t : Nat} (hk : k < pN π 4) (hs : s < 2 ^ 31) (ht : t < 2 ^ 31) : mm_V 237 0 [some (.ref 83), some (.int (nI k)), some (.int (nI s)), some (.int (nI t)), none, none] [] (mm_Z m w i l e) = some (.inl (some (.int (bI (pFor π k s t)))), mm_Z m w i l e) := by
  have h4 : pN π 4 ≤ 60 := hw.2.2.2.2.1
  have ho : ¬ mm_out (nI k) 61 := no_out (by omega) (by omega)
  obtain ⟨r1, r2, r3, r4, r5⟩ := h.2.2.2.1 k hk
  have hT : ∀ (b : Bool), mm_V 237 23 [some (.ref 83), some (.int (nI k)), some (.int (nI s)), some (.int (nI t)), none, none] [.int (bI b)] (mm_Z m w i l e) = some (.inl (some (.int (bI (b && (if (pL π k).2.2.1 = -1 then decide (s = t) else mB (pL π k).2.2.1 t))))), mm_Z m w i l e) := by
    intro b
    rw [mr_237_23, if_neg ho]
    simp only [nI_clamp (show k < 2 ^ 31 by omega), nI_eq hs ht]
    rcases r3 with ⟨z1, z2⟩ | ⟨z1, z2⟩
    · rw [if_pos z1, if_pos z2]
      by_cases q : s = t
      · rw [if_pos q, mr_237_72, decide_eq_true q]
        cases b <;> rfl
      · rw [if_neg q, mr_237_72, decide_eq_false q]
        cases b <;> rfl
    · have z3 : ¬ i 97 k = -2 := by
        rcases z1 with ⟨y, -⟩ | ⟨a, ha, y, -⟩ | ⟨a, ha, y, -⟩
        · rw [y]; decide
        · rw [y]; intro q
          have := congrArg Int32.toInt q
          rw [nI_toInt (by omega)] at this
          have e2 : (-2 : Int32).toInt = -2 := by decide
          omega
        · rw [y]; intro q
          have := congrArg Int32.toInt q
          rw [nI_toInt (by omega)] at this
          have e2 : (-2 : Int32).toInt = -2 := by decide
          omega
      rw [if_neg z3, if_neg ho, pr_meaning z1, mb_l, mb_v, mr_237_59, if_neg z2, mB_if]
      by_cases q : mB (pL π k).2.2.1 t = true
      · rw [if_pos q, mr_237_72, q]
        cases b <;> rfl
      · rw [if_neg q, mr_237_72, Bool.eq_false_iff.mpr q]
        cases b <;> rfl
  rw [mr_237_0, if_neg ho, nI_clamp (by omega), pr_meaning r2, mb_l, mb_v, mr_237_10, mB_if]
  unfold pFor
  by_cases q : mB (pL π k).2.1 s = true
  · rw [if_pos q, q]; exact hT true
  · rw [if_neg q, Bool.eq_false_iff.mpr q]; exact hT false
theorem pr_ru_loop (h : PR0 i π) (hw : PW π) {kd cl a b : Nat} (hkd : kd ≤ 3) (hcl : cl < 2 ^ 31) (ha : a < 2 ^ 31) (hb : b < 2 ^ 31) : ∀ (D k : Nat) (x : Int32) (u : Option Value), k + D = pN π 4 → mm_V 248 6 [some (.ref 83), some (.int (nI (kd + 5))), some (.int (nI a)), some (.int (nI b)), some (.int (nI cl)), some (.int x), some (.int (nI k)), u] [] (mm_Z m w i l e) = some (.inl (some (.int (pRu π kd cl (a % 100) (b % 100) D k x))), mm_Z m w i l e)
  | 0, k, x, u, hk => by
    have h4 : pN π 4 ≤ 60 := hw.2.2.2.2.1
    rw [mr_248_6]
    simp only [h.1.2.2.2.2.1, nI_ltI (show k < 2 ^ 31 by omega) (show pN π 4 < 2 ^ 31 by omega)]
    rw [if_neg (by omega)]
    rfl
  | D + 1, k, x, u, hk => by
    have h4 : pN π 4 ≤ 60 := hw.2.2.2.2.1
    have hr := hw.2.2.2.2.2.2.2.1 k (by omega)
    obtain ⟨r1, r2, r3, r4, r5⟩ := h.2.2.2.1 k (by omega)
    have ho : ¬ mm_out (nI k) 61 := no_out (by omega) (by omega)
    rw [mr_248_6]
    simp only [h.1.2.2.2.2.1, nI_ltI (show k < 2 ^ 31 by omega) (show pN π 4 < 2 ^ 31 by omega), nI_clamp (show k < 2 ^ 31 by omega), r1, r4, nI_eq (show (pL π k).1 + 5 < 2 ^ 31 by omega) (show kd + 5 < 2 ^ 31 by omega), nI_eq (show (pL π k).2.2.2.1 < 2 ^ 31 by omega) hcl, if_neg ho]
    rw [if_pos (by omega), pRu]
    have no : ∀ u, mm_V 248 60 [some (.ref 83), some (.int (nI (kd + 5))), some (.int (nI a)), some (.int (nI b)), some (.int (nI cl)), some (.int x), some (.int (nI k)), u] [.int 0] (mm_Z m w i l e) = some (.inl (some (.int (pRu π kd cl (a % 100) (b % 100) D (k + 1) x))), mm_Z m w i l e) := by
      intro u
      rw [mr_248_60, if_pos rfl, nI_1]
      exact pr_ru_loop h hw hkd hcl ha hb D (k + 1) x _ (by omega)
    by_cases q1 : (pL π k).1 = kd
    · rw [if_pos (by omega)]
      by_cases q2 : (pL π k).2.2.2.1 = cl
      · rw [if_pos q2, mr_243_0, mb_l, mb_v, mr_248_45, mr_243_0, mb_l, mb_v, mr_248_49, na_100, na_re ha (by omega), na_re hb (by omega), pr_isFor h hw (by omega) (by omega) (by omega), mb_l, mb_v, mr_248_52]
        simp only [bI_0]
        by_cases q3 : pFor π k (a % 100) (b % 100) = true
        · rw [if_neg (by rw [q3]; decide), mr_248_60, if_neg (by decide), if_neg ho, nI_clamp (by omega), r5, nI_1, if_pos ⟨q1, q2, q3⟩]
          exact pr_ru_loop h hw hkd hcl ha hb D (k + 1) _ _ (by omega)
        · rw [if_pos (Bool.eq_false_iff.mpr q3), if_neg (fun z => q3 z.2.2)]
          exact no u
      · rw [if_neg q2, if_neg (fun z => q2 z.2.1)]
        exact no u
    · rw [if_neg (by omega), if_neg (fun z => q1 z.1)]
      exact no u
theorem pr_ruled (h : PR0 i π) (hw : PW π) {kd cl a b : Nat} (hkd : kd ≤ 3) (hcl : cl < 2 ^ 31) (ha : a < 2 ^ 31) (hb : b < 2 ^ 31) : mm_V 248 0 [some (.ref 83), some (.int (nI (kd + 5))), some (.int (nI a)), some (.int (nI b)), some (.int (nI cl)), none, none, none] [] (mm_Z m w i l e) = some (.inl (some (.int (pRuled π kd (a % 100) (b % 100) cl))), mm_Z m w i l e) := by
  rw [mr_248_0]
  exact pr_ru_loop h hw hkd hcl ha hb (pN π 4) 0 0 none (by omega)
theorem pc_ru_loop (h : PC0 p i π) (hw : PW π) {kd cl a b : Nat} (hkd : kd ≤ 3) (hcl : cl < 2 ^ 31) (ha : a < 2 ^ 31) (hb : b < 2 ^ 31) {x2 x3 : Int32} : ∀ (D k : Nat) (x : Int32) (u u2 : Option Value), k + D = pN π 4 → mm_V 118 18 [some (.ref (mm_P p)), some (.int (nI kd)), some (.int x2), some (.int x3), some (.int (nI cl)), some (.int x), some (.int (nI a)), some (.int (nI b)), some (.int (nI k)), u, u2] [] (mm_Z m w i l e) = some (.inl (some (.int (pRu π kd cl a b D k x))), mm_Z m w i l e)
  | 0, k, x, u, u2, hk => by
    have h4 : pN π 4 ≤ 60 := hw.2.2.2.2.1
    rw [mr_118_18]
    simp only [h.1 4 (by omega), nI_ltI (show k < 2 ^ 31 by omega) (show pN π 4 < 2 ^ 31 by omega)]
    rw [if_neg (by omega)]
    rfl
  | D + 1, k, x, u, u2, hk => by
    have h4 : pN π 4 ≤ 60 := hw.2.2.2.2.1
    have hr := hw.2.2.2.2.2.2.2.1 k (by omega)
    obtain ⟨r1, r2, r3, r4, r5⟩ := h.2.2.2.1 k (by omega)
    have ho : ¬ mm_out (nI k) 60 := no_out (by omega) (by omega)
    have ih := pc_ru_loop h hw hkd hcl ha hb (x2 := x2) (x3 := x3) D (k + 1)
    -- behind the two tests
    have hE : ∀ (s t : Bool), mm_V 118 122 [some (.ref (mm_P p)), some (.int (nI kd)), some (.int x2), some (.int x3), some (.int (nI cl)), some (.int x), some (.int (nI a)), some (.int (nI b)), some (.int (nI k)), some (.int (bI s)), u2] [.int (bI t)] (mm_Z m w i l e) = some (.inl (some (.int (pRu π kd cl a b D (k + 1) (if s = true ∧ t = true then x ||| (pL π k).2.2.2.2 else x)))), mm_Z m w i l e) := by
      intro s t
      rw [mr_118_122]
      simp only [bI_0, nI_1, nI_clamp (show k < 2 ^ 31 by omega), r5]
      cases s <;> cases t <;> simp only [if_true, if_false, Bool.false_eq_true, Bool.true_eq_false, false_and, and_false, and_self, if_neg ho, reduceCtorEq] <;> exact ih _ _ _ (by omega)
    have hM : ∀ (s : Bool), mm_V 118 73 [some (.ref (mm_P p)), some (.int (nI kd)), some (.int x2), some (.int x3), some (.int (nI cl)), some (.int x), some (.int (nI a)), some (.int (nI b)), some (.int (nI k)), u, u2] [.int (bI s)] (mm_Z m w i l e) = some (.inl (some (.int (pRu π kd cl a b D (k + 1) (if s = true ∧ (if (pL π k).2.2.1 = -1 then decide (a = b) else mB (pL π k).2.2.1 b) = true then x ||| (pL π k).2.2.2.2 else x)))), mm_Z m w i l e) := by
      intro s
      rw [mr_118_73, if_neg ho]
      simp only [nI_clamp (show k < 2 ^ 31 by omega), r3, nI_eq ha hb, mB_if, if_neg ho]
      by_cases q : (pL π k).2.2.1 = -1
      · rw [if_pos q, if_pos q]
        by_cases q2 : a = b
        · rw [if_pos q2, decide_eq_true q2]; exact hE s true
        · rw [if_neg q2, decide_eq_false q2]; exact hE s false
      · rw [if_neg q, if_neg q]
        by_cases q2 : mB (pL π k).2.2.1 b = true
        · rw [if_pos q2, q2]; exact hE s true
        · rw [if_neg q2, Bool.eq_false_iff.mpr q2]; exact hE s false
    rw [mr_118_18]
    simp only [h.1 4 (by omega), nI_ltI (show k < 2 ^ 31 by omega) (show pN π 4 < 2 ^ 31 by omega), nI_clamp (show k < 2 ^ 31 by omega), r1, r2, r4, nI_eq (show (pL π k).1 < 2 ^ 31 by omega) (show kd < 2 ^ 31 by omega), nI_eq (show (pL π k).2.2.2.1 < 2 ^ 31 by omega) hcl, if_neg ho, mB_if]
    rw [if_pos (by omega), pRu]
    have hf := hM false
    rw [if_neg (by simp)] at hf
    by_cases q1 : (pL π k).1 = kd
    · rw [if_pos q1]
      by_cases q2 : (pL π k).2.2.2.1 = cl
      · rw [if_pos q2]
        by_cases q3 : mB (pL π k).2.1 a = true
        · rw [if_pos q3]
          have e1 : (((pL π k).1 = kd ∧ (pL π k).2.2.2.1 = cl ∧ pFor π k a b = true) ↔ ((if (pL π k).2.2.1 = -1 then decide (a = b) else mB (pL π k).2.2.1 b) = true)) := by
            unfold pFor
            simp [q1, q2, q3]
          have ht := hM true
          simp only [eq_self_iff_true, true_and] at ht
          simp only [e1]
          exact ht
        · rw [if_neg q3, if_neg (fun z => by unfold pFor at z; simp [q3] at z)]
          exact hf
      · rw [if_neg q2, if_neg (fun z => q2 z.2.1)]
        exact hf
    · rw [if_neg q1, if_neg (fun z => q1 z.1)]
      exact hf
theorem pc_ruled (h : PC0 p i π) (hw : PW π) {kd cl a b : Nat} (hkd : kd ≤ 3) (hcl : cl < 2 ^ 31) (ha : a < 2 ^ 31) (hb : b < 2 ^ 31) : mm_V 118 0 [some (.ref (mm_P p)), some (.int (nI kd)), some (.int (nI a)), some (.int (nI b)), some (.int (nI cl)), none, none, none, none, none, none] [] (mm_Z m w i l e) = some (.inl (some (.int (pRuled π kd (a % 100) (b % 100) cl))), mm_Z m w i l e) := by
  rw [mr_118_0, na_100, na_re ha (by omega), na_re hb (by omega)]
  exact pc_ru_loop h hw hkd hcl (by omega) (by omega) (pN π 4) 0 0 none none (by omega)
end MM72
