/-! WALKS, class and reference -/
section MM99
variable {w : Bool} {l : Nat → Nat → Int64} {e : Bool × Nat × Nat} {π : mP} {m : Nat} {ψ : mS} {b p n : Nat}
theorem rf_in {i : Nat → Nat → Int32} {x a c : Int32} : mm_V 195 0 [some (.int x), some (.int a), some (.int c)] [] (mm_Z m w i l e) = some (.inl (some (.int (bI (decide (¬ x < a ∧ ¬ c < x))))), mm_Z m w i l e) := by
  rw [mr_195_0]
  by_cases q : x < a
  · rw [if_pos q, decide_eq_false (fun z => z.1 q)]; rfl
  · rw [if_neg q]
    by_cases q2 : c < x
    · rw [if_pos q2, decide_eq_false (fun z => z.2 q2)]; rfl
    · rw [if_neg q2, decide_eq_true ⟨q, q2⟩]; rfl
/-- names of any number below 10^8 -/
def nmD (c k : Nat) : Nat := if k = 0 then c % 100 else if k = 1 then c / 100 % 100 else if k = 2 then c / 10000 % 100 else c / 1000000
theorem nm_any {i : Nat → Nat → Int32} {c k : Nat} (hc : c < 100000000) (hk : k < 4) : mm_V 282 0 [some (.int (nI c)), some (.int (nI k))] [] (mm_Z m w i l e) = some (.inl (some (.int (nI (nmD c k)))), mm_Z m w i l e) := by
  have e4 : (10000 : Int32) = nI 10000 := by decide
  have e6 : (1000000 : Int32) = nI 1000000 := by decide
  rw [mr_282_0]
  simp only [na_0, na_1, na_2, na_100, e4, e6, nI_eq (show k < 2 ^ 31 by omega) (show 0 < 2 ^ 31 by omega), nI_eq (show k < 2 ^ 31 by omega) (show 1 < 2 ^ 31 by omega), nI_eq (show k < 2 ^ 31 by omega) (show 2 < 2 ^ 31 by omega), na_div (show c < 2 ^ 31 by omega) (show 100 < 2 ^ 31 by omega), na_div (show c < 2 ^ 31 by omega) (show 10000 < 2 ^ 31 by omega), na_div (show c < 2 ^ 31 by omega) (show 1000000 < 2 ^ 31 by omega), na_re (show c < 2 ^ 31 by omega) (show 100 < 2 ^ 31 by omega), na_re (show c / 100 < 2 ^ 31 by omega) (show 100 < 2 ^ 31 by omega), na_re (show c / 10000 < 2 ^ 31 by omega) (show 100 < 2 ^ 31 by omega)]
  unfold nmD
  by_cases q0 : k = 0
  · simp only [if_pos q0]
  · by_cases q1 : k = 1
    · simp only [if_neg q0, if_pos q1]
    · by_cases q2 : k = 2
      · simp only [if_neg q0, if_neg q1, if_pos q2]
      · simp only [if_neg q0, if_neg q1, if_neg q2]
theorem nmD_lt {c k : Nat} (hc : c < 100000000) : nmD c k < 100 := by unfold nmD; split; omega; split; omega; split <;> omega
theorem rp_of {i : Nat → Nat → Int32} {c : Nat} (hc : c < 100000000) : ∀ (D k : Nat), k + D = 4 → mm_V 283 2 [some (.int (nI c)), some (.int (nI k))] [] (mm_Z m w i l e) = some (.inl (some (.int (nI (tFst (fun k => nmD c k == 0) D k)))), mm_Z m w i l e)
  | 0, k, hk => by
    have e : k = 4 := by omega
    subst e
    rw [mr_283_2, if_neg (by decide)]; rfl
  | D + 1, k, hk => by
    have := nmD_lt (k := k) hc
    rw [mr_283_2]
    simp only [na_4, nI_ltI (show k < 2 ^ 31 by omega) (show 4 < 2 ^ 31 by omega)]
    rw [if_pos (by omega), nm_any hc (by omega), mb_l, mb_v, mr_283_12, na_0]
    simp only [nI_ltI (show 0 < 2 ^ 31 by omega) (show nmD c k < 2 ^ 31 by omega)]
    by_cases q : nmD c k = 0
    · rw [if_neg (by omega), tFst, if_pos (by simpa using q)]
    · rw [if_pos (by omega), nI_1, tFst_step _ _ _ (by simpa using q)]
      exact rp_of hc D (k + 1) (by omega)
theorem rp_loop {i : Nat → Nat → Int32} {c : Nat} (hc : c < 100000000) {x2 : Int32} : ∀ (D k : Nat) (g : Bool), k + D = 4 → mm_V 284 24 [some (.int (nI c)), some (.int (bI g)), some (.int x2), some (.int (nI k))] [] (mm_Z m w i l e) = some (.inl (some (.int (bI (g && !tAny (fun k => !(nmD c k == 0)) D k)))), mm_Z m w i l e)
  | 0, k, g, hk => by
    have e : k = 4 := by omega
    subst e
    rw [mr_284_24, if_neg (by decide), if_pos (bI_01 g)]
    simp [tAny]
  | D + 1, k, g, hk => by
    have := nmD_lt (k := k) hc
    rw [mr_284_24]
    simp only [na_4, nI_ltI (show k < 2 ^ 31 by omega) (show 4 < 2 ^ 31 by omega)]
    rw [if_pos (by omega)]
    cases g with
    | false => rw [if_bf, if_pos (bI_01 _)]; rfl
    | true =>
      rw [if_neg (by decide), nm_any hc (by omega), mb_l, mb_v, mr_284_38]
      simp only [na_0, nI_eq (show nmD c k < 2 ^ 31 by omega) (show 0 < 2 ^ 31 by omega), nI_1]
      by_cases q : nmD c k = 0
      · rw [if_pos q, show (1 : Int32) = bI true from rfl, rp_loop hc D (k + 1) true (by omega), tAny]
        simp [q]
      · rw [if_neg q, show nI 0 = bI false from rfl, rp_loop hc D (k + 1) false (by omega), tAny]
        have q' : (nmD c k == 0) = false := by simpa using q
        simp [q']
theorem rp_isPath {i : Nat → Nat → Int32} (x : Int32) : mm_V 284 0 [some (.int x), none, none, none] [] (mm_Z m w i l e) = some (.inl (some (.int (bI (pOk x)))), mm_Z m w i l e) := by
  rw [mr_284_0, rf_in, mb_l, mb_v, mr_284_8]
  have e9 : (99999999 : Int32) = nI 99999999 := by decide
  unfold pOk
  by_cases q0 : x < 0
  · rw [decide_eq_false (fun z => z.1 q0), if_bf, decide_eq_true q0, mr_284_24, if_pos (by decide), if_bf, if_pos (bI_01 _)]; rfl
  · obtain ⟨c, hc, rfl⟩ := nI_of q0
    rw [decide_eq_false q0, nI_clamp hc]
    by_cases q1 : c < 100000000
    · rw [decide_eq_true (show ¬ nI c < 0 ∧ ¬ 99999999 < nI c from ⟨q0, by rw [e9, nI_ltI (by omega) hc]; omega⟩), if_neg (by decide), mr_283_0, na_0, rp_of q1 4 0 rfl, mb_l, mb_v, mr_284_17, decide_eq_true q1]
      have hle := tFst_le (fun k => nmD c k == 0) 4 0
      rw [rp_loop q1 (4 - tFst (fun k => nmD c k == 0) 4 0) _ true (by omega)]
      congr 6
      -- the two tests
      have n0 : nmD c 0 = c % 100 := rfl
      have n1 : nmD c 1 = c / 100 % 100 := rfl
      have n2 : nmD c 2 = c / 10000 % 100 := rfl
      have n3 : nmD c 3 = c / 1000000 := rfl
      by_cases z0 : nmD c 0 = 0
      · rw [show tFst (fun k => nmD c k == 0) 4 0 = 0 by rw [tFst, if_pos (by simpa using z0)]]
        simp only [tAny, Bool.not_eq_true', Bool.or_false]
        rw [Bool.eq_iff_iff]
        simp only [Bool.and_eq_true, Bool.not_eq_true', Bool.or_eq_false_iff, Bool.not_eq_false', beq_iff_eq, decide_eq_true_eq, Nat.zero_add, true_and]
        rw [n0] at z0 ⊢; rw [n1, n2, n3]
        omega
      · by_cases z1 : nmD c 1 = 0
        · rw [show tFst (fun k => nmD c k == 0) 4 0 = 1 by rw [tFst_step _ _ _ (by simpa using z0), tFst, if_pos (by simpa using z1)]]
          simp only [tAny, Bool.not_eq_true', Bool.or_false]
          rw [Bool.eq_iff_iff]
          simp only [Bool.and_eq_true, Bool.not_eq_true', Bool.or_eq_false_iff, Bool.not_eq_false', beq_iff_eq, decide_eq_true_eq, Nat.reduceAdd, true_and]
          rw [n0] at z0; rw [n1] at z1 ⊢; rw [n2, n3]
          omega
        · by_cases z2 : nmD c 2 = 0
          · rw [show tFst (fun k => nmD c k == 0) 4 0 = 2 by rw [tFst_step _ _ _ (by simpa using z0), tFst_step _ _ _ (by simpa using z1), tFst, if_pos (by simpa using z2)]]
            simp only [tAny, Bool.not_eq_true', Bool.or_false]
            rw [Bool.eq_iff_iff]
            simp only [Bool.and_eq_true, Bool.not_eq_true', Bool.or_eq_false_iff, Bool.not_eq_false', beq_iff_eq, decide_eq_true_eq, Nat.reduceAdd, true_and]
            rw [n0] at z0; rw [n1] at z1; rw [n2] at z2 ⊢; rw [n3]
            omega
          · by_cases z3 : nmD c 3 = 0
            · rw [show tFst (fun k => nmD c k == 0) 4 0 = 3 by rw [tFst_step _ _ _ (by simpa using z0), tFst_step _ _ _ (by simpa using z1), tFst_step _ _ _ (by simpa using z2), tFst, if_pos (by simpa using z3)]]
              simp only [tAny, Bool.not_eq_true', Bool.or_false]
              rw [Bool.eq_iff_iff]
              simp only [Bool.and_eq_true, Bool.not_eq_true', Bool.or_eq_false_iff, Bool.not_eq_false', beq_iff_eq, decide_eq_true_eq, Nat.reduceAdd, true_and]
              rw [n0] at z0; rw [n1] at z1; rw [n2] at z2; rw [n3] at z3 ⊢
              omega
            · rw [show tFst (fun k => nmD c k == 0) 4 0 = 4 by rw [tFst_step _ _ _ (by simpa using z0), tFst_step _ _ _ (by simpa using z1), tFst_step _ _ _ (by simpa using z2), tFst_step _ _ _ (by simpa using z3)]; rfl]
              rw [n0] at z0; rw [n1] at z1; rw [n2] at z2; rw [n3] at z3
              rw [decide_eq_true (show (c ≠ 0 → c % 100 ≠ 0) from fun _ => z0), decide_eq_true (show (c / 100 ≠ 0 → c / 100 % 100 ≠ 0) from fun _ => z1), decide_eq_true (show (c / 10000 ≠ 0 → c / 10000 % 100 ≠ 0) from fun _ => z2), decide_eq_true (show (c / 1000000 ≠ 0 → c / 1000000 % 100 ≠ 0) from fun _ => by omega)]
              rfl
    · rw [decide_eq_false (fun z => z.2 (by rw [e9, nI_ltI (by omega) hc]; omega)), if_bf, mr_284_24, if_pos (by decide), if_bf, if_pos (bI_01 _), decide_eq_false q1]; rfl
/-- what a walk answers -/
def wR (r : Int32 × Nat × mK) : Int32 := if r.1 = 0 then nI r.2.1 else r.1
/-- places: the guard's and the registers' -/
def rV (k j : Nat) : Prop := gpC k j ∨ (k = 80 ∧ (j = 4 ∨ j = 5))
theorem cs_walk_loop (hp : p < 8) (B : List Nat) {ls : Nat} (hB : pc B < ls) (hl : ls = 1 ∨ (ls = 100 ∧ B ≠ [])) {x2 : Int32} : ∀ (A : List Nat) (a k b : Nat) (ψ : mS) (i : Nat → Nat → Int32), pO (A ++ B) → k + A.length ≤ 4 → (A ++ B).length + k ≤ 4 → a < 32 → tk (yT ψ) a ≠ 0 → hP (yH ψ) p ≠ 0 → IV π b ψ → b + A.length < 2 ^ 29 → CS w π i ψ → ∃ i', mm_V 88 14 [some (.ref 80), some (.int (nI p)), some (.int x2), some (.int (nI ls)), some (.int (nI a)), some (.int (nI (pc (A ++ B)))), some (.int (nI k))] [] (mm_Z m w i l e) = some (.inl (some (.int (wR (wK π (yT ψ) (cP (yH ψ) p) A a (yK ψ))))), mm_Z m w i' l e) ∧ CS w π i' (yk ψ (wK π (yT ψ) (cP (yH ψ) p) A a (yK ψ)).2.2) ∧ ((wK π (yT ψ) (cP (yH ψ) p) A a (yK ψ)).1 = 0 → i' 80 4 = nI (pc B) ∧ i' 80 5 = wB (i 80 5) (wN (yT ψ) A a)) ∧ mG rV i i'
  | [], a, k, b, ψ, i, hO, hk, hk4, ha, ht, hP0, hI, hb, h => by
    have h8 := pc_8 hO
    refine ⟨mm_ww i 80 4 (nI (pc B)), ?_, h.rg, fun _ => ⟨mw_s, by rw [mw_j (by omega)]; rfl⟩, mG.ww (Or.inr ⟨rfl, by omega⟩)⟩
    rw [mr_88_14]
    rw [List.nil_append] at h8 ⊢
    rw [List.nil_append] at hk4
    simp only [nI_ltI (show pc B < 2 ^ 31 by omega) (show ls < 2 ^ 31 by omega), if_pos hB]
    split <;> rfl
  | x :: A, a, k, b, ψ, i, hO, hk, hk4, ha, ht, hP0, hI, hb, h => by
    have h8 := pc_8 hO
    have ⟨x1, x99, hO0⟩ := pO_t hO
    have hO' : pO (A ++ B) := hO0
    rw [List.length_cons] at hk hb
    have hge : ¬ pc (x :: A ++ B) < ls := by
      rcases hl with rfl | ⟨rfl, hne⟩
      · show ¬ x + 100 * pc (A ++ B) < 1; omega
      · show ¬ x + 100 * pc (A ++ B) < 100
        have := pc_pos hO' (by simp [hne])
        omega
    have hls : ls < 2 ^ 31 := by rcases hl with rfl | ⟨rfl, -⟩ <;> omega
    have e1 : (pc (x :: A ++ B)) % 100 = x := by show (x + 100 * pc (A ++ B)) % 100 = x; omega
    have e2 : (pc (x :: A ++ B)) / 100 = pc (A ++ B) := by show (x + 100 * pc (A ++ B)) / 100 = _; omega
    rw [mr_88_14]
    simp only [na_4, nI_ltI (show k < 2 ^ 31 by omega) (show 4 < 2 ^ 31 by omega), nI_ltI (show pc (x :: A ++ B) < 2 ^ 31 by omega) hls]
    rw [if_pos (by omega), if_neg hge, tc_isDirectory h.1 hI.tw ha, mb_l, mb_v, mr_88_35]
    by_cases q1 : tk (yT ψ) a = 2
    · rw [if_pos q1, if_neg (by decide), if_neg (no_out (by omega) (by omega)), if_neg (no_out (by omega) (by omega)), nI_clamp (by omega), nI_clamp (by omega), h.pr hp hP0, h.cn hI ha ht, na_1]
      obtain ⟨i1, c1, c2, c3⟩ := cs_ck (m := m) (l := l) (e := e) (cl := 1) (pm := 2) h hI (hI.cp hp hP0) (hI.cn ha ht).1 (by omega)
      have hI1 := iv_ck hI (by omega) (cl := 1) (pm := 2) (hI.cp hp hP0) (hI.cn ha ht).1
      have f1 : mG rV i i1 := c3.mo (fun _ _ z => Or.inl z)
      have t2 : TC true i1 (yT ψ) := c2.1
      rw [c1, mb_l, mb_v, mr_88_69]
      cases q2 : (kGr π (yK ψ) (cP (yH ψ) p) (cN (yT ψ) a) 1 2).1 with
      | false =>
        rw [if_bf, wK_2 q1 q2]
        exact ⟨i1, rfl, c2, fun z => absurd z (show ¬ (-2 : Int32) = 0 by decide), f1⟩
      | true =>
        rw [if_bt, na_100, na_re (by omega) (by omega), e1, tc_nodeNamed t2 hI.tw ha q1 (by omega), mb_l, mb_v, mr_88_89]
        by_cases q3 : tE (yT ψ) a x < ts (yT ψ) a
        · have hd := (((hI.tw a ha).2.2 q1).2 _ q3)
          rw [wK_4 q1 q2 q3, if_pos q3, if_neg (na_m1 (by omega)), na_100, na_div (by omega) (by omega), e2, nI_1]
          obtain ⟨i2, g1, g2, g3, g4⟩ := cs_walk_loop hp B hB hl (x2 := x2) A (td (yT ψ) a (tE (yT ψ) a x)) (k + 1) (b + 1) (yk ψ (kGr π (yK ψ) (cP (yH ψ) p) (cN (yT ψ) a) 1 2).2) (mm_ww i1 80 5 (i1 80 5 ||| 1 <<< (nI (td (yT ψ) a (tE (yT ψ) a x)) &&& 31))) hO' (by omega) (by simp only [List.length_cons, List.cons_append] at hk4; omega) hd.2.2.2 (hI.ti.2.2.2.2.1 a ha q1 _ q3) hP0 hI1 (by omega) c2.rg
          refine ⟨i2, g1, g2, fun z => ?_, (f1.tr (mG.ww (Or.inr ⟨rfl, by omega⟩))).tr g4⟩
          obtain ⟨y1, y2⟩ := g3 z
          refine ⟨y1, ?_⟩
          rw [y2, mw_s, c3 80 5 (by unfold gpC; omega)]
          rfl
        · rw [wK_3 q1 q2 q3, if_neg q3, if_pos rfl]
          exact ⟨i1, rfl, c2, fun z => absurd z (show ¬ (-3 : Int32) = 0 by decide), f1⟩
    · rw [if_neg q1, if_pos rfl, wK_1 q1]
      exact ⟨i, rfl, h, fun z => absurd z (show ¬ (-4 : Int32) = 0 by decide), mG.rf⟩
end MM99
