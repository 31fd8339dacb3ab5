/-! LINKS, and what trees keep -/
section MM95
theorem sum_ch {f g : Nat → Nat} {d : Nat} : ∀ (D k : Nat), k ≤ d → d < k + D → (∀ j, j ≠ d → f j = g j) → tSum f D k + g d = tSum g D k + f d
  | 0, k, h1, h2, _ => by omega
  | D + 1, k, h1, h2, h => by
    rw [tSum, tSum]
    by_cases q : k = d
    · subst q
      have : tSum f D (k + 1) = tSum g D (k + 1) := by
        clear h2
        have aux : ∀ D k', k < k' → tSum f D k' = tSum g D k' := by
          intro D
          induction D with
          | zero => intro k' _; rfl
          | succ D ih => intro k' hk; rw [tSum, tSum, h k' (by omega), ih (k' + 1) (by omega)]
        exact aux D (k + 1) (by omega)
      omega
    · have := sum_ch (f := f) (g := g) (d := d) D (k + 1) (by omega) (by omega) h
      have := h k q
      omega
theorem sum_cg {f g : Nat → Nat} : ∀ (D k : Nat), (∀ j, k ≤ j → j < k + D → f j = g j) → tSum f D k = tSum g D k
  | 0, k, _ => rfl
  | D + 1, k, h => by
    rw [tSum, tSum, h k (Nat.le_refl _) (by omega), sum_cg D (k + 1) (fun j h1 h2 => h j (by omega) (by omega))]
theorem cnt_end {f : Nat → Bool} : ∀ (d k : Nat), tCnt f (d + 1) k = tCnt f d k + (if f (k + d) = true then 1 else 0)
  | 0, k => by rw [tCnt, tCnt, tCnt, Nat.add_zero k]; omega
  | d + 1, k => by
    rw [tCnt, cnt_end d (k + 1), tCnt, show k + 1 + d = k + (d + 1) by omega]
    omega
theorem cnt_sh {f : Nat → Bool} : ∀ (d k : Nat), tCnt (fun j => f (j + 1)) d k = tCnt f d (k + 1)
  | 0, k => rfl
  | d + 1, k => by rw [tCnt, tCnt, cnt_sh d (k + 1)]
theorem cnt_rm {f : Nat → Bool} {a : Nat} : ∀ (d k : Nat), k ≤ a → a < k + d + 1 → tCnt (fun j => if j < a then f j else f (j + 1)) d k + (if f a = true then 1 else 0) = tCnt f (d + 1) k
  | 0, k, h1, h2 => by
    have e : a = k := by omega
    subst e
    rw [tCnt, tCnt, tCnt]; omega
  | d + 1, k, h1, h2 => by
    by_cases q : k = a
    · subst q
      rw [show tCnt f (d + 1 + 1) k = (if f k = true then 1 else 0) + tCnt f (d + 1) (k + 1) from rfl]
      rw [cnt_cong (f := fun j => if j < k then f j else f (j + 1)) (g := fun j => f (j + 1)) (d + 1) k (fun j h3 h4 => if_neg (by omega)), cnt_sh]
      omega
    · have := cnt_rm (f := f) (a := a) d (k + 1) (by omega) (by omega)
      rw [show tCnt f (d + 1 + 1) k = (if f k = true then 1 else 0) + tCnt f (d + 1) (k + 1) from rfl]
      rw [show tCnt (fun j => if j < a then f j else f (j + 1)) (d + 1) k = (if (if k < a then f k else f (k + 1)) = true then 1 else 0) + tCnt (fun j => if j < a then f j else f (j + 1)) d (k + 1) from rfl]
      rw [if_pos (show k < a by omega)]
      omega
variable {τ σ : mT} {π : mP} {a c d n x y name : Nat}
theorem L_ch {τ σ : mT} {d y : Nat} (hd : d < 32) (h : ∀ j, j ≠ d → tLd σ y j = tLd τ y j) : tL σ y + tLd τ y d = tL τ y + tLd σ y d := sum_ch 32 0 (Nat.zero_le _) (by omega) h
theorem L_cg {τ σ : mT} {y : Nat} (h : ∀ j, j < 32 → tLd σ y j = tLd τ y j) : tL σ y = tL τ y := sum_cg 32 0 (fun j _ hj => h j (by omega))
theorem L_mk {v : Int32} (h : tk τ a = 2 → ts τ a = 0) : tL (tMk τ a c v) y = tL τ y := by
  refine L_cg (fun j hj => ?_)
  unfold tLd
  by_cases q : j = a
  · subst q
    simp only [tk_tMk, ts_tMk, up_s, tCnt]
    by_cases z : tk τ j = 2
    · rw [if_pos z, h z]; simp [tCnt]
    · rw [if_neg z]; simp
  · simp only [tk_tMk, ts_tMk, td_tMk, up_n q]
theorem L_ad (hd : d < 32) (h2 : tk τ d = 2) : tL (tAd τ d name n) y = tL τ y + (if y = n then 1 else 0) := by
  have h := L_ch (τ := τ) (σ := tAd τ d name n) (d := d) (y := y) hd (fun j q => by unfold tLd; simp only [tk_tAd, ts_tAd, td_tAd, up_n q])
  have e : tLd (tAd τ d name n) y d = tLd τ y d + (if y = n then 1 else 0) := by
    unfold tLd
    rw [tk_tAd, if_pos h2, if_pos h2, ts_tAd, td_tAd, up_s, up_s, cnt_end, Nat.zero_add, up_s]
    rw [cnt_cong (g := fun k => td τ d k == y) (ts τ d) 0 (fun j _ hj => by rw [up_n (by omega)])]
    congr 1
    by_cases z : n = y
    · subst z; simp
    · rw [if_neg (by simpa using z), if_neg (fun q => z q.symm)]
  omega
theorem L_rm (hd : d < 32) (h2 : tk τ d = 2) (ha : a < ts τ d) : tL (tRm τ d a) y + (if td τ d a = y then 1 else 0) = tL τ y := by
  have h := L_ch (τ := τ) (σ := tRm τ d a) (d := d) (y := y) hd (fun j q => by unfold tLd; simp only [tk_tRm, ts_tRm, td_tRm, up_n q])
  have e : tLd (tRm τ d a) y d + (if td τ d a = y then 1 else 0) = tLd τ y d := by
    unfold tLd
    rw [tk_tRm, if_pos h2, if_pos h2, ts_tRm, td_tRm, up_s, up_s]
    have := cnt_rm (f := fun k => td τ d k == y) (a := a) (ts τ d - 1) 0 (by omega) (by omega)
    rw [show ts τ d - 1 + 1 = ts τ d by omega] at this
    rw [← this]
    congr 1
    · exact cnt_cong _ _ (fun j _ _ => by split <;> rfl)
    · by_cases z : td τ d a = y
      · rw [if_pos z, if_pos (by simpa using z)]
      · rw [if_neg z, if_neg (by simpa using z)]
  omega
theorem L_fs {σ : mT} (h1 : ∀ j, j ≠ a → tLd σ y j = tLd τ y j) (h2 : tk τ a ≠ 2) (h3 : tk σ a ≠ 2) : tL σ y = tL τ y := L_cg (fun j _ => by
  by_cases q : j = a
  · subst q; unfold tLd; rw [if_neg h2, if_neg h3]
  · exact h1 j q)
/-- directories have one link at most; entries are of nodes that are there; the root is a directory -/
def TL (τ : mT) : Prop := (∀ n, 1 ≤ n → n < 32 → tk τ n = 2 → tL τ n ≤ 1) ∧ (∀ d, d < 32 → tk τ d = 2 → ∀ k, k < ts τ d → tk τ (td τ d k) ≠ 0) ∧ tk τ 0 = 2
def TI (τ : mT) : Prop := TW τ ∧ TN τ ∧ TE τ ∧ TL τ
/-- what a deed needs more -/
def dOk (π : mP) (τ : mT) : mD → Prop
  | (0, a, x, c, _, _) => tL τ a = 0 ∧ (c = 0 ∨ tL τ c ≠ 0) ∧ pVal π x = true
  | (1, a, x, c, _, _) => tL τ a = 0 ∧ (c = 0 ∨ tL τ c ≠ 0) ∧ pVal π x = true
  | (2, _, _, _, _, _) => True
  | (3, _, x, _, _, _) => x ≠ -1
  | (4, _, x, _, _, _) => pVal π x = true
  | (5, a, _, c, _, _) => tk τ c = 1 ∧ (a = 0 ∨ tL τ a ≠ 0)
  | (6, a, _, _, d, _) => tk τ (td τ a (tE τ a d)) = 2 → ts τ (td τ a (tE τ a d)) = 0
  | (_, a, _, c, d, _) => c ≠ td τ a (tE τ a d) ∧ (c = 0 ∨ tL τ c ≠ 0)
def TV (π : mP) (τ : mT) : Prop := (∀ n, n < 32 → tk τ n ≠ 0 → pVal π (tc τ n) = true) ∧ ∀ n k, tb τ n k ≠ -1
theorem te_mk {v : Int32} (hE : TE τ) (h : tk τ a = 2 → ts τ a = 0) : TE (tMk τ a c v) := by
  intro n h1 h2 h3 h4
  rw [L_mk h] at h4
  by_cases q : n = a
  · subst q; rw [ts_tMk, up_s]
  · rw [ts_tMk, up_n q]; rw [tk_tMk, up_n q] at h3; exact hE n h1 h2 h3 h4
theorem te_ad (hE : TE τ) (hd : d < 32) (h2 : tk τ d = 2) (hl : d = 0 ∨ tL τ d ≠ 0) : TE (tAd τ d name n) := by
  intro x h1 h3 h4 h5
  rw [L_ad hd h2] at h5
  by_cases q : x = d
  · subst q; exfalso; omega
  · rw [ts_tAd, up_n q]; exact hE x h1 h3 h4 (by omega)
theorem tl_ad (hL : TL τ) (hd : d < 32) (h2 : tk τ d = 2) (hn : tk τ n ≠ 0) (h1 : tk τ n = 2 → tL τ n = 0) : TL (tAd τ d name n) := by
  refine ⟨?_, ?_, hL.2.2⟩
  · intro x g1 g2 g3
    rw [L_ad hd h2]
    rw [tk_tAd] at g3
    split
    · rename_i q; subst q; have := h1 g3; omega
    · have := hL.1 x g1 g2 g3; omega
  · intro x g1 g2 k hk
    rw [tk_tAd] at g2 ⊢
    rw [ts_tAd] at hk
    rw [td_tAd]
    by_cases q : x = d
    · subst q
      rw [up_s] at hk ⊢
      by_cases z : k = ts τ x
      · subst z; rw [up_s]; exact hn
      · rw [up_n z]; exact hL.2.1 x g1 g2 k (by omega)
    · rw [up_n q] at hk ⊢; exact hL.2.1 x g1 g2 k hk
theorem tl_mk {v : Int32} (hL : TL τ) (h : tk τ a = 2 → ts τ a = 0) (ha : 1 ≤ a) (hc : c ≠ 0) (h0 : tL τ a = 0) : TL (tMk τ a c v) := by
  refine ⟨?_, ?_, ?_⟩
  · intro x g1 g2 g3
    rw [L_mk h]
    by_cases q : x = a
    · subst q; omega
    · rw [tk_tMk, up_n q] at g3; exact hL.1 x g1 g2 g3
  · intro x g1 g2 k hk
    rw [tk_tMk] at g2 ⊢
    rw [ts_tMk] at hk
    rw [td_tMk]
    have hx : x ≠ a := by
      intro q; subst q; rw [up_s] at hk; omega
    rw [up_n hx] at g2 hk
    by_cases z : td τ x k = a
    · rw [z, up_s]; exact hc
    · rw [up_n z]; exact hL.2.1 x g1 g2 k hk
  · rw [tk_tMk, up_n (by omega)]; exact hL.2.2
theorem ti_do (hI : TI τ) {q : mD} (ho : tOk τ q) (hd : dOk π τ q) : TI (tDo τ q) := by
  obtain ⟨hW, hN, hE, hL⟩ := hI
  refine ⟨tw_do hW ho, tn_do hN ho, ?_⟩
  unfold tOk at ho
  unfold dOk at hd
  unfold tDo
  split at ho
  · rename_i a v c d e
    obtain ⟨p1, p2, p3, p4, p5, p6, p7, p8, p9⟩ := ho
    obtain ⟨d1, d2, d3⟩ := hd
    have h0 : tk τ a = 2 → ts τ a = 0 := fun z => hE a p1 p2 z d1
    have k2 : tk (tMk τ a 1 v) c = 2 := by rw [tk_tMk, up_n (Ne.symm p5)]; exact p4
    refine ⟨te_ad (te_mk hE h0) p3 k2 (by rw [L_mk h0]; exact d2), tl_ad (tl_mk hL h0 p1 (by omega) d1) p3 k2 (by rw [tk_tMk, up_s]; omega) (fun _ => by rw [L_mk h0]; exact d1)⟩
  · rename_i a v c d e
    obtain ⟨p1, p2, p3, p4, p5, p6, p7, p8, p9⟩ := ho
    obtain ⟨d1, d2, d3⟩ := hd
    have h0 : tk τ a = 2 → ts τ a = 0 := fun z => hE a p1 p2 z d1
    have k2 : tk (tMk τ a 2 v) c = 2 := by rw [tk_tMk, up_n (Ne.symm p5)]; exact p4
    refine ⟨te_ad (te_mk hE h0) p3 k2 (by rw [L_mk h0]; exact d2), tl_ad (tl_mk hL h0 p1 (by omega) d1) p3 k2 (by rw [tk_tMk, up_s]; omega) (fun _ => by rw [L_mk h0]; exact d1)⟩
  · rename_i a v c d e
    have hl : ∀ y, tL (tEm τ a) y = tL τ y := fun y => L_fs (a := a) (fun j q => by unfold tLd; simp only [tk_tEm, ts_tEm, td_tEm, up_n q]) (by rw [ho.2]; omega) (by rw [tk_tEm, ho.2]; omega)
    refine ⟨?_, ?_, ?_, hL.2.2⟩
    · intro n h1 h2 h3 h4
      rw [hl] at h4
      by_cases q : n = a
      · subst q; rw [ts_tEm, up_s]
      · rw [ts_tEm, up_n q]; exact hE n h1 h2 h3 h4
    · intro n h1 h2 h3; rw [hl]; exact hL.1 n h1 h2 h3
    · intro x g1 g2 k hk
      have hx : x ≠ a := by intro q; subst q; have g2 : tk τ x = 2 := g2; omega
      rw [ts_tEm, up_n hx] at hk
      exact hL.2.1 x g1 g2 k hk
  · rename_i a v c d e
    have hl : ∀ y, tL (tWr τ a c v) y = tL τ y := fun y => L_fs (a := a) (fun j q => by unfold tLd; simp only [tk_tWr, ts_tWr, td_tWr, up_n q]) (by rw [ho.2.1]; omega) (by rw [tk_tWr, ho.2.1]; omega)
    refine ⟨?_, ?_, ?_, hL.2.2⟩
    · intro n h1 h2 h3 h4
      rw [hl] at h4
      have hx : n ≠ a := by intro q; subst q; have h3 : tk τ n = 2 := h3; omega
      rw [ts_tWr, up_n hx]; exact hE n h1 h2 h3 h4
    · intro n h1 h2 h3; rw [hl]; exact hL.1 n h1 h2 h3
    · intro x g1 g2 k hk
      have hx : x ≠ a := by intro q; subst q; have g2 : tk τ x = 2 := g2; omega
      rw [ts_tWr, up_n hx] at hk
      exact hL.2.1 x g1 g2 k hk
  · exact ⟨hE, hL⟩
  · rename_i a v c d e
    obtain ⟨p1, p2, p3, p4, p5, p6, p7, p8⟩ := ho
    exact ⟨te_ad hE p1 p2 hd.2, tl_ad hL p1 p2 (by rw [hd.1]; omega) (fun z => by rw [hd.1] at z; omega)⟩
  · rename_i a v c d e
    obtain ⟨p1, p2, p3, p4, p5⟩ := ho
    have hl : ∀ y, tL (tRm τ a (tE τ a d)) y + (if td τ a (tE τ a d) = y then 1 else 0) = tL τ y := fun y => L_rm p1 p2 p5
    refine ⟨?_, ?_, ?_, hL.2.2⟩
    · intro n h1 h2 h3 h4
      have := hl n
      have hs : ts (tRm τ a (tE τ a d)) n ≤ ts τ n := by
        rw [ts_tRm]
        by_cases q : n = a
        · subst q; rw [up_s]; omega
        · rw [up_n q]; omega
      have h3 : tk τ n = 2 := h3
      by_cases q : td τ a (tE τ a d) = n
      · have := hd (by rw [q]; exact h3)
        rw [q] at this
        omega
      · rw [if_neg q] at this
        have := hE n h1 h2 h3 (by omega)
        omega
    · intro n h1 h2 h3
      have := hl n
      have := hL.1 n h1 h2 h3
      omega
    · intro x g1 g2 k hk
      rw [ts_tRm] at hk
      rw [td_tRm]
      show tk τ _ ≠ 0
      by_cases q : x = a
      · subst q
        rw [up_s] at hk ⊢
        split
        · exact hL.2.1 x g1 g2 k (by omega)
        · exact hL.2.1 x g1 g2 (k + 1) (by omega)
      · rw [up_n q] at hk ⊢; exact hL.2.1 x g1 g2 k hk
  · rename_i kk a v c d e z0 z1 z2 z3 z4 z5 z6
    obtain ⟨p1, p2, p3, p4, p5, p6, p7, p8, p9, p10, p11⟩ := ho
    have hd : c ≠ td τ a (tE τ a d) ∧ (c = 0 ∨ tL τ c ≠ 0) := by
      rcases kk with _ | _ | _ | _ | _ | _ | _ | kk
      · exact (z0 rfl).elim
      · exact (z1 rfl).elim
      · exact (z2 rfl).elim
      · exact (z3 rfl).elim
      · exact (z4 rfl).elim
      · exact (z5 rfl).elim
      · exact (z6 rfl).elim
      · exact hd
    have hl1 : ∀ y, tL (tRm τ a (tE τ a d)) y + (if td τ a (tE τ a d) = y then 1 else 0) = tL τ y := fun y => L_rm p1 p2 p5
    have hl2 : ∀ y, tL (tAd (tRm τ a (tE τ a d)) c e (td τ a (tE τ a d))) y = tL (tRm τ a (tE τ a d)) y + (if y = td τ a (tE τ a d) then 1 else 0) := fun y => L_ad p6 p7
    have hl : ∀ y, tL (tAd (tRm τ a (tE τ a d)) c e (td τ a (tE τ a d))) y = tL τ y := fun y => by
      rw [hl2, ← hl1]
      congr 1
      by_cases q : td τ a (tE τ a d) = y
      · rw [if_pos q, if_pos q.symm]
      · rw [if_neg q, if_neg (fun z => q z.symm)]
    refine ⟨?_, ?_, ?_, hL.2.2⟩
    · intro n h1 h2 h3 h4
      rw [hl] at h4
      have h3 : tk τ n = 2 := h3
      have hz := hE n h1 h2 h3 h4
      have n1 : n ≠ a := by intro q; subst q; omega
      have n2 : n ≠ c := by intro q; subst q; omega
      rw [ts_tAd, up_n n2, ts_tRm, up_n n1]; exact hz
    · intro n h1 h2 h3
      rw [hl]; exact hL.1 n h1 h2 h3
    · intro x g1 g2 k hk
      have g2 : tk τ x = 2 := g2
      show tk τ _ ≠ 0
      have base : ∀ x k, x < 32 → tk τ x = 2 → k < ts (tRm τ a (tE τ a d)) x → tk τ (td (tRm τ a (tE τ a d)) x k) ≠ 0 := by
        intro x' k' g1' g2' hk'
        rw [ts_tRm] at hk'
        rw [td_tRm]
        by_cases q : x' = a
        · rw [q] at hk' g2' ⊢
          rw [up_s] at hk' ⊢
          split
          · exact hL.2.1 a p1 g2' k' (by omega)
          · exact hL.2.1 a p1 g2' (k' + 1) (by omega)
        · rw [up_n q] at hk' ⊢; exact hL.2.1 x' g1' g2' k' hk'
      rw [ts_tAd] at hk
      rw [td_tAd]
      by_cases q : x = c
      · subst q
        rw [up_s] at hk ⊢
        by_cases z : k = ts (tRm τ a (tE τ a d)) x
        · subst z; rw [up_s]; exact hL.2.1 a p1 p2 _ p5
        · rw [up_n z]; exact base x k g1 g2 (by omega)
      · rw [up_n q] at hk ⊢; exact base x k g1 g2 hk
end MM95
