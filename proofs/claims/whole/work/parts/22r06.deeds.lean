/-! DEEDS -/
section MM65
/-- what the makers give -/
theorem tk_tMk (τ : mT) (a c : Nat) (x : Int32) : tk (tMk τ a c x) = va_up (tk τ) a c := rfl
theorem tc_tMk (τ : mT) (a c : Nat) (x : Int32) : tc (tMk τ a c x) = va_up (tc τ) a x := rfl
theorem ts_tMk (τ : mT) (a c : Nat) (x : Int32) : ts (tMk τ a c x) = va_up (ts τ) a 0 := rfl
theorem tb_tMk (τ : mT) (a c : Nat) (x : Int32) : tb (tMk τ a c x) = tb τ := rfl
theorem tm_tMk (τ : mT) (a c : Nat) (x : Int32) : tm (tMk τ a c x) = tm τ := rfl
theorem td_tMk (τ : mT) (a c : Nat) (x : Int32) : td (tMk τ a c x) = td τ := rfl
theorem tk_tAd (τ : mT) (d name n : Nat) : tk (tAd τ d name n) = tk τ := rfl
theorem tc_tAd (τ : mT) (d name n : Nat) : tc (tAd τ d name n) = tc τ := rfl
theorem ts_tAd (τ : mT) (d name n : Nat) : ts (tAd τ d name n) = va_up (ts τ) d (ts τ d + 1) := rfl
theorem tb_tAd (τ : mT) (d name n : Nat) : tb (tAd τ d name n) = tb τ := rfl
theorem tm_tAd (τ : mT) (d name n : Nat) : tm (tAd τ d name n) = va_up (tm τ) d (va_up (tm τ d) (ts τ d) name) := rfl
theorem td_tAd (τ : mT) (d name n : Nat) : td (tAd τ d name n) = va_up (td τ) d (va_up (td τ d) (ts τ d) n) := rfl
theorem tk_tRm (τ : mT) (d at_ : Nat) : tk (tRm τ d at_) = tk τ := rfl
theorem tc_tRm (τ : mT) (d at_ : Nat) : tc (tRm τ d at_) = tc τ := rfl
theorem ts_tRm (τ : mT) (d at_ : Nat) : ts (tRm τ d at_) = va_up (ts τ) d (ts τ d - 1) := rfl
theorem tb_tRm (τ : mT) (d at_ : Nat) : tb (tRm τ d at_) = tb τ := rfl
theorem tm_tRm (τ : mT) (d at_ : Nat) : tm (tRm τ d at_) = va_up (tm τ) d (fun k => if k < at_ then tm τ d k else tm τ d (k + 1)) := rfl
theorem td_tRm (τ : mT) (d at_ : Nat) : td (tRm τ d at_) = va_up (td τ) d (fun k => if k < at_ then td τ d k else td τ d (k + 1)) := rfl
theorem tk_tEm (τ : mT) (a : Nat) : tk (tEm τ a) = tk τ := rfl
theorem tc_tEm (τ : mT) (a : Nat) : tc (tEm τ a) = tc τ := rfl
theorem ts_tEm (τ : mT) (a : Nat) : ts (tEm τ a) = va_up (ts τ) a 0 := rfl
theorem tb_tEm (τ : mT) (a : Nat) : tb (tEm τ a) = tb τ := rfl
theorem tm_tEm (τ : mT) (a : Nat) : tm (tEm τ a) = tm τ := rfl
theorem td_tEm (τ : mT) (a : Nat) : td (tEm τ a) = td τ := rfl
theorem tk_tWr (τ : mT) (a b : Nat) (x : Int32) : tk (tWr τ a b x) = tk τ := rfl
theorem tc_tWr (τ : mT) (a b : Nat) (x : Int32) : tc (tWr τ a b x) = tc τ := rfl
theorem ts_tWr (τ : mT) (a b : Nat) (x : Int32) : ts (tWr τ a b x) = va_up (ts τ) a (max (ts τ a) (b + 1)) := rfl
theorem tb_tWr (τ : mT) (a b : Nat) (x : Int32) : tb (tWr τ a b x) = va_up (tb τ) a (fun k => if k = b then x else if ts τ a ≤ k then 0 else tb τ a k) := rfl
theorem tm_tWr (τ : mT) (a b : Nat) (x : Int32) : tm (tWr τ a b x) = tm τ := rfl
theorem td_tWr (τ : mT) (a b : Nat) (x : Int32) : td (tWr τ a b x) = td τ := rfl
theorem tk_tRl (τ : mT) (a : Nat) (x : Int32) : tk (tRl τ a x) = tk τ := rfl
theorem tc_tRl (τ : mT) (a : Nat) (x : Int32) : tc (tRl τ a x) = va_up (tc τ) a x := rfl
theorem ts_tRl (τ : mT) (a : Nat) (x : Int32) : ts (tRl τ a x) = ts τ := rfl
theorem tb_tRl (τ : mT) (a : Nat) (x : Int32) : tb (tRl τ a x) = tb τ := rfl
theorem tm_tRl (τ : mT) (a : Nat) (x : Int32) : tm (tRl τ a x) = tm τ := rfl
theorem td_tRl (τ : mT) (a : Nat) (x : Int32) : td (tRl τ a x) = td τ := rfl
theorem tk_tDr (τ : mT) (a : Nat) : tk (tDr τ a) = va_up (tk τ) a 0 := rfl
theorem tc_tDr (τ : mT) (a : Nat) : tc (tDr τ a) = tc τ := rfl
theorem ts_tDr (τ : mT) (a : Nat) : ts (tDr τ a) = ts τ := rfl
theorem tb_tDr (τ : mT) (a : Nat) : tb (tDr τ a) = tb τ := rfl
theorem tm_tDr (τ : mT) (a : Nat) : tm (tDr τ a) = tm τ := rfl
theorem td_tDr (τ : mT) (a : Nat) : td (tDr τ a) = td τ := rfl
/-- kind, a, a value, c, d, e -/
abbrev mD : Type := Nat × Nat × Int32 × Nat × Nat × Nat
def tDo (τ : mT) : mD → mT
  | (0, a, x, c, d, _) => tAd (tMk τ a 1 x) c d a
  | (1, a, x, c, d, _) => tAd (tMk τ a 2 x) c d a
  | (2, a, _, _, _, _) => tEm τ a
  | (3, a, x, c, _, _) => tWr τ a c x
  | (4, a, x, _, _, _) => tRl τ a x
  | (5, a, _, c, d, _) => tAd τ a d c
  | (6, a, _, _, d, _) => tRm τ a (tE τ a d)
  | (_, a, _, c, d, e) => tAd (tRm τ a (tE τ a d)) c e (td τ a (tE τ a d))
/-- what a deed needs -/
def tOk (τ : mT) : mD → Prop
  | (0, a, _, c, d, _) => 1 ≤ a ∧ a < 32 ∧ c < 32 ∧ tk τ c = 2 ∧ a ≠ c ∧ ts τ c < 10 ∧ 1 ≤ d ∧ d ≤ 99 ∧ tE τ c d = ts τ c
  | (1, a, _, c, d, _) => 1 ≤ a ∧ a < 32 ∧ c < 32 ∧ tk τ c = 2 ∧ a ≠ c ∧ ts τ c < 10 ∧ 1 ≤ d ∧ d ≤ 99 ∧ tE τ c d = ts τ c
  | (2, a, _, _, _, _) => a < 32 ∧ tk τ a = 1
  | (3, a, _, c, _, _) => a < 32 ∧ tk τ a = 1 ∧ c < 24
  | (4, a, _, _, _, _) => a < 32
  | (5, a, _, c, d, _) => a < 32 ∧ tk τ a = 2 ∧ ts τ a < 10 ∧ 1 ≤ d ∧ d ≤ 99 ∧ tE τ a d = ts τ a ∧ 1 ≤ c ∧ c < 32
  | (6, a, _, _, d, _) => a < 32 ∧ tk τ a = 2 ∧ 1 ≤ d ∧ d ≤ 99 ∧ tE τ a d < ts τ a
  | (_, a, _, c, d, e) => a < 32 ∧ tk τ a = 2 ∧ 1 ≤ d ∧ d ≤ 99 ∧ tE τ a d < ts τ a ∧ c < 32 ∧ tk τ c = 2 ∧ (c = a ∨ ts τ c < 10) ∧ 1 ≤ e ∧ e ≤ 99 ∧ tE τ c e = ts τ c
/-- the five numbers of a deed: the class's, the reference's -/
def mDc : mD → Nat → Int32
  | (0, a, x, c, d, _) => fun j => [0, nI a, nI c, nI d, x].getD j 0
  | (1, a, x, c, d, _) => fun j => [1, nI a, nI c, nI d, x].getD j 0
  | (2, a, _, _, _, _) => fun j => [2, nI a, 0, 0, 0].getD j 0
  | (3, a, x, c, _, _) => fun j => [3, nI a, nI c, x, 0].getD j 0
  | (4, a, x, _, _, _) => fun j => [4, nI a, x, 0, 0].getD j 0
  | (5, a, _, c, d, _) => fun j => [5, nI c, nI a, nI d, 0].getD j 0
  | (6, a, _, _, d, _) => fun j => [6, nI a, nI d, 0, 0].getD j 0
  | (_, a, _, c, d, e) => fun j => [7, nI a, nI d, nI c, nI e].getD j 0
def mDr : mD → Nat → Int32
  | (0, a, x, c, d, _) => fun j => [0, nI a, x, nI c, nI d].getD j 0
  | (1, a, x, c, d, _) => fun j => [1, nI a, x, nI c, nI d].getD j 0
  | (2, a, _, _, _, _) => fun j => [2, nI a, 0, 0, 0].getD j 0
  | (3, a, x, c, _, _) => fun j => [3, nI a, nI c, x, 0].getD j 0
  | (4, a, x, _, _, _) => fun j => [4, nI a, x, 0, 0].getD j 0
  | (5, a, _, c, d, _) => fun j => [5, nI a, nI d, nI c, 0].getD j 0
  | (6, a, _, _, d, _) => fun j => [6, nI a, nI d, 0, 0].getD j 0
  | (_, a, _, c, d, e) => fun j => [7, nI a, nI d, nI c, nI e].getD j 0
theorem tFst_cong {p q : Nat → Bool} : ∀ (d k : Nat), (∀ j, k ≤ j → j < k + d → p j = q j) → tFst p d k = tFst q d k
  | 0, _, _ => rfl
  | d + 1, k, h => by
    rw [tFst, tFst, h k (Nat.le_refl _) (by omega), tFst_cong d (k + 1) (fun j a b => h j (by omega) (by omega))]
theorem tE_cong {τ σ : mT} {d name : Nat} (h1 : ts τ d = ts σ d) (h2 : ∀ k, k < ts τ d → tm τ d k = tm σ d k) : tE τ d name = tE σ d name := by
  unfold tE
  rw [← h1]
  exact tFst_cong _ _ (fun j _ hj => by rw [h2 j (by omega)])
theorem tE_no {τ : mT} {d name k : Nat} (h : tE τ d name = ts τ d) (hk : k < ts τ d) : tm τ d k ≠ name := by
  intro q
  have := tFst_no (fun k => tm τ d k == name) (ts τ d) 0 k (Nat.zero_le _) (by unfold tE at h; omega)
  simp [q] at this
/-- bounds are kept -/
theorem tw_mk {τ : mT} (h : TW τ) {a c : Nat} {x : Int32} (hc : c ≤ 2) : TW (tMk τ a c x) := by
  intro n hn
  obtain ⟨h1, h2, h3⟩ := h n hn
  by_cases q : n = a
  · subst q
    simp only [tk_tMk, ts_tMk, up_s]
    exact ⟨hc, by omega, fun _ => ⟨by omega, fun k hk => by omega⟩⟩
  · simp only [tk_tMk, ts_tMk, tm_tMk, td_tMk, up_n q]
    exact ⟨h1, h2, h3⟩
theorem tw_ad {τ : mT} (h : TW τ) {d name n : Nat} (hd : d < 32) (h2 : tk τ d = 2) (hs : ts τ d < 10) (h3 : 1 ≤ name) (h4 : name ≤ 99) (h5 : 1 ≤ n) (h6 : n < 32) : TW (tAd τ d name n) := by
  intro x hx
  obtain ⟨g1, g2, g3⟩ := h x hx
  by_cases q : x = d
  · subst q
    simp only [tk_tAd, ts_tAd, tm_tAd, td_tAd, up_s]
    refine ⟨g1, by omega, fun _ => ⟨by omega, fun k hk => ?_⟩⟩
    by_cases r : k = ts τ x
    · subst r; rw [up_s, up_s]; exact ⟨h3, h4, h5, h6⟩
    · rw [up_n r, up_n r]; exact (g3 h2).2 k (by omega)
  · simp only [tk_tAd, ts_tAd, tm_tAd, td_tAd, up_n q]
    exact ⟨g1, g2, g3⟩
theorem tw_rm {τ : mT} (h : TW τ) {d at_ : Nat} : TW (tRm τ d at_) := by
  intro x hx
  obtain ⟨g1, g2, g3⟩ := h x hx
  by_cases q : x = d
  · subst q
    simp only [tk_tRm, ts_tRm, tm_tRm, td_tRm, up_s]
    refine ⟨g1, by omega, fun z => ⟨by have := (g3 z).1; omega, fun k hk => ?_⟩⟩
    split
    · exact (g3 z).2 k (by omega)
    · exact (g3 z).2 (k + 1) (by omega)
  · simp only [tk_tRm, ts_tRm, tm_tRm, td_tRm, up_n q]
    exact ⟨g1, g2, g3⟩
theorem tw_do {τ : mT} (h : TW τ) {q : mD} (ho : tOk τ q) : TW (tDo τ q) := by
  unfold tOk at ho
  unfold tDo
  split at ho
  · obtain ⟨p1, p2, p3, p4, p5, p6, p7, p8, -⟩ := ho
    refine tw_ad (tw_mk h (by omega)) p3 ?_ ?_ p7 p8 p1 p2
    · simp only [tk_tMk, up_n (Ne.symm p5)]; exact p4
    · simp only [ts_tMk, up_n (Ne.symm p5)]; exact p6
  · obtain ⟨p1, p2, p3, p4, p5, p6, p7, p8, -⟩ := ho
    refine tw_ad (tw_mk h (by omega)) p3 ?_ ?_ p7 p8 p1 p2
    · simp only [tk_tMk, up_n (Ne.symm p5)]; exact p4
    · simp only [ts_tMk, up_n (Ne.symm p5)]; exact p6
  · rename_i a x c d e
    intro n hn
    obtain ⟨g1, g2, g3⟩ := h n hn
    by_cases z : n = a
    · subst z
      simp only [tk_tEm, ts_tEm, up_s]
      exact ⟨g1, by omega, fun _ => ⟨by omega, fun k hk => by omega⟩⟩
    · simp only [tk_tEm, ts_tEm, tm_tEm, td_tEm, up_n z]
      exact ⟨g1, g2, g3⟩
  · rename_i a x c d e
    intro n hn
    obtain ⟨g1, g2, g3⟩ := h n hn
    by_cases z : n = a
    · subst z
      simp only [tk_tWr, ts_tWr, up_s]
      exact ⟨g1, by omega, fun z => by have := ho.2.1; exact absurd z (by omega)⟩
    · simp only [tk_tWr, ts_tWr, tm_tWr, td_tWr, up_n z]
      exact ⟨g1, g2, g3⟩
  · exact h
  · obtain ⟨p1, p2, p3, p4, p5, p6, p7, p8⟩ := ho
    exact tw_ad h p1 p2 p3 p4 p5 p7 p8
  · exact tw_rm h
  · rename_i a x c d e _ _ _ _ _ _ _
    obtain ⟨p1, p2, p3, p4, p5, p6, p7, p8, p9, p10, p11⟩ := ho
    obtain ⟨-, -, g3⟩ := h _ p1
    have g4 := (g3 p2).2 _ p5
    have g5 := (g3 p2).1
    refine tw_ad (tw_rm h) p6 p7 ?_ p9 p10 g4.2.2.1 g4.2.2.2
    simp only [ts_tRm]
    by_cases z : c = a
    · subst z; rw [up_s]; omega
    · rw [up_n z]; omega
/-- names stay apart -/
theorem tn_mk {τ : mT} (h : TN τ) {a c : Nat} {x : Int32} : TN (tMk τ a c x) := by
  intro n hn hk p r hp hr hq
  by_cases q : n = a
  · subst q
    simp only [ts_tMk, up_s] at hp
    omega
  · simp only [tk_tMk, ts_tMk, tm_tMk, up_n q] at hk hp hr hq
    exact h n hn hk p r hp hr hq
theorem tn_ad {τ : mT} (h : TN τ) {d name n : Nat} (hf : tE τ d name = ts τ d) : TN (tAd τ d name n) := by
  intro x hx hk p r hp hr hq
  by_cases q : x = d
  · subst q
    simp only [tk_tAd, ts_tAd, tm_tAd, up_s] at hk hp hr hq
    by_cases p1 : p = ts τ x <;> by_cases r1 : r = ts τ x
    · omega
    · subst p1; rw [up_s, up_n r1] at hq; exact absurd hq.symm (tE_no hf (by omega))
    · subst r1; rw [up_n p1, up_s] at hq; exact absurd hq (tE_no hf (by omega))
    · rw [up_n p1, up_n r1] at hq; exact h x hx hk p r (by omega) (by omega) hq
  · simp only [tk_tAd, ts_tAd, tm_tAd, up_n q] at hk hp hr hq
    exact h x hx hk p r hp hr hq
theorem tn_rm {τ : mT} (h : TN τ) {d at_ : Nat} : TN (tRm τ d at_) := by
  intro x hx hk p r hp hr hq
  by_cases q : x = d
  · subst q
    simp only [tk_tRm, ts_tRm, tm_tRm, up_s] at hk hp hr hq
    have g := h x hx hk
    by_cases p1 : p < at_ <;> by_cases r1 : r < at_
    · rw [if_pos p1, if_pos r1] at hq; exact g p r (by omega) (by omega) hq
    · rw [if_pos p1, if_neg r1] at hq; have := g p (r + 1) (by omega) (by omega) hq; omega
    · rw [if_neg p1, if_pos r1] at hq; have := g (p + 1) r (by omega) (by omega) hq; omega
    · rw [if_neg p1, if_neg r1] at hq; have := g (p + 1) (r + 1) (by omega) (by omega) hq; omega
  · simp only [tk_tRm, ts_tRm, tm_tRm, up_n q] at hk hp hr hq
    exact h x hx hk p r hp hr hq
theorem tE_rm {τ : mT} {a d c e : Nat} (hc : tE τ c e = ts τ c) (ha : tE τ a d < ts τ a) : tE (tRm τ a (tE τ a d)) c e = ts (tRm τ a (tE τ a d)) c := by
  rcases Nat.lt_or_ge (tE (tRm τ a (tE τ a d)) c e) (ts (tRm τ a (tE τ a d)) c) with q | q
  · exfalso
    have h1 := tE_at q
    by_cases z : c = a
    · subst z
      simp only [tm_tRm, ts_tRm, up_s] at h1 q
      split at h1
      · exact tE_no hc (by omega) h1
      · exact tE_no hc (by omega) h1
    · simp only [tm_tRm, ts_tRm, up_n z] at h1 q
      exact tE_no hc q h1
  · exact Nat.le_antisymm (tE_le _ _ _) q
theorem tn_do {τ : mT} (h : TN τ) {q : mD} (ho : tOk τ q) : TN (tDo τ q) := by
  unfold tOk at ho
  unfold tDo
  split at ho
  · obtain ⟨p1, p2, p3, p4, p5, p6, p7, p8, p9⟩ := ho
    refine tn_ad (tn_mk h) ?_
    rw [show tE (tMk τ _ 1 _) _ _ = tE τ _ _ from tE_cong (by simp only [ts_tMk, up_n (Ne.symm p5)]) (fun _ _ => rfl), p9]
    simp only [ts_tMk, up_n (Ne.symm p5)]
  · obtain ⟨p1, p2, p3, p4, p5, p6, p7, p8, p9⟩ := ho
    refine tn_ad (tn_mk h) ?_
    rw [show tE (tMk τ _ 2 _) _ _ = tE τ _ _ from tE_cong (by simp only [ts_tMk, up_n (Ne.symm p5)]) (fun _ _ => rfl), p9]
    simp only [ts_tMk, up_n (Ne.symm p5)]
  · rename_i a x c d e
    intro n hn hk p r hp hr hq
    by_cases z : n = a
    · subst z; simp only [ts_tEm, up_s] at hp; omega
    · simp only [tk_tEm, ts_tEm, tm_tEm, up_n z] at hk hp hr hq
      exact h n hn hk p r hp hr hq
  · rename_i a x c d e
    intro n hn hk p r hp hr hq
    by_cases z : n = a
    · subst z; have hk : tk τ n = 2 := hk; have := ho.2.1; omega
    · simp only [tk_tWr, ts_tWr, tm_tWr, up_n z] at hk hp hr hq
      exact h n hn hk p r hp hr hq
  · exact h
  · exact tn_ad h ho.2.2.2.2.2.1
  · exact tn_rm h
  · obtain ⟨p1, p2, p3, p4, p5, p6, p7, p8, p9, p10, p11⟩ := ho
    exact tn_ad (tn_rm h) (tE_rm p11 p5)
end MM65
