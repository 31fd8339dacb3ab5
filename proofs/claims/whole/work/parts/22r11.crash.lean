/-! DOING DEEDS ONCE MORE -/
section MM70
variable {t w : Bool} {l : Nat → Nat → Int64} {e : Bool × Nat × Nat} {τ σ : mT} {m : Nat}
def tRun (σ : mT) (Q : List mD) : mT := Q.foldl tDo σ
def tOks : mT → List mD → Prop
  | _, [] => True
  | σ, q :: Q => tOk σ q ∧ tOks (tDo σ q) Q
theorem tRun_app (σ : mT) (Q : List mD) (q : mD) : tRun σ (Q ++ [q]) = tDo (tRun σ Q) q := by
  unfold tRun; rw [List.foldl_append]; rfl
theorem tOks_app : ∀ (σ : mT) (Q : List mD) (q : mD), tOks σ (Q ++ [q]) ↔ tOks σ Q ∧ tOk (tRun σ Q) q
  | σ, [], q => by show (tOk σ q ∧ True) ↔ (True ∧ tOk σ q); constructor <;> rintro ⟨h1, h2⟩ <;> exact ⟨by first | exact h2 | trivial, by first | exact h1 | trivial⟩
  | σ, p :: Q, q => by
    show (tOk σ p ∧ tOks (tDo σ p) (Q ++ [q])) ↔ ((tOk σ p ∧ tOks (tDo σ p) Q) ∧ tOk (tRun (tDo σ p) Q) q)
    rw [tOks_app (tDo σ p) Q q, and_assoc]
theorem tOks_take : ∀ {σ : mT} {Q : List mD} {n : Nat}, tOks σ Q → tOks σ (Q.take n) := by
  intro σ Q
  induction Q generalizing σ with
  | nil => intro n h; rw [List.take_nil]; exact h
  | cons q Q ih =>
    intro n h
    cases n with
    | zero => exact trivial
    | succ n => exact ⟨h.1, ih h.2⟩
theorem tOks_at : ∀ {σ : mT} {Q : List mD} {k : Nat} {q : mD}, tOks σ Q → Q[k]? = some q → tOk (tRun σ (Q.take k)) q
  | _, [], k, q, _, hq => by simp at hq
  | σ, p :: Q, 0, q, h, hq => by
    have e : p = q := by simpa using hq
    subst e
    exact h.1
  | σ, p :: Q, k + 1, q, h, hq => tOks_at (σ := tDo σ p) h.2 (by simpa using hq)
theorem tw_run : ∀ {σ : mT} {Q : List mD}, TW σ → tOks σ Q → TW (tRun σ Q)
  | _, [], h, _ => h
  | σ, q :: Q, h, ho => tw_run (σ := tDo σ q) (Q := Q) (tw_do h ho.1) ho.2
theorem tn_run : ∀ {σ : mT} {Q : List mD}, TN σ → tOks σ Q → TN (tRun σ Q)
  | _, [], h, _ => h
  | σ, q :: Q, h, ho => tn_run (σ := tDo σ q) (Q := Q) (tn_do h ho.1) ho.2
theorem take_succ' {Q : List mD} {k : Nat} {q : mD} (hq : Q[k]? = some q) : Q.take (k + 1) = Q.take k ++ [q] := by
  rw [List.take_add_one, hq]; rfl
theorem jc_fb_loop {Q : List mD} {n : Nat} (hQ : Q.length < 200) (hn : n ≤ Q.length) (hw : TW σ) (ho : tOks σ Q) : ∀ (D k : Nat) (i : Nat → Nat → Int32) (u : Option Value), k + D = n → TC false i (tRun σ (Q.take k)) → JC i Q → ∃ (i' : Nat → Nat → Int32) (u' : Option Value), mm_V 85 2 [some (.ref 56), some (.int (nI n)), some (.int (nI k)), u] [] (mm_Z m w i l e) = mm_V 85 70 [some (.ref 56), some (.int (nI n)), some (.int (nI n)), u'] [] (mm_Z m w i' l e) ∧ TC false i' (tRun σ (Q.take n)) ∧ mF 63 66 i i'
  | 0, k, i, u, hk, h, hj => by
    have hk : k = n := by omega
    subst hk
    refine ⟨i, u, ?_, h, mF.rf _ _ _⟩
    rw [mr_85_2, if_neg (by rw [nI_ltI (by omega) (by omega)]; omega)]
  | D + 1, k, i, u, hk, h, hj => by
    have hq : Q[k]? = some Q[k] := List.getElem?_eq_getElem (by omega)
    have hok : tOk (tRun σ (Q.take k)) Q[k] := tOks_at ho hq
    have hwk : TW (tRun σ (Q.take k)) := tw_run hw (tOks_take (σ := σ) (Q := Q) (n := k) ho)
    obtain ⟨i1, e1, e2, e3⟩ := tc_change (m := m) (w := w) (l := l) (e := e) h hwk hok
    have e3 : mF 63 66 i i1 := e3
    rw [← tRun_app, ← take_succ' hq] at e2
    have hj1 : JC i1 Q := hj.kp (by rw [e3 56 (by omega)]) (fun j => by rw [e3 67 (by omega)])
    obtain ⟨i', u', g1, g2, g3⟩ := jc_fb_loop hQ hn hw ho D (k + 1) i1 (some (.int (nI (k * 5)))) (by omega) e2 hj1
    refine ⟨i', u', ?_, g2, e3.tr g3⟩
    rw [mr_85_2]
    have c0 := hj.2 k _ hq 0 (by omega)
    have c1 := hj.2 k _ hq 1 (by omega)
    have c2 := hj.2 k _ hq 2 (by omega)
    have c3 := hj.2 k _ hq 3 (by omega)
    have c4 := hj.2 k _ hq 4 (by omega)
    rw [Nat.add_zero] at c0
    rw [Nat.mul_comm 5 k] at c0 c1 c2 c3 c4
    simp only [hj.1, nI_ltI (show k < 2 ^ 31 by omega) (show n < 2 ^ 31 by omega), nI_ltI (show k < 2 ^ 31 by omega) (show Q.length < 2 ^ 31 by omega), na_5, na_mul, na_1, na_2, na_3, na_4, nI_add, nI_clamp (show k * 5 < 2 ^ 31 by omega), nI_clamp (show k * 5 + 1 < 2 ^ 31 by omega), nI_clamp (show k * 5 + 2 < 2 ^ 31 by omega), nI_clamp (show k * 5 + 3 < 2 ^ 31 by omega), nI_clamp (show k * 5 + 4 < 2 ^ 31 by omega), c0, c1, c2, c3, c4]
    rw [if_pos (by omega), if_pos (by omega), if_neg (no_out (by omega) (by omega)), if_neg (no_out (by omega) (by omega)), if_neg (no_out (by omega) (by omega)), if_neg (no_out (by omega) (by omega)), if_neg (no_out (by omega) (by omega)), e1, mb_l, mb_0, mr_85_64, nI_1]
    exact g1
theorem jc_fallBack {Q : List mD} {n : Nat} {i : Nat → Nat → Int32} (hQ : Q.length < 200) (hn : n ≤ Q.length) (hw : TW σ) (ho : tOks σ Q) (h : TC false i σ) (hj : JC i Q) : ∃ i', mm_V 85 0 [some (.ref 56), some (.int (nI n)), none, none] [] (mm_Z m w i l e) = some (.inl none, mm_Z m w i' l e) ∧ TC true i' (tSwp (fun _ => false) 31 1 (tRun σ (Q.take n))) ∧ TC false i' (tSwp (fun _ => false) 31 1 (tRun σ (Q.take n))) ∧ JC i' [] ∧ mG (fun k j => (57 ≤ k ∧ k ≤ 67) ∨ (k = 56 ∧ j = 3)) i i' := by
  have hwn : TW (tRun σ (Q.take n)) := tw_run hw (tOks_take (σ := σ) (Q := Q) (n := n) ho)
  obtain ⟨i1, u1, a1, a2, a3⟩ := jc_fb_loop (m := m) (w := w) (l := l) (e := e) hQ hn hw ho n 0 i none (by omega) (by simpa [tRun] using h) hj
  obtain ⟨i2, b1, b2, b3⟩ := tc_dropUnlinked (m := m) (w := w) (l := l) (e := e) a2 hwn
  obtain ⟨i3, c1, c2, c3⟩ := tc_copyFrom (t := true) (m := m) (w := w) (l := l) (e := e) b2 (tw_swp 31 1 _ hwn)
  have b3 : ∀ q, q ≠ 63 → i2 q = i1 q := b3
  have c3 : mG (fun k _ => 58 ≤ k ∧ k ≤ 61) i2 i3 := c3
  have c1 : mm_V 154 0 [some (.ref (mm_Tr true)), some (.ref (mm_Tr false))] [] (mm_Z m w i2 l e) = some (.inl none, mm_Z m w i3 l e) := c1
  refine ⟨mm_ww i3 56 3 0, ?_, ?_, ?_, JC_nil mw_s, ?_⟩
  · rw [mr_85_0, na_0, a1, mr_85_70, b1, mb_l, mb_0, mr_85_77, c1, mb_l, mb_0, mr_85_88]
    rfl
  · exact c2.kp (fun k j h1 h2 => by rw [mw_k (by simp only [mm_Tr, cond_true] at h1; omega)])
  · exact b2.kp (fun k j h1 h2 => by
      simp only [mm_Tr, cond_false] at h1 h2
      rw [mw_k (by omega), c3 k j (by omega)])
  · refine (((mG.of a3 (fun k x h1 h2 => Or.inl (by omega))).tr ?_).tr (c3.mo (fun k j z => Or.inl (by omega)))).tr (mG.ww (Or.inr ⟨rfl, rfl⟩))
    intro k j hq
    rw [b3 k (by omega)]
theorem jr_cr_loop {Q : List mD} {n : Nat} (hQ : Q.length < 200) (hn : n ≤ Q.length) (hw : TW σ) (hN : TN σ) (ho : tOks σ Q) : ∀ (D k : Nat) (i : Nat → Nat → Int32), k + D = n → TR i (tRun σ (Q.take k)) → JR i Q → ∃ (i' : Nat → Nat → Int32), mm_V 281 51 [some (.ref 83), some (.int (nI n)), some (.int (nI k))] [] (mm_Z m w i l e) = mm_V 281 51 [some (.ref 83), some (.int (nI n)), some (.int (nI n))] [] (mm_Z m w i' l e) ∧ TR i' (tRun σ (Q.take n)) ∧ mF 113 118 i i'
  | 0, k, i, hk, h, hj => by
    have hk : k = n := by omega
    subst hk
    exact ⟨i, rfl, h, mF.rf _ _ _⟩
  | D + 1, k, i, hk, h, hj => by
    have hq : Q[k]? = some Q[k] := List.getElem?_eq_getElem (by omega)
    have hok : tOk (tRun σ (Q.take k)) Q[k] := tOks_at ho hq
    have hot := tOks_take (σ := σ) (Q := Q) (n := k) ho
    obtain ⟨i1, e1, e2, e3⟩ := tr_perform (m := m) (w := w) (l := l) (e := e) h (tw_run hw hot) (tn_run hN hot) hok
    rw [← tRun_app, ← take_succ' hq] at e2
    have hj1 : JR i1 Q := hj.kp (by rw [e3 83 (by omega)]) (fun j => by rw [e3 120 (by omega)])
    obtain ⟨i', g1, g2, g3⟩ := jr_cr_loop hQ hn hw hN ho D (k + 1) i1 (by omega) e2 hj1
    refine ⟨i', ?_, g2, e3.tr g3⟩
    rw [mr_281_51]
    have c0 := hj.2 k _ hq 0 (by omega)
    have c1 := hj.2 k _ hq 1 (by omega)
    have c2 := hj.2 k _ hq 2 (by omega)
    have c3 := hj.2 k _ hq 3 (by omega)
    have c4 := hj.2 k _ hq 4 (by omega)
    rw [Nat.add_zero] at c0
    simp only [nI_ltI (show k < 2 ^ 31 by omega) (show n < 2 ^ 31 by omega), na_5, na_mul, na_1, na_2, na_3, na_4, nI_add, nI_clamp (show 5 * k < 2 ^ 31 by omega), nI_clamp (show 5 * k + 1 < 2 ^ 31 by omega), nI_clamp (show 5 * k + 2 < 2 ^ 31 by omega), nI_clamp (show 5 * k + 3 < 2 ^ 31 by omega), nI_clamp (show 5 * k + 4 < 2 ^ 31 by omega), c0, c1, c2, c3, c4]
    rw [if_pos (by omega), if_neg (no_out (by omega) (by omega)), if_neg (no_out (by omega) (by omega)), if_neg (no_out (by omega) (by omega)), if_neg (no_out (by omega) (by omega)), if_neg (no_out (by omega) (by omega)), e1, mb_l, mb_0, mr_281_108, nI_1]
    exact g1
end MM70
