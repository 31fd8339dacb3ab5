/-! EVENTS: a token, in the reference -/
section MM204
variable {X : mX} {w : Bool} {i i' : Nat → Nat → Int32} {l l' : Nat → Nat → Int64} {m : Nat} {e : Bool × Nat × Nat} {n k j p q c d : Nat} {x x1 x2 x3 y pr : Int32} {L : List Nat} {t : mTk} {V : Option mm_R} {lo : Bool}
def eK (t : mTk) : Int32 := if t.2.2.1 = 2 then fI (rIx t.2.2.2) else if t.2.2.1 = 0 then -1 else if t.2.2.1 = 3 then -3 else if t.2.2.1 = 59 then -4 else -2
theorem fI_ge (f : Nat) : fI f = -2 ∨ (f < 25 ∧ fI f = nI f) := by
  unfold fI
  by_cases z : f < 25
  · exact Or.inr ⟨z, if_pos z⟩
  · exact Or.inl (if_neg z)
theorem fI_ne (hc : x < 0) (h2 : x ≠ -2) : fI k ≠ x := fun z => by
  rcases fI_ge k with h | ⟨h, h'⟩
  · exact h2 (by rw [← z, h])
  · rw [h'] at z
    exact nI_nn (k := k) (by omega) (by rw [z]; exact hc)
theorem eK_w (h : t.2.2.1 = 2) : eK t = fI (rIx t.2.2.2) := if_pos h
theorem eK_3 : eK t = -3 ↔ t.2.2.1 = 3 := by
  unfold eK
  by_cases z : t.2.2.1 = 2
  · rw [if_pos z]; exact ⟨fun y => absurd y (fI_ne (by decide) (by decide)), fun y => by omega⟩
  · rw [if_neg z]
    by_cases z0 : t.2.2.1 = 0
    · rw [if_pos z0]; exact ⟨fun y => absurd y (by decide), fun y => by omega⟩
    · rw [if_neg z0]
      by_cases z3 : t.2.2.1 = 3
      · rw [if_pos z3]; exact ⟨fun _ => z3, fun _ => rfl⟩
      · rw [if_neg z3]
        by_cases z5 : t.2.2.1 = 59
        · rw [if_pos z5]; exact ⟨fun y => absurd y (by decide), fun y => by omega⟩
        · rw [if_neg z5]; exact ⟨fun y => absurd y (by decide), fun y => by omega⟩
theorem eK_59 : eK t = -4 ↔ t.2.2.1 = 59 := by
  unfold eK
  by_cases z : t.2.2.1 = 2
  · rw [if_pos z]; exact ⟨fun y => absurd y (fI_ne (by decide) (by decide)), fun y => by omega⟩
  · rw [if_neg z]
    by_cases z0 : t.2.2.1 = 0
    · rw [if_pos z0]; exact ⟨fun y => absurd y (by decide), fun y => by omega⟩
    · rw [if_neg z0]
      by_cases z3 : t.2.2.1 = 3
      · rw [if_pos z3]; exact ⟨fun y => absurd y (by decide), fun y => by omega⟩
      · rw [if_neg z3]
        by_cases z5 : t.2.2.1 = 59
        · rw [if_pos z5]; exact ⟨fun _ => z5, fun _ => rfl⟩
        · rw [if_neg z5]; exact ⟨fun y => absurd y (by decide), fun y => by omega⟩
theorem eK_0 : eK t = -1 ↔ t.2.2.1 = 0 := by
  unfold eK
  by_cases z : t.2.2.1 = 2
  · rw [if_pos z]; exact ⟨fun y => absurd y (fI_ne (by decide) (by decide)), fun y => by omega⟩
  · rw [if_neg z]
    by_cases z0 : t.2.2.1 = 0
    · rw [if_pos z0]; exact ⟨fun _ => z0, fun _ => rfl⟩
    · rw [if_neg z0]
      by_cases z3 : t.2.2.1 = 3
      · rw [if_pos z3]; exact ⟨fun y => absurd y (by decide), fun y => by omega⟩
      · rw [if_neg z3]
        by_cases z5 : t.2.2.1 = 59
        · rw [if_pos z5]; exact ⟨fun y => absurd y (by decide), fun y => by omega⟩
        · rw [if_neg z5]; exact ⟨fun y => absurd y (by decide), fun y => by omega⟩
theorem eK_n (h : t.2.2.1 ≠ 2) : eK t < 0 := by
  unfold eK
  rw [if_neg h]
  split
  · decide
  · split
    · decide
    · split <;> decide
theorem rI_b : ∀ k, k < 25 → rI k < 25 ∧ (rI k ≤ 21 ↔ k ≤ 21) ∧ (22 ≤ k → rI k = k) := by decide +kernel
abbrev eGd (lo : Bool) (t : mTk) : Prop := t.2.2.1 = 2 ∧ (if lo = true then 22 ≤ t.2.2.2 ∧ t.2.2.2 < 25 else t.2.2.2 < 22)
theorem eK_lo : (¬ eK t < 22 ∧ ¬ 24 < eK t) ↔ eGd true t := by
  unfold eGd
  rw [if_pos rfl]
  by_cases z : t.2.2.1 = 2
  · rw [eK_w z, rIx]
    by_cases h : t.2.2.2 < 25
    · obtain ⟨r1, r2, r3⟩ := rI_b _ h
      rw [if_pos h, fI, if_pos r1]
      have a1 : (nI (rI t.2.2.2) < 22) ↔ rI t.2.2.2 < 22 := nI_ltI (b := 22) (by omega) (by omega)
      have a2 : ((24 : Int32) < nI (rI t.2.2.2)) ↔ 24 < rI t.2.2.2 := nI_ltI (a := 24) (by omega) (by omega)
      rw [a1, a2]
      constructor
      · intro ⟨y1, y2⟩
        refine ⟨z, ?_, h⟩
        by_cases q : t.2.2.2 ≤ 21
        · exact absurd (r2.mpr q) (by omega)
        · omega
      · intro ⟨_, y1, _⟩
        have := r3 y1
        omega
    · rw [if_neg h, show fI 25 = -2 by decide]
      exact ⟨fun y => absurd (show (-2 : Int32) < 22 by decide) y.1, fun y => absurd y.2.2 h⟩
  · have h1 := eK_n z
    exact ⟨fun y => absurd (Int32.lt_trans h1 (by decide)) y.1, fun y => absurd y.1 z⟩
theorem eK_pr : (¬ eK t < 0 ∧ ¬ 21 < eK t) ↔ eGd false t := by
  unfold eGd
  rw [if_neg Bool.false_ne_true]
  by_cases z : t.2.2.1 = 2
  · rw [eK_w z, rIx]
    by_cases h : t.2.2.2 < 25
    · obtain ⟨r1, r2, r3⟩ := rI_b _ h
      rw [if_pos h, fI, if_pos r1]
      have a1 : ¬ (nI (rI t.2.2.2) < 0) := nI_nn (by omega)
      have a2 : ((21 : Int32) < nI (rI t.2.2.2)) ↔ 21 < rI t.2.2.2 := nI_ltI (a := 21) (by omega) (by omega)
      rw [a2]
      constructor
      · intro ⟨_, y2⟩
        have := r2.mp (by omega)
        exact ⟨z, by omega⟩
      · intro ⟨_, y1⟩
        have := r2.mpr (by omega)
        exact ⟨a1, by omega⟩
    · rw [if_neg h, show fI 25 = -2 by decide]
      exact ⟨fun y => absurd (show (-2 : Int32) < 0 by decide) y.1, fun y => absurd y.2 (by omega)⟩
  · have h1 := eK_n z
    exact ⟨fun y => absurd h1 y.1, fun y => absurd y.1 z⟩
def ER (i : Nat → Nat → Int32) (t : mTk) : Prop := i 83 43 = nI t.1 ∧ i 83 76 = nI t.2.1 ∧ i 83 74 = eK t ∧ (t.2.2.1 = 3 → i 83 75 = nI t.2.2.2)
def fEr (k j : Nat) : Prop := k = 83 ∧ (j = 43 ∨ (74 ≤ j ∧ j ≤ 76))
theorem er_tok (h : XP X i) (hw : XW X) (hW : EWD l) (h2 : i 83 76 = nI n) (hn : n ≤ xz X) : ∃ i', mm_V 327 0 [some (.ref 83), none, none, none] [] (mm_Z m w i l e) = some (.inl none, mm_Z m w i' l e) ∧ ER i' (etk X n) ∧ mG fEr i i' := by
  have hz := hw.le
  obtain ⟨b1, b2⟩ := bb_le (X := X) hn
  obtain ⟨i1, v2, v3, e1, s2, f1⟩ := er_blank (m := m) (w := w) (l := l) (e := e) hw (xz X - n) (xz X - n) n i none none (Nat.le_refl _) (by omega) h h2
  have s2 : i1 83 76 = nI (bb X n) := s2
  have hX1 : XP X i1 := ⟨by rw [f1 _ _ (by omega)]; exact h.1, fun k hk => by rw [f1 _ _ (by omega)]; exact h.2 k hk⟩
  have hX2 : XP X (mm_ww i1 83 43 (nI (bb X n))) := ⟨by rw [mw_j (by decide)]; exact hX1.1, fun k hk => by rw [mw_k (by decide)]; exact hX1.2 k hk⟩
  have f0 : mG fEr i (mm_ww i1 83 43 (nI (bb X n))) := fun k j z => by unfold fEr at z; rw [mw_ne (by omega), f1 k j (by omega)]
  have s1 : mm_ww i1 83 43 (nI (bb X n)) 83 43 = nI (bb X n) := mw_s
  have s2' : mm_ww i1 83 43 (nI (bb X n)) 83 76 = nI (bb X n) := by rw [mw_j (by decide)]; exact s2
  have t2 : mm_V 327 2 [some (.ref 83), some (.int 0), v2, v3] [] (mm_Z m w i1 l e) = mm_V 327 169 [some (.ref 83), some (.int 0), v2, v3] [.int (nI (if bb X n < xz X then xs X (bb X n) else 0))] (mm_Z m w (mm_ww i1 83 43 (nI (bb X n))) l e) := by
    rw [mr_327_2, if_pos rfl, s2, hX1.1]
    by_cases q : bb X n < xz X
    · rw [if_pos ((nI_ltI (by omega) (by omega)).mpr q), if_neg (no_out (by omega) (by omega)), nI_clamp (by omega), hX1.2 _ q, if_pos q]
    · rw [if_neg (fun z => q ((nI_ltI (by omega) (by omega)).mp z)), if_neg q]
      rfl
  rw [mr_327_0, e1, t2]
  generalize mm_ww i1 83 43 (nI (bb X n)) = i2 at hX2 f0 s1 s2'
  unfold etk
  by_cases q : bb X n < xz X
  · have hb := hw.2 _ q
    rw [if_pos q, if_pos q, mr_327_169, in_n (a := 97) (b := 122) (xa := 97) (xb := 122) (by omega) (by omega) (by omega) rfl rfl, mb_l, mb_v, mr_327_178]
    show ∃ i', (if bI (isL (xs X (bb X n))) = 0 then _ else _) = _ ∧ _
    cases ql : isL (xs X (bb X n)) with
    | true =>
      rw [if_bt, if_pos rfl]
      obtain ⟨i3, e3, g1, g2⟩ := er_wd_loop (m := m) (w := w) (l := l) (e := e) (x1 := 0) (x2 := nI (xs X (bb X n))) (u3 := v3) hw (xz X - bb X n) (bb X n) i2 hX2 s2' (by omega)
      have g1 : i3 83 76 = nI (lE X (bb X n)) := g1
      have hX3 : XP X i3 := ⟨by rw [g2 _ _ (by omega)]; exact hX2.1, fun k hk => by rw [g2 _ _ (by omega)]; exact hX2.2 k hk⟩
      have s3 : i3 83 43 = nI (bb X n) := by rw [g2 _ _ (by omega)]; exact s1
      rw [e3, mr_327_224, s3, g1, er_word hX3 hw b2 hW, mb_l, mb_v, mr_327_237]
      exact ⟨_, rfl, ⟨by rw [mw_j (by decide)]; exact s3, by rw [mw_j (by decide)]; exact g1, mw_s, fun y => absurd (show 2 = 3 from y) (by decide)⟩, f0.tr (fun k j z => by unfold fEr at z; rw [mw_ne (by omega), g2 k j (by omega)])⟩
    | false =>
      rw [if_bf, if_neg Bool.false_ne_true, in_n (a := 48) (b := 57) (xa := 48) (xb := 57) (by omega) (by omega) (by omega) rfl rfl, mb_l, mb_v, mr_327_251]
      show ∃ i', (if bI (isD (xs X (bb X n))) = 0 then _ else _) = _ ∧ _
      cases qd : isD (xs X (bb X n)) with
      | true =>
        obtain ⟨i3, e3, g1, g2, g3⟩ := er_nm_loop (m := m) (w := w) (l := l) (e := e) (x1 := 0) (x2 := nI (xs X (bb X n))) (u3 := v3) (p := bb X n) hw b2 (xz X - bb X n) (bb X n) (mm_ww i2 83 75 0) ⟨by rw [mw_j (by decide)]; exact hX2.1, fun k hk => by rw [mw_k (by decide)]; exact hX2.2 k hk⟩ (by rw [mw_j (by decide)]; exact s1) (by rw [mw_j (by decide)]; exact s2') (by omega) (Nat.le_refl _) (fun k k1 k2 => by omega) (fun _ => by rw [mw_s, Nat.sub_self]; rfl)
        have e4 : bb X n ≤ nmE X (bb X n) ∧ nmE X (bb X n) ≤ xz X := fs_le b2
        have g1 : i3 83 76 = nI (nmE X (bb X n)) := g1
        have g2 : nmE X (bb X n) - bb X n ≤ 8 → i3 83 75 = nI (nmV 0 (sg X (bb X n) (nmE X (bb X n) - bb X n))) := g2
        have g4 : i3 83 43 = nI (bb X n) := by rw [g3 _ _ (by omega), mw_j (by decide)]; exact s1
        have f2 : ∀ x, mG fEr i (mm_ww i3 83 74 x) := fun x => f0.tr (fun k j z => by unfold fEr at z; rw [mw_ne (by omega), g3 k j (by omega), mw_ne (by omega)])
        rw [if_bt, if_pos rfl, e3, mr_327_347, g1, g4, na_sub e4.1]
        by_cases q8 : 8 < nmE X (bb X n) - bb X n
        · rw [if_pos (show (8 : Int32) < nI (nmE X (bb X n) - bb X n) from (nI_ltI (a := 8) (by omega) (by omega)).mpr q8), if_pos q8]
          exact ⟨_, rfl, ⟨by rw [mw_j (by decide)]; exact g4, by rw [mw_j (by decide)]; exact g1, mw_s, fun y => absurd (show 1 = 3 from y) (by decide)⟩, f2 _⟩
        · rw [if_neg (show ¬ (8 : Int32) < nI (nmE X (bb X n) - bb X n) from fun z => q8 ((nI_ltI (a := 8) (by omega) (by omega)).mp z)), if_neg q8]
          exact ⟨_, rfl, ⟨by rw [mw_j (by decide)]; exact g4, by rw [mw_j (by decide)]; exact g1, mw_s, fun _ => by rw [mw_j (by decide)]; exact g2 (by omega)⟩, f2 _⟩
      | false =>
        have f2 : ∀ x, mG fEr i (mm_ww (mm_ww i2 83 74 x) 83 76 (nI (bb X n + 1))) := fun x => f0.tr ((mG.ww (by unfold fEr; omega)).tr (mG.ww (by unfold fEr; omega)))
        have n0 : ¬ nI (xs X (bb X n)) = 0 := fun z => by have := (nI_eq (b := 0) (by omega) (by omega)).mp z; omega
        rw [if_bf, if_neg Bool.false_ne_true, if_neg n0]
        by_cases q59 : xs X (bb X n) = 59
        · rw [if_pos q59, if_pos (show nI (xs X (bb X n)) = 59 by rw [q59]; rfl), mr_327_397, if_neg n0, s2', nI_1]
          exact ⟨_, rfl, ⟨by rw [mw_j (by decide), mw_j (by decide)]; exact s1, mw_s, by rw [mw_j (by decide), mw_s]; rfl, fun y => absurd (show 59 = 3 from y) (by decide)⟩, f2 _⟩
        · rw [if_neg q59, if_neg (show ¬ nI (xs X (bb X n)) = 59 from fun z => q59 ((nI_eq (b := 59) (by omega) (by omega)).mp z)), mr_327_397, if_neg n0, s2', nI_1]
          exact ⟨_, rfl, ⟨by rw [mw_j (by decide), mw_j (by decide)]; exact s1, mw_s, by rw [mw_j (by decide), mw_s]; rfl, fun y => absurd (show 1 = 3 from y) (by decide)⟩, f2 _⟩
  · have i1 : ∀ (a b : Nat) (xa xb : Int32), 0 < a → a < 2 ^ 31 → b < 2 ^ 31 → xa = nI a → xb = nI b → mm_V 195 0 [some (.int (nI 0)), some (.int xa), some (.int xb)] [] (mm_Z m w i2 l e) = some (.inl (some (.int 0)), mm_Z m w i2 l e) := fun a b xa xb h0 h1 h2 h3 h4 => by
      rw [in_n h1 h2 (by decide) h3 h4, decide_eq_false (by omega)]; rfl
    rw [if_neg q, if_neg q, mr_327_169, i1 97 122 97 122 (by omega) (by omega) (by omega) rfl rfl, mb_l, mb_v, mr_327_178, if_pos rfl, i1 48 57 48 57 (by omega) (by omega) (by omega) rfl rfl, mb_l, mb_v, mr_327_251, if_pos rfl, if_pos (by decide), mr_327_397, if_pos (by decide), s2']
    exact ⟨_, rfl, ⟨by rw [mw_j (by decide), mw_j (by decide)]; exact s1, mw_s, by rw [mw_j (by decide), mw_s]; rfl, fun y => absurd (show 0 = 3 from y) (by decide)⟩, f0.tr ((mG.ww (by unfold fEr; omega)).tr (mG.ww (by unfold fEr; omega)))⟩
end MM204
