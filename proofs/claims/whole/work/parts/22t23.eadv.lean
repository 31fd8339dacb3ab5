/-! EVENTS: advance in the class; an event -/
section MM200
variable {X : mX} {w : Bool} {i i' : Nat → Nat → Int32} {l l' : Nat → Nat → Int64} {m : Nat} {e : Bool × Nat × Nat} {n k j p q c d a : Nat} {x y : Int32} {L : List Nat} {t : mTk}
theorem fs_in {P : Nat → Bool} (h1 : p ≤ k) (h2 : k < tFst P d p) : P k = false := tFst_no P d p k h1 h2
theorem nmE_D (hk : p ≤ k) (h2 : k < nmE X p) : isD (xs X k) = true := by
  have := fs_in (P := fun q => !isD (xs X q)) hk h2
  simpa using this
theorem lE_L (hk : p ≤ k) (h2 : k < lE X p) : isL (xs X k) = true := by
  have := fs_in (P := fun q => !isL (xs X q)) hk h2
  simpa using this
theorem wl_g : wG (wl X p) ∧ (wl X p).length ≤ 9 := by
  unfold wl
  split
  · refine ⟨sg_all _ _ (fun k h1 h2 => ?_), by rw [sg_len]; assumption⟩
    have := of_decide_eq_true (lE_L (X := X) (p := p) h1 (by omega))
    omega
  · exact ⟨fun c hc => absurd hc List.not_mem_nil, Nat.zero_le _⟩
theorem etk_bd (hn : n ≤ xz X) : n ≤ (etk X n).1 ∧ (etk X n).1 ≤ (etk X n).2.1 ∧ (etk X n).2.1 ≤ xz X ∧ ((etk X n).2.2.1 ≠ 0 → (etk X n).1 < (etk X n).2.1) ∧ ((etk X n).2.2.1 = 3 → (etk X n).2.2.2 < 100000000) := by
  obtain ⟨b1, b2⟩ := bb_le (X := X) hn
  unfold etk
  split
  · rename_i z
    split
    · rename_i zl
      have e1 : bb X n ≤ lE X (bb X n) ∧ lE X (bb X n) ≤ xz X := fs_le b2
      have e2 : bb X n < lE X (bb X n) := fs_lt z (by show (!isL (xs X (bb X n))) = false; rw [zl]; rfl)
      exact ⟨b1, e1.1, e1.2, fun _ => e2, fun y => absurd (show 2 = 3 from y) (by decide)⟩
    · split
      · rename_i zd
        have e1 : bb X n ≤ nmE X (bb X n) ∧ nmE X (bb X n) ≤ xz X := fs_le b2
        have e2 : bb X n < nmE X (bb X n) := fs_lt z (by show (!isD (xs X (bb X n))) = false; rw [zd]; rfl)
        refine ⟨b1, e1.1, e1.2, fun _ => e2, fun y => ?_⟩
        have y : (if 8 < nmE X (bb X n) - bb X n then 1 else 3) = 3 := y
        have h8 : ¬ 8 < nmE X (bb X n) - bb X n := fun h => by rw [if_pos h] at y; exact absurd y (by decide)
        exact nmV_8 (fun k k1 k2 => nmE_D k1 (by omega)) (by omega)
      · refine ⟨b1, Nat.le_succ _, z, fun _ => Nat.lt_succ_self _, fun y => ?_⟩
        have y : (if xs X (bb X n) = 59 then 59 else 1) = 3 := y
        exfalso
        split at y <;> omega
  · exact ⟨b1, Nat.le_refl _, b2, fun y => absurd rfl y, fun y => absurd (show 0 = 3 from y) (by decide)⟩
theorem etk_at : (etk X n).1 = bb X n := by unfold etk; split <;> (try split) <;> (try split) <;> rfl
def fEc (k j : Nat) : Prop := k = 29 ∧ 1 ≤ j ∧ j ≤ 4
def lEc (k j : Nat) : Prop := k = 29 ∧ j = 5
theorem ec_adv (h : XC X i) (hw : XW X) (h2 : i 29 2 = nI n) (hn : n ≤ xz X) : ∃ i' l', mm_V 29 0 [some (.ref 29), none] [] (mm_Z m w i l e) = some (.inl none, mm_Z m w i' l' e) ∧ EC i' l' (etk X n) ∧ mG fEc i i' ∧ lG lEc l l' := by
  have hz := hw.le
  obtain ⟨b1, b2⟩ := bb_le (X := X) hn
  have hX1 : XC X (mm_ww (mm_ww i 29 1 (nI (bb X n))) 29 2 (nI (bb X n))) := h.kp (by rw [mw_k (by omega), mw_k (by omega)]) (fun j => by rw [mw_k (by omega), mw_k (by omega)])
  have s1 : mm_ww (mm_ww i 29 1 (nI (bb X n))) 29 2 (nI (bb X n)) 29 1 = nI (bb X n) := by rw [mw_j (by decide), mw_s]
  have s2 : mm_ww (mm_ww i 29 1 (nI (bb X n))) 29 2 (nI (bb X n)) 29 2 = nI (bb X n) := mw_s
  have f0 : mG fEc i (mm_ww (mm_ww i 29 1 (nI (bb X n))) 29 2 (nI (bb X n))) := (mG.ww (by unfold fEc; omega)).tr (mG.ww (by unfold fEc; omega))
  rw [mr_29_0, h2, xc_bk h hw hn, mb_l, mb_v, mr_29_12, xc_at hX1 hw (by omega), mb_l, mb_v, mr_29_34]
  generalize mm_ww (mm_ww i 29 1 (nI (bb X n))) 29 2 (nI (bb X n)) = i1 at hX1 s1 s2 f0
  unfold etk
  by_cases q : bb X n < xz X
  · have hb := hw.2 _ q
    rw [if_pos q, if_pos q, xc_isL (by omega), mb_l, mb_v, mr_29_39]
    cases ql : isL (xs X (bb X n)) with
    | true =>
      obtain ⟨i2, e2, g1, g2, g3⟩ := ec_word (m := m) (w := w) (l := l) (e := e) hX1 hw s1 s2 b2
      rw [if_bt, if_pos rfl, e2, mb_l, mb_0, mr_29_46]
      refine ⟨i2, _, rfl, ⟨by rw [g3 _ _ (by omega)]; exact s1, g1, g2, fun y => absurd (show 2 = 3 from y) (by decide), fun _ => ⟨wl X (bb X n), wl_g.1, wl_g.2, ?_, rfl⟩⟩, f0.tr (fun k j z => g3 k j (by unfold fEc at z; omega)), lG.wl ⟨rfl, rfl⟩⟩
      rw [ml_s]
      unfold wl
      split
      · rfl
      · rfl
    | false =>
      rw [if_bf, if_neg Bool.false_ne_true, xc_isD (by omega), mb_l, mb_v, mr_29_53]
      cases qd : isD (xs X (bb X n)) with
      | true =>
        obtain ⟨i2, e2, g1, g2, g3⟩ := ec_nm_loop (m := m) (w := w) (l := l) (e := e) (p := bb X n) hw b2 (xz X - bb X n) (bb X n) (mm_ww i1 29 4 0) (hX1.kp (by rw [mw_k (by omega)]) (fun j => by rw [mw_k (by omega)])) (by rw [mw_j (by decide)]; exact s2) (by omega) (Nat.le_refl _) (fun k k1 k2 => by omega) (fun _ => by rw [mw_s, Nat.sub_self]; rfl)
        have e1 : bb X n ≤ nmE X (bb X n) ∧ nmE X (bb X n) ≤ xz X := fs_le b2
        have g1 : i2 29 2 = nI (nmE X (bb X n)) := g1
        have g2 : nmE X (bb X n) - bb X n ≤ 8 → i2 29 4 = nI (nmV 0 (sg X (bb X n) (nmE X (bb X n) - bb X n))) := g2
        have g4 : i2 29 1 = nI (bb X n) := by rw [g3 _ _ (by omega), mw_j (by decide)]; exact s1
        have f1 : ∀ x, mG fEc i (mm_ww i2 29 3 x) := fun x => f0.tr (fun k j z => by unfold fEc at z; rw [mw_ne (by omega), g3 k j (by omega), mw_ne (by omega)])
        rw [if_bt, if_pos rfl, mr_31_0, e2, mr_31_75, g1, g4, na_sub e1.1]
        by_cases q8 : 8 < nmE X (bb X n) - bb X n
        · rw [if_pos (show (8 : Int32) < nI (nmE X (bb X n) - bb X n) from (nI_ltI (a := 8) (by omega) (by omega)).mpr q8), if_pos q8, mb_l, mb_0, mr_29_60]
          exact ⟨_, l, rfl, ⟨by rw [mw_j (by decide)]; exact g4, by rw [mw_j (by decide)]; exact g1, mw_s, fun y => absurd (show 1 = 3 from y) (by decide), fun y => absurd (show 1 = 2 from y) (by decide)⟩, f1 _, lG.rf⟩
        · rw [if_neg (show ¬ (8 : Int32) < nI (nmE X (bb X n) - bb X n) from fun z => q8 ((nI_ltI (a := 8) (by omega) (by omega)).mp z)), if_neg q8, mb_l, mb_0, mr_29_60]
          exact ⟨_, l, rfl, ⟨by rw [mw_j (by decide)]; exact g4, by rw [mw_j (by decide)]; exact g1, mw_s, fun _ => by rw [mw_j (by decide)]; exact g2 (by omega), fun y => absurd (show 3 = 2 from y) (by decide)⟩, f1 _, lG.rf⟩
      | false =>
        have n1 : ¬ nI (xs X (bb X n)) = -1 := ne_m1 (by omega)
        have f1 : ∀ x, mG fEc i (mm_ww (mm_ww i1 29 3 x) 29 2 (nI (bb X n + 1))) := fun x => f0.tr ((mG.ww (by unfold fEc; omega)).tr (mG.ww (by unfold fEc; omega)))
        rw [if_bf, if_neg Bool.false_ne_true, if_neg n1]
        by_cases q59 : xs X (bb X n) = 59
        · rw [if_pos q59, q59, if_pos (by decide), mr_29_84, if_neg (by decide), s1, nI_1]
          exact ⟨_, l, rfl, ⟨by rw [mw_j (by decide), mw_j (by decide)]; exact s1, mw_s, by rw [mw_j (by decide), mw_s], fun y => absurd (show 59 = 3 from y) (by decide), fun y => absurd (show 59 = 2 from y) (by decide)⟩, f1 _, lG.rf⟩
        · rw [if_neg q59, if_neg (show ¬ nI (xs X (bb X n)) = 59 from fun z => q59 ((nI_eq (b := 59) (by omega) (by omega)).mp z)), mr_29_84, if_neg n1, s1, nI_1]
          exact ⟨_, l, rfl, ⟨by rw [mw_j (by decide), mw_j (by decide)]; exact s1, mw_s, by rw [mw_j (by decide), mw_s]; rfl, fun y => absurd (show 1 = 3 from y) (by decide), fun y => absurd (show 1 = 2 from y) (by decide)⟩, f1 _, lG.rf⟩
  · rw [if_neg q, if_neg q, mr_123_0, if_pos (by decide), mb_l, mb_v, mr_29_39, if_pos rfl, mr_124_0, if_pos (by decide), mb_l, mb_v, mr_29_53, if_pos rfl, if_pos rfl, mr_29_84, if_pos rfl, s1]
    exact ⟨_, l, rfl, ⟨by rw [mw_j (by decide), mw_j (by decide)]; exact s1, mw_s, by rw [mw_j (by decide), mw_s]; rfl, fun y => absurd (show 0 = 3 from y) (by decide), fun y => absurd (show 0 = 2 from y) (by decide)⟩, f0.tr ((mG.ww (by unfold fEc; omega)).tr (mG.ww (by unfold fEc; omega))), lG.rf⟩
end MM200
