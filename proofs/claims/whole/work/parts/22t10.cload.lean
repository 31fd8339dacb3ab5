/-! LOAD, in the class -/
section MM186
variable {X K : mX} {w : Bool} {i i' : Nat → Nat → Int32} {l l' : Nat → Nat → Int64} {m : Nat} {e : Bool × Nat × Nat} {n k j b : Nat} {x x1 : Int32} {π : mP} {ψ : mS} {τ : mT} {η : mH} {κ : mK} {o : mOl}
theorem NCz.kp (h : NCz i) (hf : ∀ k j, 30 ≤ k → k ≤ 79 → (k < 31 ∨ 49 < k) → i' k j = i k j) : NCz i' := by
  obtain ⟨h1, h2, h3, h4, h5⟩ := h
  refine ⟨h1.kp (fun k j a b => hf k j ?_ ?_ ?_), h2.kp (hf _ _ (by omega) (by omega) (by omega)) (fun j => hf _ _ (by omega) (by omega) (by omega)), h3.kp (fun k j a b => hf k j (by omega) (by omega) (by omega)), h4.kp (fun j _ => hf _ _ (by omega) (by omega) (by omega)) (fun k j a b => hf k j (by omega) (by omega) (by omega)), (hf _ _ (by omega) (by omega) (by omega)).trans h5⟩
  all_goals (simp only [mm_Tr, cond_true] at a b; omega)
theorem CS.kp (h : CS w π i ψ) (hf : ∀ k j, 30 ≤ k → k ≤ 79 → (k < 31 ∨ 49 < k) → i' k j = i k j) (hp : PC w i' π) : CS w π i' ψ := by
  obtain ⟨h1, h2, h3, h4, h5, h6, h7⟩ := h
  refine ⟨h1.kp (fun k j a b => hf k j ?_ ?_ ?_), h2.kp (fun k j a b => hf k j ?_ ?_ ?_), h3.kp (hf _ _ (by omega) (by omega) (by omega)) (fun j => hf _ _ (by omega) (by omega) (by omega)), h4.kp (fun k j a b => hf k j (by omega) (by omega) (by omega)), h5.kp (fun j _ => hf _ _ (by omega) (by omega) (by omega)) (fun k j a b => hf k j (by omega) (by omega) (by omega)), hp, (hf _ _ (by omega) (by omega) (by omega)).trans h7⟩
  all_goals (simp only [mm_Tr, cond_true, cond_false] at a b; omega)
theorem fP_far (w : Bool) {k j : Nat} (h1 : 30 ≤ k) (h3 : k < 31 ∨ 49 < k) : ¬ fP w k j := by
  unfold fP
  cases w <;> simp only [mm_P, Bool.not_true, Bool.not_false, cond_true, cond_false] <;> omega
theorem fP_own (w : Bool) {k j : Nat} (h1 : mm_P w + 1 ≤ k) (h2 : k ≤ mm_P w + 18) : ¬ fP w k j := by
  revert h1 h2
  unfold fP
  cases w <;> simp only [mm_P, Bool.not_true, Bool.not_false, cond_true, cond_false] <;> omega
theorem OC.fp (h : OC w i o) (hf : mG (fP w) i i') : OC w i' o := by
  cases o with
  | none => exact NCz.kp h (fun k j a _ c => hf k j (fP_far w a c))
  | some o => exact CS.kp h (fun k j a _ c => hf k j (fP_far w a c)) (PC.kp h.2.2.2.2.2.1 (fun k j a c => hf k j (fP_own w a c)))
def fLd (k _j : Nat) : Prop := 3 ≤ k ∧ k ≤ 79
theorem fP_ld (w : Bool) {k j : Nat} (h : fP w k j) : fLd k j := by
  revert h
  unfold fP fLd
  cases w <;> simp only [mm_P, Bool.not_true, Bool.not_false, cond_true, cond_false] <;> omega
/-- the new policy is taken -/
theorem c_load2 (hT : TC true i τ) (hw : TW τ) (hH : HC i η) (hG : GC i κ) (hP : PC (!w) i π) : ∃ i', mm_V 159 66 [some (.ref 0), some (.int x1)] [] (mm_Z m w i l e) = some (.inl (some (.int (-1))), mm_Z m (!w) i' l e) ∧ CS (!w) π i' (τ, τ, [], η, kE κ) ∧ mG fLd i i' := by
  rw [c_swap, mr_159_87]
  have f0 : ∀ k j, k ≠ 30 → mm_ww (mm_ww i 30 1 1) 30 8 0 k j = i k j := fun k j a => by rw [mw_k a, mw_k a]
  have hT1 : TC true (mm_ww (mm_ww i 30 1 1) 30 8 0) τ := hT.kp (fun k j a b => f0 k j (by simp only [mm_Tr, cond_true] at a b; omega))
  obtain ⟨i1, e1, g1, g2, g3⟩ := jc_makeSure (m := m) (w := !w) (l := l) (e := e) hT1 hw
  rw [e1, mb_l, mb_0, mr_159_94]
  refine ⟨i1, rfl, ⟨hT1.kp (fun k j a b => g3 k j (by simp only [mm_Tr, cond_true] at a b; omega)), g1, g2, ?_, ?_, ?_, ?_⟩, ?_⟩
  · exact hH.kp (fun k j a b => by rw [g3 k j (by omega), f0 k j (by omega)])
  · exact hG.em.kp (fun j _ => g3 _ _ (by omega)) (fun k j a b => g3 _ _ (by omega))
  · exact hP.kp (fun k j a b => by
      have := pc_far (!w) a b
      rw [g3 k j (by omega), f0 k j (by omega)])
  · rw [g3 _ _ (by omega), mw_j (by decide), mw_s]
  · intro k j z
    unfold fLd at z
    rw [g3 k j (by omega), f0 k j (by omega)]
theorem TC_root (h : TC true i zT) : TC true (mm_ww (mm_ww (mm_ww i (mm_Tr true + 1) 0 1) (mm_Tr true + 2) 0 0) (mm_Tr true + 3) 0 0) zT1 := by
  intro n hn
  obtain ⟨h1, h2, h3, _, _⟩ := h n hn
  refine ⟨?_, ?_, ?_, fun z k hk => absurd hk (Nat.not_lt_zero _), fun z k hk => absurd hk (Nat.not_lt_zero _)⟩
  · rw [mw_k (by decide), mw_k (by decide)]
    by_cases q : n = 0
    · subst q; rw [mw_s]; rfl
    · rw [mw_j q, h1]
      have : tk zT1 n = 0 := if_neg q
      rw [this]; rfl
  · rw [mw_k (by decide)]
    by_cases q : n = 0
    · subst q; rw [mw_s]; rfl
    · rw [mw_j q, mw_k (by decide), h2]; rfl
  · by_cases q : n = 0
    · subst q; rw [mw_s]; rfl
    · rw [mw_j q, mw_k (by decide), mw_k (by decide), h3]; rfl
theorem zT1w : TW zT1 := fun n _ => ⟨by show (if n = 0 then 2 else 0) ≤ 2; split <;> omega, Nat.zero_le _, fun _ => ⟨Nat.zero_le _, fun k hk => absurd hk (Nat.not_lt_zero _)⟩⟩
theorem OV.tw {q : mP × mX × mS} (h : OV b (some q)) : TW (yT q.2.2) := h.1.tw
theorem ne_m1 {p : Nat} (h : p < 2 ^ 31) : nI p ≠ -1 := fun z => nI_nn h (by rw [z]; decide)
/-- at most one exception was made -/
def eL (e e' : Bool × Nat × Nat) : Prop := e' = e ∨ e' = mm_te e
theorem c_load (hX : XC X i) (hw : XW X) (hs : ST i) (ho : OC w i o) (hv : OV b o) : ∃ w' i' l' e', eL e e' ∧ mm_V 159 0 [some (.ref 0), none] [] (mm_Z m w i l e) = some (aAn (wLd X o).1, mm_Z m w' i' l' e') ∧ mG fLd i i' ∧ lG cF l l' ∧ OC w' i' (wLd X o).2 ∧ (∀ π, sPol X = .inr π → PW π ∧ PO π) := by
  obtain ⟨x, i1, l1, e1, f1, g1, r1⟩ := c_compile (m := m) (w := w) (l := l) (e := e) hX hw hs
  have hl : lG cF l l1 := fun k j z => g1 k j (fun y => z (by unfold fL at y; unfold cF; omega))
  have hf : mG fLd i i1 := f1.mo (fun k j y => fP_ld w y)
  have ho1 := ho.fp f1
  rw [mr_159_0, e1, mb_l, mb_v, mr_159_7]
  unfold wLd
  revert r1
  cases hsp : sPol X with
  | inl p =>
    intro r1
    rw [r1.1, if_neg (ne_m1 (by have := r1.2; omega))]
    exact ⟨w, i1, l1, e, Or.inl rfl, rfl, hf, hl, ho1, fun π z => by cases z⟩
  | inr π =>
    intro r1
    obtain ⟨r1, r2, r3, r4⟩ := r1
    have hpp : ∀ π', (.inr π : mE mP) = .inr π' → PW π' ∧ PO π' := fun π' z => by cases z; exact ⟨r3, r4⟩
    rw [r1, if_pos rfl]
    cases o with
    | none =>
      obtain ⟨h1, h2, h3, h4, h5⟩ := ho1
      have ht := c_taken (m := m) (w := w) (l := l1) (e := e) h1 zTw h3 (fun k _ => by show (0 : Nat) < 2 ^ 31; decide) (fun k _ => by rw [zH_ct]; decide) (fun k _ => by show (0 : Nat) < 2 ^ 31; decide) r2.1 r3
      rw [aVd_z, Bool.and_true] at ht
      rw [ht, mb_l, mb_v, mr_159_26]
      simp only
      cases hz : pVal π 0 with
      | false =>
        rw [if_bf, if_neg Bool.false_ne_true]
        exact ⟨w, i1, l1, mm_te e, Or.inr rfl, rfl, hf, hl, ⟨h1, h2, h3, h4, h5⟩, hpp⟩
      | true =>
        rw [if_bt, if_pos rfl, if_pos h5, mr_138_0, mr_139_0, if_neg (by decide), if_neg (by decide), if_neg (by decide), mb_l, mb_0, mr_138_7, mb_l, mb_0, mr_159_59]
        have t1 := TC_root h1
        obtain ⟨i2, q1, q2, q3⟩ := hc_startAnew (m := m) (w := w) (l := l1) (e := e) (η := zH) (i := mm_ww (mm_ww (mm_ww i1 (mm_Tr true + 1) 0 1) (mm_Tr true + 2) 0 0) (mm_Tr true + 3) 0 0)
        have q1 : mm_V 61 0 [some (.ref 68)] [] (mm_Z m w (mm_ww (mm_ww (mm_ww i1 (mm_Tr true + 1) (0 : Int32).toNatClampNeg 1) (mm_Tr true + 2) (0 : Int32).toNatClampNeg 0) (mm_Tr true + 3) (0 : Int32).toNatClampNeg 0) l1 e) = _ := q1
        rw [q1, mb_l, mb_0]
        have far : ∀ k j, (k < 58 ∨ 60 < k) → k ≠ 69 → k ≠ 70 → k ≠ 71 → k ≠ 77 → i2 k j = i1 k j := fun k j a b c d g => by
          rw [q3 k b c d g, mw_k (by simp only [mm_Tr, cond_true]; omega), mw_k (by simp only [mm_Tr, cond_true]; omega), mw_k (by simp only [mm_Tr, cond_true]; omega)]
        have t2 : TC true i2 zT1 := t1.kp (fun k j a b => by
          simp only [mm_Tr, cond_true] at a b
          rw [q3 k (by omega) (by omega) (by omega) (by omega)])
        have g2 : GC i2 zK := h4.kp (fun j _ => far _ _ (by omega) (by omega) (by omega) (by omega) (by omega)) (fun k j a b => far _ _ (by omega) (by omega) (by omega) (by omega) (by omega))
        have p2 : PC (!w) i2 π := r2.kp (fun k j a b => by
          have := pc_far (!w) a b
          exact far _ _ (by omega) (by omega) (by omega) (by omega) (by omega))
        obtain ⟨i3, s1, s2, s3⟩ := c_load2 (m := m) (l := l1) (e := e) (x1 := -1) t2 zT1w q2 g2 p2
        refine ⟨!w, i3, l1, e, Or.inl rfl, s1, hf.tr (mG.tr (j := i2) (fun k j z => ?_) s3), hl, s2, hpp⟩
        unfold fLd at z
        exact far _ _ (by omega) (by omega) (by omega) (by omega) (by omega)
    | some q =>
      have ho2 : CS w q.1 i1 q.2.2 := ho1
      obtain ⟨h1, h2, h3, h4, h5, h6, h7⟩ := ho2
      have hI : IV q.1 b q.2.2 := hv.1
      have hW := hI.hw
      have hct : ∀ k, k < 16 → hCt (yH q.2.2) k < 2 ^ 31 := fun k _ => by
        have := tCnt_le (fun j => hH (yH q.2.2) j == k + 1) 48 0
        unfold hCt; omega
      rw [c_taken h1 hI.tw h4 (fun k hk => by have := (hW.1 k hk).1; omega) hct (fun k hk => by have := (hW.2.2.2 k hk).1; omega) r2.1 r3, mb_l, mb_v, mr_159_26]
      simp only
      cases hz : (pVal π 0 && aVd π (yT q.2.2) (yH q.2.2)) with
      | false =>
        rw [if_bf, if_neg Bool.false_ne_true]
        exact ⟨w, i1, l1, mm_te e, Or.inr rfl, rfl, hf, hl, ho1, hpp⟩
      | true =>
        rw [if_bt, if_pos rfl, if_neg (by rw [h7]; decide)]
        obtain ⟨i3, s1, s2, s3⟩ := c_load2 (m := m) (l := l1) (e := e) (x1 := -1) h1 hI.tw h4 h5 r2
        exact ⟨!w, i3, l1, e, Or.inl rfl, s1, hf.tr s3, hl, s2, hpp⟩
end MM186
