/-! LOAD, in the reference -/
section MM188
variable {X K : mX} {w : Bool} {i i' i2 : Nat → Nat → Int32} {l l' : Nat → Nat → Int64} {m : Nat} {e : Bool × Nat × Nat} {n k j b : Nat} {x x1 x2 x3 : Int32} {π π' : mP} {ψ : mS} {τ : mT} {η : mH} {κ : mK} {o : mOl}
/-- places of reading -/
def fRq (k j : Nat) : Prop := (k = 83 ∧ 9 ≤ j ∧ j ≤ 49) ∨ (88 ≤ k ∧ k ≤ 110) ∨ k = 112
def fRl (k j : Nat) : Prop := (k = 83 ∧ (j = 0 ∨ j = 5 ∨ j = 7 ∨ (9 ≤ j ∧ j ≤ 49) ∨ j = 57 ∨ j = 86)) ∨ (87 ≤ k ∧ k ≤ 110) ∨ (112 ≤ k ∧ k ≤ 127)
theorem fRp_q (h : mG fRp i i') : mG fRq i i' := h.mo (fun k j y => by unfold fRp at y; unfold fRq; omega)
theorem fRt_q (h : mG (fun k j => (k = 83 ∧ j = 9) ∨ k = 88) i i') : mG fRq i i' := h.mo (fun k j y => by unfold fRq; omega)
theorem fRq_l (h : mG fRq i i') : mG fRl i i' := h.mo (fun k j y => by unfold fRq at y; unfold fRl; omega)
theorem RS.fq (h : RS π i ψ) (hf : mG fRq i i') (hp : PR i' π) : RS π i' ψ := by
  obtain ⟨h1, h2, h3, h4, h5, h6, h7⟩ := h
  have far : ∀ k j, ¬ ((k = 83 ∧ 9 ≤ j ∧ j ≤ 49) ∨ (88 ≤ k ∧ k ≤ 110) ∨ k = 112) → i' k j = i k j := hf
  exact ⟨h1.kp (fun k j a b => far k j (by omega)), h2.kp (fun j => far _ _ (by omega)), h3.kp (far _ _ (by omega)) (fun j => far _ _ (by omega)), h4.kp (fun k j a b => far k j (by omega)), h5.kp (fun j _ => far _ _ (by omega)) (fun k j a b => far k j (by omega)), hp, (far _ _ (by omega)).trans h7⟩
theorem NR.fq (h : NR i) (hf : mG fRq i i') : NR i' := by
  obtain ⟨h1, h2, h3, h4⟩ := h
  have far : ∀ k j, ¬ ((k = 83 ∧ 9 ≤ j ∧ j ≤ 49) ∨ (88 ≤ k ∧ k ≤ 110) ∨ k = 112) → i' k j = i k j := hf
  exact ⟨h1.kp (fun k j a b => far k j (by omega)), h2.kp (far _ _ (by omega)) (fun j => far _ _ (by omega)), h3.kp (fun j _ => far _ _ (by omega)) (fun k j a b => far k j (by omega)), (far _ _ (by omega)).trans h4⟩
theorem XKp.kp (h : XKp X i) (h1 : i' 83 7 = i 83 7) (h2 : ∀ j, i' 87 j = i 87 j) : XKp X i' := ⟨by rw [h1]; exact h.1, fun k hk => by rw [h2]; exact h.2 k hk⟩
theorem PTb.kp (h : PTb i) (hf : ∀ j, i' 86 j = i 86 j) : PTb i' := fun c hc k hk => by rw [hf]; exact h c hc k hk
theorem XKp.fq (h : XKp X i) (hf : mG fRq i i') : XKp X i' := h.kp (hf _ _ (by unfold fRq; omega)) (fun j => hf _ _ (by unfold fRq; omega))
theorem PTb.fq (h : PTb i) (hf : mG fRq i i') : PTb i' := h.kp (fun j => hf _ _ (by unfold fRq; omega))
/-- the kept text is read again -/
theorem r_again (ho : OR i o) (hv : OV b o) (hf : mG fRq i i2) (hW : WDS l) (hP : PTb i) : ∃ i', mm_V 256 30 [some (.ref 83), some (.int x1), none, none] [.int 0] (mm_Z m w i2 l e) = mm_V 256 51 [some (.ref 83), some (.int x1), some (.int 0), none] [] (mm_Z m w i' l e) ∧ OR i' o ∧ mG fRq i i' := by
  rw [mr_256_30, if_pos rfl]
  cases o with
  | none =>
    have h2 : NR i2 := NR.fq ho hf
    rw [if_pos h2.2.2.2]
    exact ⟨i2, rfl, h2, hf⟩
  | some q =>
    have h5 : i2 83 5 = 1 := (hf _ _ (by unfold fRq; omega)).trans ho.1.2.2.2.2.2.2
    have hk : XKp q.2.1 i2 := ho.2.fq hf
    rw [if_neg (by rw [h5]; decide)]
    obtain ⟨i3, e3, f3, g3⟩ := r_old (m := m) (w := w) (l := l) (e := e) hk hv.2.1
    have g3' := hf.tr (fRt_q g3)
    obtain ⟨i4, e4, f4, g4⟩ := r_read (m := m) (w := w) (e := e) f3 hv.2.1 hW (hP.fq g3')
    rw [hv.2.2.1] at g4
    have g5 := g3'.tr (fRp_q f4)
    rw [e3, mb_l, mb_0, mr_256_47, e4, mb_l, mb_0]
    exact ⟨i4, rfl, ⟨RS.fq ho.1 g5 g4.2.1, ho.2.fq g5⟩, g5⟩
/-- the new policy is taken -/
theorem r_load2 (hT : TR i τ) (hw : TW τ) (hH : HR i η) (hG : GR i κ) (hP : PR i π) (hK : XKp X i) : ∃ i', mm_V 256 126 [some (.ref 83), some (.int x1), some (.int x2), some (.int x3)] [] (mm_Z m w i l e) = some (.inl (some (.int (-1))), mm_Z m w i' l e) ∧ RS π i' (τ, τ, [], η, kE κ) ∧ XKp X i' ∧ i' 83 0 = i 83 0 ∧ mG fRl i i' := by
  rw [mr_256_126]
  have f0 : ∀ k j, (k ≠ 83 ∨ (j ≠ 5 ∧ j ≠ 86)) → mm_ww (mm_ww i 83 5 1) 83 86 0 k j = i k j := fun k j a => by rw [mw_ne (by omega), mw_ne (by omega)]
  have hT1 : TR (mm_ww (mm_ww i 83 5 1) 83 86 0) τ := hT.kp (fun k j a b => f0 k j (by omega))
  obtain ⟨i1, e1, g1, g2, g3⟩ := jr_makeSure (m := m) (w := w) (l := l) (e := e) hT1 hw
  rw [e1, mb_l, mb_0, mr_256_140]
  have far : ∀ k j, ¬ (k = 119 ∨ (k = 83 ∧ (j = 57 ∨ j = 5 ∨ j = 86))) → i1 k j = i k j := fun k j a => by rw [g3 k j (by omega), f0 k j (by omega)]
  refine ⟨i1, rfl, ⟨hT1.kp (fun k j a b => g3 k j (by omega)), g1, g2, hH.kp (fun k j a b => far k j (by omega)), hG.em.kp (fun j _ => g3 _ _ (by omega)) (fun k j a b => g3 _ _ (by omega)), hP.kp (fun j a => far _ _ (by omega)) (fun k j a b => far k j (by omega)), ?_⟩, hK.kp (far _ _ (by omega)) (fun j => far _ _ (by omega)), far _ _ (by omega), fun k j z => far k j ?_⟩
  · rw [g3 _ _ (by omega), mw_j (by decide), mw_s]
  · unfold fRl at z; omega
theorem mw_self (h : i k j = x) : mm_ww i k j x = i := by
  funext a b
  by_cases z : a = k ∧ b = j
  · rw [z.1, z.2, mw_s, h]
  · rw [mw_ne z]
theorem r_beg_loop (h : ∀ k, k < 32 → i 113 k = 0) : ∀ (d k : Nat), k + d = 32 → mm_V 255 2 [some (.ref 83), some (.int (nI k))] [] (mm_Z m w i l e) = mm_V 255 2 [some (.ref 83), some (.int (nI 32))] [] (mm_Z m w i l e) := by
  intro d
  induction d with
  | zero =>
    intro k hk
    have : k = 32 := by omega
    rw [this]
  | succ d ih =>
    intro k hk
    rw [mr_255_2, if_pos (show nI k < 32 from (nI_ltI (b := 32) (by omega) (by omega)).mpr (by omega)), if_neg (no_out (by omega) (by omega)), nI_clamp (by omega), mw_self (h k (by omega)), nI_1]
    exact ih (k + 1) (by omega)
theorem TR_root (h : TR i zT) : TR (mm_ww (mm_ww (mm_ww i 113 0 2) 114 0 0) 115 0 0) zT1 := by
  intro n hn
  obtain ⟨h1, h2, h3, _, _⟩ := h n hn
  refine ⟨?_, ?_, ?_, fun z k hk => absurd hk (Nat.not_lt_zero _), fun z k hk => absurd hk (Nat.not_lt_zero _)⟩
  · rw [mw_k (by decide), mw_k (by decide)]
    by_cases q : n = 0
    · subst q; rw [mw_s]; rfl
    · rw [mw_j q, h1]
      have : tk zT1 n = 0 := if_neg q
      rw [this]; rfl
  · rw [mw_k (by decide)]
    by_cases q : n = 0
    · subst q; rw [mw_s]; rfl
    · rw [mw_j q, mw_k (by decide), h2]; rfl
  · by_cases q : n = 0
    · subst q; rw [mw_s]; rfl
    · rw [mw_j q, mw_k (by decide), mw_k (by decide), h3]; rfl
/-- the first load begins -/
theorem r_begin (h : TR i zT) : ∃ i', mm_V 255 0 [some (.ref 83), none] [] (mm_Z m w i l e) = some (.inl none, mm_Z m w i' l e) ∧ TR i' zT1 ∧ HR i' (hNew zH) ∧ mG (fun k _ => (113 ≤ k ∧ k ≤ 115) ∨ (121 ≤ k ∧ k ≤ 127)) i i' := by
  have hl := r_beg_loop (m := m) (w := w) (l := l) (e := e) (fun k hk => (h k hk).1) 32 0 (by omega)
  have hl : mm_V 255 2 [some (.ref 83), some (.int 0)] [] (mm_Z m w i l e) = _ := hl
  rw [mr_255_0, hl, mr_255_2, if_neg (by decide)]
  obtain ⟨i1, e1, g1, g2⟩ := hr_startProcesses (m := m) (w := w) (l := l) (e := e) (η := zH) (i := mm_ww (mm_ww (mm_ww i 113 0 2) 114 0 0) 115 0 0)
  rw [e1, mb_l, mb_0, mr_255_46]
  refine ⟨i1, rfl, (TR_root h).kp (fun k j a b => by rw [g2 k (by omega) (by omega) (by omega) (by omega)]), g1, fun k j z => ?_⟩
  rw [g2 k (by omega) (by omega) (by omega) (by omega), mw_k (by omega), mw_k (by omega), mw_k (by omega)]
/-- what the reference tells of an answer -/
def aTh (f : Nat → Nat) : mA → Nat
  | .inl _ => 0
  | .inr c => f c
def RA0 (f : Nat → Nat) (a : mA) (i' : Nat → Nat → Int32) (y : Int32) : Prop := i' 83 0 = nI (aTh f a) ∧ ∀ v, a = .inl (some v) → y = v
theorem OR.w0 (h : OR i o) : OR (mm_ww i 83 0 x) o := by
  have far : ∀ k j, ¬ (k = 83 ∧ j = 0) → mm_ww i 83 0 x k j = i k j := fun k j a => mw_ne a
  cases o with
  | none =>
    obtain ⟨h1, h2, h3, h4⟩ := h
    exact ⟨h1.kp (fun k j a b => far k j (by omega)), h2.kp (far _ _ (by omega)) (fun j => far _ _ (by omega)), h3.kp (fun j _ => far _ _ (by omega)) (fun k j a b => far k j (by omega)), (far _ _ (by omega)).trans h4⟩
  | some q =>
    obtain ⟨⟨h1, h2, h3, h4, h5, h6, h7⟩, h8⟩ := h
    exact ⟨⟨h1.kp (fun k j a b => far k j (by omega)), h2.kp (fun j => far _ _ (by omega)), h3.kp (far _ _ (by omega)) (fun j => far _ _ (by omega)), h4.kp (fun k j a b => far k j (by omega)), h5.kp (fun j _ => far _ _ (by omega)) (fun k j a b => far k j (by omega)), h6.kp (fun j a => far _ _ (by omega)) (fun k j a b => far k j (by omega)), (far _ _ (by omega)).trans h7⟩, h8.kp (far _ _ (by omega)) (fun j => far _ _ (by omega))⟩
end MM188
section MM189
variable {X K : mX} {w : Bool} {i i' i2 : Nat → Nat → Int32} {l l' : Nat → Nat → Int64} {m : Nat} {e : Bool × Nat × Nat} {n k j b : Nat} {x x1 x2 x3 : Int32} {π π' : mP} {ψ : mS} {τ : mT} {η : mH} {κ : mK} {o : mOl}
/-- the text is kept -/
theorem r_keep (hX : XR X i) (hw : XW X) : ∃ i', mm_V 256 70 [some (.ref 83), some (.int (-1)), some (.int 1), none] [.int 0] (mm_Z m w i l e) = mm_V 256 89 [some (.ref 83), some (.int (-1)), some (.int 1), some (.int (nI (xz X)))] [] (mm_Z m w i' l e) ∧ XKp X i' ∧ mG (fun k j => (k = 83 ∧ j = 7) ∨ k = 87) i i' := by
  rw [mr_256_70, if_pos rfl, if_pos (by decide)]
  obtain ⟨i1, e1, g1, g2⟩ := r_kpt_loop (m := m) (w := w) (l := l) (e := e) (x1 := -1) (x2 := 1) hw.1 (xz X) 0 (mm_ww i 83 7 (i 83 9)) (by omega) (by rw [mw_s]; exact hX.1) (fun j hj => by rw [mw_k (by omega)]; exact hX.2 j hj) (fun j hj => absurd hj (Nat.not_lt_zero _))
  have e1 : mm_V 256 89 [some (.ref 83), some (.int (-1)), some (.int 1), some (.int 0)] [] (mm_Z m w (mm_ww i 83 7 (i 83 9)) l e) = _ := e1
  exact ⟨i1, e1, g1, fun k j z => by rw [g2 k j (by omega), mw_ne (by omega)]⟩
theorem r_load (hX : XP X i) (hw : XW X) (hW : WDS l) (hP : PTb i) (ho : OR i o) (hv : OV b o) : ∃ y i', mm_V 256 0 [some (.ref 83), none, none, none] [] (mm_Z m w i l e) = some (.inl (some (.int y)), mm_Z m w i' l e) ∧ RA0 (fun _ => 1) (wLd X o).1 i' y ∧ mG fRl i i' ∧ OR i' (wLd X o).2 := by
  obtain ⟨i1, e1, f1, g1⟩ := r_tak (m := m) (w := w) (l := l) (e := e) hX hw
  have q1 := fRt_q g1
  obtain ⟨i2, e2, f2, g2⟩ := r_read (m := m) (w := w) (e := e) f1 hw hW (hP.fq q1)
  have q2 := q1.tr (fRp_q f2)
  have hX2 : XR X i2 := f1.kp (f2 _ _ (by unfold fRp; omega)) (fun j => f2 _ _ (by unfold fRp; omega))
  rw [mr_256_0, e1, mb_l, mb_0, mr_256_5, e2, mb_l, mb_0, mr_256_9]
  unfold wLd
  revert g2
  cases hsp : sPol X with
  | inl p =>
    intro g2
    obtain ⟨g2, g3⟩ := g2
    obtain ⟨i3, e3, f3, h3⟩ := r_again (m := m) (w := w) (l := l) (e := e) (x1 := nI p) ho hv q2 hW hP
    have hn : ¬ nI p < 0 := nI_nn (by omega)
    have rf := r_refuse (m := m) (w := w) (i := i3) (l := l) (e := e) (a := false) (b := false) (g := false)
    have rf : mm_V 194 0 [some (.ref 83), some (.int 0), some (.int 0), some (.int 0)] [] (mm_Z m w i3 l e) = some (.inl (some (.int 0)), mm_Z m w (mm_ww i3 83 0 (nI 0)) l e) := rf
    rw [g2, if_neg hn, e3, mr_256_51, if_neg hn, mr_256_65, rf, mb_l, mb_v, mr_256_70, if_pos rfl, if_neg hn]
    refine ⟨nI p, _, rfl, ⟨mw_s, fun v z => by cases z; rfl⟩, (fRq_l h3).tr (mG.ww (by unfold fRl; omega)), f3.w0⟩
  | inr π =>
    intro g2
    obtain ⟨g2, g3, g4, g5⟩ := g2
    rw [g2, if_pos (by decide)]
    have bad : ∃ y i', mm_V 256 30 [some (.ref 83), some (.int (-1)), none, none] [.int 0] (mm_Z m w i2 l e) = some (.inl (some (.int y)), mm_Z m w i' l e) ∧ i' 83 0 = nI 1 ∧ mG fRl i i' ∧ OR i' o := by
      obtain ⟨i3, e3, f3, h3⟩ := r_again (m := m) (w := w) (l := l) (e := e) (x1 := -1) ho hv q2 hW hP
      have rf := r_refuse (m := m) (w := w) (i := i3) (l := l) (e := e) (a := true) (b := false) (g := false)
      have rf : mm_V 194 0 [some (.ref 83), some (.int 1), some (.int 0), some (.int 0)] [] (mm_Z m w i3 l e) = some (.inl (some (.int 1)), mm_Z m w (mm_ww i3 83 0 (nI 1)) l e) := rf
      rw [e3, mr_256_51, if_pos (by decide), if_pos rfl, mr_256_65, rf, mb_l, mb_v, mr_256_70, if_neg (by decide)]
      exact ⟨-1, _, rfl, mw_s, (fRq_l h3).tr (mG.ww (by unfold fRl; omega)), f3.w0⟩
    have good : ∃ i', mm_V 256 30 [some (.ref 83), some (.int (-1)), none, none] [.int 1] (mm_Z m w i2 l e) = mm_V 256 89 [some (.ref 83), some (.int (-1)), some (.int 1), some (.int (nI (xz X)))] [] (mm_Z m w i' l e) ∧ XKp X i' ∧ i' 83 0 = nI 0 ∧ mG (fun k j => (k = 83 ∧ (j = 0 ∨ j = 7)) ∨ k = 87) i2 i' := by
      have rf := r_refuse (m := m) (w := w) (i := i2) (l := l) (e := e) (a := false) (b := false) (g := false)
      have rf : mm_V 194 0 [some (.ref 83), some (.int 0), some (.int 0), some (.int 0)] [] (mm_Z m w i2 l e) = some (.inl (some (.int 0)), mm_Z m w (mm_ww i2 83 0 (nI 0)) l e) := rf
      obtain ⟨i3, e3, f3, h3⟩ := r_keep (m := m) (w := w) (l := l) (e := e) (i := mm_ww i2 83 0 (nI 0)) (hX2.kp (mw_j (by decide)) (fun j => by rw [mw_k (by decide)])) hw
      rw [mr_256_30, if_neg (by decide), mr_256_51, if_pos (by decide), if_neg (by decide), mr_256_65, rf, mb_l, mb_v, e3]
      exact ⟨i3, rfl, f3, by rw [h3 _ _ (by omega), mw_s], fun k j z => by rw [h3 k j (by omega), mw_ne (by omega)]⟩
    cases o with
    | none =>
      have ho2 : NR i2 := NR.fq ho q2
      obtain ⟨h1, h2, h3, h4⟩ := ho2
      rw [r_allNew g3.1 g4 h4, mb_l, mb_v, mr_256_22]
      simp only
      cases hz : pVal π 0 with
      | false =>
        rw [if_bf, if_neg Bool.false_ne_true]
        obtain ⟨y, i3, b1, b2, b3, b4⟩ := bad
        exact ⟨y, i3, b1, ⟨b2, fun v z => by cases z⟩, b3, b4⟩
      | true =>
        rw [if_bt, if_pos rfl]
        obtain ⟨i3, b1, b2, b3, b4⟩ := good
        rw [b1, mr_256_89, b2.1, if_neg (show ¬ nI (xz X) < nI (xz X) from fun z => Int32.lt_irrefl z)]
        have far3 : ∀ k j, ¬ ((k = 83 ∧ (j = 0 ∨ j = 7)) ∨ k = 87) → i3 k j = i2 k j := b4
        have t3 : TR i3 zT := h1.kp (fun k j a b => far3 k j (by omega))
        rw [if_pos ((far3 83 5 (by omega)).trans h4)]
        obtain ⟨i4, c1, c2, c3, c4⟩ := r_begin (m := m) (w := w) (l := l) (e := e) t3
        rw [c1, mb_l, mb_0]
        have far4 : ∀ k j, ¬ ((113 ≤ k ∧ k ≤ 115) ∨ (121 ≤ k ∧ k ≤ 127)) → i4 k j = i3 k j := c4
        have g4' : GR i4 zK := h3.kp (fun j _ => by rw [far4 _ _ (by omega), far3 _ _ (by omega)]) (fun k j a b => by rw [far4 _ _ (by omega), far3 _ _ (by omega)])
        have p4 : PR i4 π := g3.kp (fun j _ => by rw [far4 _ _ (by omega), far3 _ _ (by omega)]) (fun k j a b => by rw [far4 _ _ (by omega), far3 _ _ (by omega)])
        obtain ⟨i5, d1, d2, d3, d4, d5⟩ := r_load2 (m := m) (w := w) (l := l) (e := e) (x1 := -1) (x2 := 1) (x3 := nI (xz X)) c2 zT1w c3 g4' p4 (b2.kp (far4 _ _ (by omega)) (fun j => far4 _ _ (by omega)))
        refine ⟨-1, i5, d1, ⟨by rw [d4, far4 _ _ (by omega), b3]; rfl, fun v z => by cases z; rfl⟩, (fRq_l q2).tr (mG.tr (j := i4) (fun k j z => ?_) d5), d2, d3⟩
        unfold fRl at z
        rw [far4 k j (by omega), far3 k j (by omega)]
    | some q =>
      have h5 : i2 83 5 = 1 := (q2 _ _ (by unfold fRq; omega)).trans ho.1.2.2.2.2.2.2
      have far2 : ∀ k j, ¬ ((k = 83 ∧ 9 ≤ j ∧ j ≤ 49) ∨ (88 ≤ k ∧ k ≤ 110) ∨ k = 112) → i2 k j = i k j := q2
      have t2 : TR i2 (yT q.2.2) := ho.1.1.kp (fun k j a b => far2 k j (by omega))
      have h2 : HR i2 (yH q.2.2) := ho.1.2.2.2.1.kp (fun k j a b => far2 k j (by omega))
      have k2 : GR i2 (yK q.2.2) := ho.1.2.2.2.2.1.kp (fun j _ => far2 _ _ (by omega)) (fun k j a b => far2 k j (by omega))
      have hI : IV q.1 b q.2.2 := hv.1
      have hWh := hI.hw
      rw [r_allValid t2 h2 (fun k hk => by have := (hI.tw k hk).1; omega) (fun k hk => by have := (hWh.1 k hk).1; omega) (fun k hk hc => by
        have h3 := hWh.2.2.1 k hk hc
        have := hN_lt (x := hO (yH q.2.2) k) (fun z => (h3.1 z).1) h3.2.1
        omega) (fun k hk => by have := (hWh.2.2.2 k hk).1; omega) g3.1 g4 h5, mb_l, mb_v, mr_256_22]
      simp only
      cases hz : (pVal π 0 && aVd π (yT q.2.2) (yH q.2.2)) with
      | false =>
        rw [if_bf, if_neg Bool.false_ne_true]
        obtain ⟨y, i3, b1, b2, b3, b4⟩ := bad
        exact ⟨y, i3, b1, ⟨b2, fun v z => by cases z⟩, b3, b4⟩
      | true =>
        rw [if_bt, if_pos rfl]
        obtain ⟨i3, b1, b2, b3, b4⟩ := good
        have far3 : ∀ k j, ¬ ((k = 83 ∧ (j = 0 ∨ j = 7)) ∨ k = 87) → i3 k j = i2 k j := b4
        rw [b1, mr_256_89, b2.1, if_neg (show ¬ nI (xz X) < nI (xz X) from fun z => Int32.lt_irrefl z), if_neg (by rw [far3 83 5 (by omega), h5]; decide)]
        obtain ⟨i5, d1, d2, d3, d4, d5⟩ := r_load2 (m := m) (w := w) (l := l) (e := e) (x1 := -1) (x2 := 1) (x3 := nI (xz X)) (t2.kp (fun k j a b => far3 k j (by omega))) hI.tw (h2.kp (fun k j a b => far3 k j (by omega))) (k2.kp (fun j _ => far3 _ _ (by omega)) (fun k j a b => far3 k j (by omega))) (g3.kp (fun j _ => far3 _ _ (by omega)) (fun k j a b => far3 k j (by omega))) b2
        refine ⟨-1, i5, d1, ⟨by rw [d4, b3]; rfl, fun v z => by cases z; rfl⟩, (fRq_l q2).tr (mG.tr (j := i3) (fun k j z => ?_) d5), d2, d3⟩
        unfold fRl at z
        exact far3 k j (by omega)
end MM189
