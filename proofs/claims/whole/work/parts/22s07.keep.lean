/-! HOW BOTH KEEP A DRAFT -/
section MM136
/-- a token of the text -/
def TK (X : mX) (t : m3) : Prop := ∃ n, n ≤ xz X ∧ t = lx X n
variable {X : mX} {t : m3}
theorem TK.ok (h : TK X t) : t.1 ≤ t.2.1 ∧ (t.2.2 ≠ 1 → t.2.1 ≤ xz X) ∧ (t.2.2 ≠ 0 → t.1 < xz X ∧ t.1 < t.2.1) ∧ t.1 ≤ xz X ∧ (t.2.2 = 0 ↔ ¬ t.1 < xz X) := by
  obtain ⟨n, hn, rfl⟩ := h
  exact (lx_ok hn).2
theorem TK.nxt (h : TK X t) (hk : t.2.2 ≠ 1) : TK X (nx X t) := ⟨t.2.1, h.ok.2.1 hk, rfl⟩
theorem TK.go (h : TK X t) (hk : t.2.2 ≠ 1) : t.2.1 ≤ (nx X t).1 := (lx_ok (h.ok.2.1 hk)).1
theorem TK.gt (h : TK X t) (hk : t.2.2 ≠ 1) (h0 : t.2.2 ≠ 0) : t.1 < (nx X t).1 := by have := h.go hk; have := (h.ok.2.2.1 h0).2; omega
theorem TK.ge (h : TK X t) (hk : t.2.2 ≠ 1) : t.1 ≤ (nx X t).1 := by have := h.go hk; have := h.ok.1; omega
theorem TK.lt (h : TK X t) (hw : XW X) : wG (tLt X t) ∧ (tLt X t).length ≤ 9 ∧ ((t.2.2 = 2 ∨ 200 ≤ t.2.2) → tLt X t ≠ [] ∧ kW (tLt X t) = t.2.2 ∧ (tLt X t).length = t.2.1 - t.1) := by
  obtain ⟨n, hn, rfl⟩ := h
  exact tLt_lx hw hn
theorem tLt_no (h : ¬ (t.2.2 = 2 ∨ 200 ≤ t.2.2)) : tLt X t = [] := if_neg h
theorem TK.kd (h : TK X t) (hw : XW X) : t.2.2 < 244 := by
  by_cases q : t.2.2 = 2 ∨ 200 ≤ t.2.2
  · have h1 := ((h.lt hw).2.2 q).2.1
    have := kW_ge (tLt X t)
    omega
  · omega
/-- names of a draft -/
def NW (δ : mQ) : Prop := (∀ j, j < dL δ → wG (dG δ j).1 ∧ (dG δ j).1 ≠ [] ∧ (dG δ j).1.length ≤ 9 ∧ kW (dG δ j).1 = 2 ∧ (dG δ j).2.1 ≤ 3 ∧ (dG δ j).2.2 < pN (dP δ) (dG δ j).2.1) ∧ (∀ a b, a < dL δ → b < dL δ → (dG δ a).1 = (dG δ b).1 → a = b) ∧ dL δ = pN (dP δ) 0 + pN (dP δ) 1 + pN (dP δ) 2 + pN (dP δ) 3
/-- counts -/
def CW (ρ : mP) : Prop := pN ρ 0 ≤ 24 ∧ pN ρ 1 ≤ 8 ∧ pN ρ 2 ≤ 6 ∧ pN ρ 3 ≤ 4 ∧ pN ρ 4 ≤ 60 ∧ pN ρ 5 ≤ 12 ∧ pN ρ 6 ≤ 8
/-- a name of types -/
def vW (ρ : mP) (x : Int32) : Prop := (∃ a, a < pN ρ 0 ∧ x = nI a) ∨ (∃ a, a < pN ρ 1 ∧ x = nI (100 + a))
def RW (ρ : mP) : Prop := (∀ k, k < pN ρ 4 → (pL ρ k).1 ≤ 3 ∧ (pL ρ k).2.2.2.1 ≤ 4 ∧ ((pL ρ k).2.1 = 400 ∨ vW ρ (pL ρ k).2.1) ∧ ((pL ρ k).2.2.1 = -1 ∨ (pL ρ k).2.2.1 = 400 ∨ vW ρ (pL ρ k).2.2.1)) ∧ (∀ k, k < pN ρ 5 → (pM ρ k).1 < pN ρ 0 ∧ (pM ρ k).2.1 < pN ρ 0 ∧ (pM ρ k).2.2.1 ≤ 4 ∧ (pM ρ k).2.2.2 < pN ρ 0) ∧ (∀ k, k < pN ρ 6 → (pT ρ k).1 ≤ 4 ∧ oOk 0 (pT ρ k).2.2 ∧ ∀ op, op ∈ (pT ρ k).2.2 → 6 ≤ op.1 → vW ρ op.2.2)
def AW (δ : mQ) : Prop := ∀ a, dA δ a < 2 ^ pN (dP δ) 0 ∧ (pN (dP δ) 1 ≤ a → dA δ a = 0)
/-- places -/
def RB (δ : mQ) : Prop := (∀ k, k < pN (dP δ) 4 → dR δ k ≤ 1200) ∧ (∀ k, k < pN (dP δ) 5 → dM δ k ≤ 1200)
def DW (δ : mQ) : Prop := NW δ ∧ CW (dP δ) ∧ RW (dP δ) ∧ AW δ ∧ dE δ ≤ dC δ ∧ RB δ
/-- the class: limits, names, places, attributes -/
def LC (p : Bool) (i : Nat → Nat → Int32) (ρ : mP) (c : Nat) : Prop := (∀ k, k < pN ρ 6 → i (mm_P p + 14) k = nI (pT ρ k).1 ∧ i (mm_P p + 15) k = (pT ρ k).2.1 ∧ ∃ s, i (mm_P p + 16) k = nI s ∧ i (mm_P p + 16) (k + 1) = nI (s + (oCs (pT ρ k).2.2).length) ∧ s + (oCs (pT ρ k).2.2).length ≤ c ∧ cSeg p i s (oCs (pT ρ k).2.2)) ∧ (pN ρ 6 ≠ 0 → i (mm_P p + 16) (pN ρ 6) = nI c)
def NC (i : Nat → Nat → Int32) (l : Nat → Nat → Int64) (δ : mQ) : Prop := i 3 4 = nI (dL δ) ∧ ∀ j, j < dL δ → l 23 j = lN (pk 0 (dG δ j).1) ∧ i 24 j = nI (dV δ j)
def QC (i : Nat → Nat → Int32) (δ : mQ) : Prop := (∀ k, k < pN (dP δ) 4 → i 25 k = nI (dR δ k)) ∧ (∀ k, k < pN (dP δ) 5 → i 26 k = nI (dM δ k))
def AC (p : Bool) (i : Nat → Nat → Int32) (δ : mQ) : Prop := ∀ a, a < 8 → i (mm_P p + 2) a = nI (dA δ a)
/-- but for the number of codes -/
def DC (w : Bool) (i : Nat → Nat → Int32) (l : Nat → Nat → Int64) (δ : mQ) : Prop := PC0 (!w) i (dP δ) ∧ LC (!w) i (dP δ) (dC δ) ∧ NC i l δ ∧ QC i δ ∧ AC (!w) i δ
/-- statics -/
def mMx (s : Nat) : Nat := if s = 0 then 24 else if s = 1 then 8 else if s = 2 then 6 else if s = 3 then 4 else if s = 4 then 60 else if s = 5 then 12 else 8
def mAp (c : Nat) : Nat := if c = 0 then 1023 else if c = 1 then 511 else if c = 2 then 31 else if c = 3 then 7 else 1
def ST (i : Nat → Nat → Int32) : Prop := (∀ s, s < 7 → i 1000003 s = nI (mMx s)) ∧ (∀ c, c < 5 → i 1000001 c = nI (mAp c))
/-- what compiling may write -/
def fP (w : Bool) (k j : Nat) : Prop := k = 3 ∨ (23 ≤ k ∧ k ≤ 28) ∨ (mm_P (!w) ≤ k ∧ k ≤ mm_P (!w) + 18)
def fL (k j : Nat) : Prop := (k = 28 ∧ j = 4) ∨ k = 23
variable {w p : Bool} {i i' : Nat → Nat → Int32} {l l' : Nat → Nat → Int64} {δ : mQ} {ρ : mP} {c : Nat}
/-- the cells that a draft of the class uses -/
def uC (w : Bool) (δ : mQ) (k j : Nat) : Prop := k = mm_P (!w) + 1 ∨ k = mm_P (!w) + 2 ∨ (k = mm_P (!w) + 3 ∧ j < pN (dP δ) 2) ∨ (k = mm_P (!w) + 4 ∧ j < pN (dP δ) 3) ∨ (mm_P (!w) + 5 ≤ k ∧ k ≤ mm_P (!w) + 9 ∧ j < pN (dP δ) 4) ∨ (mm_P (!w) + 10 ≤ k ∧ k ≤ mm_P (!w) + 13 ∧ j < pN (dP δ) 5) ∨ (mm_P (!w) + 14 ≤ k ∧ k ≤ mm_P (!w) + 15 ∧ j < pN (dP δ) 6) ∨ (k = mm_P (!w) + 16 ∧ j ≤ pN (dP δ) 6) ∨ (mm_P (!w) + 17 ≤ k ∧ k ≤ mm_P (!w) + 18 ∧ j < dC δ) ∨ (k = 3 ∧ j = 4) ∨ (k = 24 ∧ j < dL δ) ∨ (k = 25 ∧ j < pN (dP δ) 4) ∨ (k = 26 ∧ j < pN (dP δ) 5)
theorem PC0.ku {π : mP} (h : PC0 p i π) (h1 : ∀ j, i' (mm_P p + 1) j = i (mm_P p + 1) j) (h2 : ∀ j, j < pN π 2 → i' (mm_P p + 3) j = i (mm_P p + 3) j) (h3 : ∀ j, j < pN π 3 → i' (mm_P p + 4) j = i (mm_P p + 4) j) (h4 : ∀ k j, mm_P p + 5 ≤ k → k ≤ mm_P p + 9 → j < pN π 4 → i' k j = i k j) (h5 : ∀ k j, mm_P p + 10 ≤ k → k ≤ mm_P p + 13 → j < pN π 5 → i' k j = i k j) : PC0 p i' π := by
  obtain ⟨a1, a2, a3, a4, a5⟩ := h
  refine ⟨fun j hj => by rw [h1]; exact a1 j hj, fun u hu => by rw [h3 u hu]; exact a2 u hu, fun r hr => by rw [h2 r hr]; exact a3 r hr, fun k hk => ?_, fun k hk => ?_⟩
  · rw [h4 _ k (by omega) (by omega) hk, h4 _ k (by omega) (by omega) hk, h4 _ k (by omega) (by omega) hk, h4 _ k (by omega) (by omega) hk, h4 _ k (by omega) (by omega) hk]; exact a4 k hk
  · rw [h5 _ k (by omega) (by omega) hk, h5 _ k (by omega) (by omega) hk, h5 _ k (by omega) (by omega) hk, h5 _ k (by omega) (by omega) hk]; exact a5 k hk
theorem cSeg.ku {s : Nat} {cs : List (Nat × Int32)} (h : cSeg p i s cs) (h1 : ∀ k j, mm_P p + 17 ≤ k → k ≤ mm_P p + 18 → j < s + cs.length → i' k j = i k j) : cSeg p i' s cs := by
  intro j c hj
  have hl : j < cs.length := by
    rcases Nat.lt_or_ge j cs.length with z | z
    · exact z
    · rw [List.getElem?_eq_none z] at hj; cases hj
  obtain ⟨a1, a2⟩ := h j c hj
  rw [h1 _ _ (by omega) (by omega) (by omega), h1 _ _ (by omega) (by omega) (by omega)]
  exact ⟨a1, a2⟩
theorem LC.ku (h : LC p i ρ c) (h1 : ∀ k j, mm_P p + 14 ≤ k → k ≤ mm_P p + 15 → j < pN ρ 6 → i' k j = i k j) (h2 : ∀ j, j ≤ pN ρ 6 → i' (mm_P p + 16) j = i (mm_P p + 16) j) (h3 : ∀ k j, mm_P p + 17 ≤ k → k ≤ mm_P p + 18 → j < c → i' k j = i k j) : LC p i' ρ c := by
  refine ⟨fun k hk => ?_, fun z => by rw [h2 _ (Nat.le_refl _)]; exact h.2 z⟩
  obtain ⟨a1, a2, s, a3, a4, a5, a6⟩ := h.1 k hk
  exact ⟨by rw [h1 _ _ (by omega) (by omega) hk]; exact a1, by rw [h1 _ _ (by omega) (by omega) hk]; exact a2, s, by rw [h2 _ (by omega)]; exact a3, by rw [h2 _ (by omega)]; exact a4, a5, a6.ku (fun k j b1 b2 b3 => h3 k j b1 b2 (by omega))⟩
theorem DC.ku (h : DC w i l δ) (hu : ∀ k j, uC w δ k j → i' k j = i k j) (hl : ∀ j, j < dL δ → l' 23 j = l 23 j) : DC w i' l' δ := by
  obtain ⟨h1, h2, h3, h4, h5⟩ := h
  have u1 : ∀ j, i' (mm_P (!w) + 1) j = i (mm_P (!w) + 1) j := fun j => hu _ _ (Or.inl rfl)
  have u2 : ∀ j, i' (mm_P (!w) + 2) j = i (mm_P (!w) + 2) j := fun j => hu _ _ (Or.inr (Or.inl rfl))
  have u3 : ∀ j, j < pN (dP δ) 2 → i' (mm_P (!w) + 3) j = i (mm_P (!w) + 3) j := fun j hj => hu _ _ (Or.inr (Or.inr (Or.inl ⟨rfl, hj⟩)))
  have u4 : ∀ j, j < pN (dP δ) 3 → i' (mm_P (!w) + 4) j = i (mm_P (!w) + 4) j := fun j hj => hu _ _ (Or.inr (Or.inr (Or.inr (Or.inl ⟨rfl, hj⟩))))
  have u5 : ∀ k j, mm_P (!w) + 5 ≤ k → k ≤ mm_P (!w) + 9 → j < pN (dP δ) 4 → i' k j = i k j := fun k j a b hj => hu _ _ (Or.inr (Or.inr (Or.inr (Or.inr (Or.inl ⟨a, b, hj⟩)))))
  have u6 : ∀ k j, mm_P (!w) + 10 ≤ k → k ≤ mm_P (!w) + 13 → j < pN (dP δ) 5 → i' k j = i k j := fun k j a b hj => hu _ _ (Or.inr (Or.inr (Or.inr (Or.inr (Or.inr (Or.inl ⟨a, b, hj⟩))))))
  have u7 : ∀ k j, mm_P (!w) + 14 ≤ k → k ≤ mm_P (!w) + 15 → j < pN (dP δ) 6 → i' k j = i k j := fun k j a b hj => hu _ _ (Or.inr (Or.inr (Or.inr (Or.inr (Or.inr (Or.inr (Or.inl ⟨a, b, hj⟩)))))))
  have u8 : ∀ j, j ≤ pN (dP δ) 6 → i' (mm_P (!w) + 16) j = i (mm_P (!w) + 16) j := fun j hj => hu _ _ (Or.inr (Or.inr (Or.inr (Or.inr (Or.inr (Or.inr (Or.inr (Or.inl ⟨rfl, hj⟩))))))))
  have u9 : ∀ k j, mm_P (!w) + 17 ≤ k → k ≤ mm_P (!w) + 18 → j < dC δ → i' k j = i k j := fun k j a b hj => hu _ _ (Or.inr (Or.inr (Or.inr (Or.inr (Or.inr (Or.inr (Or.inr (Or.inr (Or.inl ⟨a, b, hj⟩)))))))))
  have v1 : i' 3 4 = i 3 4 := hu _ _ (Or.inr (Or.inr (Or.inr (Or.inr (Or.inr (Or.inr (Or.inr (Or.inr (Or.inr (Or.inl ⟨rfl, rfl⟩))))))))))
  have v2 : ∀ j, j < dL δ → i' 24 j = i 24 j := fun j hj => hu _ _ (Or.inr (Or.inr (Or.inr (Or.inr (Or.inr (Or.inr (Or.inr (Or.inr (Or.inr (Or.inr (Or.inl ⟨rfl, hj⟩)))))))))))
  have v3 : ∀ j, j < pN (dP δ) 4 → i' 25 j = i 25 j := fun j hj => hu _ _ (Or.inr (Or.inr (Or.inr (Or.inr (Or.inr (Or.inr (Or.inr (Or.inr (Or.inr (Or.inr (Or.inr (Or.inl ⟨rfl, hj⟩))))))))))))
  have v4 : ∀ j, j < pN (dP δ) 5 → i' 26 j = i 26 j := fun j hj => hu _ _ (Or.inr (Or.inr (Or.inr (Or.inr (Or.inr (Or.inr (Or.inr (Or.inr (Or.inr (Or.inr (Or.inr (Or.inr ⟨rfl, hj⟩))))))))))))
  refine ⟨h1.ku u1 u3 u4 u5 u6, h2.ku u7 u8 u9, ⟨by rw [v1]; exact h3.1, fun j hj => by rw [hl j hj, v2 j hj]; exact h3.2 j hj⟩, ⟨fun k hk => by rw [v3 k hk]; exact h4.1 k hk, fun k hk => by rw [v4 k hk]; exact h4.2 k hk⟩, fun a ha => by rw [u2]; exact h5 a ha⟩
theorem uC_in {k j : Nat} (h : uC w δ k j) : (k = 3 ∧ j = 4) ∨ (24 ≤ k ∧ k ≤ 26) ∨ (mm_P (!w) + 1 ≤ k ∧ k ≤ mm_P (!w) + 18) := by
  rcases h with h | h | h | h | h | h | h | h | h | h | h | h | h <;> omega
/-- cells of drafts and others -/
theorem mP_c (w : Bool) : mm_P w = 31 ∨ mm_P w = 4 := by cases w <;> simp [mm_P]
/-- the class, at token t of text X -/
def CQ (X : mX) (w : Bool) (i0 : Nat → Nat → Int32) (l0 : Nat → Nat → Int64) (i : Nat → Nat → Int32) (l : Nat → Nat → Int64) (t : m3) (δ : mQ) : Prop := (XC X i ∧ XW X ∧ TK X t ∧ KC X i l t) ∧ DC w i l δ ∧ DW δ ∧ ST i ∧ mG (fP w) i0 i ∧ lG fL l0 l
/-- the class, at a fault -/
def CF (w : Bool) (i0 : Nat → Nat → Int32) (l0 : Nat → Nat → Int64) (i : Nat → Nat → Int32) (l : Nat → Nat → Int64) (p : Nat) : Prop := i 28 1 = nI p ∧ mG (fP w) i0 i ∧ lG fL l0 l ∧ p ≤ 1200
variable {i0 : Nat → Nat → Int32} {l0 : Nat → Nat → Int64} {m : Nat} {e : Bool × Nat × Nat} {n k s : Nat}
theorem CQ.cf (h : CQ X w i0 l0 i l t δ) : CF w i0 l0 i l t.1 := ⟨h.1.2.2.2.1, h.2.2.2.2.1, h.2.2.2.2.2, Nat.le_trans h.1.2.2.1.ok.2.2.2.1 h.1.2.1.1⟩
theorem CQ.xw (h : CQ X w i0 l0 i l t δ) : XW X := h.1.2.1
theorem CQ.tk (h : CQ X w i0 l0 i l t δ) : TK X t := h.1.2.2.1
theorem CQ.kc (h : CQ X w i0 l0 i l t δ) : KC X i l t := h.1.2.2.2
theorem CQ.dc (h : CQ X w i0 l0 i l t δ) : DC w i l δ := h.2.1
theorem CQ.dw (h : CQ X w i0 l0 i l t δ) : DW δ := h.2.2.1
theorem CQ.k3 (h : CQ X w i0 l0 i l t δ) : i 28 3 = nI t.2.2 := h.1.2.2.2.2.2.1
theorem XC.fr (h : XC X i) (hf : mG (fP w) i i') : XC X i' := by
  have := mP_c (!w)
  exact h.kp (hf _ _ (by unfold fP; omega)) (fun j => hf _ _ (by unfold fP; omega))
theorem ST.fr (h : ST i) (hf : mG (fP w) i i') : ST i' := by
  have := mP_c (!w)
  exact ⟨fun s hs => by rw [hf _ _ (by unfold fP; omega)]; exact h.1 s hs, fun s hs => by rw [hf _ _ (by unfold fP; omega)]; exact h.2 s hs⟩
/-- the next token -/
theorem CQ.adv (h : CQ X w i0 l0 i l t δ) (hk : t.2.2 ≠ 1) : ∃ i' l', mm_V 132 0 [some (.ref 28), none] [] (mm_Z m w i l e) = some (.inl none, mm_Z m w i' l' e) ∧ CQ X w i0 l0 i' l' (nx X t) δ ∧ mG (fun k j => k = 28 ∧ 1 ≤ j ∧ j ≤ 3) i i' ∧ lG (fun k j => k = 28 ∧ j = 4) l l' := by
  obtain ⟨⟨h1, h2, h3, h4⟩, h5, h6, h7, h8, h9⟩ := h
  have hp := mP_c (!w)
  obtain ⟨i1, l1, e1, e2, e3, e4⟩ := xc_adv (m := m) (w := w) (l := l) (e := e) h1 h2 (h4.2.1 hk) (h3.ok.2.1 hk)
  have f1 : mG (fP w) i i1 := e3.mo (fun a b z => by unfold fP; omega)
  refine ⟨i1, l1, e1, ⟨⟨h1.fr f1, h2, h3.nxt hk, e2⟩, h5.ku (fun k j z => e3 k j (by have := uC_in z; omega)) (fun j _ => e4 _ _ (by omega)), h6, h7.fr f1, h8.tr f1, h9.tr (e4.mo (fun a b z => Or.inl z))⟩, e3, e4⟩
theorem CQ.takes (h : CQ X w i0 l0 i l t δ) (hk : k ≠ 1) (hb : k < 1000) {x : Int32} (hx : x = nI k) : (t.2.2 = k ∧ ∃ i' l', mm_V 136 0 [some (.ref 28), some (.int x)] [] (mm_Z m w i l e) = some (.inl (some (.int (bI true))), mm_Z m w i' l' e) ∧ CQ X w i0 l0 i' l' (nx X t) δ ∧ mG (fun k j => k = 28 ∧ 1 ≤ j ∧ j ≤ 3) i i' ∧ lG (fun k j => k = 28 ∧ j = 4) l l') ∨ (t.2.2 ≠ k ∧ mm_V 136 0 [some (.ref 28), some (.int x)] [] (mm_Z m w i l e) = some (.inl (some (.int (bI false))), mm_Z m w i l e)) := by
  have hd := h.tk.kd h.xw
  rw [hx, mr_136_0, h.k3]
  by_cases q : t.2.2 = k
  · left
    obtain ⟨i1, l1, e1, e2, e3, e4⟩ := h.adv (m := m) (e := e) (by omega)
    refine ⟨q, i1, l1, ?_, e2, e3, e4⟩
    rw [if_pos (by rw [q]), e1, mb_l, mb_0, mr_136_14]
    rfl
  · right
    refine ⟨q, ?_⟩
    rw [if_neg (fun z => q ((nI_eq (by omega) (by omega)).mp z))]
    rfl
end MM136
