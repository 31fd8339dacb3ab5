/-! CONTRADICTIONS, in the reference: where -/
section MM174
variable {X : mX} {t : m3} {w : Bool} {i i' : Nat → Nat → Int32} {l : Nat → Nat → Int64} {δ : mQ} {m : Nat} {e : Bool × Nat × Nat} {n k s a b c p q : Nat} {x v : Int32}
theorem brk_eq (hd : DW δ) (ha : a < pN (dP δ) 4) (hn : n < pN (dP δ) 4) (h0 : (pL (dSe δ) a).1 = 0) : (bPr (dSe δ) a n && decide ((pL (dSe δ) a).2.2.2.1 = (pL (dSe δ) n).2.2.2.1 ∧ (pL (dSe δ) a).2.2.2.2 &&& (pL (dSe δ) n).2.2.2.2 ≠ 0)) = bBr (dSe δ) a n := by
  have hs : ∀ k, k < pN (dP δ) 4 → mkT (pN (dSe δ) 0) (pL (dSe δ) k).2.1 := fun k hk => mkT_se hd (hd.2.2.1.1 k hk).2.2.1
  have ht : ∀ k, k < pN (dP δ) 4 → (pL (dSe δ) k).2.2.1 = -1 ∨ (mkT (pN (dSe δ) 0) (pL (dSe δ) k).2.2.1 ∧ (pL (dSe δ) k).2.2.1 ≠ -1) := fun k hk => by
    have h4 := (hd.2.2.1.1 k hk).2.2.2
    show (if (pL (dP δ) k).2.2.1 = -1 then (-1 : Int32) else dMn δ (pL (dP δ) k).2.2.1) = -1 ∨ (mkT (pN (dP δ) 0) (if (pL (dP δ) k).2.2.1 = -1 then (-1 : Int32) else dMn δ (pL (dP δ) k).2.2.1) ∧ (if (pL (dP δ) k).2.2.1 = -1 then (-1 : Int32) else dMn δ (pL (dP δ) k).2.2.1) ≠ -1)
    by_cases z : (pL (dP δ) k).2.2.1 = -1
    · left; rw [if_pos z]
    · right
      have h5 : (pL (dP δ) k).2.2.1 = 400 ∨ vW (dP δ) (pL (dP δ) k).2.2.1 := by
        rcases h4 with y | y
        · exact absurd y z
        · exact y
      obtain ⟨q, q1, q2⟩ := dMn_n1 hd h5
      rw [if_neg z]
      exact ⟨mkT_se hd h5, by rw [q2]; exact na_m1 (by omega)⟩
  have hb := bPr_eq (π := dSe δ) (a := a) (n := n) hd.2.1.1 (hs a ha) (hs n hn) (ht a ha) (ht n hn)
  unfold bBr
  rw [Bool.eq_iff_iff, Bool.and_eq_true, hb, decide_eq_true_eq, decide_eq_true_eq]
  constructor
  · rintro ⟨⟨h1, h2⟩, h3, h4⟩; exact ⟨h0, h3, h1, h2, h4⟩
  · rintro ⟨-, h3, h1, h2, h4⟩; exact ⟨⟨h1, h2⟩, h3, h4⟩
/-- what reading leaves before it looks for contradictions -/
def RPd (i : Nat → Nat → Int32) (δ : mQ) : Prop := DRf 9 i δ ∧ DW δ ∧ dE δ ≤ 1200
theorem RPd.fl (h : RPd i δ) : RPd (mm_ww i 83 46 x) δ := ⟨h.1.wr (uRf_83 (by omega)), h.2⟩
theorem RPd.pr (h : RPd i δ) : PR0 i (dSe δ) := (h.1.pr h.2.1 h.2.2).1
/-- one pair -/
theorem r_nv1 (h : RPd i δ) (hn : n < pN (dP δ) 4) (ha : a < pN (dP δ) 4) : mm_V 239 12 [some (.ref 83), some (.int (nI n)), some (.int (nI a))] [] (mm_Z m w i l e) = if (pL (dP δ) n).1 = 1 ∧ bBr (dSe δ) a n = true then mm_bi true (mm_V 206 0 [some (.ref 83), some (.int (nI (dR δ n)))] [] (mm_Z m w i l e)) (fun v μ => mm_V 239 60 [some (.ref 83), some (.int (nI n)), some (.int (nI a))] (v.toList ++ []) μ) else mm_V 239 60 [some (.ref 83), some (.int (nI n)), some (.int (nI a))] [] (mm_Z m w i l e) := by
  have hp := h.pr
  have hd := h.2.1
  have h60 : pN (dP δ) 4 ≤ 60 := hd.2.1.2.2.2.2.1
  have c4 : i 83 21 = nI (pN (dP δ) 4) := h.1.ct (s := 4) (by omega)
  obtain ⟨a1, -⟩ := h.1.2.2.2.2.2.1 a ha
  obtain ⟨n1, n2, n3, n4, n5, n6⟩ := h.1.2.2.2.2.2.1 n hn
  have ka := hd.2.2.1.1 a ha
  have kn := hd.2.2.1.1 n hn
  have oa : ¬ mm_out (nI a) 61 := no_out (by omega) (by omega)
  have on : ¬ mm_out (nI n) 61 := no_out (by omega) (by omega)
  rw [mr_239_12, c4, if_pos ((nI_ltI (by omega) (by omega)).mpr ha), if_neg on]
  simp only [nI_clamp (show a < 2 ^ 31 by omega), nI_clamp (show n < 2 ^ 31 by omega), a1, n1, n6]
  by_cases z1 : (pL (dP δ) n).1 = 1
  · rw [if_pos (by rw [z1]; rfl), if_neg oa]
    by_cases z2 : (pL (dP δ) a).1 = 0
    · have hb := r_brk (m := m) (w := w) (l := l) (e := e) (π := dSe δ) (a := a) (n := n) hp h60 hd.2.1.1 ha hn ⟨by
        show (pL (dP δ) a).2.2.2.1 < 100
        omega, by
        show (pL (dP δ) n).2.2.2.1 < 100
        omega⟩
      rw [brk_eq hd ha hn z2] at hb
      rw [if_pos (by rw [z2]; rfl), hb, mb_l, mb_v, mr_239_47]
      cases hv : bBr (dSe δ) a n
      · rw [if_bf, if_neg (fun y => Bool.false_ne_true y.2)]
      · rw [if_bt, if_neg on, nI_clamp (by omega), n6, if_pos ⟨z1, rfl⟩]
    · have hv : bBr (dSe δ) a n = false := by
        unfold bBr
        exact decide_eq_false (fun y => z2 y.1)
      rw [if_neg (show ¬ nI ((pL (dP δ) a).1 + 5) = 5 from fun y => z2 (by have := (nI_eq (b := 5) (by omega) (by omega)).mp y; omega)), hv, if_neg (fun y => Bool.false_ne_true y.2)]
  · rw [if_neg (show ¬ nI ((pL (dP δ) n).1 + 5) = 6 from fun y => z1 (by have := (nI_eq (b := 6) (by omega) (by omega)).mp y; omega)), if_neg (fun y => z1 y.1)]
theorem r_nv_dead (h : RPd i δ) (hp : i 83 46 = nI p) (hp2 : p ≤ 1200) (hn : n < pN (dP δ) 4) : ∀ (d a : Nat), a + d = pN (dP δ) 4 → ∃ u, mm_V 239 12 [some (.ref 83), some (.int (nI n)), some (.int (nI a))] [] (mm_Z m w i l e) = mm_V 239 2 [some (.ref 83), some (.int (nI (n + 1))), u] [] (mm_Z m w i l e) := by
  have h60 : pN (dP δ) 4 ≤ 60 := h.2.1.2.1.2.2.2.2.1
  have c4 : i 83 21 = nI (pN (dP δ) 4) := h.1.ct (s := 4) (by omega)
  intro d
  induction d with
  | zero =>
    intro a ha
    exact ⟨some (.int (nI a)), by rw [mr_239_12, c4, if_neg (fun z => by have := (nI_ltI (by omega) (by omega)).mp z; omega), nI_1]⟩
  | succ d ih =>
    intro a ha
    obtain ⟨u, e1⟩ := ih (a + 1) (by omega)
    refine ⟨u, ?_⟩
    rw [r_nv1 h hn (by omega)]
    split
    · rw [r_fails hp hp2, mb_l, mb_0, mr_239_60, nI_1, e1]
    · rw [mr_239_60, nI_1, e1]
theorem r_nv_live (h : RPd i δ) (hl : i 83 46 = -1) (hn : n < pN (dP δ) 4) : ∀ (d a : Nat), a + d = pN (dP δ) 4 → ∃ u, mm_V 239 12 [some (.ref 83), some (.int (nI n)), some (.int (nI a))] [] (mm_Z m w i l e) = mm_V 239 2 [some (.ref 83), some (.int (nI (n + 1))), u] [] (mm_Z m w (if (decide ((pL (dSe δ) n).1 = 1) && tAny (fun a => bBr (dSe δ) a n) d a) = true then mm_ww i 83 46 (nI (dR δ n)) else i) l e) := by
  have h60 : pN (dP δ) 4 ≤ 60 := h.2.1.2.1.2.2.2.2.1
  have c4 : i 83 21 = nI (pN (dP δ) 4) := h.1.ct (s := 4) (by omega)
  have hR := h.2.1.2.2.2.2.2.1 n hn
  intro d
  induction d with
  | zero =>
    intro a ha
    have e0 : (decide ((pL (dSe δ) n).1 = 1) && tAny (fun a => bBr (dSe δ) a n) 0 a) = false := by
      rw [show tAny (fun a => bBr (dSe δ) a n) 0 a = false from rfl, Bool.and_false]
    rw [e0, if_neg Bool.false_ne_true]
    exact ⟨some (.int (nI a)), by rw [mr_239_12, c4, if_neg (fun z => by have := (nI_ltI (by omega) (by omega)).mp z; omega), nI_1]⟩
  | succ d ih =>
    intro a ha
    rw [r_nv1 h hn (by omega), tAny_s]
    by_cases z : (pL (dP δ) n).1 = 1 ∧ bBr (dSe δ) a n = true
    · have e1 : (decide ((pL (dSe δ) n).1 = 1) && (bBr (dSe δ) a n || tAny (fun a => bBr (dSe δ) a n) d (a + 1))) = true := by
        rw [z.2, Bool.true_or, Bool.and_true]
        exact decide_eq_true z.1
      obtain ⟨u, e2⟩ := r_nv_dead (m := m) (w := w) (l := l) (e := e) (h.fl (x := nI (dR δ n))) mw_s hR hn d (a + 1) (by omega)
      refine ⟨u, ?_⟩
      rw [if_pos z, r_fail hl, mb_l, mb_0, mr_239_60, nI_1, e2, e1, if_pos rfl]
    · obtain ⟨u, e2⟩ := ih (a + 1) (by omega)
      have e1 : (decide ((pL (dSe δ) n).1 = 1) && (bBr (dSe δ) a n || tAny (fun a => bBr (dSe δ) a n) d (a + 1))) = (decide ((pL (dSe δ) n).1 = 1) && tAny (fun a => bBr (dSe δ) a n) d (a + 1)) := by
        by_cases y : (pL (dP δ) n).1 = 1
        · have hv : bBr (dSe δ) a n = false := by
            cases hb : bBr (dSe δ) a n
            · rfl
            · exact absurd ⟨y, hb⟩ z
          rw [hv, Bool.false_or]
        · rw [show decide ((pL (dSe δ) n).1 = 1) = false from decide_eq_false y, Bool.false_and, Bool.false_and]
      refine ⟨u, ?_⟩
      rw [if_neg z, mr_239_60, nI_1, e2, e1]
theorem r_nvd (h : RPd i δ) (hp : i 83 46 = nI p) (hp2 : p ≤ 1200) : ∀ (d n : Nat) (u : Option Value), n + d = pN (dP δ) 4 → mm_V 239 2 [some (.ref 83), some (.int (nI n)), u] [] (mm_Z m w i l e) = some (.inl none, mm_Z m w i l e) := by
  have h60 : pN (dP δ) 4 ≤ 60 := h.2.1.2.1.2.2.2.2.1
  have c4 : i 83 21 = nI (pN (dP δ) 4) := h.1.ct (s := 4) (by omega)
  intro d
  induction d with
  | zero =>
    intro n u hn
    rw [mr_239_2, c4, if_neg (fun z => by have := (nI_ltI (by omega) (by omega)).mp z; omega)]
  | succ d ih =>
    intro n u hn
    obtain ⟨u', e1⟩ := r_nv_dead (m := m) (w := w) (l := l) (e := e) h hp hp2 (show n < pN (dP δ) 4 by omega) (pN (dP δ) 4) 0 (by omega)
    rw [show nI 0 = (0 : Int32) from rfl] at e1
    rw [mr_239_2, c4, if_pos ((nI_ltI (by omega) (by omega)).mpr (by omega)), e1, ih (n + 1) u' (by omega)]
/-- never and allow -/
theorem r_nv (h : RPd i δ) (hl : i 83 46 = -1) : ∀ (d n : Nat) (u : Option Value), n + d = pN (dP δ) 4 → mm_V 239 2 [some (.ref 83), some (.int (nI n)), u] [] (mm_Z m w i l e) = some (.inl none, mm_Z m w (if tFst (fun n => decide ((pL (dSe δ) n).1 = 1) && tAny (fun a => bBr (dSe δ) a n) (pN (dSe δ) 4) 0) d n < pN (dP δ) 4 then mm_ww i 83 46 (nI (dR δ (tFst (fun n => decide ((pL (dSe δ) n).1 = 1) && tAny (fun a => bBr (dSe δ) a n) (pN (dSe δ) 4) 0) d n))) else i) l e) := by
  have h60 : pN (dP δ) 4 ≤ 60 := h.2.1.2.1.2.2.2.2.1
  have c4 : i 83 21 = nI (pN (dP δ) 4) := h.1.ct (s := 4) (by omega)
  intro d
  induction d with
  | zero =>
    intro n u hn
    have e0 : tFst (fun n => decide ((pL (dSe δ) n).1 = 1) && tAny (fun a => bBr (dSe δ) a n) (pN (dSe δ) 4) 0) 0 n = n := rfl
    rw [mr_239_2, c4, if_neg (fun z => by have := (nI_ltI (by omega) (by omega)).mp z; omega), e0, if_neg (by omega)]
  | succ d ih =>
    intro n u hn
    have hn' : n < pN (dP δ) 4 := by omega
    have hR := h.2.1.2.2.2.2.2.1 n hn'
    obtain ⟨u', e1⟩ := r_nv_live (m := m) (w := w) (l := l) (e := e) h hl hn' (pN (dP δ) 4) 0 (by omega)
    have e1 : mm_V 239 12 [some (.ref 83), some (.int (nI n)), some (.int 0)] [] (mm_Z m w i l e) = _ := e1
    rw [mr_239_2, c4, if_pos ((nI_ltI (by omega) (by omega)).mpr (by omega)), e1, tFst]
    by_cases z : (decide ((pL (dSe δ) n).1 = 1) && tAny (fun a => bBr (dSe δ) a n) (pN (dP δ) 4) 0) = true
    · have z' : (decide ((pL (dSe δ) n).1 = 1) && tAny (fun a => bBr (dSe δ) a n) (pN (dSe δ) 4) 0) = true := z
      rw [if_pos z, if_pos z', if_pos hn', r_nvd (h.fl (x := nI (dR δ n))) mw_s hR d (n + 1) u' (by omega)]
    · have z' : ¬ (decide ((pL (dSe δ) n).1 = 1) && tAny (fun a => bBr (dSe δ) a n) (pN (dSe δ) 4) 0) = true := z
      rw [if_neg z, if_neg z', ih (n + 1) u' (by omega)]
end MM174
