/-! THE TREE: what is read of it -/
section MM62
variable {t w : Bool} {i : Nat → Nat → Int32} {l : Nat → Nat → Int64} {e : Bool × Nat × Nat} {τ : mT} {m n d k x name : Nat}
theorem tc_contentAt (h : TC t i τ) (hw : TW τ) (hn : n < 32) (hk : k < 2 ^ 30) : mm_V 146 0 [some (.ref (mm_Tr t)), some (.int (nI n)), some (.int (nI k))] [] (mm_Z m w i l e) = some (.inl (some (.int (if k < ts τ n then i (mm_Tr t + 4) (24 * n + k) else -1))), mm_Z m w i l e) := by
  have hs := (hw n hn).2.1
  rw [mr_146_0, if_neg (nI_pos (by omega)), if_neg (by rw [na_out (by omega)]; omega)]
  simp only [nI_clamp (show n < 2 ^ 31 by omega), (h n hn).2.2.1, nI_ltI (show k < 2 ^ 31 by omega) (show ts τ n < 2 ^ 31 by omega), na_24, na_mul, nI_add]
  by_cases q : k < ts τ n
  · rw [if_pos q, if_pos q, if_neg (by rw [na_out (by omega)]; omega), nI_clamp (by omega), Nat.mul_comm n 24]
  · rw [if_neg q, if_neg q]
theorem tc_entry_loop (h : TC t i τ) (hw : TW τ) (hd : d < 32) (hk2 : tk τ d = 2) (hN : name < 2 ^ 31) : ∀ (D k : Nat), k + D = ts τ d → mm_V 148 2 [some (.ref (mm_Tr t)), some (.int (nI d)), some (.int (nI name)), some (.int (nI k))] [] (mm_Z m w i l e) = some (.inl (some (.int (if tFst (fun k => tm τ d k == name) D k < ts τ d then nI (tFst (fun k => tm τ d k == name) D k) else -1))), mm_Z m w i l e)
  | 0, k, hk => by
    have hs := (hw d hd).2.1
    rw [mr_148_2, if_neg (by rw [na_out (by omega)]; omega)]
    simp only [nI_clamp (show d < 2 ^ 31 by omega), (h d hd).2.2.1, nI_ltI (show k < 2 ^ 31 by omega) (show ts τ d < 2 ^ 31 by omega)]
    have e : tFst (fun k => tm τ d k == name) 0 k = k := rfl
    rw [if_neg (by omega), e, if_neg (by omega)]
  | D + 1, k, hk => by
    obtain ⟨-, hs, h2⟩ := hw d hd
    obtain ⟨hs10, hent⟩ := h2 hk2
    obtain ⟨e1, e2, e3, e4⟩ := hent k (by omega)
    rw [mr_148_2, if_neg (by rw [na_out (by omega)]; omega)]
    have ec := (h d hd).2.2.2.2 hk2 k (by omega)
    simp only [nI_clamp (show d < 2 ^ 31 by omega), (h d hd).2.2.1, nI_ltI (show k < 2 ^ 31 by omega) (show ts τ d < 2 ^ 31 by omega), na_24, na_mul, nI_add, Nat.mul_comm d 24, nI_clamp (show 24 * d + k < 2 ^ 31 by omega), ec]
    rw [if_pos (by omega), if_neg (by rw [na_out (by omega)]; omega)]
    simp only [na_100, na_re (show tm τ d k + 100 * td τ d k < 2 ^ 31 by omega) (show 100 < 2 ^ 31 by omega), show (tm τ d k + 100 * td τ d k) % 100 = tm τ d k by omega, nI_eq (show tm τ d k < 2 ^ 31 by omega) hN]
    by_cases q : tm τ d k = name
    · rw [if_pos q]
      have e : tFst (fun k => tm τ d k == name) (D + 1) k = k := by rw [tFst, if_pos (by simpa using q)]
      rw [e, if_pos (by omega)]
    · rw [if_neg q, nI_1, tc_entry_loop h hw hd hk2 hN D (k + 1) (by omega), tFst_step _ _ _ (by simpa using q)]
theorem tc_entryNamed (h : TC t i τ) (hw : TW τ) (hd : d < 32) (hk2 : tk τ d = 2) (hN : name < 2 ^ 31) : mm_V 148 0 [some (.ref (mm_Tr t)), some (.int (nI d)), some (.int (nI name)), none] [] (mm_Z m w i l e) = some (.inl (some (.int (if tE τ d name < ts τ d then nI (tE τ d name) else -1))), mm_Z m w i l e) := by
  rw [mr_148_0, na_0, tc_entry_loop h hw hd hk2 hN (ts τ d) 0 (by omega)]
  rfl
theorem tc_nodeNamed (h : TC t i τ) (hw : TW τ) (hd : d < 32) (hk2 : tk τ d = 2) (hN : name < 2 ^ 31) : mm_V 147 0 [some (.ref (mm_Tr t)), some (.int (nI d)), some (.int (nI name)), none] [] (mm_Z m w i l e) = some (.inl (some (.int (if tE τ d name < ts τ d then nI (td τ d (tE τ d name)) else -1))), mm_Z m w i l e) := by
  obtain ⟨-, hs, h2⟩ := hw d hd
  obtain ⟨hs10, hent⟩ := h2 hk2
  rw [mr_147_0, tc_entryNamed h hw hd hk2 hN, mb_l, mb_v, mr_147_6]
  by_cases q : tE τ d name < ts τ d
  · obtain ⟨e1, e2, e3, e4⟩ := hent _ q
    rw [if_pos q, if_neg (na_m1 (by omega)), tc_contentAt h hw hd (by omega), mb_l, mb_v, mr_147_22, if_pos q, if_pos q, (h d hd).2.2.2.2 hk2 _ q, na_100, na_div (by omega) (by omega)]
    congr 6
    omega
  · rw [if_neg q, if_neg q, if_pos rfl]
theorem tc_links_in (h : TC t i τ) (hw : TW τ) (hd : d < 32) (hk2 : tk τ d = 2) (hx : x < 2 ^ 31) : ∀ (D k c : Nat), k + D = ts τ d → mm_V 149 13 [some (.ref (mm_Tr t)), some (.int (nI x)), some (.int (nI c)), some (.int (nI d)), some (.int (nI k))] [] (mm_Z m w i l e) = mm_V 149 4 [some (.ref (mm_Tr t)), some (.int (nI x)), some (.int (nI (c + tCnt (fun k => td τ d k == x) D k))), some (.int (nI (d + 1))), some (.int (nI (ts τ d)))] [] (mm_Z m w i l e)
  | 0, k, c, hk => by
    have hs := (hw d hd).2.1
    rw [mr_149_13, if_neg (by rw [na_out (by omega)]; omega)]
    simp only [nI_clamp (show d < 2 ^ 31 by omega), (h d hd).2.2.1, nI_ltI (show k < 2 ^ 31 by omega) (show ts τ d < 2 ^ 31 by omega), nI_1]
    rw [if_neg (by omega), show k = ts τ d by omega]
    rfl
  | D + 1, k, c, hk => by
    obtain ⟨-, hs, h2⟩ := hw d hd
    obtain ⟨hs10, hent⟩ := h2 hk2
    obtain ⟨e1, e2, e3, e4⟩ := hent k (by omega)
    have ec := (h d hd).2.2.2.2 hk2 k (by omega)
    rw [mr_149_13, if_neg (by rw [na_out (by omega)]; omega)]
    simp only [nI_clamp (show d < 2 ^ 31 by omega), (h d hd).2.2.1, (h d hd).1, hk2, nk_p1 (show 2 ≤ 2 by omega), nI_ltI (show k < 2 ^ 31 by omega) (show ts τ d < 2 ^ 31 by omega), na_24, na_mul, nI_add, Nat.mul_comm d 24, nI_clamp (show 24 * d + k < 2 ^ 31 by omega), ec]
    rw [if_pos (by omega), if_neg (by rw [na_out (by omega)]; omega), if_pos trivial, if_neg (by rw [na_out (by omega)]; omega)]
    simp only [na_100, na_div (show tm τ d k + 100 * td τ d k < 2 ^ 31 by omega) (show 100 < 2 ^ 31 by omega), show (tm τ d k + 100 * td τ d k) / 100 = td τ d k by omega, nI_eq (show td τ d k < 2 ^ 31 by omega) hx, na_0, na_1, nI_add]
    by_cases q : td τ d k = x
    · rw [if_pos q, tc_links_in h hw hd hk2 hx D (k + 1) (c + 1) (by omega)]
      have e : tCnt (fun k => td τ d k == x) (D + 1) k = 1 + tCnt (fun k => td τ d k == x) D (k + 1) := by rw [tCnt, if_pos (by simpa using q)]
      rw [e, Nat.add_assoc]
    · rw [if_neg q, tc_links_in h hw hd hk2 hx D (k + 1) (c + 0) (by omega)]
      have e : tCnt (fun k => td τ d k == x) (D + 1) k = 0 + tCnt (fun k => td τ d k == x) D (k + 1) := by rw [tCnt, if_neg (by simpa using q)]
      rw [e, Nat.add_assoc]
theorem tc_links_out (h : TC t i τ) (hw : TW τ) (hx : x < 2 ^ 31) : ∀ (D d c : Nat) (u : Option Value), d + D = 32 → mm_V 149 4 [some (.ref (mm_Tr t)), some (.int (nI x)), some (.int (nI c)), some (.int (nI d)), u] [] (mm_Z m w i l e) = some (.inl (some (.int (nI (c + tSum (tLd τ x) D d)))), mm_Z m w i l e)
  | 0, d, c, u, hd => by
    have e : d = 32 := by omega
    subst e
    rw [mr_149_4, if_neg (by decide)]
    rfl
  | D + 1, d, c, u, hd => by
    rw [mr_149_4, na_32, if_pos ((nI_ltI (by omega) (by omega)).mpr (by omega)), tSum]
    by_cases q : tk τ d = 2
    · rw [na_0, tc_links_in h hw (by omega) q hx (ts τ d) 0 c (by omega), tc_links_out h hw hx D (d + 1) _ _ (by omega)]
      unfold tLd
      rw [if_pos q, Nat.add_assoc]
    · have hs := (hw d (by omega)).2.1
      rw [mr_149_13, if_neg (by rw [na_out (by omega)]; omega)]
      simp only [nI_clamp (show d < 2 ^ 31 by omega), (h d (by omega)).2.2.1, (h d (by omega)).1, nk_p1 (hw d (by omega)).1, if_neg q]
      rw [if_neg (show ¬ mm_out (nI d) 32 by rw [na_out (by omega)]; omega)]
      have e0 : tLd τ x d = 0 := by unfold tLd; rw [if_neg q]
      rw [e0, Nat.zero_add, nI_1]
      split
      · exact tc_links_out h hw hx D (d + 1) c _ (by omega)
      · exact tc_links_out h hw hx D (d + 1) c _ (by omega)
theorem tc_linksOf (h : TC t i τ) (hw : TW τ) (hx : x < 2 ^ 31) : mm_V 149 0 [some (.ref (mm_Tr t)), some (.int (nI x)), none, none, none] [] (mm_Z m w i l e) = some (.inl (some (.int (nI (tL τ x)))), mm_Z m w i l e) := by
  rw [mr_149_0, na_0, tc_links_out h hw hx 32 0 0 none rfl, Nat.zero_add]
  rfl
/-- the reference -/
theorem tr_entry_loop (h : TR i τ) (hw : TW τ) (hN : TN τ) (hd : d < 32) (hk2 : tk τ d = 2) (hn : name < 2 ^ 31) : ∀ (D k : Nat), k + D = ts τ d → mm_V 269 5 [some (.ref 83), some (.int (nI d)), some (.int (nI name)), some (.int (if tE τ d name < k then nI (tE τ d name) else -1)), some (.int (nI k))] [] (mm_Z m w i l e) = some (.inl (some (.int (if tE τ d name < ts τ d then nI (tE τ d name) else -1))), mm_Z m w i l e)
  | 0, k, hk => by
    have hs := (hw d hd).2.1
    rw [mr_269_5, if_neg (by rw [na_out (by omega)]; omega)]
    simp only [nI_clamp (show d < 2 ^ 31 by omega), (h d hd).2.2.1, nI_ltI (show k < 2 ^ 31 by omega) (show ts τ d < 2 ^ 31 by omega)]
    rw [if_neg (by omega), show k = ts τ d by omega]
  | D + 1, k, hk => by
    obtain ⟨-, hs, h2⟩ := hw d hd
    obtain ⟨hs10, hent⟩ := h2 hk2
    obtain ⟨e1, e2, e3, e4⟩ := hent k (by omega)
    have ec := ((h d hd).2.2.2.2 hk2 k (by omega)).1
    have hE := tE_is (name := name) (fun a b => hN d hd hk2 a b) (show k < ts τ d by omega)
    rw [mr_269_5, if_neg (by rw [na_out (by omega)]; omega)]
    simp only [nI_clamp (show d < 2 ^ 31 by omega), (h d hd).2.2.1, nI_ltI (show k < 2 ^ 31 by omega) (show ts τ d < 2 ^ 31 by omega), na_10, na_mul, nI_add, nI_clamp (show 10 * d + k < 2 ^ 31 by omega), ec, nI_eq (show tm τ d k < 2 ^ 31 by omega) hn, hE]
    rw [if_pos (by omega), if_neg (by rw [na_out (by omega)]; omega)]
    have ih := tr_entry_loop h hw hN hd hk2 hn D (k + 1) (by omega)
    by_cases q : k = tE τ d name
    · rw [if_pos q, nI_1]
      rw [← q] at ih ⊢
      rw [if_pos (by omega)] at ih
      exact ih
    · rw [if_neg q, nI_1]
      have e : (tE τ d name < k + 1) ↔ (tE τ d name < k) := by omega
      simp only [e] at ih
      exact ih
theorem tr_entryOf (h : TR i τ) (hw : TW τ) (hN : TN τ) (hd : d < 32) (hk2 : tk τ d = 2) (hn : name < 2 ^ 31) : mm_V 269 0 [some (.ref 83), some (.int (nI d)), some (.int (nI name)), none, none] [] (mm_Z m w i l e) = some (.inl (some (.int (if tE τ d name < ts τ d then nI (tE τ d name) else -1))), mm_Z m w i l e) := by
  rw [mr_269_0]
  have := tr_entry_loop (m := m) (w := w) (l := l) (e := e) h hw hN hd hk2 hn (ts τ d) 0 (by omega)
  rw [if_neg (by omega)] at this
  exact this
theorem tr_links_in (h : TR i τ) (hw : TW τ) (hd : d < 32) (hk2 : tk τ d = 2) (hx : x < 2 ^ 31) : ∀ (D k c : Nat), k + D = ts τ d → mm_V 270 13 [some (.ref 83), some (.int (nI x)), some (.int (nI c)), some (.int (nI d)), some (.int (nI k))] [] (mm_Z m w i l e) = mm_V 270 4 [some (.ref 83), some (.int (nI x)), some (.int (nI (c + tCnt (fun k => td τ d k == x) D k))), some (.int (nI (d + 1))), some (.int (nI (ts τ d)))] [] (mm_Z m w i l e)
  | 0, k, c, hk => by
    have hs := (hw d hd).2.1
    rw [mr_270_13, if_neg (by rw [na_out (by omega)]; omega)]
    simp only [nI_clamp (show d < 2 ^ 31 by omega), (h d hd).2.2.1, (h d hd).1, hk2, nk_2 (show 2 ≤ 2 by omega), nI_ltI (show k < 2 ^ 31 by omega) (show ts τ d < 2 ^ 31 by omega), nI_1]
    rw [if_pos trivial, if_neg (by rw [na_out (by omega)]; omega), if_neg (by omega), show k = ts τ d by omega]
    rfl
  | D + 1, k, c, hk => by
    obtain ⟨-, hs, h2⟩ := hw d hd
    obtain ⟨hs10, hent⟩ := h2 hk2
    obtain ⟨e1, e2, e3, e4⟩ := hent k (by omega)
    have ec := ((h d hd).2.2.2.2 hk2 k (by omega)).2
    rw [mr_270_13, if_neg (by rw [na_out (by omega)]; omega)]
    simp only [nI_clamp (show d < 2 ^ 31 by omega), (h d hd).2.2.1, (h d hd).1, hk2, nk_2 (show 2 ≤ 2 by omega), nI_ltI (show k < 2 ^ 31 by omega) (show ts τ d < 2 ^ 31 by omega), na_10, na_mul, nI_add, nI_clamp (show 10 * d + k < 2 ^ 31 by omega), ec, nI_eq (show td τ d k < 2 ^ 31 by omega) hx, na_1]
    rw [if_pos trivial, if_neg (by rw [na_out (by omega)]; omega), if_pos (by omega), if_neg (by rw [na_out (by omega)]; omega)]
    by_cases q : td τ d k = x
    · rw [if_pos q, tr_links_in h hw hd hk2 hx D (k + 1) (c + 1) (by omega)]
      have e : tCnt (fun k => td τ d k == x) (D + 1) k = 1 + tCnt (fun k => td τ d k == x) D (k + 1) := by rw [tCnt, if_pos (by simpa using q)]
      rw [e, Nat.add_assoc]
    · rw [if_neg q, tr_links_in h hw hd hk2 hx D (k + 1) c (by omega)]
      have e : tCnt (fun k => td τ d k == x) (D + 1) k = 0 + tCnt (fun k => td τ d k == x) D (k + 1) := by rw [tCnt, if_neg (by simpa using q)]
      rw [e, Nat.zero_add]
theorem tr_links_out (h : TR i τ) (hw : TW τ) (hx : x < 2 ^ 31) : ∀ (D d c : Nat) (u : Option Value), d + D = 32 → mm_V 270 4 [some (.ref 83), some (.int (nI x)), some (.int (nI c)), some (.int (nI d)), u] [] (mm_Z m w i l e) = some (.inl (some (.int (nI (c + tSum (tLd τ x) D d)))), mm_Z m w i l e)
  | 0, d, c, u, hd => by
    have e : d = 32 := by omega
    subst e
    rw [mr_270_4, if_neg (by decide)]
    rfl
  | D + 1, d, c, u, hd => by
    rw [mr_270_4, na_32, if_pos ((nI_ltI (by omega) (by omega)).mpr (by omega)), tSum]
    by_cases q : tk τ d = 2
    · rw [na_0, tr_links_in h hw (by omega) q hx (ts τ d) 0 c (by omega), tr_links_out h hw hx D (d + 1) _ _ (by omega)]
      unfold tLd
      rw [if_pos q, Nat.add_assoc]
    · have e0 : tLd τ x d = 0 := by unfold tLd; rw [if_neg q]
      rw [mr_270_13, if_neg (by rw [na_out (by omega)]; omega)]
      simp only [nI_clamp (show d < 2 ^ 31 by omega), (h d (by omega)).1, nk_2 (hw d (by omega)).1, if_neg q]
      rw [e0, Nat.zero_add, nI_1]
      exact tr_links_out h hw hx D (d + 1) c _ (by omega)
theorem tr_linksOf (h : TR i τ) (hw : TW τ) (hx : x < 2 ^ 31) : mm_V 270 0 [some (.ref 83), some (.int (nI x)), none, none, none] [] (mm_Z m w i l e) = some (.inl (some (.int (nI (tL τ x)))), mm_Z m w i l e) := by
  rw [mr_270_0, na_0, tr_links_out h hw hx 32 0 0 none rfl, Nat.zero_add]
  rfl
end MM62
