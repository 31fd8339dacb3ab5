/-! THE GUARD: identifiers, cache, records -/
section MM78
/-- identifiers; cache; the last records; how many records, questions, hits -/
abbrev mK : Type := List Int32 × List (Int32 × Int32 × Int32 × Int32) × List (Int32 × Int32 × Int32 × Int32 × Int32) × Nat × Int32 × Int32
def kI (κ : mK) : List Int32 := κ.1
def kC (κ : mK) : List (Int32 × Int32 × Int32 × Int32) := κ.2.1
def kR (κ : mK) : List (Int32 × Int32 × Int32 × Int32 × Int32) := κ.2.2.1
def kn (κ : mK) : Nat := κ.2.2.2.1
def kq (κ : mK) : Int32 := κ.2.2.2.2.1
def kh (κ : mK) : Int32 := κ.2.2.2.2.2
abbrev kz : Int32 × Int32 × Int32 × Int32 := (0, 0, 0, 0)
abbrev kz5 : Int32 × Int32 × Int32 × Int32 × Int32 := (0, 0, 0, 0, 0)
def GI (r c : Nat) (i : Nat → Nat → Int32) (o s : Nat) (L : List Int32) : Prop := i o s = nI L.length ∧ ∀ k, k < L.length → i r k = L.getD k 0
def GC (i : Nat → Nat → Int32) (κ : mK) : Prop := (i 30 3 = nI (kI κ).length ∧ ∀ k, k < (kI κ).length → i 50 k = (kI κ).getD k 0) ∧ (i 30 8 = nI (kC κ).length ∧ ∀ k, k < (kC κ).length → i 51 k = ((kC κ).getD k kz).1 ∧ i 52 k = ((kC κ).getD k kz).2.1 ∧ i 53 k = ((kC κ).getD k kz).2.2.1 ∧ i 54 k = ((kC κ).getD k kz).2.2.2) ∧ (i 30 10 = nI (kn κ) ∧ ∀ k, k < (kR κ).length → i 55 (5 * ((kn κ - (kR κ).length + k) % 20)) = ((kR κ).getD k kz5).1 ∧ i 55 (5 * ((kn κ - (kR κ).length + k) % 20) + 1) = ((kR κ).getD k kz5).2.1 ∧ i 55 (5 * ((kn κ - (kR κ).length + k) % 20) + 2) = ((kR κ).getD k kz5).2.2.1 ∧ i 55 (5 * ((kn κ - (kR κ).length + k) % 20) + 3) = ((kR κ).getD k kz5).2.2.2.1 ∧ i 55 (5 * ((kn κ - (kR κ).length + k) % 20) + 4) = ((kR κ).getD k kz5).2.2.2.2) ∧ i 30 11 = kq κ ∧ i 30 12 = kh κ
def GR (i : Nat → Nat → Int32) (κ : mK) : Prop := (i 83 79 = nI (kI κ).length ∧ ∀ k, k < (kI κ).length → i 136 k = (kI κ).getD k 0) ∧ (i 83 86 = nI (kC κ).length ∧ ∀ k, k < (kC κ).length → i 137 k = ((kC κ).getD k kz).1 ∧ i 138 k = ((kC κ).getD k kz).2.1 ∧ i 139 k = ((kC κ).getD k kz).2.2.1 ∧ i 140 k = ((kC κ).getD k kz).2.2.2) ∧ (i 83 91 = nI (kn κ) ∧ ∀ k, k < (kR κ).length → i 141 k = ((kR κ).getD k kz5).1 ∧ i 142 k = ((kR κ).getD k kz5).2.1 ∧ i 143 k = ((kR κ).getD k kz5).2.2.1 ∧ i 144 k = ((kR κ).getD k kz5).2.2.2.1 ∧ i 145 k = ((kR κ).getD k kz5).2.2.2.2) ∧ i 83 84 = kq κ ∧ i 83 85 = kh κ
def GW (κ : mK) : Prop := (kI κ).length ≤ 576 ∧ (kC κ).length ≤ 6 ∧ (kR κ).length = min (kn κ) 20 ∧ kn κ < 2 ^ 30 ∧ (kI κ).Nodup
/-- the places of the guard -/
def gpC (k j : Nat) : Prop := (50 ≤ k ∧ k ≤ 55) ∨ (k = 30 ∧ (j = 3 ∨ j = 8 ∨ j = 10 ∨ j = 11 ∨ j = 12))
def gpR (k j : Nat) : Prop := (136 ≤ k ∧ k ≤ 145) ∨ k = 111 ∨ (k = 83 ∧ (j = 79 ∨ (84 ≤ j ∧ j ≤ 86) ∨ j = 91))
/-- where a context is among the identifiers -/
def kIx (L : List Int32) (x : Int32) : Nat := tFst (fun k => decide (L.getD k 0 = x)) L.length 0
def kId (L : List Int32) (x : Int32) : List Int32 := if kIx L x < L.length then L else L ++ [x]
theorem kIx_le (L : List Int32) (x : Int32) : kIx L x ≤ L.length := by have := (tFst_le (fun k => decide (L.getD k 0 = x)) L.length 0).2; unfold kIx; omega
theorem kIx_at {L : List Int32} {x : Int32} (h : kIx L x < L.length) : L.getD (kIx L x) 0 = x := by
  have := tFst_at (fun k => decide (L.getD k 0 = x)) L.length 0 (by unfold kIx at h; omega)
  unfold kIx
  simpa using this
theorem kIx_no {L : List Int32} {x : Int32} {k : Nat} (h : kIx L x = L.length) (hk : k < L.length) : L.getD k 0 ≠ x := by
  have := tFst_no (fun k => decide (L.getD k 0 = x)) L.length 0 k (Nat.zero_le _) (by unfold kIx at h; omega)
  simpa using this
theorem gd_el {α : Type} {L : List α} {z : α} {k : Nat} (h : k < L.length) : L.getD k z = L[k] := by
  rw [List.getD_eq_getElem?_getD, List.getElem?_eq_getElem h]; rfl
theorem nd_inj {L : List Int32} (h : L.Nodup) {a b : Nat} (ha : a < L.length) (hb : b < L.length) (e : L.getD a 0 = L.getD b 0) : a = b := by
  rw [gd_el ha, gd_el hb] at e
  rcases Nat.lt_trichotomy a b with q | q | q
  · exact absurd e (List.pairwise_iff_getElem.mp h a b ha hb q)
  · exact q
  · exact absurd e.symm (List.pairwise_iff_getElem.mp h b a hb ha q)
theorem nd_id {L : List Int32} (h : L.Nodup) (x : Int32) : (kId L x).Nodup := by
  unfold kId
  split
  · exact h
  · rename_i q
    rw [List.nodup_append]
    refine ⟨h, by simp, ?_⟩
    intro a ha b hb e
    have hb : b = x := by simpa using hb
    subst hb
    subst e
    obtain ⟨k, hk, rfl⟩ := List.getElem_of_mem ha
    have := kIx_no (Nat.le_antisymm (kIx_le L L[k]) (by omega)) hk
    rw [gd_el hk] at this
    exact this rfl
theorem gd_app {α : Type} {L : List α} {x z : α} {k : Nat} (h : k < L.length) : (L ++ [x]).getD k z = L.getD k z := by
  rw [List.getD_eq_getElem?_getD, List.getElem?_append_left h, ← List.getD_eq_getElem?_getD]
theorem gd_end {α : Type} {L : List α} {x z : α} : (L ++ [x]).getD L.length z = x := by
  rw [List.getD_eq_getElem?_getD, List.getElem?_append_right (Nat.le_refl _)]
  simp
theorem gd_tail {α : Type} {L : List α} {z : α} {k : Nat} : L.tail.getD k z = L.getD (k + 1) z := by
  rw [List.getD_eq_getElem?_getD, List.getElem?_tail, ← List.getD_eq_getElem?_getD]
variable {p w : Bool} {l : Nat → Nat → Int64} {e : Bool × Nat × Nat} {π : mP} {m : Nat} {κ : mK}
theorem gc_ix_loop {i : Nat → Nat → Int32} {L : List Int32} {x : Int32} (h : i 30 3 = nI L.length) (h2 : ∀ k, k < L.length → i 50 k = L.getD k 0) (hl : L.length ≤ 576) : ∀ (D k : Nat), k + D = L.length → mm_V 39 2 [some (.ref 30), some (.int x), some (.int (nI k))] [] (mm_Z m w i l e) = some (.inl (some (.int (if tFst (fun k => decide (L.getD k 0 = x)) D k < L.length then nI (tFst (fun k => decide (L.getD k 0 = x)) D k + 1) else -1))), mm_Z m w i l e)
  | 0, k, hk => by
    have e0 : tFst (fun k => decide (L.getD k 0 = x)) 0 k = k := rfl
    rw [mr_39_2]
    simp only [h, nI_ltI (show k < 2 ^ 31 by omega) (show L.length < 2 ^ 31 by omega)]
    rw [if_neg (by omega), e0, if_neg (by omega)]
  | D + 1, k, hk => by
    rw [mr_39_2]
    simp only [h, nI_ltI (show k < 2 ^ 31 by omega) (show L.length < 2 ^ 31 by omega), nI_clamp (show k < 2 ^ 31 by omega), h2 k (by omega), nI_1]
    rw [if_pos (by omega), if_neg (no_out (by omega) (by omega))]
    by_cases q : L.getD k 0 = x
    · have e0 : tFst (fun k => decide (L.getD k 0 = x)) (D + 1) k = k := by rw [tFst, if_pos (by simpa using q)]
      rw [if_pos q, e0, if_pos (by omega)]
    · rw [if_neg q, gc_ix_loop h h2 hl D (k + 1) (by omega), tFst_step _ _ _ (by simpa using q)]
theorem gc_identifierOf {i : Nat → Nat → Int32} (h : GC i κ) (hw : GW κ) (x : Int32) : mm_V 39 0 [some (.ref 30), some (.int x), none] [] (mm_Z m w i l e) = some (.inl (some (.int (if kIx (kI κ) x < (kI κ).length then nI (kIx (kI κ) x + 1) else -1))), mm_Z m w i l e) := by
  rw [mr_39_0, na_0, gc_ix_loop h.1.1 h.1.2 hw.1 (kI κ).length 0 (by omega)]
  rfl
def kSetI (κ : mK) (L : List Int32) : mK := (L, κ.2)
theorem gc_identify {i : Nat → Nat → Int32} (h : GC i κ) (hw : GW κ) (x : Int32) (hr : kIx (kI κ) x = (kI κ).length → (kI κ).length < 576) : ∃ i', mm_V 38 0 [some (.ref 30), some (.int x)] [] (mm_Z m w i l e) = some (.inl none, mm_Z m w i' l e) ∧ GC i' (kSetI κ (kId (kI κ) x)) ∧ mG (fun k j => k = 50 ∨ (k = 30 ∧ j = 3)) i i' := by
  have hle := kIx_le (kI κ) x
  have hl := hw.1
  rw [mr_38_0, gc_identifierOf h hw x, mb_l, mb_v, mr_38_5]
  by_cases q : kIx (kI κ) x < (kI κ).length
  · refine ⟨i, ?_, ?_, mG.rf⟩
    · rw [if_pos q, if_neg (na_m1 (by omega))]
    · unfold kId; rw [if_pos q]; exact h
  · have hr := hr (by omega)
    rw [if_neg q, if_pos rfl]
    simp only [h.1.1]
    rw [show Int32.ofNat 576 = nI 576 from rfl, if_pos ((nI_ltI (by omega) (by omega)).mpr hr), if_neg (no_out hr (by omega)), nI_clamp (by omega), nI_1]
    refine ⟨_, rfl, ?_, (mG.ww (Or.inl rfl)).tr (mG.ww (Or.inr ⟨rfl, rfl⟩))⟩
    unfold kId
    rw [if_neg q]
    obtain ⟨⟨h1, h2⟩, ⟨h3, h4⟩, ⟨h5, h6⟩, h7, h8⟩ := h
    refine ⟨⟨?_, ?_⟩, ⟨?_, ?_⟩, ⟨?_, ?_⟩, ?_, ?_⟩
    · rw [mw_s]; show _ = nI ((kI κ) ++ [x]).length; rw [List.length_append]; rfl
    · intro k hk
      have hk : k < (kI κ ++ [x]).length := hk
      rw [List.length_append, List.length_singleton] at hk
      show _ = (kI κ ++ [x]).getD k 0
      rw [mw_k (by omega)]
      by_cases z : k = (kI κ).length
      · subst z; rw [mw_s, gd_end]
      · rw [mw_j z, gd_app (by omega)]; exact h2 k (by omega)
    · rw [mw_j (by omega), mw_k (by omega)]; exact h3
    · intro k hk
      rw [mw_k (by omega), mw_k (by omega), mw_k (by omega), mw_k (by omega), mw_k (by omega), mw_k (by omega), mw_k (by omega), mw_k (by omega)]
      exact h4 k hk
    · rw [mw_j (by omega), mw_k (by omega)]; exact h5
    · intro k hk
      rw [mw_k (show 55 ≠ 30 by omega), mw_k (show 55 ≠ 50 by omega)]
      exact h6 k hk
    · rw [mw_j (by omega), mw_k (by omega)]; exact h7
    · rw [mw_j (by omega), mw_k (by omega)]; exact h8
theorem gr_id_loop {i : Nat → Nat → Int32} {L : List Int32} {x : Int32} (h : i 83 79 = nI L.length) (h2 : ∀ k, k < L.length → i 136 k = L.getD k 0) (hl : L.length ≤ 576) : ∀ (D k : Nat), k + D = L.length → mm_V 261 4 [some (.ref 83), some (.int x), some (.int (bI (decide (kIx L x < k)))), some (.int (nI k))] [] (mm_Z m w i l e) = if kIx L x < L.length then some (.inl none, mm_Z m w i l e) else some (.inl none, mm_Z m w (mm_ww (mm_ww i 136 L.length x) 83 79 (nI (L.length + 1))) l e)
  | 0, k, hk => by
    have e0 : k = L.length := by omega
    subst e0
    rw [mr_261_4]
    simp only [h, nI_ltI (show L.length < 2 ^ 31 by omega) (show L.length < 2 ^ 31 by omega), bI_0, nI_1, nI_clamp (show L.length < 2 ^ 31 by omega)]
    rw [if_neg (by omega)]
    by_cases q : kIx L x < L.length
    · rw [if_neg (by simp [q]), if_pos q]
    · rw [if_pos (by simp [q]), if_neg q, if_neg (no_out (by omega) (by omega))]
  | D + 1, k, hk => by
    rw [mr_261_4]
    simp only [h, nI_ltI (show k < 2 ^ 31 by omega) (show L.length < 2 ^ 31 by omega), nI_clamp (show k < 2 ^ 31 by omega), h2 k (by omega), nI_1, bI_0]
    rw [if_pos (by omega)]
    have ih := gr_id_loop h h2 hl (x := x) D (k + 1) (by omega)
    by_cases q0 : kIx L x < k
    · rw [if_neg (by simp [q0])]
      rw [decide_eq_true (show kIx L x < k + 1 by omega)] at ih
      exact ih
    · rw [if_pos (by simp [q0]), if_neg (no_out (by omega) (by omega))]
      by_cases q : L.getD k 0 = x
      · have e0 : kIx L x = k := by
          rcases Nat.lt_or_ge k (kIx L x) with z | z
          · have := tFst_no (fun k => decide (L.getD k 0 = x)) L.length 0 k (Nat.zero_le _) (by unfold kIx at z; exact z)
            exact absurd q (of_decide_eq_false this)
          · omega
        rw [if_pos q]
        rw [decide_eq_true (show kIx L x < k + 1 by omega)] at ih
        exact ih
      · have e0 : kIx L x ≠ k := by
          intro z
          exact q (by rw [← z]; exact kIx_at (by omega))
        rw [if_neg q]
        rw [decide_eq_false (show ¬ kIx L x < k + 1 by omega)] at ih
        exact ih
theorem gr_identify {i : Nat → Nat → Int32} (h : GR i κ) (hw : GW κ) (x : Int32) : ∃ i', mm_V 261 0 [some (.ref 83), some (.int x), none, none] [] (mm_Z m w i l e) = some (.inl none, mm_Z m w i' l e) ∧ GR i' (kSetI κ (kId (kI κ) x)) ∧ mG (fun k j => k = 136 ∨ (k = 83 ∧ j = 79)) i i' := by
  have hl := hw.1
  have e0 := gr_id_loop (m := m) (w := w) (l := l) (e := e) (x := x) h.1.1 h.1.2 hl (kI κ).length 0 (by omega)
  rw [decide_eq_false (by omega)] at e0
  have e0 : mm_V 261 0 [some (.ref 83), some (.int x), none, none] [] (mm_Z m w i l e) = _ := (mr_261_0 m w i l e x).trans e0
  rw [e0]
  unfold kId
  by_cases q : kIx (kI κ) x < (kI κ).length
  · rw [if_pos q, if_pos q]
    exact ⟨i, rfl, h, mG.rf⟩
  · rw [if_neg q, if_neg q]
    refine ⟨_, rfl, ?_, (mG.ww (Or.inl rfl)).tr (mG.ww (Or.inr ⟨rfl, rfl⟩))⟩
    obtain ⟨⟨h1, h2⟩, ⟨h3, h4⟩, ⟨h5, h6⟩, h7, h8⟩ := h
    refine ⟨⟨?_, ?_⟩, ⟨?_, ?_⟩, ⟨?_, ?_⟩, ?_, ?_⟩
    · rw [mw_s]; show _ = nI ((kI κ) ++ [x]).length; rw [List.length_append]; rfl
    · intro k hk
      have hk : k < (kI κ ++ [x]).length := hk
      rw [List.length_append, List.length_singleton] at hk
      show _ = (kI κ ++ [x]).getD k 0
      rw [mw_k (by omega)]
      by_cases z : k = (kI κ).length
      · subst z; rw [mw_s, gd_end]
      · rw [mw_j z, gd_app (by omega)]; exact h2 k (by omega)
    · rw [mw_j (by omega), mw_k (by omega)]; exact h3
    · intro k hk
      rw [mw_k (by omega), mw_k (by omega), mw_k (by omega), mw_k (by omega), mw_k (by omega), mw_k (by omega), mw_k (by omega), mw_k (by omega)]
      exact h4 k hk
    · rw [mw_j (by omega), mw_k (by omega)]; exact h5
    · intro k hk
      rw [mw_k (by omega), mw_k (by omega), mw_k (by omega), mw_k (by omega), mw_k (by omega), mw_k (by omega), mw_k (by omega), mw_k (by omega), mw_k (by omega), mw_k (by omega)]
      exact h6 k hk
    · rw [mw_j (by omega), mw_k (by omega)]; exact h7
    · rw [mw_j (by omega), mw_k (by omega)]; exact h8
end MM78
